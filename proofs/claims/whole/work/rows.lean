section
-- ===== PART A: goes FIRST, ahead of the names: the tables' words, and 'selects' of the private methods out of them =====
/-- a private method of a class that the tables say can be made, by its rows of tables_1 -/
def lw_okq (q : MethodName × Nat) : Prop := (q.1.cls ≠ "java/lang/invoke/MethodHandle" ∧ q.1.cls ≠ "java/lang/invoke/VarHandle") ∧ Cond.instantiable q.1.cls q.2 ∈ tables_1 ∧ Cond.privateMethod q.1 ∈ tables_1 ∧ Cond.instanceMethod q.1 ∈ tables_1
theorem lw_p0 : lw_okq (⟨"PutOffWicks$Law", "add", "(II)I"⟩, 9) := ⟨⟨by decide +kernel, by decide +kernel⟩, List.mem_of_getElem? (i := 144) (by decide +kernel), List.mem_of_getElem? (i := 407) (by decide +kernel), List.mem_of_getElem? (i := 408) (by decide +kernel)⟩
theorem lw_p1 : lw_okq (⟨"PutOffWicks$Law", "readValue", "(I)V"⟩, 9) := ⟨⟨by decide +kernel, by decide +kernel⟩, List.mem_of_getElem? (i := 144) (by decide +kernel), List.mem_of_getElem? (i := 411) (by decide +kernel), List.mem_of_getElem? (i := 412) (by decide +kernel)⟩
theorem lw_p2 : lw_okq (⟨"PutOffWicks$Law", "readFactor", "(I)V"⟩, 9) := ⟨⟨by decide +kernel, by decide +kernel⟩, List.mem_of_getElem? (i := 144) (by decide +kernel), List.mem_of_getElem? (i := 415) (by decide +kernel), List.mem_of_getElem? (i := 416) (by decide +kernel)⟩
theorem lw_p3 : lw_okq (⟨"PutOffWicks$Law", "opens", "(I)Z"⟩, 9) := ⟨⟨by decide +kernel, by decide +kernel⟩, List.mem_of_getElem? (i := 144) (by decide +kernel), List.mem_of_getElem? (i := 419) (by decide +kernel), List.mem_of_getElem? (i := 420) (by decide +kernel)⟩
theorem lw_p4 : lw_okq (⟨"PutOffWicks$Law", "readCondition", "(I)V"⟩, 9) := ⟨⟨by decide +kernel, by decide +kernel⟩, List.mem_of_getElem? (i := 144) (by decide +kernel), List.mem_of_getElem? (i := 443) (by decide +kernel), List.mem_of_getElem? (i := 444) (by decide +kernel)⟩
theorem lw_p5 : lw_okq (⟨"PutOffWicks$Law", "readTest", "(I)V"⟩, 9) := ⟨⟨by decide +kernel, by decide +kernel⟩, List.mem_of_getElem? (i := 144) (by decide +kernel), List.mem_of_getElem? (i := 447) (by decide +kernel), List.mem_of_getElem? (i := 448) (by decide +kernel)⟩
theorem lw_p6 : lw_okq (⟨"PutOffWicks$Law", "land", "(I)V"⟩, 9) := ⟨⟨by decide +kernel, by decide +kernel⟩, List.mem_of_getElem? (i := 144) (by decide +kernel), List.mem_of_getElem? (i := 451) (by decide +kernel), List.mem_of_getElem? (i := 452) (by decide +kernel)⟩
theorem lw_p7 : lw_okq (⟨"PutOffWicks$ParishReader", "readLine", "(I)V"⟩, 2) := ⟨⟨by decide +kernel, by decide +kernel⟩, List.mem_of_getElem? (i := 128) (by decide +kernel), List.mem_of_getElem? (i := 476) (by decide +kernel), List.mem_of_getElem? (i := 477) (by decide +kernel)⟩
theorem lw_p8 : lw_okq (⟨"PutOffWicks$ParishReader", "readOther", "(I)I"⟩, 2) := ⟨⟨by decide +kernel, by decide +kernel⟩, List.mem_of_getElem? (i := 128) (by decide +kernel), List.mem_of_getElem? (i := 484) (by decide +kernel), List.mem_of_getElem? (i := 485) (by decide +kernel)⟩
theorem lw_p9 : lw_okq (⟨"PutOffWicks$Almanac", "passOver", "(LPutOffWicks$Parish;I)V"⟩, 1) := ⟨⟨by decide +kernel, by decide +kernel⟩, List.mem_of_getElem? (i := 186) (by decide +kernel), List.mem_of_getElem? (i := 514) (by decide +kernel), List.mem_of_getElem? (i := 515) (by decide +kernel)⟩
theorem lw_p10 : lw_okq (⟨"PutOffWicks$Reckoner", "reckon", "(II)I"⟩, 7) := ⟨⟨by decide +kernel, by decide +kernel⟩, List.mem_of_getElem? (i := 188) (by decide +kernel), List.mem_of_getElem? (i := 531) (by decide +kernel), List.mem_of_getElem? (i := 532) (by decide +kernel)⟩
theorem lw_p11 : lw_okq (⟨"PutOffWicks$Reckoner", "push", "(I)V"⟩, 7) := ⟨⟨by decide +kernel, by decide +kernel⟩, List.mem_of_getElem? (i := 188) (by decide +kernel), List.mem_of_getElem? (i := 535) (by decide +kernel), List.mem_of_getElem? (i := 536) (by decide +kernel)⟩
theorem lw_p12 : lw_okq (⟨"PutOffWicks$Reckoner", "fact", "(I)I"⟩, 7) := ⟨⟨by decide +kernel, by decide +kernel⟩, List.mem_of_getElem? (i := 188) (by decide +kernel), List.mem_of_getElem? (i := 539) (by decide +kernel), List.mem_of_getElem? (i := 540) (by decide +kernel)⟩
theorem lw_p13 : lw_okq (⟨"PutOffWicks$Reckoner", "pop", "()I"⟩, 7) := ⟨⟨by decide +kernel, by decide +kernel⟩, List.mem_of_getElem? (i := 188) (by decide +kernel), List.mem_of_getElem? (i := 557) (by decide +kernel), List.mem_of_getElem? (i := 558) (by decide +kernel)⟩
theorem lw_p14 : lw_okq (⟨"PutOffWicks$Reckoner", "joined", "(III)I"⟩, 7) := ⟨⟨by decide +kernel, by decide +kernel⟩, List.mem_of_getElem? (i := 188) (by decide +kernel), List.mem_of_getElem? (i := 561) (by decide +kernel), List.mem_of_getElem? (i := 562) (by decide +kernel)⟩
theorem lw_p15 : lw_okq (⟨"PutOffWicks$Parish", "leftThatNeed", "(I)I"⟩, 10) := ⟨⟨by decide +kernel, by decide +kernel⟩, List.mem_of_getElem? (i := 68) (by decide +kernel), List.mem_of_getElem? (i := 646) (by decide +kernel), List.mem_of_getElem? (i := 647) (by decide +kernel)⟩
def lw_privs_1 : List (MethodName × Nat) := [(⟨"PutOffWicks$Law", "add", "(II)I"⟩, 9), (⟨"PutOffWicks$Law", "readValue", "(I)V"⟩, 9), (⟨"PutOffWicks$Law", "readFactor", "(I)V"⟩, 9), (⟨"PutOffWicks$Law", "opens", "(I)Z"⟩, 9), (⟨"PutOffWicks$Law", "readCondition", "(I)V"⟩, 9), (⟨"PutOffWicks$Law", "readTest", "(I)V"⟩, 9), (⟨"PutOffWicks$Law", "land", "(I)V"⟩, 9), (⟨"PutOffWicks$ParishReader", "readLine", "(I)V"⟩, 2), (⟨"PutOffWicks$ParishReader", "readOther", "(I)I"⟩, 2), (⟨"PutOffWicks$Almanac", "passOver", "(LPutOffWicks$Parish;I)V"⟩, 1), (⟨"PutOffWicks$Reckoner", "reckon", "(II)I"⟩, 7), (⟨"PutOffWicks$Reckoner", "push", "(I)V"⟩, 7), (⟨"PutOffWicks$Reckoner", "fact", "(I)I"⟩, 7), (⟨"PutOffWicks$Reckoner", "pop", "()I"⟩, 7), (⟨"PutOffWicks$Reckoner", "joined", "(III)I"⟩, 7), (⟨"PutOffWicks$Parish", "leftThatNeed", "(I)I"⟩, 10)]
theorem lw_r1 : ∀ q ∈ lw_privs_1, lw_okq q := List.forall_mem_cons.mpr ⟨lw_p0, List.forall_mem_cons.mpr ⟨lw_p1, List.forall_mem_cons.mpr ⟨lw_p2, List.forall_mem_cons.mpr ⟨lw_p3, List.forall_mem_cons.mpr ⟨lw_p4, List.forall_mem_cons.mpr ⟨lw_p5, List.forall_mem_cons.mpr ⟨lw_p6, List.forall_mem_cons.mpr ⟨lw_p7, List.forall_mem_cons.mpr ⟨lw_p8, List.forall_mem_cons.mpr ⟨lw_p9, List.forall_mem_cons.mpr ⟨lw_p10, List.forall_mem_cons.mpr ⟨lw_p11, List.forall_mem_cons.mpr ⟨lw_p12, List.forall_mem_cons.mpr ⟨lw_p13, List.forall_mem_cons.mpr ⟨lw_p14, List.forall_mem_cons.mpr ⟨lw_p15, fun _ h => absurd h List.not_mem_nil⟩⟩⟩⟩⟩⟩⟩⟩⟩⟩⟩⟩⟩⟩⟩⟩
theorem lw_p16 : lw_okq (⟨"PutOffWicks$Parish", "leftPutOffUnder", "(I)I"⟩, 10) := ⟨⟨by decide +kernel, by decide +kernel⟩, List.mem_of_getElem? (i := 68) (by decide +kernel), List.mem_of_getElem? (i := 675) (by decide +kernel), List.mem_of_getElem? (i := 676) (by decide +kernel)⟩
theorem lw_p17 : lw_okq (⟨"PutOffWicks$Twist", "ends", "()Z"⟩, 9) := ⟨⟨by decide +kernel, by decide +kernel⟩, List.mem_of_getElem? (i := 224) (by decide +kernel), List.mem_of_getElem? (i := 688) (by decide +kernel), List.mem_of_getElem? (i := 689) (by decide +kernel)⟩
theorem lw_p18 : lw_okq (⟨"PutOffWicks$Twist", "readTimes", "()I"⟩, 9) := ⟨⟨by decide +kernel, by decide +kernel⟩, List.mem_of_getElem? (i := 224) (by decide +kernel), List.mem_of_getElem? (i := 697) (by decide +kernel), List.mem_of_getElem? (i := 698) (by decide +kernel)⟩
theorem lw_p19 : lw_okq (⟨"PutOffWicks$Twist", "readTurn", "(IZI)V"⟩, 9) := ⟨⟨by decide +kernel, by decide +kernel⟩, List.mem_of_getElem? (i := 224) (by decide +kernel), List.mem_of_getElem? (i := 701) (by decide +kernel), List.mem_of_getElem? (i := 702) (by decide +kernel)⟩
theorem lw_p20 : lw_okq (⟨"PutOffWicks$Twist", "repeat", "(III)V"⟩, 9) := ⟨⟨by decide +kernel, by decide +kernel⟩, List.mem_of_getElem? (i := 224) (by decide +kernel), List.mem_of_getElem? (i := 706) (by decide +kernel), List.mem_of_getElem? (i := 707) (by decide +kernel)⟩
theorem lw_p21 : lw_okq (⟨"PutOffWicks$Twist", "openGroup", "(II)V"⟩, 9) := ⟨⟨by decide +kernel, by decide +kernel⟩, List.mem_of_getElem? (i := 224) (by decide +kernel), List.mem_of_getElem? (i := 710) (by decide +kernel), List.mem_of_getElem? (i := 711) (by decide +kernel)⟩
theorem lw_p22 : lw_okq (⟨"PutOffWicks$Twist", "closeGroup", "()V"⟩, 9) := ⟨⟨by decide +kernel, by decide +kernel⟩, List.mem_of_getElem? (i := 224) (by decide +kernel), List.mem_of_getElem? (i := 714) (by decide +kernel), List.mem_of_getElem? (i := 715) (by decide +kernel)⟩
theorem lw_p23 : lw_okq (⟨"PutOffWicks$Waits", "ringsOfTwo", "()I"⟩, 5) := ⟨⟨by decide +kernel, by decide +kernel⟩, List.mem_of_getElem? (i := 259) (by decide +kernel), List.mem_of_getElem? (i := 760) (by decide +kernel), List.mem_of_getElem? (i := 761) (by decide +kernel)⟩
theorem lw_p24 : lw_okq (⟨"PutOffWicks$Waits", "canEnd", "(II)Z"⟩, 5) := ⟨⟨by decide +kernel, by decide +kernel⟩, List.mem_of_getElem? (i := 259) (by decide +kernel), List.mem_of_getElem? (i := 764) (by decide +kernel), List.mem_of_getElem? (i := 765) (by decide +kernel)⟩
theorem lw_p25 : lw_okq (⟨"PutOffWicks$Waits", "findShortestRing", "(I)I"⟩, 5) := ⟨⟨by decide +kernel, by decide +kernel⟩, List.mem_of_getElem? (i := 259) (by decide +kernel), List.mem_of_getElem? (i := 768) (by decide +kernel), List.mem_of_getElem? (i := 769) (by decide +kernel)⟩
theorem lw_p26 : lw_okq (⟨"PutOffWicks$Waits", "findRingOf", "(III)I"⟩, 5) := ⟨⟨by decide +kernel, by decide +kernel⟩, List.mem_of_getElem? (i := 259) (by decide +kernel), List.mem_of_getElem? (i := 773) (by decide +kernel), List.mem_of_getElem? (i := 774) (by decide +kernel)⟩
theorem lw_p27 : lw_okq (⟨"PutOffWicks$Waits", "writeRing", "(III)V"⟩, 5) := ⟨⟨by decide +kernel, by decide +kernel⟩, List.mem_of_getElem? (i := 259) (by decide +kernel), List.mem_of_getElem? (i := 777) (by decide +kernel), List.mem_of_getElem? (i := 778) (by decide +kernel)⟩
theorem lw_p28 : lw_okq (⟨"PutOffWicks$Waits", "markFrom", "(II)V"⟩, 5) := ⟨⟨by decide +kernel, by decide +kernel⟩, List.mem_of_getElem? (i := 259) (by decide +kernel), List.mem_of_getElem? (i := 781) (by decide +kernel), List.mem_of_getElem? (i := 782) (by decide +kernel)⟩
theorem lw_p29 : lw_okq (⟨"PutOffWicks$Waits", "ringAt", "(II)I"⟩, 5) := ⟨⟨by decide +kernel, by decide +kernel⟩, List.mem_of_getElem? (i := 259) (by decide +kernel), List.mem_of_getElem? (i := 785) (by decide +kernel), List.mem_of_getElem? (i := 786) (by decide +kernel)⟩
theorem lw_p30 : lw_okq (⟨"PutOffWicks$Rows", "nextToSpin", "(II)I"⟩, 1) := ⟨⟨by decide +kernel, by decide +kernel⟩, List.mem_of_getElem? (i := 295) (by decide +kernel), List.mem_of_getElem? (i := 802) (by decide +kernel), List.mem_of_getElem? (i := 803) (by decide +kernel)⟩
theorem lw_p31 : lw_okq (⟨"PutOffWicks$Rows", "spinsAhead", "(II)Z"⟩, 1) := ⟨⟨by decide +kernel, by decide +kernel⟩, List.mem_of_getElem? (i := 295) (by decide +kernel), List.mem_of_getElem? (i := 806) (by decide +kernel), List.mem_of_getElem? (i := 807) (by decide +kernel)⟩
def lw_privs_2 : List (MethodName × Nat) := [(⟨"PutOffWicks$Parish", "leftPutOffUnder", "(I)I"⟩, 10), (⟨"PutOffWicks$Twist", "ends", "()Z"⟩, 9), (⟨"PutOffWicks$Twist", "readTimes", "()I"⟩, 9), (⟨"PutOffWicks$Twist", "readTurn", "(IZI)V"⟩, 9), (⟨"PutOffWicks$Twist", "repeat", "(III)V"⟩, 9), (⟨"PutOffWicks$Twist", "openGroup", "(II)V"⟩, 9), (⟨"PutOffWicks$Twist", "closeGroup", "()V"⟩, 9), (⟨"PutOffWicks$Waits", "ringsOfTwo", "()I"⟩, 5), (⟨"PutOffWicks$Waits", "canEnd", "(II)Z"⟩, 5), (⟨"PutOffWicks$Waits", "findShortestRing", "(I)I"⟩, 5), (⟨"PutOffWicks$Waits", "findRingOf", "(III)I"⟩, 5), (⟨"PutOffWicks$Waits", "writeRing", "(III)V"⟩, 5), (⟨"PutOffWicks$Waits", "markFrom", "(II)V"⟩, 5), (⟨"PutOffWicks$Waits", "ringAt", "(II)I"⟩, 5), (⟨"PutOffWicks$Rows", "nextToSpin", "(II)I"⟩, 1), (⟨"PutOffWicks$Rows", "spinsAhead", "(II)Z"⟩, 1)]
theorem lw_r2 : ∀ q ∈ lw_privs_2, lw_okq q := List.forall_mem_cons.mpr ⟨lw_p16, List.forall_mem_cons.mpr ⟨lw_p17, List.forall_mem_cons.mpr ⟨lw_p18, List.forall_mem_cons.mpr ⟨lw_p19, List.forall_mem_cons.mpr ⟨lw_p20, List.forall_mem_cons.mpr ⟨lw_p21, List.forall_mem_cons.mpr ⟨lw_p22, List.forall_mem_cons.mpr ⟨lw_p23, List.forall_mem_cons.mpr ⟨lw_p24, List.forall_mem_cons.mpr ⟨lw_p25, List.forall_mem_cons.mpr ⟨lw_p26, List.forall_mem_cons.mpr ⟨lw_p27, List.forall_mem_cons.mpr ⟨lw_p28, List.forall_mem_cons.mpr ⟨lw_p29, List.forall_mem_cons.mpr ⟨lw_p30, List.forall_mem_cons.mpr ⟨lw_p31, fun _ h => absurd h List.not_mem_nil⟩⟩⟩⟩⟩⟩⟩⟩⟩⟩⟩⟩⟩⟩⟩⟩
theorem lw_p32 : lw_okq (⟨"PutOffWicks$Rows", "farthestFrom", "(II)I"⟩, 1) := ⟨⟨by decide +kernel, by decide +kernel⟩, List.mem_of_getElem? (i := 295) (by decide +kernel), List.mem_of_getElem? (i := 820) (by decide +kernel), List.mem_of_getElem? (i := 821) (by decide +kernel)⟩
theorem lw_p33 : lw_okq (⟨"PutOffWicks$Rows", "sufficesFor", "(III)Z"⟩, 1) := ⟨⟨by decide +kernel, by decide +kernel⟩, List.mem_of_getElem? (i := 295) (by decide +kernel), List.mem_of_getElem? (i := 846) (by decide +kernel), List.mem_of_getElem? (i := 847) (by decide +kernel)⟩
theorem lw_p34 : lw_okq (⟨"PutOffWicks$Shore", "sees", "(III)Z"⟩, 2) := ⟨⟨by decide +kernel, by decide +kernel⟩, List.mem_of_getElem? (i := 281) (by decide +kernel), List.mem_of_getElem? (i := 858) (by decide +kernel), List.mem_of_getElem? (i := 859) (by decide +kernel)⟩
theorem lw_p35 : lw_okq (⟨"PutOffWicks$Shore", "isSeen", "(II)Z"⟩, 2) := ⟨⟨by decide +kernel, by decide +kernel⟩, List.mem_of_getElem? (i := 281) (by decide +kernel), List.mem_of_getElem? (i := 862) (by decide +kernel), List.mem_of_getElem? (i := 863) (by decide +kernel)⟩
theorem lw_p36 : lw_okq (⟨"PutOffWicks$Shore", "fillView", "(I)V"⟩, 2) := ⟨⟨by decide +kernel, by decide +kernel⟩, List.mem_of_getElem? (i := 281) (by decide +kernel), List.mem_of_getElem? (i := 881) (by decide +kernel), List.mem_of_getElem? (i := 882) (by decide +kernel)⟩
theorem lw_p37 : lw_okq (⟨"PutOffWicks$Rows", "beats", "(II)Z"⟩, 1) := ⟨⟨by decide +kernel, by decide +kernel⟩, List.mem_of_getElem? (i := 295) (by decide +kernel), List.mem_of_getElem? (i := 922) (by decide +kernel), List.mem_of_getElem? (i := 923) (by decide +kernel)⟩
theorem lw_p38 : lw_okq (⟨"PutOffWicksModel", "isLeft", "(I)Z"⟩, 55) := ⟨⟨by decide +kernel, by decide +kernel⟩, List.mem_of_getElem? (i := 952) (by decide +kernel), List.mem_of_getElem? (i := 1130) (by decide +kernel), List.mem_of_getElem? (i := 1131) (by decide +kernel)⟩
theorem lw_p39 : lw_okq (⟨"PutOffWicksModel", "isThing", "(I)Z"⟩, 55) := ⟨⟨by decide +kernel, by decide +kernel⟩, List.mem_of_getElem? (i := 952) (by decide +kernel), List.mem_of_getElem? (i := 1134) (by decide +kernel), List.mem_of_getElem? (i := 1135) (by decide +kernel)⟩
theorem lw_p40 : lw_okq (⟨"PutOffWicksModel", "types", "(I)V"⟩, 55) := ⟨⟨by decide +kernel, by decide +kernel⟩, List.mem_of_getElem? (i := 952) (by decide +kernel), List.mem_of_getElem? (i := 1145) (by decide +kernel), List.mem_of_getElem? (i := 1146) (by decide +kernel)⟩
theorem lw_p41 : lw_okq (⟨"PutOffWicksModel", "beginsText", "(I)V"⟩, 55) := ⟨⟨by decide +kernel, by decide +kernel⟩, List.mem_of_getElem? (i := 952) (by decide +kernel), List.mem_of_getElem? (i := 1153) (by decide +kernel), List.mem_of_getElem? (i := 1154) (by decide +kernel)⟩
theorem lw_p42 : lw_okq (⟨"PutOffWicksModel", "readsRule", "()Z"⟩, 55) := ⟨⟨by decide +kernel, by decide +kernel⟩, List.mem_of_getElem? (i := 952) (by decide +kernel), List.mem_of_getElem? (i := 1157) (by decide +kernel), List.mem_of_getElem? (i := 1158) (by decide +kernel)⟩
theorem lw_p43 : lw_okq (⟨"PutOffWicksModel", "here", "()I"⟩, 55) := ⟨⟨by decide +kernel, by decide +kernel⟩, List.mem_of_getElem? (i := 952) (by decide +kernel), List.mem_of_getElem? (i := 1161) (by decide +kernel), List.mem_of_getElem? (i := 1162) (by decide +kernel)⟩
theorem lw_p44 : lw_okq (⟨"PutOffWicksModel", "wrongAt", "(II)Z"⟩, 55) := ⟨⟨by decide +kernel, by decide +kernel⟩, List.mem_of_getElem? (i := 952) (by decide +kernel), List.mem_of_getElem? (i := 1165) (by decide +kernel), List.mem_of_getElem? (i := 1166) (by decide +kernel)⟩
theorem lw_p45 : lw_okq (⟨"PutOffWicksModel", "readsSum", "()Z"⟩, 55) := ⟨⟨by decide +kernel, by decide +kernel⟩, List.mem_of_getElem? (i := 952) (by decide +kernel), List.mem_of_getElem? (i := 1169) (by decide +kernel), List.mem_of_getElem? (i := 1170) (by decide +kernel)⟩
theorem lw_p46 : lw_okq (⟨"PutOffWicksModel", "readsFactor", "()Z"⟩, 55) := ⟨⟨by decide +kernel, by decide +kernel⟩, List.mem_of_getElem? (i := 952) (by decide +kernel), List.mem_of_getElem? (i := 1173) (by decide +kernel), List.mem_of_getElem? (i := 1174) (by decide +kernel)⟩
theorem lw_p47 : lw_okq (⟨"PutOffWicksModel", "opens", "(I)Z"⟩, 55) := ⟨⟨by decide +kernel, by decide +kernel⟩, List.mem_of_getElem? (i := 952) (by decide +kernel), List.mem_of_getElem? (i := 1177) (by decide +kernel), List.mem_of_getElem? (i := 1178) (by decide +kernel)⟩
def lw_privs_3 : List (MethodName × Nat) := [(⟨"PutOffWicks$Rows", "farthestFrom", "(II)I"⟩, 1), (⟨"PutOffWicks$Rows", "sufficesFor", "(III)Z"⟩, 1), (⟨"PutOffWicks$Shore", "sees", "(III)Z"⟩, 2), (⟨"PutOffWicks$Shore", "isSeen", "(II)Z"⟩, 2), (⟨"PutOffWicks$Shore", "fillView", "(I)V"⟩, 2), (⟨"PutOffWicks$Rows", "beats", "(II)Z"⟩, 1), (⟨"PutOffWicksModel", "isLeft", "(I)Z"⟩, 55), (⟨"PutOffWicksModel", "isThing", "(I)Z"⟩, 55), (⟨"PutOffWicksModel", "types", "(I)V"⟩, 55), (⟨"PutOffWicksModel", "beginsText", "(I)V"⟩, 55), (⟨"PutOffWicksModel", "readsRule", "()Z"⟩, 55), (⟨"PutOffWicksModel", "here", "()I"⟩, 55), (⟨"PutOffWicksModel", "wrongAt", "(II)Z"⟩, 55), (⟨"PutOffWicksModel", "readsSum", "()Z"⟩, 55), (⟨"PutOffWicksModel", "readsFactor", "()Z"⟩, 55), (⟨"PutOffWicksModel", "opens", "(I)Z"⟩, 55)]
theorem lw_r3 : ∀ q ∈ lw_privs_3, lw_okq q := List.forall_mem_cons.mpr ⟨lw_p32, List.forall_mem_cons.mpr ⟨lw_p33, List.forall_mem_cons.mpr ⟨lw_p34, List.forall_mem_cons.mpr ⟨lw_p35, List.forall_mem_cons.mpr ⟨lw_p36, List.forall_mem_cons.mpr ⟨lw_p37, List.forall_mem_cons.mpr ⟨lw_p38, List.forall_mem_cons.mpr ⟨lw_p39, List.forall_mem_cons.mpr ⟨lw_p40, List.forall_mem_cons.mpr ⟨lw_p41, List.forall_mem_cons.mpr ⟨lw_p42, List.forall_mem_cons.mpr ⟨lw_p43, List.forall_mem_cons.mpr ⟨lw_p44, List.forall_mem_cons.mpr ⟨lw_p45, List.forall_mem_cons.mpr ⟨lw_p46, List.forall_mem_cons.mpr ⟨lw_p47, fun _ h => absurd h List.not_mem_nil⟩⟩⟩⟩⟩⟩⟩⟩⟩⟩⟩⟩⟩⟩⟩⟩
theorem lw_p48 : lw_okq (⟨"PutOffWicksModel", "isDigit", "()Z"⟩, 55) := ⟨⟨by decide +kernel, by decide +kernel⟩, List.mem_of_getElem? (i := 952) (by decide +kernel), List.mem_of_getElem? (i := 1182) (by decide +kernel), List.mem_of_getElem? (i := 1183) (by decide +kernel)⟩
theorem lw_p49 : lw_okq (⟨"PutOffWicksModel", "readsNumber", "()Z"⟩, 55) := ⟨⟨by decide +kernel, by decide +kernel⟩, List.mem_of_getElem? (i := 952) (by decide +kernel), List.mem_of_getElem? (i := 1186) (by decide +kernel), List.mem_of_getElem? (i := 1187) (by decide +kernel)⟩
theorem lw_p50 : lw_okq (⟨"PutOffWicksModel", "notes", "(II)V"⟩, 55) := ⟨⟨by decide +kernel, by decide +kernel⟩, List.mem_of_getElem? (i := 952) (by decide +kernel), List.mem_of_getElem? (i := 1190) (by decide +kernel), List.mem_of_getElem? (i := 1191) (by decide +kernel)⟩
theorem lw_p51 : lw_okq (⟨"PutOffWicksModel", "closesSums", "(Z)V"⟩, 55) := ⟨⟨by decide +kernel, by decide +kernel⟩, List.mem_of_getElem? (i := 952) (by decide +kernel), List.mem_of_getElem? (i := 1200) (by decide +kernel), List.mem_of_getElem? (i := 1201) (by decide +kernel)⟩
theorem lw_p52 : lw_okq (⟨"PutOffWicksModel", "waitTop", "()I"⟩, 55) := ⟨⟨by decide +kernel, by decide +kernel⟩, List.mem_of_getElem? (i := 952) (by decide +kernel), List.mem_of_getElem? (i := 1204) (by decide +kernel), List.mem_of_getElem? (i := 1205) (by decide +kernel)⟩
theorem lw_p53 : lw_okq (⟨"PutOffWicksModel", "hasOpenSum", "(I)Z"⟩, 55) := ⟨⟨by decide +kernel, by decide +kernel⟩, List.mem_of_getElem? (i := 952) (by decide +kernel), List.mem_of_getElem? (i := 1208) (by decide +kernel), List.mem_of_getElem? (i := 1209) (by decide +kernel)⟩
theorem lw_p54 : lw_okq (⟨"PutOffWicksModel", "readsCondition", "()Z"⟩, 55) := ⟨⟨by decide +kernel, by decide +kernel⟩, List.mem_of_getElem? (i := 952) (by decide +kernel), List.mem_of_getElem? (i := 1212) (by decide +kernel), List.mem_of_getElem? (i := 1213) (by decide +kernel)⟩
theorem lw_p55 : lw_okq (⟨"PutOffWicksModel", "readsCompared", "()Z"⟩, 55) := ⟨⟨by decide +kernel, by decide +kernel⟩, List.mem_of_getElem? (i := 952) (by decide +kernel), List.mem_of_getElem? (i := 1216) (by decide +kernel), List.mem_of_getElem? (i := 1217) (by decide +kernel)⟩
theorem lw_p56 : lw_okq (⟨"PutOffWicksModel", "endsPiece", "()V"⟩, 55) := ⟨⟨by decide +kernel, by decide +kernel⟩, List.mem_of_getElem? (i := 952) (by decide +kernel), List.mem_of_getElem? (i := 1220) (by decide +kernel), List.mem_of_getElem? (i := 1221) (by decide +kernel)⟩
theorem lw_p57 : lw_okq (⟨"PutOffWicksModel", "lands", "(Z)V"⟩, 55) := ⟨⟨by decide +kernel, by decide +kernel⟩, List.mem_of_getElem? (i := 952) (by decide +kernel), List.mem_of_getElem? (i := 1224) (by decide +kernel), List.mem_of_getElem? (i := 1225) (by decide +kernel)⟩
theorem lw_p58 : lw_okq (⟨"PutOffWicksModel", "jumps", "(I)V"⟩, 55) := ⟨⟨by decide +kernel, by decide +kernel⟩, List.mem_of_getElem? (i := 952) (by decide +kernel), List.mem_of_getElem? (i := 1228) (by decide +kernel), List.mem_of_getElem? (i := 1229) (by decide +kernel)⟩
theorem lw_p59 : lw_okq (⟨"PutOffWicksModel", "takes", "(I)Z"⟩, 55) := ⟨⟨by decide +kernel, by decide +kernel⟩, List.mem_of_getElem? (i := 952) (by decide +kernel), List.mem_of_getElem? (i := 1232) (by decide +kernel), List.mem_of_getElem? (i := 1233) (by decide +kernel)⟩
theorem lw_p60 : lw_okq (⟨"PutOffWicksModel", "readsThing", "()Z"⟩, 55) := ⟨⟨by decide +kernel, by decide +kernel⟩, List.mem_of_getElem? (i := 952) (by decide +kernel), List.mem_of_getElem? (i := 1240) (by decide +kernel), List.mem_of_getElem? (i := 1241) (by decide +kernel)⟩
theorem lw_p61 : lw_okq (⟨"PutOffWicksModel", "readsAmount", "(I)Z"⟩, 55) := ⟨⟨by decide +kernel, by decide +kernel⟩, List.mem_of_getElem? (i := 952) (by decide +kernel), List.mem_of_getElem? (i := 1244) (by decide +kernel), List.mem_of_getElem? (i := 1245) (by decide +kernel)⟩
theorem lw_p62 : lw_okq (⟨"PutOffWicksModel", "daysGo", "(I)V"⟩, 55) := ⟨⟨by decide +kernel, by decide +kernel⟩, List.mem_of_getElem? (i := 952) (by decide +kernel), List.mem_of_getElem? (i := 1252) (by decide +kernel), List.mem_of_getElem? (i := 1253) (by decide +kernel)⟩
theorem lw_p63 : lw_okq (⟨"PutOffWicksModel", "dayGoes", "()V"⟩, 55) := ⟨⟨by decide +kernel, by decide +kernel⟩, List.mem_of_getElem? (i := 952) (by decide +kernel), List.mem_of_getElem? (i := 1256) (by decide +kernel), List.mem_of_getElem? (i := 1257) (by decide +kernel)⟩
def lw_privs_4 : List (MethodName × Nat) := [(⟨"PutOffWicksModel", "isDigit", "()Z"⟩, 55), (⟨"PutOffWicksModel", "readsNumber", "()Z"⟩, 55), (⟨"PutOffWicksModel", "notes", "(II)V"⟩, 55), (⟨"PutOffWicksModel", "closesSums", "(Z)V"⟩, 55), (⟨"PutOffWicksModel", "waitTop", "()I"⟩, 55), (⟨"PutOffWicksModel", "hasOpenSum", "(I)Z"⟩, 55), (⟨"PutOffWicksModel", "readsCondition", "()Z"⟩, 55), (⟨"PutOffWicksModel", "readsCompared", "()Z"⟩, 55), (⟨"PutOffWicksModel", "endsPiece", "()V"⟩, 55), (⟨"PutOffWicksModel", "lands", "(Z)V"⟩, 55), (⟨"PutOffWicksModel", "jumps", "(I)V"⟩, 55), (⟨"PutOffWicksModel", "takes", "(I)Z"⟩, 55), (⟨"PutOffWicksModel", "readsThing", "()Z"⟩, 55), (⟨"PutOffWicksModel", "readsAmount", "(I)Z"⟩, 55), (⟨"PutOffWicksModel", "daysGo", "(I)V"⟩, 55), (⟨"PutOffWicksModel", "dayGoes", "()V"⟩, 55)]
theorem lw_r4 : ∀ q ∈ lw_privs_4, lw_okq q := List.forall_mem_cons.mpr ⟨lw_p48, List.forall_mem_cons.mpr ⟨lw_p49, List.forall_mem_cons.mpr ⟨lw_p50, List.forall_mem_cons.mpr ⟨lw_p51, List.forall_mem_cons.mpr ⟨lw_p52, List.forall_mem_cons.mpr ⟨lw_p53, List.forall_mem_cons.mpr ⟨lw_p54, List.forall_mem_cons.mpr ⟨lw_p55, List.forall_mem_cons.mpr ⟨lw_p56, List.forall_mem_cons.mpr ⟨lw_p57, List.forall_mem_cons.mpr ⟨lw_p58, List.forall_mem_cons.mpr ⟨lw_p59, List.forall_mem_cons.mpr ⟨lw_p60, List.forall_mem_cons.mpr ⟨lw_p61, List.forall_mem_cons.mpr ⟨lw_p62, List.forall_mem_cons.mpr ⟨lw_p63, fun _ h => absurd h List.not_mem_nil⟩⟩⟩⟩⟩⟩⟩⟩⟩⟩⟩⟩⟩⟩⟩⟩
theorem lw_p64 : lw_okq (⟨"PutOffWicksModel", "goesOn", "(I)V"⟩, 55) := ⟨⟨by decide +kernel, by decide +kernel⟩, List.mem_of_getElem? (i := 952) (by decide +kernel), List.mem_of_getElem? (i := 1260) (by decide +kernel), List.mem_of_getElem? (i := 1261) (by decide +kernel)⟩
theorem lw_p65 : lw_okq (⟨"PutOffWicksModel", "feels", "(I)V"⟩, 55) := ⟨⟨by decide +kernel, by decide +kernel⟩, List.mem_of_getElem? (i := 952) (by decide +kernel), List.mem_of_getElem? (i := 1264) (by decide +kernel), List.mem_of_getElem? (i := 1265) (by decide +kernel)⟩
theorem lw_p66 : lw_okq (⟨"PutOffWicksModel", "leftOf", "(I)I"⟩, 55) := ⟨⟨by decide +kernel, by decide +kernel⟩, List.mem_of_getElem? (i := 952) (by decide +kernel), List.mem_of_getElem? (i := 1268) (by decide +kernel), List.mem_of_getElem? (i := 1269) (by decide +kernel)⟩
theorem lw_p67 : lw_okq (⟨"PutOffWicksModel", "waitersOf", "(I)I"⟩, 55) := ⟨⟨by decide +kernel, by decide +kernel⟩, List.mem_of_getElem? (i := 952) (by decide +kernel), List.mem_of_getElem? (i := 1272) (by decide +kernel), List.mem_of_getElem? (i := 1273) (by decide +kernel)⟩
theorem lw_p68 : lw_okq (⟨"PutOffWicksModel", "draws", "()I"⟩, 55) := ⟨⟨by decide +kernel, by decide +kernel⟩, List.mem_of_getElem? (i := 952) (by decide +kernel), List.mem_of_getElem? (i := 1276) (by decide +kernel), List.mem_of_getElem? (i := 1277) (by decide +kernel)⟩
theorem lw_p69 : lw_okq (⟨"PutOffWicksModel", "holdsAny", "(I)Z"⟩, 55) := ⟨⟨by decide +kernel, by decide +kernel⟩, List.mem_of_getElem? (i := 952) (by decide +kernel), List.mem_of_getElem? (i := 1280) (by decide +kernel), List.mem_of_getElem? (i := 1281) (by decide +kernel)⟩
theorem lw_p70 : lw_okq (⟨"PutOffWicksModel", "reckonsTo", "(II)I"⟩, 55) := ⟨⟨by decide +kernel, by decide +kernel⟩, List.mem_of_getElem? (i := 952) (by decide +kernel), List.mem_of_getElem? (i := 1284) (by decide +kernel), List.mem_of_getElem? (i := 1285) (by decide +kernel)⟩
theorem lw_p71 : lw_okq (⟨"PutOffWicksModel", "byLaw", "(III)I"⟩, 55) := ⟨⟨by decide +kernel, by decide +kernel⟩, List.mem_of_getElem? (i := 952) (by decide +kernel), List.mem_of_getElem? (i := 1291) (by decide +kernel), List.mem_of_getElem? (i := 1292) (by decide +kernel)⟩
theorem lw_p72 : lw_okq (⟨"PutOffWicksModel", "burns", "(II)V"⟩, 55) := ⟨⟨by decide +kernel, by decide +kernel⟩, List.mem_of_getElem? (i := 952) (by decide +kernel), List.mem_of_getElem? (i := 1295) (by decide +kernel), List.mem_of_getElem? (i := 1296) (by decide +kernel)⟩
theorem lw_p73 : lw_okq (⟨"PutOffWicksModel", "isDone", "(I)V"⟩, 55) := ⟨⟨by decide +kernel, by decide +kernel⟩, List.mem_of_getElem? (i := 952) (by decide +kernel), List.mem_of_getElem? (i := 1302) (by decide +kernel), List.mem_of_getElem? (i := 1303) (by decide +kernel)⟩
theorem lw_p74 : lw_okq (⟨"PutOffWicksModel", "isPutOff", "(I)V"⟩, 55) := ⟨⟨by decide +kernel, by decide +kernel⟩, List.mem_of_getElem? (i := 952) (by decide +kernel), List.mem_of_getElem? (i := 1306) (by decide +kernel), List.mem_of_getElem? (i := 1307) (by decide +kernel)⟩
theorem lw_p75 : lw_okq (⟨"PutOffWicksModel", "setOf", "(I)I"⟩, 55) := ⟨⟨by decide +kernel, by decide +kernel⟩, List.mem_of_getElem? (i := 952) (by decide +kernel), List.mem_of_getElem? (i := 1320) (by decide +kernel), List.mem_of_getElem? (i := 1321) (by decide +kernel)⟩
theorem lw_p76 : lw_okq (⟨"PutOffWicksModel", "daysOf", "(I)I"⟩, 55) := ⟨⟨by decide +kernel, by decide +kernel⟩, List.mem_of_getElem? (i := 952) (by decide +kernel), List.mem_of_getElem? (i := 1340) (by decide +kernel), List.mem_of_getElem? (i := 1341) (by decide +kernel)⟩
theorem lw_p77 : lw_okq (⟨"PutOffWicksModel", "placeOf", "(II)I"⟩, 55) := ⟨⟨by decide +kernel, by decide +kernel⟩, List.mem_of_getElem? (i := 952) (by decide +kernel), List.mem_of_getElem? (i := 1356) (by decide +kernel), List.mem_of_getElem? (i := 1357) (by decide +kernel)⟩
theorem lw_p78 : lw_okq (⟨"PutOffWicksModel", "waysTo", "(III)I"⟩, 55) := ⟨⟨by decide +kernel, by decide +kernel⟩, List.mem_of_getElem? (i := 952) (by decide +kernel), List.mem_of_getElem? (i := 1363) (by decide +kernel), List.mem_of_getElem? (i := 1364) (by decide +kernel)⟩
theorem lw_p79 : lw_okq (⟨"PutOffWicksModel", "lightOf", "(I)I"⟩, 55) := ⟨⟨by decide +kernel, by decide +kernel⟩, List.mem_of_getElem? (i := 952) (by decide +kernel), List.mem_of_getElem? (i := 1371) (by decide +kernel), List.mem_of_getElem? (i := 1372) (by decide +kernel)⟩
def lw_privs_5 : List (MethodName × Nat) := [(⟨"PutOffWicksModel", "goesOn", "(I)V"⟩, 55), (⟨"PutOffWicksModel", "feels", "(I)V"⟩, 55), (⟨"PutOffWicksModel", "leftOf", "(I)I"⟩, 55), (⟨"PutOffWicksModel", "waitersOf", "(I)I"⟩, 55), (⟨"PutOffWicksModel", "draws", "()I"⟩, 55), (⟨"PutOffWicksModel", "holdsAny", "(I)Z"⟩, 55), (⟨"PutOffWicksModel", "reckonsTo", "(II)I"⟩, 55), (⟨"PutOffWicksModel", "byLaw", "(III)I"⟩, 55), (⟨"PutOffWicksModel", "burns", "(II)V"⟩, 55), (⟨"PutOffWicksModel", "isDone", "(I)V"⟩, 55), (⟨"PutOffWicksModel", "isPutOff", "(I)V"⟩, 55), (⟨"PutOffWicksModel", "setOf", "(I)I"⟩, 55), (⟨"PutOffWicksModel", "daysOf", "(I)I"⟩, 55), (⟨"PutOffWicksModel", "placeOf", "(II)I"⟩, 55), (⟨"PutOffWicksModel", "waysTo", "(III)I"⟩, 55), (⟨"PutOffWicksModel", "lightOf", "(I)I"⟩, 55)]
theorem lw_r5 : ∀ q ∈ lw_privs_5, lw_okq q := List.forall_mem_cons.mpr ⟨lw_p64, List.forall_mem_cons.mpr ⟨lw_p65, List.forall_mem_cons.mpr ⟨lw_p66, List.forall_mem_cons.mpr ⟨lw_p67, List.forall_mem_cons.mpr ⟨lw_p68, List.forall_mem_cons.mpr ⟨lw_p69, List.forall_mem_cons.mpr ⟨lw_p70, List.forall_mem_cons.mpr ⟨lw_p71, List.forall_mem_cons.mpr ⟨lw_p72, List.forall_mem_cons.mpr ⟨lw_p73, List.forall_mem_cons.mpr ⟨lw_p74, List.forall_mem_cons.mpr ⟨lw_p75, List.forall_mem_cons.mpr ⟨lw_p76, List.forall_mem_cons.mpr ⟨lw_p77, List.forall_mem_cons.mpr ⟨lw_p78, List.forall_mem_cons.mpr ⟨lw_p79, fun _ h => absurd h List.not_mem_nil⟩⟩⟩⟩⟩⟩⟩⟩⟩⟩⟩⟩⟩⟩⟩⟩
theorem lw_p80 : lw_okq (⟨"PutOffWicksModel", "readsTurn", "(I)Z"⟩, 55) := ⟨⟨by decide +kernel, by decide +kernel⟩, List.mem_of_getElem? (i := 952) (by decide +kernel), List.mem_of_getElem? (i := 1387) (by decide +kernel), List.mem_of_getElem? (i := 1388) (by decide +kernel)⟩
theorem lw_p81 : lw_okq (⟨"PutOffWicksModel", "readsTimes", "()V"⟩, 55) := ⟨⟨by decide +kernel, by decide +kernel⟩, List.mem_of_getElem? (i := 952) (by decide +kernel), List.mem_of_getElem? (i := 1391) (by decide +kernel), List.mem_of_getElem? (i := 1392) (by decide +kernel)⟩
theorem lw_p82 : lw_okq (⟨"PutOffWicksModel", "repeats", "(III)Z"⟩, 55) := ⟨⟨by decide +kernel, by decide +kernel⟩, List.mem_of_getElem? (i := 952) (by decide +kernel), List.mem_of_getElem? (i := 1395) (by decide +kernel), List.mem_of_getElem? (i := 1396) (by decide +kernel)⟩
theorem lw_p83 : lw_okq (⟨"PutOffWicksModel", "turnsAll", "(I)V"⟩, 55) := ⟨⟨by decide +kernel, by decide +kernel⟩, List.mem_of_getElem? (i := 952) (by decide +kernel), List.mem_of_getElem? (i := 1399) (by decide +kernel), List.mem_of_getElem? (i := 1400) (by decide +kernel)⟩
theorem lw_p84 : lw_okq (⟨"PutOffWicksModel", "overs", "()I"⟩, 55) := ⟨⟨by decide +kernel, by decide +kernel⟩, List.mem_of_getElem? (i := 952) (by decide +kernel), List.mem_of_getElem? (i := 1403) (by decide +kernel), List.mem_of_getElem? (i := 1404) (by decide +kernel)⟩
theorem lw_p85 : lw_okq (⟨"PutOffWicksModel", "shortened", "()I"⟩, 55) := ⟨⟨by decide +kernel, by decide +kernel⟩, List.mem_of_getElem? (i := 952) (by decide +kernel), List.mem_of_getElem? (i := 1407) (by decide +kernel), List.mem_of_getElem? (i := 1408) (by decide +kernel)⟩
theorem lw_p86 : lw_okq (⟨"PutOffWicksModel", "oftenTill", "(I)I"⟩, 55) := ⟨⟨by decide +kernel, by decide +kernel⟩, List.mem_of_getElem? (i := 952) (by decide +kernel), List.mem_of_getElem? (i := 1414) (by decide +kernel), List.mem_of_getElem? (i := 1415) (by decide +kernel)⟩
theorem lw_p87 : lw_okq (⟨"PutOffWicksModel", "comesOut", "(I)I"⟩, 55) := ⟨⟨by decide +kernel, by decide +kernel⟩, List.mem_of_getElem? (i := 952) (by decide +kernel), List.mem_of_getElem? (i := 1418) (by decide +kernel), List.mem_of_getElem? (i := 1419) (by decide +kernel)⟩
theorem lw_p88 : lw_okq (⟨"PutOffWicksModel", "areHome", "(I)Z"⟩, 55) := ⟨⟨by decide +kernel, by decide +kernel⟩, List.mem_of_getElem? (i := 952) (by decide +kernel), List.mem_of_getElem? (i := 1422) (by decide +kernel), List.mem_of_getElem? (i := 1423) (by decide +kernel)⟩
theorem lw_p89 : lw_okq (⟨"PutOffWicksModel", "octet", "(I)I"⟩, 55) := ⟨⟨by decide +kernel, by decide +kernel⟩, List.mem_of_getElem? (i := 952) (by decide +kernel), List.mem_of_getElem? (i := 1430) (by decide +kernel), List.mem_of_getElem? (i := 1431) (by decide +kernel)⟩
theorem lw_p90 : lw_okq (⟨"PutOffWicksModel", "forEver", "()I"⟩, 55) := ⟨⟨by decide +kernel, by decide +kernel⟩, List.mem_of_getElem? (i := 952) (by decide +kernel), List.mem_of_getElem? (i := 1434) (by decide +kernel), List.mem_of_getElem? (i := 1435) (by decide +kernel)⟩
theorem lw_p91 : lw_okq (⟨"PutOffWicksModel", "mustEnd", "()I"⟩, 55) := ⟨⟨by decide +kernel, by decide +kernel⟩, List.mem_of_getElem? (i := 952) (by decide +kernel), List.mem_of_getElem? (i := 1439) (by decide +kernel), List.mem_of_getElem? (i := 1440) (by decide +kernel)⟩
theorem lw_p92 : lw_okq (⟨"PutOffWicksModel", "hoursOfRow", "(I)I"⟩, 55) := ⟨⟨by decide +kernel, by decide +kernel⟩, List.mem_of_getElem? (i := 952) (by decide +kernel), List.mem_of_getElem? (i := 1451) (by decide +kernel), List.mem_of_getElem? (i := 1452) (by decide +kernel)⟩
theorem lw_p93 : lw_okq (⟨"PutOffWicksModel", "nextRow", "(I)Z"⟩, 55) := ⟨⟨by decide +kernel, by decide +kernel⟩, List.mem_of_getElem? (i := 952) (by decide +kernel), List.mem_of_getElem? (i := 1455) (by decide +kernel), List.mem_of_getElem? (i := 1456) (by decide +kernel)⟩
theorem lw_p94 : lw_okq (⟨"PutOffWicksModel", "changesRow", "(II)V"⟩, 55) := ⟨⟨by decide +kernel, by decide +kernel⟩, List.mem_of_getElem? (i := 952) (by decide +kernel), List.mem_of_getElem? (i := 1459) (by decide +kernel), List.mem_of_getElem? (i := 1460) (by decide +kernel)⟩
theorem lw_p95 : lw_okq (⟨"PutOffWicksModel", "knowing", "(II)I"⟩, 55) := ⟨⟨by decide +kernel, by decide +kernel⟩, List.mem_of_getElem? (i := 952) (by decide +kernel), List.mem_of_getElem? (i := 1471) (by decide +kernel), List.mem_of_getElem? (i := 1472) (by decide +kernel)⟩
def lw_privs_6 : List (MethodName × Nat) := [(⟨"PutOffWicksModel", "readsTurn", "(I)Z"⟩, 55), (⟨"PutOffWicksModel", "readsTimes", "()V"⟩, 55), (⟨"PutOffWicksModel", "repeats", "(III)Z"⟩, 55), (⟨"PutOffWicksModel", "turnsAll", "(I)V"⟩, 55), (⟨"PutOffWicksModel", "overs", "()I"⟩, 55), (⟨"PutOffWicksModel", "shortened", "()I"⟩, 55), (⟨"PutOffWicksModel", "oftenTill", "(I)I"⟩, 55), (⟨"PutOffWicksModel", "comesOut", "(I)I"⟩, 55), (⟨"PutOffWicksModel", "areHome", "(I)Z"⟩, 55), (⟨"PutOffWicksModel", "octet", "(I)I"⟩, 55), (⟨"PutOffWicksModel", "forEver", "()I"⟩, 55), (⟨"PutOffWicksModel", "mustEnd", "()I"⟩, 55), (⟨"PutOffWicksModel", "hoursOfRow", "(I)I"⟩, 55), (⟨"PutOffWicksModel", "nextRow", "(I)Z"⟩, 55), (⟨"PutOffWicksModel", "changesRow", "(II)V"⟩, 55), (⟨"PutOffWicksModel", "knowing", "(II)I"⟩, 55)]
theorem lw_r6 : ∀ q ∈ lw_privs_6, lw_okq q := List.forall_mem_cons.mpr ⟨lw_p80, List.forall_mem_cons.mpr ⟨lw_p81, List.forall_mem_cons.mpr ⟨lw_p82, List.forall_mem_cons.mpr ⟨lw_p83, List.forall_mem_cons.mpr ⟨lw_p84, List.forall_mem_cons.mpr ⟨lw_p85, List.forall_mem_cons.mpr ⟨lw_p86, List.forall_mem_cons.mpr ⟨lw_p87, List.forall_mem_cons.mpr ⟨lw_p88, List.forall_mem_cons.mpr ⟨lw_p89, List.forall_mem_cons.mpr ⟨lw_p90, List.forall_mem_cons.mpr ⟨lw_p91, List.forall_mem_cons.mpr ⟨lw_p92, List.forall_mem_cons.mpr ⟨lw_p93, List.forall_mem_cons.mpr ⟨lw_p94, List.forall_mem_cons.mpr ⟨lw_p95, fun _ h => absurd h List.not_mem_nil⟩⟩⟩⟩⟩⟩⟩⟩⟩⟩⟩⟩⟩⟩⟩⟩
theorem lw_p96 : lw_okq (⟨"PutOffWicksModel", "unknowing", "(II)I"⟩, 55) := ⟨⟨by decide +kernel, by decide +kernel⟩, List.mem_of_getElem? (i := 952) (by decide +kernel), List.mem_of_getElem? (i := 1475) (by decide +kernel), List.mem_of_getElem? (i := 1476) (by decide +kernel)⟩
theorem lw_p97 : lw_okq (⟨"PutOffWicksModel", "leastLater", "(II)I"⟩, 55) := ⟨⟨by decide +kernel, by decide +kernel⟩, List.mem_of_getElem? (i := 952) (by decide +kernel), List.mem_of_getElem? (i := 1479) (by decide +kernel), List.mem_of_getElem? (i := 1480) (by decide +kernel)⟩
theorem lw_p98 : lw_okq (⟨"PutOffWicksModel", "seenAt", "(II)I"⟩, 55) := ⟨⟨by decide +kernel, by decide +kernel⟩, List.mem_of_getElem? (i := 952) (by decide +kernel), List.mem_of_getElem? (i := 1491) (by decide +kernel), List.mem_of_getElem? (i := 1492) (by decide +kernel)⟩
theorem lw_p99 : lw_okq (⟨"PutOffWicksModel", "isSeen", "(II)Z"⟩, 55) := ⟨⟨by decide +kernel, by decide +kernel⟩, List.mem_of_getElem? (i := 952) (by decide +kernel), List.mem_of_getElem? (i := 1495) (by decide +kernel), List.mem_of_getElem? (i := 1496) (by decide +kernel)⟩
theorem lw_p100 : lw_okq (⟨"PutOffWicksModel", "brightOf", "(I)I"⟩, 55) := ⟨⟨by decide +kernel, by decide +kernel⟩, List.mem_of_getElem? (i := 952) (by decide +kernel), List.mem_of_getElem? (i := 1503) (by decide +kernel), List.mem_of_getElem? (i := 1504) (by decide +kernel)⟩
theorem lw_p101 : lw_okq (⟨"PutOffWicksModel", "isBetter", "(II)Z"⟩, 55) := ⟨⟨by decide +kernel, by decide +kernel⟩, List.mem_of_getElem? (i := 952) (by decide +kernel), List.mem_of_getElem? (i := 1515) (by decide +kernel), List.mem_of_getElem? (i := 1516) (by decide +kernel)⟩
theorem lw_p102 : lw_okq (⟨"PutOffWicksModel", "whoHasLeft", "()I"⟩, 55) := ⟨⟨by decide +kernel, by decide +kernel⟩, List.mem_of_getElem? (i := 952) (by decide +kernel), List.mem_of_getElem? (i := 1539) (by decide +kernel), List.mem_of_getElem? (i := 1540) (by decide +kernel)⟩
def lw_privs_7 : List (MethodName × Nat) := [(⟨"PutOffWicksModel", "unknowing", "(II)I"⟩, 55), (⟨"PutOffWicksModel", "leastLater", "(II)I"⟩, 55), (⟨"PutOffWicksModel", "seenAt", "(II)I"⟩, 55), (⟨"PutOffWicksModel", "isSeen", "(II)Z"⟩, 55), (⟨"PutOffWicksModel", "brightOf", "(I)I"⟩, 55), (⟨"PutOffWicksModel", "isBetter", "(II)Z"⟩, 55), (⟨"PutOffWicksModel", "whoHasLeft", "()I"⟩, 55)]
theorem lw_r7 : ∀ q ∈ lw_privs_7, lw_okq q := List.forall_mem_cons.mpr ⟨lw_p96, List.forall_mem_cons.mpr ⟨lw_p97, List.forall_mem_cons.mpr ⟨lw_p98, List.forall_mem_cons.mpr ⟨lw_p99, List.forall_mem_cons.mpr ⟨lw_p100, List.forall_mem_cons.mpr ⟨lw_p101, List.forall_mem_cons.mpr ⟨lw_p102, fun _ h => absurd h List.not_mem_nil⟩⟩⟩⟩⟩⟩⟩
def lw_privs : List (MethodName × Nat) := lw_privs_1 ++ (lw_privs_2 ++ (lw_privs_3 ++ (lw_privs_4 ++ (lw_privs_5 ++ (lw_privs_6 ++ (lw_privs_7))))))
def lw_tbl : List Cond := k2_sels lw_privs ++ tables_1
theorem lw_privs_ok : ∀ q ∈ lw_privs, lw_okq q := by
  show ∀ q ∈ lw_privs_1 ++ (lw_privs_2 ++ (lw_privs_3 ++ (lw_privs_4 ++ (lw_privs_5 ++ (lw_privs_6 ++ (lw_privs_7)))))), lw_okq q
  exact List.forall_mem_append.mpr ⟨lw_r1, List.forall_mem_append.mpr ⟨lw_r2, List.forall_mem_append.mpr ⟨lw_r3, List.forall_mem_append.mpr ⟨lw_r4, List.forall_mem_append.mpr ⟨lw_r5, List.forall_mem_append.mpr ⟨lw_r6, lw_r7⟩⟩⟩⟩⟩⟩
-- ===== end of PART A; then your names; then what follows =====
end
section
theorem mem_pl {big : List Cond} (ws : List Cond) (ps : List Nat) (hp : ws = ps.filterMap (fun i => big[i]?)) : ∀ w ∈ ws, w ∈ big := by
  intro w hw
  rw [hp] at hw
  obtain ⟨i, -, hi⟩ := List.mem_filterMap.mp hw
  exact List.mem_of_getElem? hi
def lw_g : List Cond := lw_tbl.filter goodWord
theorem lg_of {w : Cond} (i : Nat) (h : lw_tbl[i]? = some w) (g : goodWord w = true) : w ∈ lw_g := List.mem_filter.mpr ⟨List.mem_of_getElem? h, g⟩
theorem lg_good : GoodIn lw_g lw_g := fun w hw => ⟨hw, good_of_word (List.mem_filter.mp hw).2⟩
theorem lg_all {ws : List Cond} (h : ∀ w ∈ ws, w ∈ lw_tbl) (g : ws.all goodWord = true) : ∀ w ∈ ws, w ∈ lw_g := fun w hw => List.mem_filter.mpr ⟨h w hw, List.all_eq_true.mp g w hw⟩
def T_0 : u_T := fun k => match k with
  | _ => ("PutOffWicks$Almanac", "reckoner", "LPutOffWicks$Reckoner;", true)
def ty_0 : Nat → FieldType := fun k => match k with
  | _ => .object "PutOffWicks$Reckoner"
theorem nm_0 : ∀ a, a < 1 → ∀ b, b < 1 → a ≠ b → (T_0 a).2.1 ≠ (T_0 b).2.1 := by decide +kernel
theorem tk_0 : ∀ k, k < 1 → parseFieldDescriptor (T_0 k).2.2.1 = some (ty_0 k) := by decide +kernel
theorem iw_0 : ∀ w ∈ u_ws "PutOffWicks$Almanac" T_0 1, w ∈ lw_g := lg_all (mem_pl _ [323] (by decide +kernel)) (by decide +kernel)
def T_1 : u_T := fun k => match k with
  | 0 => ("PutOffWicks$Law", "reading", "LPutOffWicks$Reading;", true)
  | 1 => ("PutOffWicks$Law", "steps", "[I", true)
  | 2 => ("PutOffWicks$Law", "details", "[I", true)
  | 3 => ("PutOffWicks$Law", "letter", "[I", true)
  | 4 => ("PutOffWicks$Law", "valueAt", "[I", true)
  | 5 => ("PutOffWicks$Law", "holdsAt", "[I", true)
  | 6 => ("PutOffWicks$Law", "endAt", "[I", true)
  | 7 => ("PutOffWicks$Law", "size", "I", false)
  | _ => ("PutOffWicks$Law", "rules", "I", false)
def ty_1 : Nat → FieldType := fun k => match k with
  | 0 => .object "PutOffWicks$Reading"
  | 1 => .array .int
  | 2 => .array .int
  | 3 => .array .int
  | 4 => .array .int
  | 5 => .array .int
  | 6 => .array .int
  | 7 => .int
  | _ => .int
theorem nm_1 : ∀ a, a < 9 → ∀ b, b < 9 → a ≠ b → (T_1 a).2.1 ≠ (T_1 b).2.1 := by decide +kernel
theorem tk_1 : ∀ k, k < 9 → parseFieldDescriptor (T_1 k).2.2.1 = some (ty_1 k) := by decide +kernel
theorem iw_1 : ∀ w ∈ u_ws "PutOffWicks$Law" T_1 9, w ∈ lw_g := lg_all (mem_pl _ [269, 271, 273, 275, 277, 279, 281, 283, 285] (by decide +kernel)) (by decide +kernel)
def T_2 : u_T := fun k => match k with
  | 0 => ("PutOffWicks$Parish", "owner", "[I", true)
  | 1 => ("PutOffWicks$Parish", "waitsFor", "[I", true)
  | 2 => ("PutOffWicks$Parish", "length", "[I", true)
  | 3 => ("PutOffWicks$Parish", "putOff", "[I", true)
  | 4 => ("PutOffWicks$Parish", "litBits", "I", false)
  | 5 => ("PutOffWicks$Parish", "doneBits", "I", false)
  | 6 => ("PutOffWicks$Parish", "things", "I", false)
  | 7 => ("PutOffWicks$Parish", "guttered", "I", false)
  | 8 => ("PutOffWicks$Parish", "day", "I", false)
  | _ => ("PutOffWicks$Parish", "x", "I", false)
def ty_2 : Nat → FieldType := fun k => match k with
  | 0 => .array .int
  | 1 => .array .int
  | 2 => .array .int
  | 3 => .array .int
  | 4 => .int
  | 5 => .int
  | 6 => .int
  | 7 => .int
  | 8 => .int
  | _ => .int
theorem nm_2 : ∀ a, a < 10 → ∀ b, b < 10 → a ≠ b → (T_2 a).2.1 ≠ (T_2 b).2.1 := by decide +kernel
theorem tk_2 : ∀ k, k < 10 → parseFieldDescriptor (T_2 k).2.2.1 = some (ty_2 k) := by decide +kernel
theorem iw_2 : ∀ w ∈ u_ws "PutOffWicks$Parish" T_2 10, w ∈ lw_g := lg_all (mem_pl _ [209, 211, 213, 215, 217, 219, 221, 223, 225, 227] (by decide +kernel)) (by decide +kernel)
def T_3 : u_T := fun k => match k with
  | 0 => ("PutOffWicks$ParishReader", "reading", "LPutOffWicks$Reading;", true)
  | _ => ("PutOffWicks$ParishReader", "draft", "LPutOffWicks$Parish;", true)
def ty_3 : Nat → FieldType := fun k => match k with
  | 0 => .object "PutOffWicks$Reading"
  | _ => .object "PutOffWicks$Parish"
theorem nm_3 : ∀ a, a < 2 → ∀ b, b < 2 → a ≠ b → (T_3 a).2.1 ≠ (T_3 b).2.1 := by decide +kernel
theorem tk_3 : ∀ k, k < 2 → parseFieldDescriptor (T_3 k).2.2.1 = some (ty_3 k) := by decide +kernel
theorem iw_3 : ∀ w ∈ u_ws "PutOffWicks$ParishReader" T_3 2, w ∈ lw_g := lg_all (mem_pl _ [241, 243] (by decide +kernel)) (by decide +kernel)
def T_4 : u_T := fun k => match k with
  | 0 => ("PutOffWicks$Reading", "text", "LPutOffWicks$Tape;", true)
  | 1 => ("PutOffWicks$Reading", "at", "I", false)
  | _ => ("PutOffWicks$Reading", "fault", "I", false)
def ty_4 : Nat → FieldType := fun k => match k with
  | 0 => .object "PutOffWicks$Tape"
  | 1 => .int
  | _ => .int
theorem nm_4 : ∀ a, a < 3 → ∀ b, b < 3 → a ≠ b → (T_4 a).2.1 ≠ (T_4 b).2.1 := by decide +kernel
theorem tk_4 : ∀ k, k < 3 → parseFieldDescriptor (T_4 k).2.2.1 = some (ty_4 k) := by decide +kernel
theorem iw_4 : ∀ w ∈ u_ws "PutOffWicks$Reading" T_4 3, w ∈ lw_g := lg_all (mem_pl _ [163, 165, 167] (by decide +kernel)) (by decide +kernel)
def T_5 : u_T := fun k => match k with
  | 0 => ("PutOffWicks$Reckoner", "law", "LPutOffWicks$Law;", true)
  | 1 => ("PutOffWicks$Reckoner", "stack", "[I", true)
  | 2 => ("PutOffWicks$Reckoner", "top", "I", false)
  | 3 => ("PutOffWicks$Reckoner", "refused", "Z", false)
  | 4 => ("PutOffWicks$Reckoner", "parish", "LPutOffWicks$Parish;", false)
  | 5 => ("PutOffWicks$Reckoner", "thing", "I", false)
  | _ => ("PutOffWicks$Reckoner", "drawn", "I", false)
def ty_5 : Nat → FieldType := fun k => match k with
  | 0 => .object "PutOffWicks$Law"
  | 1 => .array .int
  | 2 => .int
  | 3 => .boolean
  | 4 => .object "PutOffWicks$Parish"
  | 5 => .int
  | _ => .int
theorem nm_5 : ∀ a, a < 7 → ∀ b, b < 7 → a ≠ b → (T_5 a).2.1 ≠ (T_5 b).2.1 := by decide +kernel
theorem tk_5 : ∀ k, k < 7 → parseFieldDescriptor (T_5 k).2.2.1 = some (ty_5 k) := by decide +kernel
theorem iw_5 : ∀ w ∈ u_ws "PutOffWicks$Reckoner" T_5 7, w ∈ lw_g := lg_all (mem_pl _ [303, 305, 307, 309, 311, 313, 315] (by decide +kernel)) (by decide +kernel)
def T_6 : u_T := fun k => match k with
  | _ => ("PutOffWicks$Rows", "tape", "LPutOffWicks$Tape;", true)
def ty_6 : Nat → FieldType := fun k => match k with
  | _ => .object "PutOffWicks$Tape"
theorem nm_6 : ∀ a, a < 1 → ∀ b, b < 1 → a ≠ b → (T_6 a).2.1 ≠ (T_6 b).2.1 := by decide +kernel
theorem tk_6 : ∀ k, k < 1 → parseFieldDescriptor (T_6 k).2.2.1 = some (ty_6 k) := by decide +kernel
theorem iw_6 : ∀ w ∈ u_ws "PutOffWicks$Rows" T_6 1, w ∈ lw_g := lg_all (mem_pl _ [404] (by decide +kernel)) (by decide +kernel)
def T_7 : u_T := fun k => match k with
  | 0 => ("PutOffWicks$Shore", "tape", "LPutOffWicks$Tape;", true)
  | _ => ("PutOffWicks$Shore", "view", "[J", true)
def ty_7 : Nat → FieldType := fun k => match k with
  | 0 => .object "PutOffWicks$Tape"
  | _ => .array .long
theorem nm_7 : ∀ a, a < 2 → ∀ b, b < 2 → a ≠ b → (T_7 a).2.1 ≠ (T_7 b).2.1 := by decide +kernel
theorem tk_7 : ∀ k, k < 2 → parseFieldDescriptor (T_7 k).2.2.1 = some (ty_7 k) := by decide +kernel
theorem iw_7 : ∀ w ∈ u_ws "PutOffWicks$Shore" T_7 2, w ∈ lw_g := lg_all (mem_pl _ [391, 393] (by decide +kernel)) (by decide +kernel)
def T_8 : u_T := fun k => match k with
  | 0 => ("PutOffWicks$Tape", "bytes", "[I", true)
  | 1 => ("PutOffWicks$Tape", "taken", "I", false)
  | _ => ("PutOffWicks$Tape", "size", "I", false)
def ty_8 : Nat → FieldType := fun k => match k with
  | 0 => .array .int
  | 1 => .int
  | _ => .int
theorem nm_8 : ∀ a, a < 3 → ∀ b, b < 3 → a ≠ b → (T_8 a).2.1 ≠ (T_8 b).2.1 := by decide +kernel
theorem tk_8 : ∀ k, k < 3 → parseFieldDescriptor (T_8 k).2.2.1 = some (ty_8 k) := by decide +kernel
theorem iw_8 : ∀ w ∈ u_ws "PutOffWicks$Tape" T_8 3, w ∈ lw_g := lg_all (mem_pl _ [140, 142, 144] (by decide +kernel)) (by decide +kernel)
def T_9 : u_T := fun k => match k with
  | 0 => ("PutOffWicks$Twist", "reading", "LPutOffWicks$Reading;", true)
  | 1 => ("PutOffWicks$Twist", "turn", "[I", true)
  | 2 => ("PutOffWicks$Twist", "left", "[I", true)
  | 3 => ("PutOffWicks$Twist", "groupPlace", "[I", true)
  | 4 => ("PutOffWicks$Twist", "groupTimes", "[I", true)
  | 5 => ("PutOffWicks$Twist", "groupTurns", "[I", true)
  | 6 => ("PutOffWicks$Twist", "goal", "[I", true)
  | 7 => ("PutOffWicks$Twist", "groups", "I", false)
  | _ => ("PutOffWicks$Twist", "turns", "I", false)
def ty_9 : Nat → FieldType := fun k => match k with
  | 0 => .object "PutOffWicks$Reading"
  | 1 => .array .int
  | 2 => .array .int
  | 3 => .array .int
  | 4 => .array .int
  | 5 => .array .int
  | 6 => .array .int
  | 7 => .int
  | _ => .int
theorem nm_9 : ∀ a, a < 9 → ∀ b, b < 9 → a ≠ b → (T_9 a).2.1 ≠ (T_9 b).2.1 := by decide +kernel
theorem tk_9 : ∀ k, k < 9 → parseFieldDescriptor (T_9 k).2.2.1 = some (ty_9 k) := by decide +kernel
theorem iw_9 : ∀ w ∈ u_ws "PutOffWicks$Twist" T_9 9, w ∈ lw_g := lg_all (mem_pl _ [342, 344, 346, 348, 350, 352, 354, 356, 358] (by decide +kernel)) (by decide +kernel)
def T_10 : u_T := fun k => match k with
  | 0 => ("PutOffWicks$Waits", "tape", "LPutOffWicks$Tape;", true)
  | 1 => ("PutOffWicks$Waits", "waitsFor", "[I", true)
  | 2 => ("PutOffWicks$Waits", "stays", "[I", true)
  | 3 => ("PutOffWicks$Waits", "from", "[I", true)
  | _ => ("PutOffWicks$Waits", "rings", "[I", true)
def ty_10 : Nat → FieldType := fun k => match k with
  | 0 => .object "PutOffWicks$Tape"
  | 1 => .array .int
  | 2 => .array .int
  | 3 => .array .int
  | _ => .array .int
theorem nm_10 : ∀ a, a < 5 → ∀ b, b < 5 → a ≠ b → (T_10 a).2.1 ≠ (T_10 b).2.1 := by decide +kernel
theorem tk_10 : ∀ k, k < 5 → parseFieldDescriptor (T_10 k).2.2.1 = some (ty_10 k) := by decide +kernel
theorem iw_10 : ∀ w ∈ u_ws "PutOffWicks$Waits" T_10 5, w ∈ lw_g := lg_all (mem_pl _ [372, 374, 376, 378, 380] (by decide +kernel)) (by decide +kernel)
def T_11 : u_T := fun k => match k with
  | 0 => ("PutOffWicks", "tape", "LPutOffWicks$Tape;", true)
  | 1 => ("PutOffWicks", "reading", "LPutOffWicks$Reading;", true)
  | 2 => ("PutOffWicks", "now", "LPutOffWicks$Parish;", true)
  | 3 => ("PutOffWicks", "kept", "LPutOffWicks$Parish;", true)
  | 4 => ("PutOffWicks", "trial", "LPutOffWicks$Parish;", true)
  | 5 => ("PutOffWicks", "parishReader", "LPutOffWicks$ParishReader;", true)
  | 6 => ("PutOffWicks", "ruling", "LPutOffWicks$Law;", true)
  | 7 => ("PutOffWicks", "lawDraft", "LPutOffWicks$Law;", true)
  | 8 => ("PutOffWicks", "almanac", "LPutOffWicks$Almanac;", true)
  | 9 => ("PutOffWicks", "twisting", "LPutOffWicks$Twist;", true)
  | 10 => ("PutOffWicks", "waits", "LPutOffWicks$Waits;", true)
  | 11 => ("PutOffWicks", "shore", "LPutOffWicks$Shore;", true)
  | 12 => ("PutOffWicks", "rows", "LPutOffWicks$Rows;", true)
  | _ => ("PutOffWicks", "wasKept", "Z", false)
def ty_11 : Nat → FieldType := fun k => match k with
  | 0 => .object "PutOffWicks$Tape"
  | 1 => .object "PutOffWicks$Reading"
  | 2 => .object "PutOffWicks$Parish"
  | 3 => .object "PutOffWicks$Parish"
  | 4 => .object "PutOffWicks$Parish"
  | 5 => .object "PutOffWicks$ParishReader"
  | 6 => .object "PutOffWicks$Law"
  | 7 => .object "PutOffWicks$Law"
  | 8 => .object "PutOffWicks$Almanac"
  | 9 => .object "PutOffWicks$Twist"
  | 10 => .object "PutOffWicks$Waits"
  | 11 => .object "PutOffWicks$Shore"
  | 12 => .object "PutOffWicks$Rows"
  | _ => .boolean
theorem nm_11 : ∀ a, a < 14 → ∀ b, b < 14 → a ≠ b → (T_11 a).2.1 ≠ (T_11 b).2.1 := by decide +kernel
theorem tk_11 : ∀ k, k < 14 → parseFieldDescriptor (T_11 k).2.2.1 = some (ty_11 k) := by decide +kernel
theorem iw_11 : ∀ w ∈ u_ws "PutOffWicks" T_11 14, w ∈ lw_g := lg_all (mem_pl _ [421, 423, 425, 427, 429, 431, 433, 435, 437, 439, 441, 443, 445, 447] (by decide +kernel)) (by decide +kernel)
def T_12 : u_T := fun k => match k with
  | 0 => ("PutOffWicksModel", "now", "[I", true)
  | 1 => ("PutOffWicksModel", "aside", "[I", true)
  | 2 => ("PutOffWicksModel", "kept", "[I", true)
  | 3 => ("PutOffWicksModel", "whoseOf", "[I", true)
  | 4 => ("PutOffWicksModel", "waitsFor", "[I", true)
  | 5 => ("PutOffWicksModel", "things", "I", false)
  | 6 => ("PutOffWicksModel", "tape", "[B", true)
  | 7 => ("PutOffWicksModel", "taped", "I", false)
  | 8 => ("PutOffWicksModel", "place0", "I", false)
  | 9 => ("PutOffWicksModel", "length0", "I", false)
  | 10 => ("PutOffWicksModel", "fault", "I", false)
  | 11 => ("PutOffWicksModel", "number0", "I", false)
  | 12 => ("PutOffWicksModel", "open", "I", false)
  | 13 => ("PutOffWicksModel", "codeMany", "I", false)
  | 14 => ("PutOffWicksModel", "waiting", "I", false)
  | 15 => ("PutOffWicksModel", "saidMany", "I", false)
  | 16 => ("PutOffWicksModel", "clauses", "I", false)
  | 17 => ("PutOffWicksModel", "said", "[I", true)
  | 18 => ("PutOffWicksModel", "waitsAt", "[I", true)
  | 19 => ("PutOffWicksModel", "saidLetter", "[I", true)
  | 20 => ("PutOffWicksModel", "saidFrom", "[I", true)
  | 21 => ("PutOffWicksModel", "saidHalf", "[I", true)
  | 22 => ("PutOffWicksModel", "saidTo", "[I", true)
  | 23 => ("PutOffWicksModel", "codes", "[I", true)
  | 24 => ("PutOffWicksModel", "clauseOf", "[I", true)
  | 25 => ("PutOffWicksModel", "codeFrom", "[I", true)
  | 26 => ("PutOffWicksModel", "codeHalf", "[I", true)
  | 27 => ("PutOffWicksModel", "codeTo", "[I", true)
  | 28 => ("PutOffWicksModel", "stack", "[I", true)
  | 29 => ("PutOffWicksModel", "facts", "[I", true)
  | 30 => ("PutOffWicksModel", "newWhose", "[I", true)
  | 31 => ("PutOffWicksModel", "newLength", "[I", true)
  | 32 => ("PutOffWicksModel", "newLit", "[I", true)
  | 33 => ("PutOffWicksModel", "newWaits", "[I", true)
  | 34 => ("PutOffWicksModel", "newThings", "I", false)
  | 35 => ("PutOffWicksModel", "doneNow", "I", false)
  | 36 => ("PutOffWicksModel", "leftNow", "[I", true)
  | 37 => ("PutOffWicksModel", "orderWays", "[I", true)
  | 38 => ("PutOffWicksModel", "turnNow", "[I", true)
  | 39 => ("PutOffWicksModel", "roundFrom", "[I", true)
  | 40 => ("PutOffWicksModel", "roundAt", "[I", true)
  | 41 => ("PutOffWicksModel", "roundTimes", "[I", true)
  | 42 => ("PutOffWicksModel", "strandAt", "[I", true)
  | 43 => ("PutOffWicksModel", "strandThen", "[I", true)
  | 44 => ("PutOffWicksModel", "turnLeft", "[I", true)
  | 45 => ("PutOffWicksModel", "turnMany", "I", false)
  | 46 => ("PutOffWicksModel", "rounds", "I", false)
  | 47 => ("PutOffWicksModel", "itFrom", "I", false)
  | 48 => ("PutOffWicksModel", "itTimes", "I", false)
  | 49 => ("PutOffWicksModel", "awaits", "[I", true)
  | 50 => ("PutOffWicksModel", "endsBy", "[I", true)
  | 51 => ("PutOffWicksModel", "rowNow", "[I", true)
  | 52 => ("PutOffWicksModel", "seesAt", "[I", true)
  | 53 => ("PutOffWicksModel", "isKept", "Z", false)
  | _ => ("PutOffWicksModel", "keptThings", "I", false)
def ty_12 : Nat → FieldType := fun k => match k with
  | 0 => .array .int
  | 1 => .array .int
  | 2 => .array .int
  | 3 => .array .int
  | 4 => .array .int
  | 5 => .int
  | 6 => .array .byte
  | 7 => .int
  | 8 => .int
  | 9 => .int
  | 10 => .int
  | 11 => .int
  | 12 => .int
  | 13 => .int
  | 14 => .int
  | 15 => .int
  | 16 => .int
  | 17 => .array .int
  | 18 => .array .int
  | 19 => .array .int
  | 20 => .array .int
  | 21 => .array .int
  | 22 => .array .int
  | 23 => .array .int
  | 24 => .array .int
  | 25 => .array .int
  | 26 => .array .int
  | 27 => .array .int
  | 28 => .array .int
  | 29 => .array .int
  | 30 => .array .int
  | 31 => .array .int
  | 32 => .array .int
  | 33 => .array .int
  | 34 => .int
  | 35 => .int
  | 36 => .array .int
  | 37 => .array .int
  | 38 => .array .int
  | 39 => .array .int
  | 40 => .array .int
  | 41 => .array .int
  | 42 => .array .int
  | 43 => .array .int
  | 44 => .array .int
  | 45 => .int
  | 46 => .int
  | 47 => .int
  | 48 => .int
  | 49 => .array .int
  | 50 => .array .int
  | 51 => .array .int
  | 52 => .array .int
  | 53 => .boolean
  | _ => .int
theorem nm_12 : ∀ a, a < 55 → ∀ b, b < 55 → a ≠ b → (T_12 a).2.1 ≠ (T_12 b).2.1 := by decide +kernel
theorem tk_12 : ∀ k, k < 55 → parseFieldDescriptor (T_12 k).2.2.1 = some (ty_12 k) := by decide +kernel
theorem iw_12 : ∀ w ∈ u_ws "PutOffWicksModel" T_12 55, w ∈ lw_g := lg_all (mem_pl _ [1116, 1118, 1120, 1122, 1124, 1126, 1128, 1130, 1132, 1134, 1136, 1138, 1140, 1142, 1144, 1146, 1148, 1150, 1152, 1154, 1156, 1158, 1160, 1162, 1164, 1166, 1168, 1170, 1172, 1174, 1176, 1178, 1180, 1182, 1184, 1186, 1188, 1190, 1192, 1194, 1196, 1198, 1200, 1202, 1204, 1206, 1208, 1210, 1212, 1214, 1216, 1218, 1220, 1222, 1224] (by decide +kernel)) (by decide +kernel)
def clA : List vw_C := [("PutOffWicks$Almanac", T_0, 1), ("PutOffWicks$Law", T_1, 9), ("PutOffWicks$Parish", T_2, 10), ("PutOffWicks$ParishReader", T_3, 2), ("PutOffWicks$Reading", T_4, 3), ("PutOffWicks$Reckoner", T_5, 7), ("PutOffWicks$Rows", T_6, 1), ("PutOffWicks$Shore", T_7, 2), ("PutOffWicks$Tape", T_8, 3), ("PutOffWicks$Twist", T_9, 9), ("PutOffWicks$Waits", T_10, 5), ("PutOffWicks", T_11, 14), ("PutOffWicksModel", T_12, 55)]
end
section
/-! THE ABSTRACT STATE: rows of ints by the number of a cell (an object's fields, an array's elements); shapes of cells are fixed -/
abbrev St : Type := Nat → Nat → Int32
def sR (S : St) (k : Nat) (row : Nat → Int32) : St := fun a => if a = k then row else S a
def sF (S : St) (k j : Nat) (v : Int32) : St := sR S k (upd (S k) j v)
def jrem (x y : Int32) : Int32 := x - x / y * y
def jushr (x y : Int32) : Int32 := (x.toUInt32 >>> (y.toUInt32 &&& Int32.toUInt32 31)).toInt32
def jshl (x y : Int32) : Int32 := x <<< (y &&& 31)
def jshr (x y : Int32) : Int32 := x >>> (y &&& 31)
def jmax (x y : Int32) : Int32 := if x < y then y else x
def jmin (x y : Int32) : Int32 := if y < x then y else x
def jabs (x : Int32) : Int32 := if 0 ≤ x then x else 0 - x
def lshl (x : Int64) (y : Int32) : Int64 := x <<< (y.toInt64 &&& 63)
def lushr (x : Int64) (y : Int32) : Int64 := (x.toUInt64 >>> (y.toInt64.toUInt64 &&& Int64.toUInt64 63)).toInt64
def ig (i : Int32) (n : Nat) : Bool := decide (¬ (i < 0 ∨ n ≤ i.toNatClampNeg))
theorem ig_in {i : Int32} {n : Nat} (h : ig i n = true) : vp_in i n := of_decide_eq_true (p := ¬ (i < 0 ∨ n ≤ i.toNatClampNeg)) h
def m64 (a b : Int32) : Int64 := ⟨⟨a.toBitVec ++ b.toBitVec⟩⟩
def h64 (v : Int64) : Int32 := ⟨⟨v.toBitVec.extractLsb' 32 32⟩⟩
def l64 (v : Int64) : Int32 := ⟨⟨v.toBitVec.extractLsb' 0 32⟩⟩
theorem m64_hl (v : Int64) : m64 (h64 v) (l64 v) = v := by
  apply Int64.toBitVec_inj.mp
  show (v.toBitVec.extractLsb' 32 32) ++ (v.toBitVec.extractLsb' 0 32) = v.toBitVec
  apply BitVec.eq_of_getLsbD_eq
  intro i hi
  rw [BitVec.getLsbD_append]
  by_cases h : i < 32
  · simp [h]
  · have : i - 32 < 32 := by omega
    have h2 : 32 + (i - 32) = i := by omega
    simp [h, this, h2]
def cv (ρ : Nat → Nat) (v : Value) : Value := match v with
  | .ref k => .ref (ρ k)
  | v => v
theorem cv_cat (ρ : Nat → Nat) (v : Value) : (cv ρ v).category = v.category := by cases v <;> rfl
abbrev Sh : Type := (Nat × List (Option Nat)) ⊕ (Nat × Nat)
abbrev SY : Type := Nat × (Nat → Sh)
def fv (ks : List (Option Nat)) (row : Nat → Int32) (j : Nat) : Value := match ks[j]? with
  | some (some k) => if k = 1000 then .ref (row j).toNatClampNeg else .ref k
  | some none => .int (row j)
  | none => .null
def lrow (row : Nat → Int32) (i : Nat) : Int64 := m64 (row (2 * i)) (row (2 * i + 1))
def ce (ρ : Nat → Nat) (τ : Nat → ClassId) (sh : Sh) (row : Nat → Int32) : va_E := match sh with
  | .inl o => .inr (o.1, (List.range o.2.length).map fun j => cv ρ (fv o.2 row j))
  | .inr a => .inl (τ a.1, a.2, if a.1 = 1 then .inr (.inl (lrow row)) else .inl row)
def sw (X : SY) (ρ : Nat → Nat) (τ : Nat → ClassId) (S : St) : va_W := (List.range X.1).map fun k => (ρ k, ce ρ τ (X.2 k) (S k))
def sty (τ : Nat → ClassId) : List (ClassId × FieldType) := [(τ 0, .int), (τ 1, .long), (τ 2, .byte)]
def sA (X : SY) (ρ : Nat → Nat) : Nat → Prop := fun q => ∃ k, k < X.1 ∧ q = ρ k
def inj (X : SY) (ρ : Nat → Nat) : Prop := ∀ i j, i < X.1 → j < X.1 → ρ i = ρ j → i = j
theorem sw_at {X : SY} {ρ : Nat → Nat} {τ : Nat → ClassId} {S : St} {k : Nat} (h : k < X.1) : (sw X ρ τ S)[k]? = some (ρ k, ce ρ τ (X.2 k) (S k)) := by
  simp [sw, h]
theorem sw_get {X : SY} {ρ : Nat → Nat} {τ : Nat → ClassId} {S : St} {k : Nat} {q : Nat × va_E} (h : (sw X ρ τ S)[k]? = some q) : k < X.1 ∧ q = (ρ k, ce ρ τ (X.2 k) (S k)) := by
  have hk : k < X.1 := by
    have := (List.getElem?_eq_some_iff.mp h).1
    simpa [sw] using this
  rw [sw_at hk] at h
  exact ⟨hk, (Option.some.inj h).symm⟩
theorem sw_set {X : SY} {ρ : Nat → Nat} {τ : Nat → ClassId} {S : St} {k : Nat} {row : Nat → Int32} {e : va_E} (h : k < X.1) (he : e = ce ρ τ (X.2 k) row) : (sw X ρ τ S).set k (ρ k, e) = sw X ρ τ (sR S k row) := by
  subst he
  apply List.ext_getElem?
  intro j
  by_cases hj : j = k
  · subst hj
    rw [List.getElem?_set_self (by simpa [sw] using h), sw_at h]
    simp [sR]
  · rw [List.getElem?_set_ne (Ne.symm hj)]
    by_cases hl : j < X.1
    · rw [sw_at hl, sw_at hl]
      simp [sR, hj]
    · rw [List.getElem?_eq_none (by simp [sw]; omega), List.getElem?_eq_none (by simp [sw]; omega)]
theorem sw_D {X : SY} {ρ : Nat → Nat} {τ : Nat → ClassId} {S : St} (hi : inj X ρ) : va_D (sA X ρ) (sw X ρ τ S) := by
  refine ⟨fun i j x y h1 h2 hxy => ?_, fun k q h => ?_⟩
  · obtain ⟨a1, rfl⟩ := sw_get h1
    obtain ⟨a2, rfl⟩ := sw_get h2
    exact hi i j a1 a2 hxy
  · obtain ⟨a1, rfl⟩ := sw_get h
    exact ⟨k, a1, rfl⟩
theorem fs_at {ρ : Nat → Nat} {ks : List (Option Nat)} {row : Nat → Int32} {j : Nat} {o : Option Nat} (h : ks[j]? = some o) : ((List.range ks.length).map fun j => cv ρ (fv ks row j))[j]? = some (cv ρ (fv ks row j)) := by
  have := (List.getElem?_eq_some_iff.mp h).1
  simp [this]
theorem fs_set {ρ : Nat → Nat} {ks : List (Option Nat)} {row : Nat → Int32} {j : Nat} {o : Option Nat} {v : Int32} {w : Value} (h : ks[j]? = some o) (hw : w = cv ρ (fv ks (upd row j v) j)) : ((List.range ks.length).map fun j => cv ρ (fv ks row j)).set j w = (List.range ks.length).map fun i => cv ρ (fv ks (upd row j v) i) := by
  have hl := (List.getElem?_eq_some_iff.mp h).1
  apply List.ext_getElem?
  intro i
  by_cases hi : i = j
  · subst hi
    rw [List.getElem?_set_self (by simpa using hl)]
    simp [hl, hw]
  · rw [List.getElem?_set_ne (Ne.symm hi)]
    by_cases hil : i < ks.length
    · simp [hil, fv, upd, hi]
    · simp [hil]
/-! methods -/
def nW : Cond := .methodLinkNest "PutOffWicks$Waits" 40 ⟨"PutOffWicks", "within", "(III)Z"⟩ "PutOffWicks"
def KK (D : va_G) (τ : Nat → ClassId) (U : State) : Prop := va_K D clA (sty τ) U ∧ va_Nw nW U
theorem KK.warm {D : va_G} {τ : Nat → ClassId} {s U : State} (hW : s.WarmedH U.vm) (h : KK D τ s) : KK D τ U := ⟨va_K.moved hW.alike h.1, va_Nw.warmM hW h.2⟩
theorem KK.same {D : va_G} {τ : Nat → ClassId} {s U : State} (hv : s.vm = U.vm) (h : KK D τ s) : KK D τ U := ⟨va_K.moved (hv ▸ Vm.Alike.refl s.vm) h.1, va_Nw.same rfl hv h.2⟩
abbrev MI : Type := MethodName × ByteArray × Nat × Option FieldType
def mw (I : MI) : List Cond := Cond.code I.1 I.2.1 I.2.2.1 I.2.2.2 :: lw_g
def rmH (h : Nat) : Room := { frames := h, cells := 0, slots := 0, locals := 40 * h }
def qc (X : SY) (D : va_G) (ρ : Nat → Nat) (τ : Nat → ClassId) (r : Option Int32) (S : St) : Array Value → State → Outcome → State → Prop := fun _ st oc t => (oc = .returned (r.map Value.int) ∧ va_P D clA (sw X ρ τ S) t.heap) ∧ va_F (sA X ρ) st t
def pcw (X : SY) (D : va_G) (ρ : Nat → Nat) (τ : Nat → ClassId) (av : List Value) (S : St) : Array Value → State → Prop := va_Pc (av.map (cv ρ)) (fun U => va_P D clA (sw X ρ τ S) U.heap ∧ KK D τ U)
/-- a method's contract: with the cells as S says it answers r and leaves them as S' says -/
def Ct (X : SY) (I : MI) (h : Nat) (av : List Value) (S : St) (r : Option Int32) (S' : St) : Prop := ∀ (l : Launch) (D : va_G) (ρ : Nat → Nat) (τ : Nat → ClassId), inj X ρ → Met l I.1 (mw I) (rmH h) (pcw X D ρ τ av S) (qc X D ρ τ r S') 0 0 (sA X ρ)
def gc (p : Program) (s : State) (m : MethodId) (args : Array Value) (meth : Method) (c : Code) (I : MI) : Prop := p.tables.exec = Jvm.exec ∧ c.code = I.2.1 ∧ meth.sig.returnType = I.2.2.2 ∧ c.maxLocals = I.2.2.1 ∧ s.vm.findClass I.1.cls = some m.cls ∧ (∀ w ∈ lw_g, w.before args s = true) ∧ meth.locks = false
def lc (ρ : Nat → Nat) (ls : List (Nat × Value)) : List (Nat × Value) := ls.map fun q => (q.1, cv ρ q.2)
/-- within a method: from here it comes to its end with r and S' -/
def G (X : SY) (I : MI) (h : Nat) (r : Option Int32) (S' : St) (pc : Nat) (ls : List (Nat × Value)) (stk : List Value) (S : St) : Prop := ∀ (p : Program) (l : Launch) (e : Env) (s : State) (m : MethodId) (args : Array Value) (below : List Frame) (meth : Method) (c : Code) (H : Heap) (locs : List Loc) (D : va_G) (ρ : Nat → Nat) (τ : Nat → ClassId) (lr : Array Slot),
  gc p s m args meth c I → inj X ρ → KK D τ s → va_P D clA (sw X ρ τ S) H → va_S (sA X ρ) s.heap H locs → lv_has lr I.2.2.1 (lc ρ ls) → W p l e (rmH h) s m args below meth c H locs 0 0 (MQ below (qc X D ρ τ r S') args s 0 0 (sA X ρ)) (F0 m pc lr (stk.map (cv ρ)))
theorem lc_at {ρ : Nat → Nat} {ls : List (Nat × Value)} {j i : Nat} {v : Value} (h : ls[j]? = some (i, v)) : (lc ρ ls)[j]? = some (i, cv ρ v) := by
  simp [lc, h]
theorem lc_args (ρ : Nat → Nat) : ∀ (vs : List Value) (i : Nat), lc ρ (lv_args i vs) = lv_args i (vs.map (cv ρ))
  | [], _ => rfl
  | v :: vs, i => by
    simp only [lv_args, List.map_cons, cv_cat]
    rw [← lc_args ρ vs]
    rfl
theorem lg_len (ρ : Nat → Nat) : ∀ vs : List Value, (lg_sl (vs.map (cv ρ))).length = (lg_sl vs).length
  | [] => rfl
  | v :: vs => by
    have ih := lg_len ρ vs
    simp only [lg_sl, List.map_cons, List.flatMap_cons, List.length_append, cv_cat] at ih ⊢
    rw [ih]
    by_cases h : v.category = 2 <;> simp [h]
theorem Ct.of {X : SY} {I : MI} {h : Nat} {av : List Value} {S S' : St} {r : Option Int32} (hpl : plainName I.1.cls = true) (hlen : (lg_sl av).length ≤ I.2.2.1) (body : G X I h r S' 0 (lv_args 0 av) [] S) : Ct X I h av S r S' := by
  intro l D ρ τ hi
  refine Met.ofW (cc := I.2.1) (maxL := I.2.2.1) (ret := I.2.2.2) (ws' := lw_g) hpl rfl ?_
  intro p e s m args below meth c s₁ B hml hv
  obtain ⟨rfl, hP, hK⟩ := hv
  have hts := atoms_spec (ws := mw I) B.pre
  have hl := lv_entry (av.map (cv ρ)) (n := I.2.2.1) (by rw [lg_len]; exact hlen)
  rw [lg_entry_eq]
  exact body p l e s m _ below meth c s.heap [] D ρ τ _ ⟨B.exec, B.bytes, B.returns, hml, findClass_of_methodNamed B.named, fun w hw => hts w (List.mem_cons_of_mem _ hw), B.notSynchronized⟩ hi hK hP va_S.rf (by rw [lc_args]; exact hl)
end
section
/-! ONE ROW AN INSTRUCTION, over G -/
def sL (S : St) (k i : Nat) (v : Int64) : St := sR S k (upd (upd (S k) (2 * i) (h64 v)) (2 * i + 1) (l64 v))
def FL (own : String) (idx ci j : Nat) : Prop := ∃ (C : String) (T : u_T) (N : Nat), clA[ci]? = some (C, T, N) ∧ j < N ∧ Cond.fieldLink own idx (T j).1 (T j).2.1 (T j).2.2.1 ∈ lw_g ∧ ∀ w ∈ u_ws C T N, w ∈ lw_g
def FP (own : String) (idx ci j : Nat) (ty : FieldType) : Prop := ∃ (C : String) (T : u_T) (N : Nat) (tf : Nat → FieldType), clA[ci]? = some (C, T, N) ∧ j < N ∧ Cond.fieldLink own idx (T j).1 (T j).2.1 (T j).2.2.1 ∈ lw_g ∧ (∀ w ∈ u_ws C T N, w ∈ lw_g) ∧ (∀ k, k < N → parseFieldDescriptor (T k).2.2.1 = some (tf k)) ∧ (∀ a, a < N → ∀ b, b < N → a ≠ b → (T a).2.1 ≠ (T b).2.1) ∧ (T j).2.2.2 = false ∧ parseFieldDescriptor (T j).2.2.1 = some ty
def MS (own : String) (idx : Nat) (y : MethodName) (code : ByteArray) (n : Nat) : Prop := Cond.methodLink own idx y ∈ lw_g ∧ Cond.static y ∈ lw_g ∧ Cond.initialized "java/lang/Math" ∈ lw_g ∧ Cond.code y code n (some .int) ∈ lw_g
theorem us_ {f : Nat → Int32} {k : Nat} {x : Int32} : upd f k x k = x := by simp [upd]
theorem fv_i {ks : List (Option Nat)} {row : Nat → Int32} {j : Nat} (h : ks[j]? = some none) : fv ks row j = .int (row j) := by simp [fv, h]
theorem fv_r {ks : List (Option Nat)} {row : Nat → Int32} {j q : Nat} (h : ks[j]? = some (some q)) (hq : (q == 1000) = false) : fv ks row j = .ref q := by
  have : ¬ q = 1000 := by simpa using hq
  simp [fv, h, this]
theorem fv_m {ks : List (Option Nat)} {row : Nat → Int32} {j : Nat} (h : ks[j]? = some (some 1000)) : fv ks row j = .ref (row j).toNatClampNeg := by simp [fv, h]
theorem sw_obj {X : SY} {ρ : Nat → Nat} {τ : Nat → ClassId} {S : St} {k ci : Nat} {ks : List (Option Nat)} (hk : k < X.1) (hs : X.2 k = .inl (ci, ks)) : (sw X ρ τ S)[k]? = some (ρ k, .inr (ci, (List.range ks.length).map fun j => cv ρ (fv ks (S k) j))) := by
  rw [sw_at hk, hs]; rfl
theorem sw_arr {X : SY} {ρ : Nat → Nat} {τ : Nat → ClassId} {S : St} {k n : Nat} (hk : k < X.1) (hs : X.2 k = .inr (0, n)) : (sw X ρ τ S)[k]? = some (ρ k, .inl (τ 0, n, .inl (S k))) := by
  rw [sw_at hk, hs]; rfl
theorem sw_arrB {X : SY} {ρ : Nat → Nat} {τ : Nat → ClassId} {S : St} {k n : Nat} (hk : k < X.1) (hs : X.2 k = .inr (2, n)) : (sw X ρ τ S)[k]? = some (ρ k, .inl (τ 2, n, .inl (S k))) := by
  rw [sw_at hk, hs]; rfl
theorem sw_arrL {X : SY} {ρ : Nat → Nat} {τ : Nat → ClassId} {S : St} {k n : Nat} (hk : k < X.1) (hs : X.2 k = .inr (1, n)) : (sw X ρ τ S)[k]? = some (ρ k, .inl (τ 1, n, .inr (.inl (lrow (S k))))) := by
  rw [sw_at hk, hs]; rfl
theorem sw_arrX {X : SY} {ρ : Nat → Nat} {τ : Nat → ClassId} {S : St} {k t n : Nat} (hk : k < X.1) (hs : X.2 k = .inr (t, n)) : (sw X ρ τ S)[k]? = some (ρ k, .inl (τ t, n, if t = 1 then .inr (.inl (lrow (S k))) else .inl (S k))) := by
  rw [sw_at hk, hs]; rfl
theorem ce_last {ρ : Nat → Nat} {τ : Nat → ClassId} {X : SY} {k n i : Nat} {row : Nat → Int32} {v : Int64} (hs : X.2 k = .inr (1, n)) : (.inl (τ 1, n, .inr (.inl (vp_updL (lrow row) i v))) : va_E) = ce ρ τ (X.2 k) (upd (upd row (2 * i) (h64 v)) (2 * i + 1) (l64 v)) := by
  have e : vp_updL (lrow row) i v = lrow (upd (upd row (2 * i) (h64 v)) (2 * i + 1) (l64 v)) := by
    funext j
    by_cases hj : j = i
    · subst hj
      have h1 : ¬ 2 * j = 2 * j + 1 := by omega
      simp [vp_updL, lrow, upd, m64_hl]
    · have h1 : ¬ 2 * j = 2 * i + 1 := by omega
      have h2 : ¬ 2 * j = 2 * i := by omega
      have h3 : ¬ 2 * j + 1 = 2 * i := by omega
      have h4 : ¬ 2 * j + 1 = 2 * i + 1 := by omega
      simp [vp_updL, lrow, upd, hj, h1, h2, h3]
  rw [hs, e]
  rfl
theorem ce_put {ρ : Nat → Nat} {τ : Nat → ClassId} {X : SY} {k ci j : Nat} {ks : List (Option Nat)} {o : Option Nat} {row : Nat → Int32} {v : Int32} {w : Value} (hs : X.2 k = .inl (ci, ks)) (hj : ks[j]? = some o) (hw : w = cv ρ (fv ks (upd row j v) j)) : (.inr (ci, ((List.range ks.length).map fun j => cv ρ (fv ks row j)).set j w) : va_E) = ce ρ τ (X.2 k) (upd row j v) := by
  rw [hs, fs_set hj hw]
  rfl
theorem sty_at {τ : Nat → ClassId} {t : Nat} (h : t < 3) : ∃ ty, (sty τ)[t]? = some (τ t, ty) := by
  rcases (show t = 0 ∨ t = 1 ∨ t = 2 by omega) with rfl | rfl | rfl
  · exact ⟨_, rfl⟩
  · exact ⟨_, rfl⟩
  · exact ⟨_, rfl⟩
theorem lc_pick {ρ : Nat → Nat} {ls ls' : List (Nat × Value)} {js : List Nat} (h : lv_pick ls js = ls') : lv_pick (lc ρ ls) js = lc ρ ls' := by
  subst h
  induction js with
  | nil => rfl
  | cons a t ih =>
    simp only [lv_pick, lc, List.filterMap_cons, List.getElem?_map] at ih ⊢
    cases ls[a]? with
    | none => simpa using ih
    | some q => simp [ih]
theorem lc_f1 {ρ : Nat → Nat} {ls ls' : List (Nat × Value)} {i : Nat} {v : Value} (h : (i, v) :: ls.filter (fun q => !(q.1 == i) && !(q.1 + 1 == i && q.2.category == 2)) = ls') : (i, cv ρ v) :: (lc ρ ls).filter (fun q => !(q.1 == i) && !(q.1 + 1 == i && q.2.category == 2)) = lc ρ ls' := by
  subst h
  simp only [lc, List.map_cons, List.filter_map]
  congr 2
  apply List.filter_congr
  intro q _
  simp [cv_cat]
theorem lc_f2 {ρ : Nat → Nat} {ls ls' : List (Nat × Value)} {i : Nat} {v : Value} (h : (i, v) :: ls.filter (fun q => !(q.1 == i) && (!(q.1 == i + 1) && !(q.1 + 1 == i && q.2.category == 2))) = ls') : (i, cv ρ v) :: (lc ρ ls).filter (fun q => !(q.1 == i) && (!(q.1 == i + 1) && !(q.1 + 1 == i && q.2.category == 2))) = lc ρ ls' := by
  subst h
  simp only [lc, List.map_cons, List.filter_map]
  congr 2
  apply List.filter_congr
  intro q _
  simp [cv_cat]
theorem cat_sum {ρ : Nat → Nat} (st : List Value) : ((st.map (cv ρ)).map fun v => v.category).sum = (st.map fun v => v.category).sum := by
  induction st with
  | nil => rfl
  | cons a t ih => simp only [List.map_cons, List.sum_cons, cv_cat]; rw [ih]
theorem rm_m {ρ : Nat → Nat} {h : Nat} {st : List Value} (hh : 0 < h) (hrm : (st.map fun v => v.category).sum ≤ 8) : ((st.map (cv ρ)).map fun v => v.category).sum + 13 ≤ (rmH h).locals := by
  rw [cat_sum]
  show _ ≤ 40 * h
  omega
section GR
variable {X : SY} {I : MI} {h : Nat} {r : Option Int32} {S' : St} {pc : Nat} {ls : List (Nat × Value)} {stk : List Value} {S : St}
theorem G_iconst  {n : Int} (v : Int32) (hv : Int32.ofInt n = v) (hd : decode I.2.1 pc = .ok (.iconst n, 1)) (kk : G X I h r S' (pc + 1) ls (.int v :: stk) S) : G X I h r S' pc ls stk S := fun p l e s m args below meth c H locs D ρ τ lr hc hi hK hP hS hl => lv_iconst hc.1 hc.2.1 hd hv (kk p l e s m args below meth c H locs D ρ τ lr hc hi hK hP hS hl)
theorem G_bipush  {n : Int} (v : Int32) (hv : (Int8.ofInt n).toInt32 = v) (hd : decode I.2.1 pc = .ok (.bipush n, 2)) (kk : G X I h r S' (pc + 2) ls (.int v :: stk) S) : G X I h r S' pc ls stk S := fun p l e s m args below meth c H locs D ρ τ lr hc hi hK hP hS hl => lv_bipush hc.1 hc.2.1 hd hv (kk p l e s m args below meth c H locs D ρ τ lr hc hi hK hP hS hl)
theorem G_sipush  {n : Int} (v : Int32) (hv : (Int16.ofInt n).toInt32 = v) (hd : decode I.2.1 pc = .ok (.sipush n, 3)) (kk : G X I h r S' (pc + 3) ls (.int v :: stk) S) : G X I h r S' pc ls stk S := fun p l e s m args below meth c H locs D ρ τ lr hc hi hK hP hS hl => lv_sipush hc.1 hc.2.1 hd hv (kk p l e s m args below meth c H locs D ρ τ lr hc hi hK hP hS hl)
theorem G_lconst  {n : Fin 2} (v : Int64) (hv : Int64.ofNat (n : Nat) = v) (hd : decode I.2.1 pc = .ok (.lconst n, 1)) (kk : G X I h r S' (pc + 1) ls (.long v :: stk) S) : G X I h r S' pc ls stk S := fun p l e s m args below meth c H locs D ρ τ lr hc hi hK hP hS hl => lv_lconst hc.1 hc.2.1 hd hv (kk p l e s m args below meth c H locs D ρ τ lr hc hi hK hP hS hl)
theorem G_ldc  {n : Nat} {v : Int32} (hw : Cond.constant I.1.cls n v ∈ lw_g) (hd : decode I.2.1 pc = .ok (.ldc n, 2)) (kk : G X I h r S' (pc + 2) ls (.int v :: stk) S) : G X I h r S' pc ls stk S := fun p l e s m args below meth c H locs D ρ τ lr hc hi hK hP hS hl => lv_ldc hc.1 hc.2.1 hc.2.2.2.2.1 (hc.2.2.2.2.2.1 _ hw) hd (kk p l e s m args below meth c H locs D ρ τ lr hc hi hK hP hS hl)
theorem G_ldcw  {n : Nat} {v : Int32} (hw : Cond.constant I.1.cls n v ∈ lw_g) (hd : decode I.2.1 pc = .ok (.ldc_w n, 3)) (kk : G X I h r S' (pc + 3) ls (.int v :: stk) S) : G X I h r S' pc ls stk S := fun p l e s m args below meth c H locs D ρ τ lr hc hi hK hP hS hl => lv_ldcw hc.1 hc.2.1 hc.2.2.2.2.1 (hc.2.2.2.2.2.1 _ hw) hd (kk p l e s m args below meth c H locs D ρ τ lr hc hi hK hP hS hl)
theorem G_ldc2  {n : Nat} {v : Int64} (hw : Cond.constantLong I.1.cls n v ∈ lw_g) (hd : decode I.2.1 pc = .ok (.ldc2_w n, 3)) (kk : G X I h r S' (pc + 3) ls (.long v :: stk) S) : G X I h r S' pc ls stk S := fun p l e s m args below meth c H locs D ρ τ lr hc hi hK hP hS hl => lv_ldc2 hc.1 hc.2.1 hc.2.2.2.2.1 (hc.2.2.2.2.2.1 _ hw) hd (kk p l e s m args below meth c H locs D ρ τ lr hc hi hK hP hS hl)
theorem G_iload_n  {k : Fin 4} {x : Int32} (j : Nat) (hj : ls[j]? = some ((k : Nat), Value.int x)) (hd : decode I.2.1 pc = .ok (.iload_n k, 1)) (kk : G X I h r S' (pc + 1) ls (.int x :: stk) S) : G X I h r S' pc ls stk S := fun p l e s m args below meth c H locs D ρ τ lr hc hi hK hP hS hl => lv_iload_n hc.1 hc.2.1 hd rfl (lv_at hl j (lc_at hj)) (kk p l e s m args below meth c H locs D ρ τ lr hc hi hK hP hS hl)
theorem G_iload  {k : Nat} {x : Int32} (j : Nat) (hj : ls[j]? = some (k, Value.int x)) (hd : decode I.2.1 pc = .ok (.iload k, 2)) (kk : G X I h r S' (pc + 2) ls (.int x :: stk) S) : G X I h r S' pc ls stk S := fun p l e s m args below meth c H locs D ρ τ lr hc hi hK hP hS hl => lv_iload hc.1 hc.2.1 hd (lv_at hl j (lc_at hj)) (kk p l e s m args below meth c H locs D ρ τ lr hc hi hK hP hS hl)
theorem G_lload_n  {k : Fin 4} {x : Int64} (j : Nat) (hj : ls[j]? = some ((k : Nat), Value.long x)) (hd : decode I.2.1 pc = .ok (.lload_n k, 1)) (kk : G X I h r S' (pc + 1) ls (.long x :: stk) S) : G X I h r S' pc ls stk S := fun p l e s m args below meth c H locs D ρ τ lr hc hi hK hP hS hl => lv_lload_n hc.1 hc.2.1 hd rfl (lv_at hl j (lc_at hj)) (kk p l e s m args below meth c H locs D ρ τ lr hc hi hK hP hS hl)
theorem G_lload  {k : Nat} {x : Int64} (j : Nat) (hj : ls[j]? = some (k, Value.long x)) (hd : decode I.2.1 pc = .ok (.lload k, 2)) (kk : G X I h r S' (pc + 2) ls (.long x :: stk) S) : G X I h r S' pc ls stk S := fun p l e s m args below meth c H locs D ρ τ lr hc hi hK hP hS hl => lv_lload hc.1 hc.2.1 hd (lv_at hl j (lc_at hj)) (kk p l e s m args below meth c H locs D ρ τ lr hc hi hK hP hS hl)
theorem G_aload_n  {k : Fin 4} {x : Nat} (j : Nat) (hj : ls[j]? = some ((k : Nat), Value.ref x)) (hd : decode I.2.1 pc = .ok (.aload_n k, 1)) (kk : G X I h r S' (pc + 1) ls (.ref x :: stk) S) : G X I h r S' pc ls stk S := fun p l e s m args below meth c H locs D ρ τ lr hc hi hK hP hS hl => lv_aload_n hc.1 hc.2.1 hd rfl (lv_at hl j (lc_at hj)) (kk p l e s m args below meth c H locs D ρ τ lr hc hi hK hP hS hl)
theorem G_aload  {k : Nat} {x : Nat} (j : Nat) (hj : ls[j]? = some (k, Value.ref x)) (hd : decode I.2.1 pc = .ok (.aload k, 2)) (kk : G X I h r S' (pc + 2) ls (.ref x :: stk) S) : G X I h r S' pc ls stk S := fun p l e s m args below meth c H locs D ρ τ lr hc hi hK hP hS hl => lv_aload hc.1 hc.2.1 hd (lv_at hl j (lc_at hj)) (kk p l e s m args below meth c H locs D ρ τ lr hc hi hK hP hS hl)
theorem G_istore_n  {k : Fin 4} {x v : Int32} (ls' : List (Nat × Value)) (hv : x = v) (hs : ((k : Nat), Value.int v) :: ls.filter (fun q => !(q.1 == (k : Nat)) && !(q.1 + 1 == (k : Nat) && q.2.category == 2)) = ls') (hn : (k : Nat) < I.2.2.1) (hd : decode I.2.1 pc = .ok (.istore_n k, 1)) (kk : G X I h r S' (pc + 1) ls' (stk) S) : G X I h r S' pc ls (.int x :: stk) S := fun p l e s m args below meth c H locs D ρ τ lr hc hi hK hP hS hl => by subst hv; exact lv_istore_n hc.1 hc.2.1 hd rfl hl hn (lc_f1 hs) (fun lr hl => kk p l e s m args below meth c H locs D ρ τ lr hc hi hK hP hS hl)
theorem G_istore  {k : Nat} {x v : Int32} (ls' : List (Nat × Value)) (hv : x = v) (hs : (k, Value.int v) :: ls.filter (fun q => !(q.1 == k) && !(q.1 + 1 == k && q.2.category == 2)) = ls') (hn : k < I.2.2.1) (hd : decode I.2.1 pc = .ok (.istore k, 2)) (kk : G X I h r S' (pc + 2) ls' (stk) S) : G X I h r S' pc ls (.int x :: stk) S := fun p l e s m args below meth c H locs D ρ τ lr hc hi hK hP hS hl => by subst hv; exact lv_istore hc.1 hc.2.1 hd hl hn (lc_f1 hs) (fun lr hl => kk p l e s m args below meth c H locs D ρ τ lr hc hi hK hP hS hl)
theorem G_astore_n  {k : Fin 4} {x v : Nat} (ls' : List (Nat × Value)) (hv : x = v) (hs : ((k : Nat), Value.ref v) :: ls.filter (fun q => !(q.1 == (k : Nat)) && !(q.1 + 1 == (k : Nat) && q.2.category == 2)) = ls') (hn : (k : Nat) < I.2.2.1) (hd : decode I.2.1 pc = .ok (.astore_n k, 1)) (kk : G X I h r S' (pc + 1) ls' (stk) S) : G X I h r S' pc ls (.ref x :: stk) S := fun p l e s m args below meth c H locs D ρ τ lr hc hi hK hP hS hl => by subst hv; exact lv_astore_n hc.1 hc.2.1 hd rfl hl hn (lc_f1 hs) (fun lr hl => kk p l e s m args below meth c H locs D ρ τ lr hc hi hK hP hS hl)
theorem G_astore  {k : Nat} {x v : Nat} (ls' : List (Nat × Value)) (hv : x = v) (hs : (k, Value.ref v) :: ls.filter (fun q => !(q.1 == k) && !(q.1 + 1 == k && q.2.category == 2)) = ls') (hn : k < I.2.2.1) (hd : decode I.2.1 pc = .ok (.astore k, 2)) (kk : G X I h r S' (pc + 2) ls' (stk) S) : G X I h r S' pc ls (.ref x :: stk) S := fun p l e s m args below meth c H locs D ρ τ lr hc hi hK hP hS hl => by subst hv; exact lv_astore hc.1 hc.2.1 hd hl hn (lc_f1 hs) (fun lr hl => kk p l e s m args below meth c H locs D ρ τ lr hc hi hK hP hS hl)
theorem G_lstore_n  {k : Fin 4} {x v : Int64} (ls' : List (Nat × Value)) (hv : x = v) (hs : ((k : Nat), Value.long v) :: ls.filter (fun q => !(q.1 == (k : Nat)) && (!(q.1 == (k : Nat) + 1) && !(q.1 + 1 == (k : Nat) && q.2.category == 2))) = ls') (hn : (k : Nat) + 1 < I.2.2.1) (hd : decode I.2.1 pc = .ok (.lstore_n k, 1)) (kk : G X I h r S' (pc + 1) ls' (stk) S) : G X I h r S' pc ls (.long x :: stk) S := fun p l e s m args below meth c H locs D ρ τ lr hc hi hK hP hS hl => by subst hv; exact lv_lstore_n hc.1 hc.2.1 hd rfl hl hn (lc_f2 hs) (fun lr hl => kk p l e s m args below meth c H locs D ρ τ lr hc hi hK hP hS hl)
theorem G_lstore  {k : Nat} {x v : Int64} (ls' : List (Nat × Value)) (hv : x = v) (hs : (k, Value.long v) :: ls.filter (fun q => !(q.1 == k) && (!(q.1 == k + 1) && !(q.1 + 1 == k && q.2.category == 2))) = ls') (hn : k + 1 < I.2.2.1) (hd : decode I.2.1 pc = .ok (.lstore k, 2)) (kk : G X I h r S' (pc + 2) ls' (stk) S) : G X I h r S' pc ls (.long x :: stk) S := fun p l e s m args below meth c H locs D ρ τ lr hc hi hK hP hS hl => by subst hv; exact lv_lstore hc.1 hc.2.1 hd hl hn (lc_f2 hs) (fun lr hl => kk p l e s m args below meth c H locs D ρ τ lr hc hi hK hP hS hl)
theorem G_iinc  {k : Nat} {n : Int} {x v : Int32} (c0 : Int32) (j : Nat) (ls' : List (Nat × Value)) (hcn : Int32.ofInt n = c0) (hj : ls[j]? = some (k, Value.int x)) (hv : x + c0 = v) (hs : (k, Value.int v) :: ls.filter (fun q => !(q.1 == k) && !(q.1 + 1 == k && q.2.category == 2)) = ls') (hn : k < I.2.2.1) (hd : decode I.2.1 pc = .ok (.iinc k n, 3)) (kk : G X I h r S' (pc + 3) ls' (stk) S) : G X I h r S' pc ls stk S := fun p l e s m args below meth c H locs D ρ τ lr hc hi hK hP hS hl => by subst hcn; exact lv_iinc hc.1 hc.2.1 hd hl (lc_at hj) hv hn (lc_f1 hs) (fun lr hl => kk p l e s m args below meth c H locs D ρ τ lr hc hi hK hP hS hl)
theorem G_iadd  {x y : Int32} (hd : decode I.2.1 pc = .ok (.iadd, 1)) (kk : G X I h r S' (pc + 1) ls (.int (x + y) :: stk) S) : G X I h r S' pc ls (.int y :: .int x :: stk) S := fun p l e s m args below meth c H locs D ρ τ lr hc hi hK hP hS hl => lv_iadd hc.1 hc.2.1 hd (kk p l e s m args below meth c H locs D ρ τ lr hc hi hK hP hS hl)
theorem G_isub  {x y : Int32} (hd : decode I.2.1 pc = .ok (.isub, 1)) (kk : G X I h r S' (pc + 1) ls (.int (x - y) :: stk) S) : G X I h r S' pc ls (.int y :: .int x :: stk) S := fun p l e s m args below meth c H locs D ρ τ lr hc hi hK hP hS hl => lv_isub hc.1 hc.2.1 hd (kk p l e s m args below meth c H locs D ρ τ lr hc hi hK hP hS hl)
theorem G_imul  {x y : Int32} (hd : decode I.2.1 pc = .ok (.imul, 1)) (kk : G X I h r S' (pc + 1) ls (.int (x * y) :: stk) S) : G X I h r S' pc ls (.int y :: .int x :: stk) S := fun p l e s m args below meth c H locs D ρ τ lr hc hi hK hP hS hl => lv_imul hc.1 hc.2.1 hd (kk p l e s m args below meth c H locs D ρ τ lr hc hi hK hP hS hl)
theorem G_iand  {x y : Int32} (hd : decode I.2.1 pc = .ok (.iand, 1)) (kk : G X I h r S' (pc + 1) ls (.int (x &&& y) :: stk) S) : G X I h r S' pc ls (.int y :: .int x :: stk) S := fun p l e s m args below meth c H locs D ρ τ lr hc hi hK hP hS hl => lv_iand hc.1 hc.2.1 hd (kk p l e s m args below meth c H locs D ρ τ lr hc hi hK hP hS hl)
theorem G_ior  {x y : Int32} (hd : decode I.2.1 pc = .ok (.ior, 1)) (kk : G X I h r S' (pc + 1) ls (.int (x ||| y) :: stk) S) : G X I h r S' pc ls (.int y :: .int x :: stk) S := fun p l e s m args below meth c H locs D ρ τ lr hc hi hK hP hS hl => lv_ior hc.1 hc.2.1 hd (kk p l e s m args below meth c H locs D ρ τ lr hc hi hK hP hS hl)
theorem G_ixor  {x y : Int32} (hd : decode I.2.1 pc = .ok (.ixor, 1)) (kk : G X I h r S' (pc + 1) ls (.int (x ^^^ y) :: stk) S) : G X I h r S' pc ls (.int y :: .int x :: stk) S := fun p l e s m args below meth c H locs D ρ τ lr hc hi hK hP hS hl => lv_ixor hc.1 hc.2.1 hd (kk p l e s m args below meth c H locs D ρ τ lr hc hi hK hP hS hl)
theorem G_ishl  {x y : Int32} (hd : decode I.2.1 pc = .ok (.ishl, 1)) (kk : G X I h r S' (pc + 1) ls (.int (jshl x y) :: stk) S) : G X I h r S' pc ls (.int y :: .int x :: stk) S := fun p l e s m args below meth c H locs D ρ τ lr hc hi hK hP hS hl => lv_ishl hc.1 hc.2.1 hd (kk p l e s m args below meth c H locs D ρ τ lr hc hi hK hP hS hl)
theorem G_ishr  {x y : Int32} (hd : decode I.2.1 pc = .ok (.ishr, 1)) (kk : G X I h r S' (pc + 1) ls (.int (jshr x y) :: stk) S) : G X I h r S' pc ls (.int y :: .int x :: stk) S := fun p l e s m args below meth c H locs D ρ τ lr hc hi hK hP hS hl => lv_ishr hc.1 hc.2.1 hd (kk p l e s m args below meth c H locs D ρ τ lr hc hi hK hP hS hl)
theorem G_iushr  {x y : Int32} (hd : decode I.2.1 pc = .ok (.iushr, 1)) (kk : G X I h r S' (pc + 1) ls (.int (jushr x y) :: stk) S) : G X I h r S' pc ls (.int y :: .int x :: stk) S := fun p l e s m args below meth c H locs D ρ τ lr hc hi hK hP hS hl => lv_iushr hc.1 hc.2.1 hd rfl (kk p l e s m args below meth c H locs D ρ τ lr hc hi hK hP hS hl)
theorem G_idiv  {x y : Int32} (hne : ¬ y = 0) (hd : decode I.2.1 pc = .ok (.idiv, 1)) (kk : G X I h r S' (pc + 1) ls (.int (x / y) :: stk) S) : G X I h r S' pc ls (.int y :: .int x :: stk) S := fun p l e s m args below meth c H locs D ρ τ lr hc hi hK hP hS hl => lv_idiv hc.1 hc.2.1 hd hne (kk p l e s m args below meth c H locs D ρ τ lr hc hi hK hP hS hl)
theorem G_irem  {x y : Int32} (hne : ¬ y = 0) (hd : decode I.2.1 pc = .ok (.irem, 1)) (kk : G X I h r S' (pc + 1) ls (.int (jrem x y) :: stk) S) : G X I h r S' pc ls (.int y :: .int x :: stk) S := fun p l e s m args below meth c H locs D ρ τ lr hc hi hK hP hS hl => lv_irem hc.1 hc.2.1 hd hne (kk p l e s m args below meth c H locs D ρ τ lr hc hi hK hP hS hl)
theorem G_ineg  {x : Int32} (hd : decode I.2.1 pc = .ok (.ineg, 1)) (kk : G X I h r S' (pc + 1) ls (.int (-x) :: stk) S) : G X I h r S' pc ls (.int x :: stk) S := fun p l e s m args below meth c H locs D ρ τ lr hc hi hK hP hS hl => lv_ineg hc.1 hc.2.1 hd (kk p l e s m args below meth c H locs D ρ τ lr hc hi hK hP hS hl)
theorem G_ladd  {x y : Int64} (hd : decode I.2.1 pc = .ok (.ladd, 1)) (kk : G X I h r S' (pc + 1) ls (.long (x + y) :: stk) S) : G X I h r S' pc ls (.long y :: .long x :: stk) S := fun p l e s m args below meth c H locs D ρ τ lr hc hi hK hP hS hl => lv_ladd hc.1 hc.2.1 hd (kk p l e s m args below meth c H locs D ρ τ lr hc hi hK hP hS hl)
theorem G_lsub  {x y : Int64} (hd : decode I.2.1 pc = .ok (.lsub, 1)) (kk : G X I h r S' (pc + 1) ls (.long (x - y) :: stk) S) : G X I h r S' pc ls (.long y :: .long x :: stk) S := fun p l e s m args below meth c H locs D ρ τ lr hc hi hK hP hS hl => lv_lsub hc.1 hc.2.1 hd (kk p l e s m args below meth c H locs D ρ τ lr hc hi hK hP hS hl)
theorem G_lmul  {x y : Int64} (hd : decode I.2.1 pc = .ok (.lmul, 1)) (kk : G X I h r S' (pc + 1) ls (.long (x * y) :: stk) S) : G X I h r S' pc ls (.long y :: .long x :: stk) S := fun p l e s m args below meth c H locs D ρ τ lr hc hi hK hP hS hl => lv_lmul hc.1 hc.2.1 hd (kk p l e s m args below meth c H locs D ρ τ lr hc hi hK hP hS hl)
theorem G_land  {x y : Int64} (hd : decode I.2.1 pc = .ok (.land, 1)) (kk : G X I h r S' (pc + 1) ls (.long (x &&& y) :: stk) S) : G X I h r S' pc ls (.long y :: .long x :: stk) S := fun p l e s m args below meth c H locs D ρ τ lr hc hi hK hP hS hl => lv_land hc.1 hc.2.1 hd (kk p l e s m args below meth c H locs D ρ τ lr hc hi hK hP hS hl)
theorem G_lor  {x y : Int64} (hd : decode I.2.1 pc = .ok (.lor, 1)) (kk : G X I h r S' (pc + 1) ls (.long (x ||| y) :: stk) S) : G X I h r S' pc ls (.long y :: .long x :: stk) S := fun p l e s m args below meth c H locs D ρ τ lr hc hi hK hP hS hl => lv_lor hc.1 hc.2.1 hd (kk p l e s m args below meth c H locs D ρ τ lr hc hi hK hP hS hl)
theorem G_ldiv  {x y : Int64} (hne : ¬ y = 0) (hd : decode I.2.1 pc = .ok (.ldiv, 1)) (kk : G X I h r S' (pc + 1) ls (.long (x / y) :: stk) S) : G X I h r S' pc ls (.long y :: .long x :: stk) S := fun p l e s m args below meth c H locs D ρ τ lr hc hi hK hP hS hl => lv_ldiv hc.1 hc.2.1 hd hne (kk p l e s m args below meth c H locs D ρ τ lr hc hi hK hP hS hl)
theorem G_lshl  {x : Int64} {y : Int32} (hd : decode I.2.1 pc = .ok (.lshl, 1)) (kk : G X I h r S' (pc + 1) ls (.long (lshl x y) :: stk) S) : G X I h r S' pc ls (.int y :: .long x :: stk) S := fun p l e s m args below meth c H locs D ρ τ lr hc hi hK hP hS hl => lv_lshl hc.1 hc.2.1 hd rfl (kk p l e s m args below meth c H locs D ρ τ lr hc hi hK hP hS hl)
theorem G_lushr  {x : Int64} {y : Int32} (hd : decode I.2.1 pc = .ok (.lushr, 1)) (kk : G X I h r S' (pc + 1) ls (.long (lushr x y) :: stk) S) : G X I h r S' pc ls (.int y :: .long x :: stk) S := fun p l e s m args below meth c H locs D ρ τ lr hc hi hK hP hS hl => lv_lushr hc.1 hc.2.1 hd rfl (kk p l e s m args below meth c H locs D ρ τ lr hc hi hK hP hS hl)
theorem G_lcmp  {x y : Int64} (hd : decode I.2.1 pc = .ok (.lcmp, 1)) (kk : G X I h r S' (pc + 1) ls (.int (lg_cmp x y) :: stk) S) : G X I h r S' pc ls (.long y :: .long x :: stk) S := fun p l e s m args below meth c H locs D ρ τ lr hc hi hK hP hS hl => W.lcmp hc.1 hc.2.1 hd (kk p l e s m args below meth c H locs D ρ τ lr hc hi hK hP hS hl)
theorem G_i2l  {x : Int32} (hd : decode I.2.1 pc = .ok (.i2l, 1)) (kk : G X I h r S' (pc + 1) ls (.long x.toInt64 :: stk) S) : G X I h r S' pc ls (.int x :: stk) S := fun p l e s m args below meth c H locs D ρ τ lr hc hi hK hP hS hl => lv_i2l hc.1 hc.2.1 hd rfl (kk p l e s m args below meth c H locs D ρ τ lr hc hi hK hP hS hl)
theorem G_l2i  {x : Int64} (hd : decode I.2.1 pc = .ok (.l2i, 1)) (kk : G X I h r S' (pc + 1) ls (.int x.toInt32 :: stk) S) : G X I h r S' pc ls (.long x :: stk) S := fun p l e s m args below meth c H locs D ρ τ lr hc hi hK hP hS hl => lv_l2i hc.1 hc.2.1 hd rfl (kk p l e s m args below meth c H locs D ρ τ lr hc hi hK hP hS hl)
theorem G_i2b  {x : Int32} (hd : decode I.2.1 pc = .ok (.i2b, 1)) (kk : G X I h r S' (pc + 1) ls (.int x.toInt8.toInt32 :: stk) S) : G X I h r S' pc ls (.int x :: stk) S := fun p l e s m args below meth c H locs D ρ τ lr hc hi hK hP hS hl => lv_i2b hc.1 hc.2.1 hd rfl (kk p l e s m args below meth c H locs D ρ τ lr hc hi hK hP hS hl)
theorem G_dup  {va : Value} (hva : va.category = 1) (hd : decode I.2.1 pc = .ok (.dup, 1)) (kk : G X I h r S' (pc + 1) ls (va :: va :: stk) S) : G X I h r S' pc ls (va :: stk) S := fun p l e s m args below meth c H locs D ρ τ lr hc hi hK hP hS hl => lv_dup hc.1 hc.2.1 hd ((cv_cat ρ va).trans hva) (kk p l e s m args below meth c H locs D ρ τ lr hc hi hK hP hS hl)
theorem G_pop  {va : Value} (hva : va.category = 1) (hd : decode I.2.1 pc = .ok (.pop, 1)) (kk : G X I h r S' (pc + 1) ls (stk) S) : G X I h r S' pc ls (va :: stk) S := fun p l e s m args below meth c H locs D ρ τ lr hc hi hK hP hS hl => lv_pop hc.1 hc.2.1 hd ((cv_cat ρ va).trans hva) (kk p l e s m args below meth c H locs D ρ τ lr hc hi hK hP hS hl)
theorem G_dup2  {va vb : Value} (hva : va.category = 1) (hvb : vb.category = 1) (hd : decode I.2.1 pc = .ok (.dup2, 1)) (kk : G X I h r S' (pc + 1) ls (va :: vb :: va :: vb :: stk) S) : G X I h r S' pc ls (va :: vb :: stk) S := fun p l e s m args below meth c H locs D ρ τ lr hc hi hK hP hS hl => lv_dup2_11 hc.1 hc.2.1 hd ((cv_cat ρ va).trans hva) ((cv_cat ρ vb).trans hvb) (kk p l e s m args below meth c H locs D ρ τ lr hc hi hK hP hS hl)
theorem G_if_eq  {x : Int32} {off : Int} (tgt : Nat) (ht : (pc : Int) + off = (tgt : Int)) (hd : decode I.2.1 pc = .ok (.ifCond .eq off, 3)) (kt : x = 0 → G X I h r S' tgt ls stk S) (kf : ¬ x = 0 → G X I h r S' (pc + 3) ls stk S) : G X I h r S' pc ls (.int x :: stk) S := fun p l e s m args below meth c H locs D ρ τ lr hc hi hK hP hS hl => lv_if_eq hc.1 hc.2.1 hd ht (fun q => kt q p l e s m args below meth c H locs D ρ τ lr hc hi hK hP hS hl) (fun q => kf q p l e s m args below meth c H locs D ρ τ lr hc hi hK hP hS hl)
theorem G_icmp_eq  {x y : Int32} {off : Int} (tgt : Nat) (ht : (pc : Int) + off = (tgt : Int)) (hd : decode I.2.1 pc = .ok (.if_icmp .eq off, 3)) (kt : x = y → G X I h r S' tgt ls stk S) (kf : ¬ x = y → G X I h r S' (pc + 3) ls stk S) : G X I h r S' pc ls (.int y :: .int x :: stk) S := fun p l e s m args below meth c H locs D ρ τ lr hc hi hK hP hS hl => lv_icmp_eq hc.1 hc.2.1 hd ht (fun q => kt q p l e s m args below meth c H locs D ρ τ lr hc hi hK hP hS hl) (fun q => kf q p l e s m args below meth c H locs D ρ τ lr hc hi hK hP hS hl)
theorem G_if_ne  {x : Int32} {off : Int} (tgt : Nat) (ht : (pc : Int) + off = (tgt : Int)) (hd : decode I.2.1 pc = .ok (.ifCond .ne off, 3)) (kt : ¬ x = 0 → G X I h r S' tgt ls stk S) (kf : x = 0 → G X I h r S' (pc + 3) ls stk S) : G X I h r S' pc ls (.int x :: stk) S := fun p l e s m args below meth c H locs D ρ τ lr hc hi hK hP hS hl => lv_if_ne hc.1 hc.2.1 hd ht (fun q => kt q p l e s m args below meth c H locs D ρ τ lr hc hi hK hP hS hl) (fun q => kf q p l e s m args below meth c H locs D ρ τ lr hc hi hK hP hS hl)
theorem G_icmp_ne  {x y : Int32} {off : Int} (tgt : Nat) (ht : (pc : Int) + off = (tgt : Int)) (hd : decode I.2.1 pc = .ok (.if_icmp .ne off, 3)) (kt : ¬ x = y → G X I h r S' tgt ls stk S) (kf : x = y → G X I h r S' (pc + 3) ls stk S) : G X I h r S' pc ls (.int y :: .int x :: stk) S := fun p l e s m args below meth c H locs D ρ τ lr hc hi hK hP hS hl => lv_icmp_ne hc.1 hc.2.1 hd ht (fun q => kt q p l e s m args below meth c H locs D ρ τ lr hc hi hK hP hS hl) (fun q => kf q p l e s m args below meth c H locs D ρ τ lr hc hi hK hP hS hl)
theorem G_if_lt  {x : Int32} {off : Int} (tgt : Nat) (ht : (pc : Int) + off = (tgt : Int)) (hd : decode I.2.1 pc = .ok (.ifCond .lt off, 3)) (kt : x < 0 → G X I h r S' tgt ls stk S) (kf : ¬ x < 0 → G X I h r S' (pc + 3) ls stk S) : G X I h r S' pc ls (.int x :: stk) S := fun p l e s m args below meth c H locs D ρ τ lr hc hi hK hP hS hl => lv_if_lt hc.1 hc.2.1 hd ht (fun q => kt q p l e s m args below meth c H locs D ρ τ lr hc hi hK hP hS hl) (fun q => kf q p l e s m args below meth c H locs D ρ τ lr hc hi hK hP hS hl)
theorem G_icmp_lt  {x y : Int32} {off : Int} (tgt : Nat) (ht : (pc : Int) + off = (tgt : Int)) (hd : decode I.2.1 pc = .ok (.if_icmp .lt off, 3)) (kt : x < y → G X I h r S' tgt ls stk S) (kf : ¬ x < y → G X I h r S' (pc + 3) ls stk S) : G X I h r S' pc ls (.int y :: .int x :: stk) S := fun p l e s m args below meth c H locs D ρ τ lr hc hi hK hP hS hl => lv_icmp_lt hc.1 hc.2.1 hd ht (fun q => kt q p l e s m args below meth c H locs D ρ τ lr hc hi hK hP hS hl) (fun q => kf q p l e s m args below meth c H locs D ρ τ lr hc hi hK hP hS hl)
theorem G_if_ge  {x : Int32} {off : Int} (tgt : Nat) (ht : (pc : Int) + off = (tgt : Int)) (hd : decode I.2.1 pc = .ok (.ifCond .ge off, 3)) (kt : 0 ≤ x → G X I h r S' tgt ls stk S) (kf : ¬ 0 ≤ x → G X I h r S' (pc + 3) ls stk S) : G X I h r S' pc ls (.int x :: stk) S := fun p l e s m args below meth c H locs D ρ τ lr hc hi hK hP hS hl => lv_if_ge hc.1 hc.2.1 hd ht (fun q => kt q p l e s m args below meth c H locs D ρ τ lr hc hi hK hP hS hl) (fun q => kf q p l e s m args below meth c H locs D ρ τ lr hc hi hK hP hS hl)
theorem G_icmp_ge  {x y : Int32} {off : Int} (tgt : Nat) (ht : (pc : Int) + off = (tgt : Int)) (hd : decode I.2.1 pc = .ok (.if_icmp .ge off, 3)) (kt : y ≤ x → G X I h r S' tgt ls stk S) (kf : ¬ y ≤ x → G X I h r S' (pc + 3) ls stk S) : G X I h r S' pc ls (.int y :: .int x :: stk) S := fun p l e s m args below meth c H locs D ρ τ lr hc hi hK hP hS hl => lv_icmp_ge hc.1 hc.2.1 hd ht (fun q => kt q p l e s m args below meth c H locs D ρ τ lr hc hi hK hP hS hl) (fun q => kf q p l e s m args below meth c H locs D ρ τ lr hc hi hK hP hS hl)
theorem G_if_gt  {x : Int32} {off : Int} (tgt : Nat) (ht : (pc : Int) + off = (tgt : Int)) (hd : decode I.2.1 pc = .ok (.ifCond .gt off, 3)) (kt : 0 < x → G X I h r S' tgt ls stk S) (kf : ¬ 0 < x → G X I h r S' (pc + 3) ls stk S) : G X I h r S' pc ls (.int x :: stk) S := fun p l e s m args below meth c H locs D ρ τ lr hc hi hK hP hS hl => lv_if_gt hc.1 hc.2.1 hd ht (fun q => kt q p l e s m args below meth c H locs D ρ τ lr hc hi hK hP hS hl) (fun q => kf q p l e s m args below meth c H locs D ρ τ lr hc hi hK hP hS hl)
theorem G_icmp_gt  {x y : Int32} {off : Int} (tgt : Nat) (ht : (pc : Int) + off = (tgt : Int)) (hd : decode I.2.1 pc = .ok (.if_icmp .gt off, 3)) (kt : y < x → G X I h r S' tgt ls stk S) (kf : ¬ y < x → G X I h r S' (pc + 3) ls stk S) : G X I h r S' pc ls (.int y :: .int x :: stk) S := fun p l e s m args below meth c H locs D ρ τ lr hc hi hK hP hS hl => lv_icmp_gt hc.1 hc.2.1 hd ht (fun q => kt q p l e s m args below meth c H locs D ρ τ lr hc hi hK hP hS hl) (fun q => kf q p l e s m args below meth c H locs D ρ τ lr hc hi hK hP hS hl)
theorem G_if_le  {x : Int32} {off : Int} (tgt : Nat) (ht : (pc : Int) + off = (tgt : Int)) (hd : decode I.2.1 pc = .ok (.ifCond .le off, 3)) (kt : x ≤ 0 → G X I h r S' tgt ls stk S) (kf : ¬ x ≤ 0 → G X I h r S' (pc + 3) ls stk S) : G X I h r S' pc ls (.int x :: stk) S := fun p l e s m args below meth c H locs D ρ τ lr hc hi hK hP hS hl => lv_if_le hc.1 hc.2.1 hd ht (fun q => kt q p l e s m args below meth c H locs D ρ τ lr hc hi hK hP hS hl) (fun q => kf q p l e s m args below meth c H locs D ρ τ lr hc hi hK hP hS hl)
theorem G_icmp_le  {x y : Int32} {off : Int} (tgt : Nat) (ht : (pc : Int) + off = (tgt : Int)) (hd : decode I.2.1 pc = .ok (.if_icmp .le off, 3)) (kt : x ≤ y → G X I h r S' tgt ls stk S) (kf : ¬ x ≤ y → G X I h r S' (pc + 3) ls stk S) : G X I h r S' pc ls (.int y :: .int x :: stk) S := fun p l e s m args below meth c H locs D ρ τ lr hc hi hK hP hS hl => lv_icmp_le hc.1 hc.2.1 hd ht (fun q => kt q p l e s m args below meth c H locs D ρ τ lr hc hi hK hP hS hl) (fun q => kf q p l e s m args below meth c H locs D ρ τ lr hc hi hK hP hS hl)
theorem G_goto  {off : Int} (tgt : Nat) (ht : (pc : Int) + off = (tgt : Int)) (hd : decode I.2.1 pc = .ok (.goto off, 3)) (kk : G X I h r S' (tgt) ls (stk) S) : G X I h r S' pc ls stk S := fun p l e s m args below meth c H locs D ρ τ lr hc hi hK hP hS hl => lv_goto hc.1 hc.2.1 hd ht (kk p l e s m args below meth c H locs D ρ τ lr hc hi hK hP hS hl)
theorem G_tin  {dflt lo hi' : Int} {offs : Array Int} {len : Nat} {x : Int32} {off : Int} (z : Int) (hx : x.toInt = z) (tgt : Nat) (h1 : ¬ z < lo) (h2 : ¬ hi' < z) (ho : offs[(z - lo).toNat]? = some off) (ht : (pc : Int) + off = (tgt : Int)) (hd : decode I.2.1 pc = .ok (.tableswitch dflt lo hi' offs, len)) (kk : G X I h r S' (tgt) ls (stk) S) : G X I h r S' pc ls (.int x :: stk) S := fun p l e s m args below meth c H locs D ρ τ lr hc hi hK hP hS hl => lv_tableIn hc.1 hc.2.1 hd (by rw [hx]; exact h1) (by rw [hx]; exact h2) (by rw [hx]; exact ho) ht (kk p l e s m args below meth c H locs D ρ τ lr hc hi hK hP hS hl)
theorem G_tout  {dflt lo hi' : Int} {offs : Array Int} {len : Nat} {x : Int32} (hx : x.toInt < lo ∨ hi' < x.toInt) (tgt : Nat) (ht : (pc : Int) + dflt = (tgt : Int)) (hd : decode I.2.1 pc = .ok (.tableswitch dflt lo hi' offs, len)) (kk : G X I h r S' (tgt) ls (stk) S) : G X I h r S' pc ls (.int x :: stk) S := fun p l e s m args below meth c H locs D ρ τ lr hc hi hK hP hS hl => lv_tableOut hc.1 hc.2.1 hd hx ht (kk p l e s m args below meth c H locs D ρ τ lr hc hi hK hP hS hl)
theorem G_look  {dflt : Int} {ps : Array (Int × Int)} {len : Nat} {x : Int32} {off : Int} (tgt : Nat) (hp : (ps.toList.zip (ps.toList.drop 1)).all (fun (a, next) => a.1 < next.1) = true) (ho : Op.lookupswitch.offset ps.toList dflt x.toInt = off) (ht : (pc : Int) + off = (tgt : Int)) (hd : decode I.2.1 pc = .ok (.lookupswitch dflt ps, len)) (kk : G X I h r S' (tgt) ls (stk) S) : G X I h r S' pc ls (.int x :: stk) S := fun p l e s m args below meth c H locs D ρ τ lr hc hi hK hP hS hl => lv_lookup hc.1 hc.2.1 hd hp ho ht (kk p l e s m args below meth c H locs D ρ τ lr hc hi hK hP hS hl)
theorem G_sub  (ls' : List (Nat × Value)) (js : List Nat) (hj : lv_pick ls js = ls') (kk : G X I h r S' (pc) ls' (stk) S) : G X I h r S' pc ls stk S := fun p l e s m args below meth c H locs D ρ τ lr hc hi hK hP hS hl => kk p l e s m args below meth c H locs D ρ τ lr hc hi hK hP hS (lv_sub hl js (lc_pick hj))
theorem G_iaload  {k n : Nat} {i : Int32} (hk : k < X.1) (hsh : X.2 k = .inr (0, n)) (hg : ig i n = true) (hd : decode I.2.1 pc = .ok (.iaload, 1)) (kk : G X I h r S' (pc + 1) ls (.int (S k i.toNatClampNeg) :: stk) S) : G X I h r S' pc ls (.int i :: .ref k :: stk) S := fun p l e s m args below meth c H locs D ρ τ lr hc hi hK hP hS hl => va_iald hc.1 hc.2.1 hK.1 hP k 0 (sw_arr hk hsh) rfl (ig_in hg) hd (kk p l e s m args below meth c H locs D ρ τ lr hc hi hK hP hS hl)
theorem G_baload  {k n : Nat} {i : Int32} (hk : k < X.1) (hsh : X.2 k = .inr (2, n)) (hg : ig i n = true) (hd : decode I.2.1 pc = .ok (.baload, 1)) (kk : G X I h r S' (pc + 1) ls (.int (S k i.toNatClampNeg) :: stk) S) : G X I h r S' pc ls (.int i :: .ref k :: stk) S := fun p l e s m args below meth c H locs D ρ τ lr hc hi hK hP hS hl => va_bald hc.1 hc.2.1 hK.1 hP k 2 (sw_arrB hk hsh) rfl (ig_in hg) hd (kk p l e s m args below meth c H locs D ρ τ lr hc hi hK hP hS hl)
theorem G_laload  {k n : Nat} {i : Int32} (hk : k < X.1) (hsh : X.2 k = .inr (1, n)) (hg : ig i n = true) (hd : decode I.2.1 pc = .ok (.laload, 1)) (kk : G X I h r S' (pc + 1) ls (.long (lrow (S k) i.toNatClampNeg) :: stk) S) : G X I h r S' pc ls (.int i :: .ref k :: stk) S := fun p l e s m args below meth c H locs D ρ τ lr hc hi hK hP hS hl => va_lald hc.1 hc.2.1 hK.1 hP k 1 (sw_arrL hk hsh) rfl (ig_in hg) hd (kk p l e s m args below meth c H locs D ρ τ lr hc hi hK hP hS hl)
theorem G_iastore  {k n : Nat} {i x : Int32} {S1 : St} (hst : sF S k i.toNatClampNeg x = S1) (hk : k < X.1) (hsh : X.2 k = .inr (0, n)) (hg : ig i n = true) (hd : decode I.2.1 pc = .ok (.iastore, 1)) (kk : G X I h r S' (pc + 1) ls (stk) S1) : G X I h r S' pc ls (.int x :: .int i :: .ref k :: stk) S := fun p l e s m args below meth c H locs D ρ τ lr hc hi hK hP hS hl => va_iast hc.1 hc.2.1 hK.1 hP (sw_D hi) hS k 0 (sw_arr hk hsh) rfl (ig_in hg) hd (fun H1 locs1 hP1 _ hS1 => kk p l e s m args below meth c H1 locs1 D ρ τ lr hc hi hK (by rw [sw_set hk (by rw [hsh]; rfl)] at hP1; rw [← hst]; exact hP1) hS1 hl)
theorem G_bastore  {k n : Nat} {i x : Int32} {S1 : St} (hst : sF S k i.toNatClampNeg (vp_nar .byte x) = S1) (hk : k < X.1) (hsh : X.2 k = .inr (2, n)) (hg : ig i n = true) (hd : decode I.2.1 pc = .ok (.bastore, 1)) (kk : G X I h r S' (pc + 1) ls (stk) S1) : G X I h r S' pc ls (.int x :: .int i :: .ref k :: stk) S := fun p l e s m args below meth c H locs D ρ τ lr hc hi hK hP hS hl => va_bast hc.1 hc.2.1 hK.1 hP (sw_D hi) hS k 2 (sw_arrB hk hsh) rfl (ig_in hg) hd (fun H1 locs1 hP1 _ hS1 => kk p l e s m args below meth c H1 locs1 D ρ τ lr hc hi hK (by rw [sw_set hk (by rw [hsh]; rfl)] at hP1; rw [← hst]; exact hP1) hS1 hl)
theorem G_lastore  {k n : Nat} {i : Int32} {x : Int64} {S1 : St} (hst : sL S k i.toNatClampNeg x = S1) (hk : k < X.1) (hsh : X.2 k = .inr (1, n)) (hg : ig i n = true) (hd : decode I.2.1 pc = .ok (.lastore, 1)) (kk : G X I h r S' (pc + 1) ls (stk) S1) : G X I h r S' pc ls (.long x :: .int i :: .ref k :: stk) S := fun p l e s m args below meth c H locs D ρ τ lr hc hi hK hP hS hl => va_last hc.1 hc.2.1 hK.1 hP (sw_D hi) hS k 1 (sw_arrL hk hsh) rfl (ig_in hg) hd (fun H1 locs1 hP1 _ hS1 => kk p l e s m args below meth c H1 locs1 D ρ τ lr hc hi hK (by rw [sw_set hk (ce_last hsh)] at hP1; rw [← hst]; exact hP1) hS1 hl)
theorem G_alen  {k t n : Nat} (hk : k < X.1) (hsh : X.2 k = .inr (t, n)) (htt : t < 3) (hd : decode I.2.1 pc = .ok (.arraylength, 1)) (kk : G X I h r S' (pc + 1) ls (.int (Int32.ofNat n) :: stk) S) : G X I h r S' pc ls (.ref k :: stk) S := fun p l e s m args below meth c H locs D ρ τ lr hc hi hK hP hS hl => by obtain ⟨ty, hty⟩ := sty_at (τ := τ) htt; exact va_alen hc.1 hc.2.1 hK.1 hP k t (sw_arrX hk hsh) hty rfl hd (kk p l e s m args below meth c H locs D ρ τ lr hc hi hK hP hS hl)
theorem G_getI  {k ci j idx : Nat} {ks : List (Option Nat)} (hf : FL I.1.cls idx ci j) (hk : k < X.1) (hsh : X.2 k = .inl (ci, ks)) (hj : ks[j]? = some none) (hd : decode I.2.1 pc = .ok (.getfield idx, 3)) (kk : G X I h r S' (pc + 3) ls (.int (S k j) :: stk) S) : G X I h r S' pc ls (.ref k :: stk) S := fun p l e s m args below meth c H locs D ρ τ lr hc hi hK hP hS hl => by
  obtain ⟨C, T, N, h1, h2, h3, h4⟩ := hf
  exact va_get hc.1 hc.2.1 hc.2.2.2.2.2.1 h4 hc.2.2.2.2.1 hK.1 hP k (sw_obj hk hsh) h1 j h2 (hc.2.2.2.2.2.1 _ h3) (fun _ q => q) (fs_at hj) hd (by rw [fv_i hj]; exact (kk p l e s m args below meth c H locs D ρ τ lr hc hi hK hP hS hl))
theorem G_getR  {k ci j idx q0 : Nat} {ks : List (Option Nat)} (hf : FL I.1.cls idx ci j) (hk : k < X.1) (hsh : X.2 k = .inl (ci, ks)) (hj : ks[j]? = some (some q0)) (hq : (q0 == 1000) = false) (hd : decode I.2.1 pc = .ok (.getfield idx, 3)) (kk : G X I h r S' (pc + 3) ls (.ref q0 :: stk) S) : G X I h r S' pc ls (.ref k :: stk) S := fun p l e s m args below meth c H locs D ρ τ lr hc hi hK hP hS hl => by
  obtain ⟨C, T, N, h1, h2, h3, h4⟩ := hf
  exact va_get hc.1 hc.2.1 hc.2.2.2.2.2.1 h4 hc.2.2.2.2.1 hK.1 hP k (sw_obj hk hsh) h1 j h2 (hc.2.2.2.2.2.1 _ h3) (fun _ q => q) (fs_at hj) hd (by rw [fv_r hj hq]; exact (kk p l e s m args below meth c H locs D ρ τ lr hc hi hK hP hS hl))
theorem G_getM  {k ci j idx q0 : Nat} {ks : List (Option Nat)} (hq0 : (S k j).toNatClampNeg = q0) (hf : FL I.1.cls idx ci j) (hk : k < X.1) (hsh : X.2 k = .inl (ci, ks)) (hj : ks[j]? = some (some 1000)) (hd : decode I.2.1 pc = .ok (.getfield idx, 3)) (kk : G X I h r S' (pc + 3) ls (.ref q0 :: stk) S) : G X I h r S' pc ls (.ref k :: stk) S := fun p l e s m args below meth c H locs D ρ τ lr hc hi hK hP hS hl => by
  obtain ⟨C, T, N, h1, h2, h3, h4⟩ := hf
  exact va_get hc.1 hc.2.1 hc.2.2.2.2.2.1 h4 hc.2.2.2.2.1 hK.1 hP k (sw_obj hk hsh) h1 j h2 (hc.2.2.2.2.2.1 _ h3) (fun _ q => q) (fs_at hj) hd (by rw [fv_m hj, hq0]; exact (kk p l e s m args below meth c H locs D ρ τ lr hc hi hK hP hS hl))
theorem G_putI  {k ci j idx : Nat} {ks : List (Option Nat)} {v : Int32} {S1 : St} (hst : sF S k j v = S1) (hf : FP I.1.cls idx ci j .int) (hk : k < X.1) (hsh : X.2 k = .inl (ci, ks)) (hj : ks[j]? = some none) (hd : decode I.2.1 pc = .ok (.putfield idx, 3)) (kk : G X I h r S' (pc + 3) ls (stk) S1) : G X I h r S' pc ls (.int v :: .ref k :: stk) S := fun p l e s m args below meth c H locs D ρ τ lr hc hi hK hP hS hl => by
  obtain ⟨C, T, N, tf, h1, h2, h3, h4, h5, h6, h7, h8⟩ := hf
  exact va_put hc.1 hc.2.1 hc.2.2.2.2.2.1 h4 tf h5 h6 hc.2.2.2.2.1 hK.1 hP (sw_D hi) hS k (sw_obj hk hsh) h1 j h2 (hc.2.2.2.2.2.1 _ h3) (fun _ q => q) h7 h8 rfl rfl (by simpa using (List.getElem?_eq_some_iff.mp hj).1) hd (fun H1 locs1 hP1 _ hS1 => kk p l e s m args below meth c H1 locs1 D ρ τ lr hc hi hK (by rw [sw_set hk (ce_put hsh hj (by rw [fv_i hj, us_]))] at hP1; rw [← hst]; exact hP1) hS1 hl)
theorem G_putZ  {k ci j idx : Nat} {ks : List (Option Nat)} {v : Int32} {S1 : St} (hst : sF S k j v = S1) (hz : v = 0 ∨ v = 1) (hf : FP I.1.cls idx ci j .boolean) (hk : k < X.1) (hsh : X.2 k = .inl (ci, ks)) (hj : ks[j]? = some none) (hd : decode I.2.1 pc = .ok (.putfield idx, 3)) (kk : G X I h r S' (pc + 3) ls (stk) S1) : G X I h r S' pc ls (.int v :: .ref k :: stk) S := fun p l e s m args below meth c H locs D ρ τ lr hc hi hK hP hS hl => by
  obtain ⟨C, T, N, tf, h1, h2, h3, h4, h5, h6, h7, h8⟩ := hf
  exact va_put hc.1 hc.2.1 hc.2.2.2.2.2.1 h4 tf h5 h6 hc.2.2.2.2.1 hK.1 hP (sw_D hi) hS k (sw_obj hk hsh) h1 j h2 (hc.2.2.2.2.2.1 _ h3) (fun _ q => q) h7 h8 (by rcases hz with rfl | rfl <;> rfl) (by rcases hz with rfl | rfl <;> rfl) (by simpa using (List.getElem?_eq_some_iff.mp hj).1) hd (fun H1 locs1 hP1 _ hS1 => kk p l e s m args below meth c H1 locs1 D ρ τ lr hc hi hK (by rw [sw_set hk (ce_put hsh hj (by rw [fv_i hj, us_]))] at hP1; rw [← hst]; exact hP1) hS1 hl)
theorem G_putM  {k ci j idx q0 : Nat} {ks : List (Option Nat)} {C0 : String} {S1 : St} (hst : sF S k j (nI q0) = S1) (hq : q0 < 2 ^ 31) (hf : FP I.1.cls idx ci j (.object C0)) (hk : k < X.1) (hsh : X.2 k = .inl (ci, ks)) (hj : ks[j]? = some (some 1000)) (hd : decode I.2.1 pc = .ok (.putfield idx, 3)) (kk : G X I h r S' (pc + 3) ls (stk) S1) : G X I h r S' pc ls (.ref q0 :: .ref k :: stk) S := fun p l e s m args below meth c H locs D ρ τ lr hc hi hK hP hS hl => by
  obtain ⟨C, T, N, tf, h1, h2, h3, h4, h5, h6, h7, h8⟩ := hf
  exact va_put hc.1 hc.2.1 hc.2.2.2.2.2.1 h4 tf h5 h6 hc.2.2.2.2.1 hK.1 hP (sw_D hi) hS k (sw_obj hk hsh) h1 j h2 (hc.2.2.2.2.2.1 _ h3) (fun _ q => q) h7 h8 rfl rfl (by simpa using (List.getElem?_eq_some_iff.mp hj).1) hd (fun H1 locs1 hP1 _ hS1 => kk p l e s m args below meth c H1 locs1 D ρ τ lr hc hi hK (by rw [sw_set hk (ce_put hsh hj (by rw [fv_m hj, us_, nI_clamp hq]))] at hP1; rw [← hst]; exact hP1) hS1 hl)
theorem G_iret  {v : Int32} (hr : I.2.2.2 = some .int) (hd : decode I.2.1 pc = .ok (.ireturn, 1)) : G X I h (some v) S pc ls [.int v] S := fun p l e s m args below meth c H locs D ρ τ lr hc hi hK hP hS hl => W.iret hc.1 hc.2.1 (hc.2.2.1.trans hr) (fun t ht hW => ⟨⟨rfl, by rw [ht]; exact hP⟩, hS.F ht⟩) hS.2.2 hd hc.2.2.2.2.2.2
theorem G_zret  {v : Int32} (hz : v = 0 ∨ v = 1) (hr : I.2.2.2 = some .boolean) (hd : decode I.2.1 pc = .ok (.ireturn, 1)) : G X I h (some v) S pc ls [.int v] S := fun p l e s m args below meth c H locs D ρ τ lr hc hi hK hP hS hl => W.zret hc.1 hc.2.1 (hc.2.2.1.trans hr) (by rcases hz with rfl | rfl <;> rfl) (fun t ht hW => ⟨⟨rfl, by rw [ht]; exact hP⟩, hS.F ht⟩) hS.2.2 hd hc.2.2.2.2.2.2
theorem G_vret  (hr : I.2.2.2 = none) (hd : decode I.2.1 pc = .ok (.return_, 1)) : G X I h none S pc ls [] S := fun p l e s m args below meth c H locs D ρ τ lr hc hi hK hP hS hl => W.vret hc.1 hc.2.1 (hc.2.2.1.trans hr) (fun t ht hW => ⟨⟨rfl, by rw [ht]; exact hP⟩, hS.F ht⟩) hS.2.2 hd hc.2.2.2.2.2.2
theorem G_mmax  {x y : Int32} {idx : Nat} (hw : MS I.1.cls idx Lib.Math.max.name Lib.Math.max.code 2) (hh : 0 < h) (hrm : (stk.map fun v => v.category).sum ≤ 8) (hd : decode I.2.1 pc = .ok (.invokestatic idx, 3)) (kk : G X I h r S' (pc + 3) ls (.int (jmax x y) :: stk) S) : G X I h r S' pc ls (.int y :: .int x :: stk) S := fun p l e s m args below meth c H locs D ρ τ lr hc hi hK hP hS hl => va_mmax hc.1 hc.2.1 (hc.2.2.2.1.trans hl.1.symm) hc.2.2.2.2.1 (hc.2.2.2.2.2.1 _ hw.1) (hc.2.2.2.2.2.1 _ hw.2.1) (hc.2.2.2.2.2.1 _ hw.2.2.1) (hc.2.2.2.2.2.1 _ hw.2.2.2) (Nat.succ_le_of_lt hh) (rm_m hh hrm) (Nat.zero_le _) (Nat.zero_le _) hd (kk p l e s m args below meth c H locs D ρ τ lr hc hi hK hP hS hl)
theorem G_mmin  {x y : Int32} {idx : Nat} (hw : MS I.1.cls idx Lib.Math.min.name Lib.Math.min.code 2) (hh : 0 < h) (hrm : (stk.map fun v => v.category).sum ≤ 8) (hd : decode I.2.1 pc = .ok (.invokestatic idx, 3)) (kk : G X I h r S' (pc + 3) ls (.int (jmin x y) :: stk) S) : G X I h r S' pc ls (.int y :: .int x :: stk) S := fun p l e s m args below meth c H locs D ρ τ lr hc hi hK hP hS hl => va_mmin hc.1 hc.2.1 (hc.2.2.2.1.trans hl.1.symm) hc.2.2.2.2.1 (hc.2.2.2.2.2.1 _ hw.1) (hc.2.2.2.2.2.1 _ hw.2.1) (hc.2.2.2.2.2.1 _ hw.2.2.1) (hc.2.2.2.2.2.1 _ hw.2.2.2) (Nat.succ_le_of_lt hh) (rm_m hh hrm) (Nat.zero_le _) (Nat.zero_le _) hd (kk p l e s m args below meth c H locs D ρ τ lr hc hi hK hP hS hl)
theorem G_mabs  {x : Int32} {idx : Nat} (hw : MS I.1.cls idx Lib.Math.abs.name Lib.Math.abs.code 1) (hh : 0 < h) (hrm : (stk.map fun v => v.category).sum ≤ 8) (hd : decode I.2.1 pc = .ok (.invokestatic idx, 3)) (kk : G X I h r S' (pc + 3) ls (.int (jabs x) :: stk) S) : G X I h r S' pc ls (.int x :: stk) S := fun p l e s m args below meth c H locs D ρ τ lr hc hi hK hP hS hl => va_mabs hc.1 hc.2.1 (hc.2.2.2.1.trans hl.1.symm) hc.2.2.2.2.1 (hc.2.2.2.2.2.1 _ hw.1) (hc.2.2.2.2.2.1 _ hw.2.1) (hc.2.2.2.2.2.1 _ hw.2.2.1) (hc.2.2.2.2.2.1 _ hw.2.2.2) (Nat.succ_le_of_lt hh) (rm_m hh hrm) (Nat.zero_le _) (Nat.zero_le _) hd (kk p l e s m args below meth c H locs D ρ τ lr hc hi hK hP hS hl)
end GR
end
section
/-! CALLS, over G -/
def MV (J : MI) (n : Nat) : Prop := Cond.instanceMethod J.1 ∈ lw_g ∧ Cond.selects J.1.cls J.1 J.1 ∈ lw_g ∧ Cond.initialized J.1.cls ∈ lw_g ∧ Cond.code J.1 J.2.1 J.2.2.1 J.2.2.2 ∈ lw_g ∧ J.1.cls ≠ "java/lang/invoke/MethodHandle" ∧ J.1.cls ≠ "java/lang/invoke/VarHandle" ∧ (parseMethodDescriptor J.1.desc).map (fun d => d.parameters.length) = some n
def MT (J : MI) (n : Nat) : Prop := Cond.static J.1 ∈ lw_g ∧ Cond.initialized J.1.cls ∈ lw_g ∧ Cond.code J.1 J.2.1 J.2.2.1 J.2.2.2 ∈ lw_g ∧ J.1.cls ≠ "java/lang/invoke/MethodHandle" ∧ J.1.cls ≠ "java/lang/invoke/VarHandle" ∧ (parseMethodDescriptor J.1.desc).map (fun d => d.parameters.length) = some n
theorem mw_good {J : MI} (hc : Cond.code J.1 J.2.1 J.2.2.1 J.2.2.2 ∈ lw_g) : GoodIn lw_g (mw J) := fun w hw => (List.mem_cons.mp hw).elim (fun e => e ▸ lg_good _ hc) (lg_good w)
theorem pcw_blind (X : SY) (D : va_G) (ρ : Nat → Nat) (τ : Nat → ClassId) (av : List Value) (S : St) : FrameBlind (pcw X D ρ τ av S) := fun a U g mk q => ⟨q.1, q.2.1, KK.same (s := U) (U := U.calling g mk a) rfl q.2.2⟩
theorem rm_c {J : MI} {h h' : Nat} (hh : h' < h) (hm : J.2.2.1 ≤ 21) : (rmH h').frames + 1 ≤ (rmH h).frames ∧ 8 + (J.2.2.1 + 11) + (rmH h').locals ≤ (rmH h).locals := by
  refine ⟨hh, ?_⟩
  show 8 + (J.2.2.1 + 11) + 40 * h' ≤ 40 * h
  omega
theorem g_after {p : Program} {l : Launch} {e : Env} {R : Room} {s : State} {m : MethodId} {args : Array Value} {below : List Frame} {meth : Method} {c : Code} {H : Heap} {locs : List Loc} {Q : State → Prop} {X : SY} {D : va_G} {ρ : Nat → Nat} {τ : Nat → ClassId} {r1 : Option Int32} {S1 : St} {a : Array Value} {pc : Nat} {lr : Array Slot} {st0 rest : List Value}
    (hr : va_Run p l e R s m args below meth c H locs 0 0 0 0 (F0 m pc lr st0) rest (qc X D ρ τ r1 S1 a) (sA X ρ)) (hS : va_S (sA X ρ) s.heap H locs)
    (kk : ∀ (H1 : Heap) (locs1 : List Loc), va_P D clA (sw X ρ τ S1) H1 → va_S (sA X ρ) s.heap H1 locs1 → W p l e R s m args below meth c H1 locs1 0 0 Q (F0 m (pc + 3) lr ((r1.map Value.int).toList ++ rest))) : W p l e R s m args below meth c H locs 0 0 Q (F0 m pc lr st0) := by
  intro T hT X'
  obtain ⟨v, st₀, t, T', L, h0, X', hL, e1, e2, ⟨⟨hv, hb⟩, hz, hk⟩, st⟩ := hr T hT X'
  cases hv
  rw [h0] at hz hk
  obtain ⟨t2, a1, b1⟩ := kk T'.heap (locs ++ L) (by rw [e1]; exact hb)
    ⟨Nat.le_trans hS.1 (by rw [e1]; exact hz), fun q h1 h2 => by rw [e1, hk q (Nat.lt_of_lt_of_le h1 hS.1) h2]; exact hS.2.1 q h1 h2, fun q hq => by
      rcases List.mem_append.mp hq with h | h
      · exact hS.2.2 q h
      · exact hL q h⟩ T' rfl X'
  exact ⟨t2, st t2 a1, b1⟩
section GC
variable {X : SY} {I : MI} {h : Nat} {r : Option Int32} {S' : St} {pc : Nat} {ls : List (Nat × Value)} {stk : List Value} {S : St}
theorem G_callV {k ci idx n h' : Nat} {J : MI} {ks : List (Option Nat)} {r1 : Option Int32} {S1 : St} (av rest : List Value) (hM : Ct X J h' (.ref k :: av) S r1 S1) (hh : h' < h) (hm : J.2.2.1 ≤ 21) (hJ : MV J n) (hn : av.length = n) (hw : Cond.methodLink I.1.cls idx J.1 ∈ lw_g) (hk : k < X.1) (hsh : X.2 k = .inl (ci, ks)) (hcl : ∃ T N, clA[ci]? = some (J.1.cls, T, N)) (hst : stk = av.reverse ++ .ref k :: rest) (hrm : (rest.map fun v => v.category).sum ≤ 8) (hd : decode I.2.1 pc = .ok (.invokevirtual idx, 3))
    (kk : G X I h r S' (pc + 3) ls ((r1.map Value.int).toList ++ rest) S1) : G X I h r S' pc ls stk S := by
  intro p l e s m args below meth c H locs D ρ τ lr hc hi hK hP hS hl
  obtain ⟨T, N, hcl⟩ := hcl
  obtain ⟨j1, j2, j3, j4, j5⟩ := hJ
  have ht := hc.2.2.2.2.2.1
  refine g_after (X := X) (D := D) (ρ := ρ) (τ := τ) (r1 := r1) (S1 := S1) (rest := rest.map (cv ρ)) (va_runV (As := av.map (cv ρ)) (rest := rest.map (cv ρ)) (b := ρ k) (nL := I.2.2.1) (C := J.1.cls) (n := n) ⟨hc.1, hc.2.1, hc.2.2.2.1, hc.2.2.2.2.1, ht⟩ (hM l D ρ τ hi)
    ⟨callB_of n ht (mw_good j4) rfl rfl rfl (ht _ j3) (ht _ hw) j5 (rm_c hh hm), ht _ j1, ht _ j2⟩
    ⟨pcw_blind X D ρ τ _ S, va_recv hK.1 hP hcl (sw_obj hk hsh), fun U hU hW => ⟨rfl, by rw [hU]; exact hP, hK.warm hW⟩⟩ rfl (by simpa using hn) hl.1 (by rw [hst]; simp [cv]) (lv_room (by rw [cat_sum]; exact hrm)) hd ⟨Nat.zero_le _, Nat.zero_le _⟩) hS (fun H1 locs1 hP1 hS1 => ?_)
  have := kk p l e s m args below meth c H1 locs1 D ρ τ lr hc hi hK hP1 hS1 hl
  rw [List.map_append] at this
  cases r1 <;> exact this
theorem G_callS {idx n h' : Nat} {J : MI} {r1 : Option Int32} {S1 : St} (av rest : List Value) (hM : Ct X J h' av S r1 S1) (hh : h' < h) (hm : J.2.2.1 ≤ 21) (hJ : MT J n) (hn : av.length = n) (hw : Cond.methodLink I.1.cls idx J.1 ∈ lw_g) (hst : stk = av.reverse ++ rest) (hrm : (rest.map fun v => v.category).sum ≤ 8) (hd : decode I.2.1 pc = .ok (.invokestatic idx, 3))
    (kk : G X I h r S' (pc + 3) ls ((r1.map Value.int).toList ++ rest) S1) : G X I h r S' pc ls stk S := by
  intro p l e s m args below meth c H locs D ρ τ lr hc hi hK hP hS hl
  obtain ⟨j1, j3, j4, j5⟩ := hJ
  have ht := hc.2.2.2.2.2.1
  refine g_after (X := X) (D := D) (ρ := ρ) (τ := τ) (r1 := r1) (S1 := S1) (rest := rest.map (cv ρ)) (va_runS (As := av.map (cv ρ)) (rest := rest.map (cv ρ)) (nL := I.2.2.1) (n := n) ⟨hc.1, hc.2.1, hc.2.2.2.1, hc.2.2.2.2.1, ht⟩ (hM l D ρ τ hi)
    ⟨callB_of n ht (mw_good j4) rfl rfl rfl (ht _ j3) (ht _ hw) j5 (rm_c hh hm), ht _ j1⟩
    ⟨pcw_blind X D ρ τ _ S, fun U hU hW => ⟨rfl, by rw [hU]; exact hP, hK.warm hW⟩⟩ rfl (by simpa using hn) hl.1 (by rw [hst]; simp [cv]) (lv_room (by rw [cat_sum]; exact hrm)) hd ⟨Nat.zero_le _, Nat.zero_le _⟩) hS (fun H1 locs1 hP1 hS1 => ?_)
  have := kk p l e s m args below meth c H1 locs1 D ρ τ lr hc hi hK hP1 hS1 hl
  rw [List.map_append] at this
  cases r1 <;> exact this
theorem G_callSN {idx n h' : Nat} {J : MI} {host : String} {r1 : Option Int32} {S1 : St} (av rest : List Value) (hM : Ct X J h' av S r1 S1) (hh : h' < h) (hm : J.2.2.1 ≤ 21) (hJ : MT J n) (hn : av.length = n) (hw : nW = Cond.methodLinkNest I.1.cls idx J.1 host) (hst : stk = av.reverse ++ rest) (hrm : (rest.map fun v => v.category).sum ≤ 8) (hd : decode I.2.1 pc = .ok (.invokestatic idx, 3))
    (kk : G X I h r S' (pc + 3) ls ((r1.map Value.int).toList ++ rest) S1) : G X I h r S' pc ls stk S := by
  intro p l e s m args below meth c H locs D ρ τ lr hc hi hK hP hS hl
  obtain ⟨j1, j3, j4, j5⟩ := hJ
  have ht := hc.2.2.2.2.2.1
  have hcb : ∀ w ∈ mw J, ∀ (a' : Array Value) (U : State), s.WarmedH U.vm → w.before a' U = true := pay_in ht (mw_good j4)
  refine g_after (X := X) (D := D) (ρ := ρ) (τ := τ) (r1 := r1) (S1 := S1) (rest := rest.map (cv ρ)) (va_runSN (As := av.map (cv ρ)) (rest := rest.map (cv ρ)) (nL := I.2.2.1) (n := n) (host := host) ⟨hc.1, hc.2.1, hc.2.2.2.1, hc.2.2.2.2.1, ht⟩ (hM l D ρ τ hi)
    ⟨⟨⟨rfl, rfl, (rm_c hh hm).1, (rm_c hh hm).2, hcb, List.mem_cons_self⟩, ht _ j4, ht _ j3, ⟨j5.1, j5.2.1⟩, fun sig hsig => by
      have h2 := j5.2.2
      rw [hsig] at h2
      exact (Option.some.inj h2).symm, by rw [← hw]; exact va_Nw.use rfl hK.2⟩, ht _ j1, trivial⟩
    ⟨pcw_blind X D ρ τ _ S, fun U hU hW => ⟨rfl, by rw [hU]; exact hP, hK.warm hW⟩⟩ rfl (by simpa using hn) hl.1 (by rw [hst]; simp [cv]) (lv_room (by rw [cat_sum]; exact hrm)) hd ⟨Nat.zero_le _, Nat.zero_le _⟩) hS (fun H1 locs1 hP1 hS1 => ?_)
  have := kk p l e s m args below meth c H1 locs1 D ρ τ lr hc hi hK hP1 hS1 hl
  rw [List.map_append] at this
  cases r1 <;> exact this
def sC (S : St) (k0 k1 sp dp n : Nat) : St := sR S k1 (va_cpy (S k0) (S k1) sp dp n)
def AC (own : String) (idx : Nat) : Prop := Cond.methodLink own idx arraycopyName ∈ lw_g ∧ Cond.native arraycopyName ∈ lw_g ∧ Cond.static arraycopyName ∈ lw_g ∧ Cond.initialized "java/lang/System" ∈ lw_g
theorem G_copy {idx k0 k1 n0 n1 : Nat} {sp dp n : Int32} {S1 : St} (hst : sC S k0 k1 sp.toNatClampNeg dp.toNatClampNeg n.toNatClampNeg = S1) (hw : AC I.1.cls idx) (hh : 0 < h) (hk0 : k0 < X.1) (hk1 : k1 < X.1) (hs0 : X.2 k0 = .inr (0, n0)) (hs1 : X.2 k1 = .inr (0, n1)) (h1 : ¬ sp < 0) (h2 : ¬ dp < 0) (h3 : ¬ n < 0) (h4 : sp.toNatClampNeg + n.toNatClampNeg ≤ n0) (h5 : dp.toNatClampNeg + n.toNatClampNeg ≤ n1) (hrm : (stk.map fun v => v.category).sum ≤ 8) (hd : decode I.2.1 pc = .ok (.invokestatic idx, 3))
    (kk : G X I h r S' (pc + 3) ls stk S1) : G X I h r S' pc ls (.int n :: .int dp :: .ref k1 :: .int sp :: .ref k0 :: stk) S := by
  intro p l e s m args below meth c H locs D ρ τ lr hc hi hK hP hS hl
  have ht := hc.2.2.2.2.2.1
  exact va_copyi hc.1 hc.2.1 (hc.2.2.2.1.trans hl.1.symm) hc.2.2.2.2.1 (ht _ hw.1) (ht _ hw.2.1) (ht _ hw.2.2.1) (ht _ hw.2.2.2) hK.1 hP (sw_D hi) hS k0 k1 0 0 (sw_arr hk0 hs0) (sw_arr hk1 hs1) rfl rfl rfl h1 h2 h3 h4 h5 (fun _ _ => rfl) (Nat.succ_le_of_lt hh) (by
    rw [cat_sum]
    have : nativeFrameWords "java/lang/System" "arraycopy" 5 + 11 ≤ 32 := by decide
    show _ ≤ 40 * h
    omega) hd (fun H1 locs1 hP1 _ hS1 => kk p l e s m args below meth c H1 locs1 D ρ τ lr hc hi hK (by rw [sw_set hk1 (by rw [hs1]; rfl)] at hP1; rw [← hst]; exact hP1) hS1 hl)
end GC
/-! what the printed functions of methods are opened with -/
theorem ob_g {α : Type} {c : Prop} [Decidable c] {a : Option α} {x : α} (h : (if c then a else none) = some x) : c ∧ a = some x := by
  by_cases hc : c
  · rw [if_pos hc] at h; exact ⟨hc, h⟩
  · rw [if_neg hc] at h; cases h
theorem ob_b {α β : Type} {a : Option α} {k : α → Option β} {x : β} (h : a.bind k = some x) : ∃ y, a = some y ∧ k y = some x := Option.bind_eq_some_iff.mp h
theorem ob_s {α β : Type} {a : α} {k : α → Option β} {x : β} (h : (some a).bind k = some x) : ∃ y, a = y ∧ k y = some x := ⟨a, rfl, h⟩
theorem ob_t {α : Type} {c : Prop} [Decidable c] {a b : Option α} {x : α} (h : (if c then a else b) = some x) (hc : c) : a = some x := by rw [if_pos hc] at h; exact h
theorem ob_f {α : Type} {c : Prop} [Decidable c] {a b : Option α} {x : α} (h : (if c then a else b) = some x) (hc : ¬ c) : b = some x := by rw [if_neg hc] at h; exact h
theorem ob_n {α : Type} {c : Prop} [Decidable c] {a b : Option α} {x : α} (h : (if ¬ c then a else b) = some x) (hc : c) : b = some x := by rw [if_neg (fun q => q hc)] at h; exact h
end
section
theorem ch_of {l : List (Nat × Cond)} (h : l.all (fun q => decide (lw_tbl[q.1]? = some q.2) && goodWord q.2) = true) (j : Nat) {i : Nat} {w : Cond} (hj : l[j]? = some (i, w)) : w ∈ lw_g := by
  have h1 := List.all_eq_true.mp h _ (List.mem_of_getElem? hj)
  simp only [Bool.and_eq_true, decide_eq_true_eq] at h1
  exact lg_of i h1.1 h1.2
set_option maxRecDepth 100000 in
theorem cd_0 : Cond.code ⟨"PutOffWicks$Almanac","pass","(LPutOffWicks$Parish;I)I"⟩ prog_2_method_2_code 6 (Option.some Jvm.ClassFile.FieldType.int) ∈ lw_g := lg_of 608 rfl rfl
set_option maxRecDepth 100000 in
theorem cd_1 : Cond.code ⟨"PutOffWicks$Almanac","passOver","(LPutOffWicks$Parish;I)V"⟩ prog_2_method_3_code 7 (Option.none : Option Jvm.ClassFile.FieldType) ∈ lw_g := lg_of 619 rfl rfl
set_option maxRecDepth 100000 in
theorem cd_2 : Cond.code ⟨"java/util/Arrays","fill","([II)V"⟩ prog_19_method_103_code 4 (Option.none : Option Jvm.ClassFile.FieldType) ∈ lw_g := lg_of 850 rfl rfl
set_option maxRecDepth 100000 in
theorem cd_3 : Cond.code ⟨"java/util/Arrays","fill","([JJ)V"⟩ prog_19_method_101_code 5 (Option.none : Option Jvm.ClassFile.FieldType) ∈ lw_g := lg_of 989 rfl rfl
set_option maxRecDepth 100000 in
theorem cd_4 : Cond.code ⟨"java/lang/Integer","bitCount","(I)I"⟩ prog_15_method_49_code 1 (Option.some Jvm.ClassFile.FieldType.int) ∈ lw_g := lg_of 611 rfl rfl
set_option maxRecDepth 100000 in
theorem cd_5 : Cond.code ⟨"java/lang/Long","bitCount","(J)I"⟩ prog_16_method_50_code 2 (Option.some Jvm.ClassFile.FieldType.int) ∈ lw_g := lg_of 997 rfl rfl
set_option maxRecDepth 100000 in
theorem cd_6 : Cond.code ⟨"java/lang/Math","abs","(I)I"⟩ prog_17_method_59_code 1 (Option.some Jvm.ClassFile.FieldType.int) ∈ lw_g := lg_of 838 rfl rfl
set_option maxRecDepth 100000 in
theorem cd_7 : Cond.code ⟨"java/lang/Math","max","(II)I"⟩ prog_17_method_65_code 2 (Option.some Jvm.ClassFile.FieldType.int) ∈ lw_g := lg_of 672 rfl rfl
set_option maxRecDepth 100000 in
theorem cd_8 : Cond.code ⟨"java/lang/Math","min","(II)I"⟩ prog_17_method_69_code 2 (Option.some Jvm.ClassFile.FieldType.int) ∈ lw_g := lg_of 669 rfl rfl
set_option maxRecDepth 100000 in
theorem cd_9 : Cond.code ⟨"PutOffWicks$Law","add","(II)I"⟩ prog_3_method_10_code 3 (Option.some Jvm.ClassFile.FieldType.int) ∈ lw_g := lg_of 512 rfl rfl
set_option maxRecDepth 100000 in
theorem cd_10 : Cond.code ⟨"PutOffWicks$Law","copyFrom","(LPutOffWicks$Law;)V"⟩ prog_3_method_2_code 2 (Option.none : Option Jvm.ClassFile.FieldType) ∈ lw_g := lg_of 565 rfl rfl
set_option maxRecDepth 100000 in
theorem cd_11 : Cond.code ⟨"PutOffWicks$Law","isFact","(I)Z"⟩ prog_3_method_9_code 1 (Option.some Jvm.ClassFile.FieldType.boolean) ∈ lw_g := lg_of 540 rfl rfl
set_option maxRecDepth 100000 in
theorem cd_12 : Cond.code ⟨"PutOffWicks$Law","land","(I)V"⟩ prog_3_method_11_code 2 (Option.none : Option Jvm.ClassFile.FieldType) ∈ lw_g := lg_of 556 rfl rfl
set_option maxRecDepth 100000 in
theorem cd_13 : Cond.code ⟨"PutOffWicks$Law","opens","(I)Z"⟩ prog_3_method_8_code 2 (Option.some Jvm.ClassFile.FieldType.boolean) ∈ lw_g := lg_of 524 rfl rfl
set_option maxRecDepth 100000 in
theorem cd_14 : Cond.code ⟨"PutOffWicks$Law","read","()I"⟩ prog_3_method_3_code 4 (Option.some Jvm.ClassFile.FieldType.int) ∈ lw_g := lg_of 492 rfl rfl
set_option maxRecDepth 100000 in
theorem cd_15 : Cond.code ⟨"PutOffWicks$Law","readCondition","(I)V"⟩ prog_3_method_4_code 6 (Option.none : Option Jvm.ClassFile.FieldType) ∈ lw_g := lg_of 548 rfl rfl
set_option maxRecDepth 100000 in
theorem cd_16 : Cond.code ⟨"PutOffWicks$Law","readFactor","(I)V"⟩ prog_3_method_7_code 3 (Option.none : Option Jvm.ClassFile.FieldType) ∈ lw_g := lg_of 520 rfl rfl
set_option maxRecDepth 100000 in
theorem cd_17 : Cond.code ⟨"PutOffWicks$Law","readTest","(I)V"⟩ prog_3_method_5_code 4 (Option.none : Option Jvm.ClassFile.FieldType) ∈ lw_g := lg_of 552 rfl rfl
set_option maxRecDepth 100000 in
theorem cd_18 : Cond.code ⟨"PutOffWicks$Law","readValue","(I)V"⟩ prog_3_method_6_code 9 (Option.none : Option Jvm.ClassFile.FieldType) ∈ lw_g := lg_of 516 rfl rfl
set_option maxRecDepth 100000 in
theorem cd_19 : Cond.code ⟨"PutOffWicksModel","areHome","(I)Z"⟩ prog_14_method_78_code 3 (Option.some Jvm.ClassFile.FieldType.boolean) ∈ lw_g := lg_of 1527 rfl rfl
set_option maxRecDepth 100000 in
theorem cd_20 : Cond.code ⟨"PutOffWicksModel","beginsText","(I)V"⟩ prog_14_method_35_code 2 (Option.none : Option Jvm.ClassFile.FieldType) ∈ lw_g := lg_of 1258 rfl rfl
set_option maxRecDepth 100000 in
theorem cd_21 : Cond.code ⟨"PutOffWicksModel","bits","(I)I"⟩ prog_14_method_7_code 3 (Option.some Jvm.ClassFile.FieldType.int) ∈ lw_g := lg_of 1548 rfl rfl
set_option maxRecDepth 100000 in
theorem cd_22 : Cond.code ⟨"PutOffWicksModel","brightOf","(I)I"⟩ prog_14_method_97_code 4 (Option.some Jvm.ClassFile.FieldType.int) ∈ lw_g := lg_of 1608 rfl rfl
set_option maxRecDepth 100000 in
theorem cd_23 : Cond.code ⟨"PutOffWicksModel","brightest","(III)I"⟩ prog_14_method_98_code 7 (Option.some Jvm.ClassFile.FieldType.int) ∈ lw_g := lg_of 1604 rfl rfl
set_option maxRecDepth 100000 in
theorem cd_24 : Cond.code ⟨"PutOffWicksModel","burns","(II)V"⟩ prog_14_method_48_code 3 (Option.none : Option Jvm.ClassFile.FieldType) ∈ lw_g := lg_of 1400 rfl rfl
set_option maxRecDepth 100000 in
theorem cd_25 : Cond.code ⟨"PutOffWicksModel","byLaw","(III)I"⟩ prog_14_method_39_code 6 (Option.some Jvm.ClassFile.FieldType.int) ∈ lw_g := lg_of 1396 rfl rfl
set_option maxRecDepth 100000 in
theorem cd_26 : Cond.code ⟨"PutOffWicksModel","byWhen","(II)I"⟩ prog_14_method_58_code 5 (Option.some Jvm.ClassFile.FieldType.int) ∈ lw_g := lg_of 1433 rfl rfl
set_option maxRecDepth 100000 in
theorem cd_27 : Cond.code ⟨"PutOffWicksModel","chain","(I)I"⟩ prog_14_method_63_code 4 (Option.some Jvm.ClassFile.FieldType.int) ∈ lw_g := lg_of 1453 rfl rfl
set_option maxRecDepth 100000 in
theorem cd_28 : Cond.code ⟨"PutOffWicksModel","changesRow","(II)V"⟩ prog_14_method_84_code 4 (Option.none : Option Jvm.ClassFile.FieldType) ∈ lw_g := lg_of 1564 rfl rfl
set_option maxRecDepth 100000 in
theorem cd_29 : Cond.code ⟨"PutOffWicksModel","check","(I)I"⟩ prog_14_method_105_code 3 (Option.some Jvm.ClassFile.FieldType.int) ∈ lw_g := lg_of 1636 rfl rfl
set_option maxRecDepth 100000 in
theorem cd_30 : Cond.code ⟨"PutOffWicksModel","closesSums","(Z)V"⟩ prog_14_method_25_code 2 (Option.none : Option Jvm.ClassFile.FieldType) ∈ lw_g := lg_of 1305 rfl rfl
set_option maxRecDepth 100000 in
theorem cd_31 : Cond.code ⟨"PutOffWicksModel","comesOut","(I)I"⟩ prog_14_method_75_code 3 (Option.some Jvm.ClassFile.FieldType.int) ∈ lw_g := lg_of 1523 rfl rfl
set_option maxRecDepth 100000 in
theorem cd_32 : Cond.code ⟨"PutOffWicksModel","copies","([I[I)V"⟩ prog_14_method_8_code 3 (Option.none : Option Jvm.ClassFile.FieldType) ∈ lw_g := lg_of 1421 rfl rfl
set_option maxRecDepth 100000 in
theorem cd_33 : Cond.code ⟨"PutOffWicksModel","cord","(II)I"⟩ prog_14_method_93_code 7 (Option.some Jvm.ClassFile.FieldType.int) ∈ lw_g := lg_of 1588 rfl rfl
set_option maxRecDepth 100000 in
theorem cd_34 : Cond.code ⟨"PutOffWicksModel","count","(I)I"⟩ prog_14_method_107_code 2 (Option.some Jvm.ClassFile.FieldType.int) ∈ lw_g := lg_of 1640 rfl rfl
set_option maxRecDepth 100000 in
theorem cd_35 : Cond.code ⟨"PutOffWicksModel","dark","(I)I"⟩ prog_14_method_59_code 4 (Option.some Jvm.ClassFile.FieldType.int) ∈ lw_g := lg_of 1437 rfl rfl
set_option maxRecDepth 100000 in
theorem cd_36 : Cond.code ⟨"PutOffWicksModel","dayGoes","()V"⟩ prog_14_method_52_code 2 (Option.none : Option Jvm.ClassFile.FieldType) ∈ lw_g := lg_of 1361 rfl rfl
set_option maxRecDepth 100000 in
theorem cd_37 : Cond.code ⟨"PutOffWicksModel","days","(I)I"⟩ prog_14_method_54_code 2 (Option.some Jvm.ClassFile.FieldType.int) ∈ lw_g := lg_of 1353 rfl rfl
set_option maxRecDepth 100000 in
theorem cd_38 : Cond.code ⟨"PutOffWicksModel","daysGo","(I)V"⟩ prog_14_method_53_code 3 (Option.none : Option Jvm.ClassFile.FieldType) ∈ lw_g := lg_of 1357 rfl rfl
set_option maxRecDepth 100000 in
theorem cd_39 : Cond.code ⟨"PutOffWicksModel","daysOf","(I)I"⟩ prog_14_method_60_code 4 (Option.some Jvm.ClassFile.FieldType.int) ∈ lw_g := lg_of 1445 rfl rfl
set_option maxRecDepth 100000 in
theorem cd_40 : Cond.code ⟨"PutOffWicksModel","draws","()I"⟩ prog_14_method_44_code 1 (Option.some Jvm.ClassFile.FieldType.int) ∈ lw_g := lg_of 1381 rfl rfl
set_option maxRecDepth 100000 in
theorem cd_41 : Cond.code ⟨"PutOffWicksModel","endsPiece","()V"⟩ prog_14_method_29_code 1 (Option.none : Option Jvm.ClassFile.FieldType) ∈ lw_g := lg_of 1325 rfl rfl
set_option maxRecDepth 100000 in
theorem cd_42 : Cond.code ⟨"PutOffWicksModel","factOf","(I)I"⟩ prog_14_method_23_code 1 (Option.some Jvm.ClassFile.FieldType.int) ∈ lw_g := lg_of 1298 rfl rfl
set_option maxRecDepth 100000 in
theorem cd_43 : Cond.code ⟨"PutOffWicksModel","feed","(IIIII)I"⟩ prog_14_method_13_code 6 (Option.some Jvm.ClassFile.FieldType.int) ∈ lw_g := lg_of 1246 rfl rfl
set_option maxRecDepth 100000 in
theorem cd_44 : Cond.code ⟨"PutOffWicksModel","feels","(I)V"⟩ prog_14_method_47_code 2 (Option.none : Option Jvm.ClassFile.FieldType) ∈ lw_g := lg_of 1369 rfl rfl
set_option maxRecDepth 100000 in
theorem cd_45 : Cond.code ⟨"PutOffWicksModel","forEver","()I"⟩ prog_14_method_81_code 4 (Option.some Jvm.ClassFile.FieldType.int) ∈ lw_g := lg_of 1539 rfl rfl
set_option maxRecDepth 100000 in
theorem cd_46 : Cond.code ⟨"PutOffWicksModel","forgiven","(I)I"⟩ prog_14_method_101_code 6 (Option.some Jvm.ClassFile.FieldType.int) ∈ lw_g := lg_of 1616 rfl rfl
set_option maxRecDepth 100000 in
theorem cd_47 : Cond.code ⟨"PutOffWicksModel","goesOn","(I)V"⟩ prog_14_method_51_code 7 (Option.none : Option Jvm.ClassFile.FieldType) ∈ lw_g := lg_of 1365 rfl rfl
set_option maxRecDepth 100000 in
theorem cd_48 : Cond.code ⟨"PutOffWicksModel","halves","(II)I"⟩ prog_14_method_99_code 8 (Option.some Jvm.ClassFile.FieldType.int) ∈ lw_g := lg_of 1612 rfl rfl
set_option maxRecDepth 100000 in
theorem cd_49 : Cond.code ⟨"PutOffWicksModel","has","(II)Z"⟩ prog_14_method_6_code 2 (Option.some Jvm.ClassFile.FieldType.boolean) ∈ lw_g := lg_of 1464 rfl rfl
set_option maxRecDepth 100000 in
theorem cd_50 : Cond.code ⟨"PutOffWicksModel","hasOpenSum","(I)Z"⟩ prog_14_method_27_code 3 (Option.some Jvm.ClassFile.FieldType.boolean) ∈ lw_g := lg_of 1313 rfl rfl
set_option maxRecDepth 100000 in
theorem cd_51 : Cond.code ⟨"PutOffWicksModel","here","()I"⟩ prog_14_method_15_code 1 (Option.some Jvm.ClassFile.FieldType.int) ∈ lw_g := lg_of 1266 rfl rfl
set_option maxRecDepth 100000 in
theorem cd_52 : Cond.code ⟨"PutOffWicksModel","holdsAny","(I)Z"⟩ prog_14_method_40_code 3 (Option.some Jvm.ClassFile.FieldType.boolean) ∈ lw_g := lg_of 1385 rfl rfl
set_option maxRecDepth 100000 in
theorem cd_53 : Cond.code ⟨"PutOffWicksModel","hoursOfRow","(I)I"⟩ prog_14_method_86_code 5 (Option.some Jvm.ClassFile.FieldType.int) ∈ lw_g := lg_of 1556 rfl rfl
set_option maxRecDepth 100000 in
theorem cd_54 : Cond.code ⟨"PutOffWicksModel","in","(III)Z"⟩ prog_14_method_2_code 3 (Option.some Jvm.ClassFile.FieldType.boolean) ∈ lw_g := lg_of 1242 rfl rfl
set_option maxRecDepth 100000 in
theorem cd_55 : Cond.code ⟨"PutOffWicksModel","isBetter","(II)Z"⟩ prog_14_method_100_code 5 (Option.some Jvm.ClassFile.FieldType.boolean) ∈ lw_g := lg_of 1620 rfl rfl
set_option maxRecDepth 100000 in
theorem cd_56 : Cond.code ⟨"PutOffWicksModel","isDigit","()Z"⟩ prog_14_method_16_code 1 (Option.some Jvm.ClassFile.FieldType.boolean) ∈ lw_g := lg_of 1287 rfl rfl
set_option maxRecDepth 100000 in
theorem cd_57 : Cond.code ⟨"PutOffWicksModel","isDone","(I)V"⟩ prog_14_method_49_code 2 (Option.none : Option Jvm.ClassFile.FieldType) ∈ lw_g := lg_of 1407 rfl rfl
set_option maxRecDepth 100000 in
theorem cd_58 : Cond.code ⟨"PutOffWicksModel","isLeft","(I)Z"⟩ prog_14_method_10_code 2 (Option.some Jvm.ClassFile.FieldType.boolean) ∈ lw_g := lg_of 1235 rfl rfl
set_option maxRecDepth 100000 in
theorem cd_59 : Cond.code ⟨"PutOffWicksModel","isPutOff","(I)V"⟩ prog_14_method_50_code 2 (Option.none : Option Jvm.ClassFile.FieldType) ∈ lw_g := lg_of 1411 rfl rfl
set_option maxRecDepth 100000 in
theorem cd_60 : Cond.code ⟨"PutOffWicksModel","isSeen","(II)Z"⟩ prog_14_method_94_code 3 (Option.some Jvm.ClassFile.FieldType.boolean) ∈ lw_g := lg_of 1600 rfl rfl
set_option maxRecDepth 100000 in
theorem cd_61 : Cond.code ⟨"PutOffWicksModel","isThing","(I)Z"⟩ prog_14_method_9_code 2 (Option.some Jvm.ClassFile.FieldType.boolean) ∈ lw_g := lg_of 1239 rfl rfl
set_option maxRecDepth 100000 in
theorem cd_62 : Cond.code ⟨"PutOffWicksModel","jumps","(I)V"⟩ prog_14_method_31_code 2 (Option.none : Option Jvm.ClassFile.FieldType) ∈ lw_g := lg_of 1333 rfl rfl
set_option maxRecDepth 100000 in
theorem cd_63 : Cond.code ⟨"PutOffWicksModel","keep","()I"⟩ prog_14_method_103_code 1 (Option.some Jvm.ClassFile.FieldType.int) ∈ lw_g := lg_of 1628 rfl rfl
set_option maxRecDepth 100000 in
theorem cd_64 : Cond.code ⟨"PutOffWicksModel","knowing","(II)I"⟩ prog_14_method_91_code 5 (Option.some Jvm.ClassFile.FieldType.int) ∈ lw_g := lg_of 1576 rfl rfl
set_option maxRecDepth 100000 in
theorem cd_65 : Cond.code ⟨"PutOffWicksModel","lands","(Z)V"⟩ prog_14_method_30_code 3 (Option.none : Option Jvm.ClassFile.FieldType) ∈ lw_g := lg_of 1329 rfl rfl
set_option maxRecDepth 100000 in
theorem cd_66 : Cond.code ⟨"PutOffWicksModel","law","(I)I"⟩ prog_14_method_36_code 4 (Option.some Jvm.ClassFile.FieldType.int) ∈ lw_g := lg_of 1254 rfl rfl
set_option maxRecDepth 100000 in
theorem cd_67 : Cond.code ⟨"PutOffWicksModel","leastLater","(II)I"⟩ prog_14_method_89_code 5 (Option.some Jvm.ClassFile.FieldType.int) ∈ lw_g := lg_of 1584 rfl rfl
set_option maxRecDepth 100000 in
theorem cd_68 : Cond.code ⟨"PutOffWicksModel","leftOf","(I)I"⟩ prog_14_method_45_code 4 (Option.some Jvm.ClassFile.FieldType.int) ∈ lw_g := lg_of 1373 rfl rfl
set_option maxRecDepth 100000 in
theorem cd_69 : Cond.code ⟨"PutOffWicksModel","light","(I)I"⟩ prog_14_method_68_code 2 (Option.some Jvm.ClassFile.FieldType.int) ∈ lw_g := lg_of 1472 rfl rfl
set_option maxRecDepth 100000 in
theorem cd_70 : Cond.code ⟨"PutOffWicksModel","lightOf","(I)I"⟩ prog_14_method_67_code 4 (Option.some Jvm.ClassFile.FieldType.int) ∈ lw_g := lg_of 1476 rfl rfl
set_option maxRecDepth 100000 in
theorem cd_71 : Cond.code ⟨"PutOffWicksModel","lit","(IZ)Z"⟩ prog_14_method_11_code 3 (Option.some Jvm.ClassFile.FieldType.boolean) ∈ lw_g := lg_of 1231 rfl rfl
set_option maxRecDepth 100000 in
theorem cd_72 : Cond.code ⟨"PutOffWicksModel","max","(II)I"⟩ prog_14_method_4_code 2 (Option.some Jvm.ClassFile.FieldType.int) ∈ lw_g := lg_of 1403 rfl rfl
set_option maxRecDepth 100000 in
theorem cd_73 : Cond.code ⟨"PutOffWicksModel","median","()I"⟩ prog_14_method_70_code 6 (Option.some Jvm.ClassFile.FieldType.int) ∈ lw_g := lg_of 1484 rfl rfl
set_option maxRecDepth 100000 in
theorem cd_74 : Cond.code ⟨"PutOffWicksModel","min","(II)I"⟩ prog_14_method_3_code 2 (Option.some Jvm.ClassFile.FieldType.int) ∈ lw_g := lg_of 1414 rfl rfl
set_option maxRecDepth 100000 in
theorem cd_75 : Cond.code ⟨"PutOffWicksModel","mustEnd","()I"⟩ prog_14_method_82_code 4 (Option.some Jvm.ClassFile.FieldType.int) ∈ lw_g := lg_of 1544 rfl rfl
set_option maxRecDepth 100000 in
theorem cd_76 : Cond.code ⟨"PutOffWicksModel","nextRow","(I)Z"⟩ prog_14_method_85_code 6 (Option.some Jvm.ClassFile.FieldType.boolean) ∈ lw_g := lg_of 1560 rfl rfl
set_option maxRecDepth 100000 in
theorem cd_77 : Cond.code ⟨"PutOffWicksModel","night","(II)I"⟩ prog_14_method_88_code 7 (Option.some Jvm.ClassFile.FieldType.int) ∈ lw_g := lg_of 1568 rfl rfl
set_option maxRecDepth 100000 in
theorem cd_78 : Cond.code ⟨"PutOffWicksModel","notes","(II)V"⟩ prog_14_method_20_code 3 (Option.none : Option Jvm.ClassFile.FieldType) ∈ lw_g := lg_of 1295 rfl rfl
set_option maxRecDepth 100000 in
theorem cd_79 : Cond.code ⟨"PutOffWicksModel","octet","(I)I"⟩ prog_14_method_14_code 2 (Option.some Jvm.ClassFile.FieldType.int) ∈ lw_g := lg_of 1535 rfl rfl
set_option maxRecDepth 100000 in
theorem cd_80 : Cond.code ⟨"PutOffWicksModel","oftenTill","(I)I"⟩ prog_14_method_79_code 4 (Option.some Jvm.ClassFile.FieldType.int) ∈ lw_g := lg_of 1519 rfl rfl
set_option maxRecDepth 100000 in
theorem cd_81 : Cond.code ⟨"PutOffWicksModel","oldest","()I"⟩ prog_14_method_62_code 3 (Option.some Jvm.ClassFile.FieldType.int) ∈ lw_g := lg_of 1449 rfl rfl
set_option maxRecDepth 100000 in
theorem cd_82 : Cond.code ⟨"PutOffWicksModel","opens","(I)Z"⟩ prog_14_method_21_code 2 (Option.some Jvm.ClassFile.FieldType.boolean) ∈ lw_g := lg_of 1282 rfl rfl
set_option maxRecDepth 100000 in
theorem cd_83 : Cond.code ⟨"PutOffWicksModel","orders","()I"⟩ prog_14_method_65_code 5 (Option.some Jvm.ClassFile.FieldType.int) ∈ lw_g := lg_of 1457 rfl rfl
set_option maxRecDepth 100000 in
theorem cd_84 : Cond.code ⟨"PutOffWicksModel","overs","()I"⟩ prog_14_method_76_code 3 (Option.some Jvm.ClassFile.FieldType.int) ∈ lw_g := lg_of 1508 rfl rfl
set_option maxRecDepth 100000 in
theorem cd_85 : Cond.code ⟨"PutOffWicksModel","parish","(I)I"⟩ prog_14_method_43_code 4 (Option.some Jvm.ClassFile.FieldType.int) ∈ lw_g := lg_of 1341 rfl rfl
set_option maxRecDepth 100000 in
theorem cd_86 : Cond.code ⟨"PutOffWicksModel","placeOf","(II)I"⟩ prog_14_method_64_code 4 (Option.some Jvm.ClassFile.FieldType.int) ∈ lw_g := lg_of 1461 rfl rfl
set_option maxRecDepth 100000 in
theorem cd_87 : Cond.code ⟨"PutOffWicksModel","pride","(I)I"⟩ prog_14_method_61_code 4 (Option.some Jvm.ClassFile.FieldType.int) ∈ lw_g := lg_of 1441 rfl rfl
set_option maxRecDepth 100000 in
theorem cd_88 : Cond.code ⟨"PutOffWicksModel","putsOff","(IIZI)I"⟩ prog_14_method_92_code 6 (Option.some Jvm.ClassFile.FieldType.int) ∈ lw_g := lg_of 1572 rfl rfl
set_option maxRecDepth 100000 in
theorem cd_89 : Cond.code ⟨"PutOffWicksModel","readsAmount","(I)Z"⟩ prog_14_method_41_code 3 (Option.some Jvm.ClassFile.FieldType.boolean) ∈ lw_g := lg_of 1349 rfl rfl
set_option maxRecDepth 100000 in
theorem cd_90 : Cond.code ⟨"PutOffWicksModel","readsCompared","()Z"⟩ prog_14_method_32_code 2 (Option.some Jvm.ClassFile.FieldType.boolean) ∈ lw_g := lg_of 1321 rfl rfl
set_option maxRecDepth 100000 in
theorem cd_91 : Cond.code ⟨"PutOffWicksModel","readsCondition","()Z"⟩ prog_14_method_33_code 1 (Option.some Jvm.ClassFile.FieldType.boolean) ∈ lw_g := lg_of 1317 rfl rfl
set_option maxRecDepth 100000 in
theorem cd_92 : Cond.code ⟨"PutOffWicksModel","readsFactor","()Z"⟩ prog_14_method_26_code 2 (Option.some Jvm.ClassFile.FieldType.boolean) ∈ lw_g := lg_of 1278 rfl rfl
set_option maxRecDepth 100000 in
theorem cd_93 : Cond.code ⟨"PutOffWicksModel","readsNumber","()Z"⟩ prog_14_method_19_code 2 (Option.some Jvm.ClassFile.FieldType.boolean) ∈ lw_g := lg_of 1291 rfl rfl
set_option maxRecDepth 100000 in
theorem cd_94 : Cond.code ⟨"PutOffWicksModel","readsRule","()Z"⟩ prog_14_method_34_code 2 (Option.some Jvm.ClassFile.FieldType.boolean) ∈ lw_g := lg_of 1262 rfl rfl
set_option maxRecDepth 100000 in
theorem cd_95 : Cond.code ⟨"PutOffWicksModel","readsSum","()Z"⟩ prog_14_method_28_code 3 (Option.some Jvm.ClassFile.FieldType.boolean) ∈ lw_g := lg_of 1274 rfl rfl
set_option maxRecDepth 100000 in
theorem cd_96 : Cond.code ⟨"PutOffWicksModel","readsThing","()Z"⟩ prog_14_method_42_code 2 (Option.some Jvm.ClassFile.FieldType.boolean) ∈ lw_g := lg_of 1345 rfl rfl
set_option maxRecDepth 100000 in
theorem cd_97 : Cond.code ⟨"PutOffWicksModel","readsTimes","()V"⟩ prog_14_method_71_code 1 (Option.none : Option Jvm.ClassFile.FieldType) ∈ lw_g := lg_of 1496 rfl rfl
set_option maxRecDepth 100000 in
theorem cd_98 : Cond.code ⟨"PutOffWicksModel","readsTurn","(I)Z"⟩ prog_14_method_73_code 6 (Option.some Jvm.ClassFile.FieldType.boolean) ∈ lw_g := lg_of 1492 rfl rfl
set_option maxRecDepth 100000 in
theorem cd_99 : Cond.code ⟨"PutOffWicksModel","reckon","(III)I"⟩ prog_14_method_37_code 3 (Option.some Jvm.ClassFile.FieldType.int) ∈ lw_g := lg_of 1392 rfl rfl
set_option maxRecDepth 100000 in
theorem cd_100 : Cond.code ⟨"PutOffWicksModel","reckonsTo","(II)I"⟩ prog_14_method_38_code 8 (Option.some Jvm.ClassFile.FieldType.int) ∈ lw_g := lg_of 1389 rfl rfl
set_option maxRecDepth 100000 in
theorem cd_101 : Cond.code ⟨"PutOffWicksModel","repeats","(III)Z"⟩ prog_14_method_72_code 6 (Option.some Jvm.ClassFile.FieldType.boolean) ∈ lw_g := lg_of 1500 rfl rfl
set_option maxRecDepth 100000 in
theorem cd_102 : Cond.code ⟨"PutOffWicksModel","seed","(I)Z"⟩ prog_14_method_102_code 2 (Option.some Jvm.ClassFile.FieldType.boolean) ∈ lw_g := lg_of 1624 rfl rfl
set_option maxRecDepth 100000 in
theorem cd_103 : Cond.code ⟨"PutOffWicksModel","seen","(III)I"⟩ prog_14_method_96_code 9 (Option.some Jvm.ClassFile.FieldType.int) ∈ lw_g := lg_of 1592 rfl rfl
set_option maxRecDepth 100000 in
theorem cd_104 : Cond.code ⟨"PutOffWicksModel","seenAt","(II)I"⟩ prog_14_method_95_code 5 (Option.some Jvm.ClassFile.FieldType.int) ∈ lw_g := lg_of 1596 rfl rfl
set_option maxRecDepth 100000 in
theorem cd_105 : Cond.code ⟨"PutOffWicksModel","setOf","(I)I"⟩ prog_14_method_55_code 4 (Option.some Jvm.ClassFile.FieldType.int) ∈ lw_g := lg_of 1425 rfl rfl
set_option maxRecDepth 100000 in
theorem cd_106 : Cond.code ⟨"PutOffWicksModel","shortened","()I"⟩ prog_14_method_77_code 4 (Option.some Jvm.ClassFile.FieldType.int) ∈ lw_g := lg_of 1512 rfl rfl
set_option maxRecDepth 100000 in
theorem cd_107 : Cond.code ⟨"PutOffWicksModel","size","(I)I"⟩ prog_14_method_5_code 1 (Option.some Jvm.ClassFile.FieldType.int) ∈ lw_g := lg_of 1515 rfl rfl
set_option maxRecDepth 100000 in
theorem cd_108 : Cond.code ⟨"PutOffWicksModel","spun","(II)I"⟩ prog_14_method_87_code 7 (Option.some Jvm.ClassFile.FieldType.int) ∈ lw_g := lg_of 1552 rfl rfl
set_option maxRecDepth 100000 in
theorem cd_109 : Cond.code ⟨"PutOffWicksModel","sumSign","(I)I"⟩ prog_14_method_24_code 1 (Option.some Jvm.ClassFile.FieldType.int) ∈ lw_g := lg_of 1301 rfl rfl
set_option maxRecDepth 100000 in
theorem cd_110 : Cond.code ⟨"PutOffWicksModel","takes","(I)Z"⟩ prog_14_method_18_code 2 (Option.some Jvm.ClassFile.FieldType.boolean) ∈ lw_g := lg_of 1337 rfl rfl
set_option maxRecDepth 100000 in
theorem cd_111 : Cond.code ⟨"PutOffWicksModel","thingIs","(II)I"⟩ prog_14_method_57_code 3 (Option.some Jvm.ClassFile.FieldType.int) ∈ lw_g := lg_of 1429 rfl rfl
set_option maxRecDepth 100000 in
theorem cd_112 : Cond.code ⟨"PutOffWicksModel","tried","(II)I"⟩ prog_14_method_56_code 4 (Option.some Jvm.ClassFile.FieldType.int) ∈ lw_g := lg_of 1418 rfl rfl
set_option maxRecDepth 100000 in
theorem cd_113 : Cond.code ⟨"PutOffWicksModel","turnsAll","(I)V"⟩ prog_14_method_74_code 5 (Option.none : Option Jvm.ClassFile.FieldType) ∈ lw_g := lg_of 1504 rfl rfl
set_option maxRecDepth 100000 in
theorem cd_114 : Cond.code ⟨"PutOffWicksModel","twist","(III)I"⟩ prog_14_method_80_code 5 (Option.some Jvm.ClassFile.FieldType.int) ∈ lw_g := lg_of 1488 rfl rfl
set_option maxRecDepth 100000 in
theorem cd_115 : Cond.code ⟨"PutOffWicksModel","types","(I)V"⟩ prog_14_method_12_code 3 (Option.none : Option Jvm.ClassFile.FieldType) ∈ lw_g := lg_of 1250 rfl rfl
set_option maxRecDepth 100000 in
theorem cd_116 : Cond.code ⟨"PutOffWicksModel","undo","()Z"⟩ prog_14_method_104_code 3 (Option.some Jvm.ClassFile.FieldType.boolean) ∈ lw_g := lg_of 1632 rfl rfl
set_option maxRecDepth 100000 in
theorem cd_117 : Cond.code ⟨"PutOffWicksModel","unknowing","(II)I"⟩ prog_14_method_90_code 4 (Option.some Jvm.ClassFile.FieldType.int) ∈ lw_g := lg_of 1580 rfl rfl
set_option maxRecDepth 100000 in
theorem cd_118 : Cond.code ⟨"PutOffWicksModel","waitTop","()I"⟩ prog_14_method_22_code 1 (Option.some Jvm.ClassFile.FieldType.int) ∈ lw_g := lg_of 1309 rfl rfl
set_option maxRecDepth 100000 in
theorem cd_119 : Cond.code ⟨"PutOffWicksModel","waitersOf","(I)I"⟩ prog_14_method_46_code 4 (Option.some Jvm.ClassFile.FieldType.int) ∈ lw_g := lg_of 1377 rfl rfl
set_option maxRecDepth 100000 in
theorem cd_120 : Cond.code ⟨"PutOffWicksModel","waiting","(II)I"⟩ prog_14_method_83_code 6 (Option.some Jvm.ClassFile.FieldType.int) ∈ lw_g := lg_of 1531 rfl rfl
set_option maxRecDepth 100000 in
theorem cd_121 : Cond.code ⟨"PutOffWicksModel","waysTo","(III)I"⟩ prog_14_method_66_code 5 (Option.some Jvm.ClassFile.FieldType.int) ∈ lw_g := lg_of 1468 rfl rfl
set_option maxRecDepth 100000 in
theorem cd_122 : Cond.code ⟨"PutOffWicksModel","whoHasLeft","()I"⟩ prog_14_method_106_code 3 (Option.some Jvm.ClassFile.FieldType.int) ∈ lw_g := lg_of 1644 rfl rfl
set_option maxRecDepth 100000 in
theorem cd_123 : Cond.code ⟨"PutOffWicksModel","worstNews","(I)I"⟩ prog_14_method_69_code 4 (Option.some Jvm.ClassFile.FieldType.int) ∈ lw_g := lg_of 1480 rfl rfl
set_option maxRecDepth 100000 in
theorem cd_124 : Cond.code ⟨"PutOffWicksModel","wrongAt","(II)Z"⟩ prog_14_method_17_code 3 (Option.some Jvm.ClassFile.FieldType.boolean) ∈ lw_g := lg_of 1270 rfl rfl
set_option maxRecDepth 100000 in
theorem cd_125 : Cond.code ⟨"PutOffWicks$ParishReader","read","()I"⟩ prog_5_method_2_code 3 (Option.some Jvm.ClassFile.FieldType.int) ∈ lw_g := lg_of 576 rfl rfl
set_option maxRecDepth 100000 in
theorem cd_126 : Cond.code ⟨"PutOffWicks$ParishReader","readLine","(I)V"⟩ prog_5_method_3_code 6 (Option.none : Option Jvm.ClassFile.FieldType) ∈ lw_g := lg_of 581 rfl rfl
set_option maxRecDepth 100000 in
theorem cd_127 : Cond.code ⟨"PutOffWicks$ParishReader","readOther","(I)I"⟩ prog_5_method_4_code 4 (Option.some Jvm.ClassFile.FieldType.int) ∈ lw_g := lg_of 589 rfl rfl
set_option maxRecDepth 100000 in
theorem cd_128 : Cond.code ⟨"PutOffWicks$Parish","beginAs","(LPutOffWicks$Parish;)V"⟩ prog_4_method_7_code 4 (Option.none : Option Jvm.ClassFile.FieldType) ∈ lw_g := lg_of 595 rfl rfl
set_option maxRecDepth 100000 in
theorem cd_129 : Cond.code ⟨"PutOffWicks$Parish","brightestOwner","()I"⟩ prog_4_method_20_code 5 (Option.some Jvm.ClassFile.FieldType.int) ∈ lw_g := lg_of 767 rfl rfl
set_option maxRecDepth 100000 in
theorem cd_130 : Cond.code ⟨"PutOffWicks$Parish","burn","(II)V"⟩ prog_4_method_11_code 3 (Option.none : Option Jvm.ClassFile.FieldType) ∈ lw_g := lg_of 678 rfl rfl
set_option maxRecDepth 100000 in
theorem cd_131 : Cond.code ⟨"PutOffWicks$Parish","comeBackTo","(LPutOffWicks$Parish;)V"⟩ prog_4_method_8_code 4 (Option.none : Option Jvm.ClassFile.FieldType) ∈ lw_g := lg_of 1044 rfl rfl
set_option maxRecDepth 100000 in
theorem cd_132 : Cond.code ⟨"PutOffWicks$Parish","copyFrom","(LPutOffWicks$Parish;)V"⟩ prog_4_method_6_code 2 (Option.none : Option Jvm.ClassFile.FieldType) ∈ lw_g := lg_of 599 rfl rfl
set_option maxRecDepth 100000 in
theorem cd_133 : Cond.code ⟨"PutOffWicks$Parish","draw","()I"⟩ prog_4_method_9_code 1 (Option.some Jvm.ClassFile.FieldType.int) ∈ lw_g := lg_of 623 rfl rfl
set_option maxRecDepth 100000 in
theorem cd_134 : Cond.code ⟨"PutOffWicks$Parish","finish","(I)V"⟩ prog_4_method_12_code 2 (Option.none : Option Jvm.ClassFile.FieldType) ∈ lw_g := lg_of 689 rfl rfl
set_option maxRecDepth 100000 in
theorem cd_135 : Cond.code ⟨"PutOffWicks$Parish","has","(I)Z"⟩ prog_4_method_2_code 2 (Option.some Jvm.ClassFile.FieldType.boolean) ∈ lw_g := lg_of 457 rfl rfl
set_option maxRecDepth 100000 in
theorem cd_136 : Cond.code ⟨"PutOffWicks$Parish","isDone","(I)Z"⟩ prog_4_method_4_code 2 (Option.some Jvm.ClassFile.FieldType.boolean) ∈ lw_g := lg_of 461 rfl rfl
set_option maxRecDepth 100000 in
theorem cd_137 : Cond.code ⟨"PutOffWicks$Parish","isFree","(I)Z"⟩ prog_4_method_10_code 2 (Option.some Jvm.ClassFile.FieldType.boolean) ∈ lw_g := lg_of 684 rfl rfl
set_option maxRecDepth 100000 in
theorem cd_138 : Cond.code ⟨"PutOffWicks$Parish","isLit","(I)Z"⟩ prog_4_method_3_code 2 (Option.some Jvm.ClassFile.FieldType.boolean) ∈ lw_g := lg_of 649 rfl rfl
set_option maxRecDepth 100000 in
theorem cd_139 : Cond.code ⟨"PutOffWicks$Parish","leftOf","(I)I"⟩ prog_4_method_14_code 4 (Option.some Jvm.ClassFile.FieldType.int) ∈ lw_g := lg_of 653 rfl rfl
set_option maxRecDepth 100000 in
theorem cd_140 : Cond.code ⟨"PutOffWicks$Parish","leftPutOffUnder","(I)I"⟩ prog_4_method_22_code 4 (Option.some Jvm.ClassFile.FieldType.int) ∈ lw_g := lg_of 780 rfl rfl
set_option maxRecDepth 100000 in
theorem cd_141 : Cond.code ⟨"PutOffWicks$Parish","leftThatNeed","(I)I"⟩ prog_4_method_24_code 5 (Option.some Jvm.ClassFile.FieldType.int) ∈ lw_g := lg_of 751 rfl rfl
set_option maxRecDepth 100000 in
theorem cd_142 : Cond.code ⟨"PutOffWicks$Parish","lightOf","(I)I"⟩ prog_4_method_19_code 4 (Option.some Jvm.ClassFile.FieldType.int) ∈ lw_g := lg_of 759 rfl rfl
set_option maxRecDepth 100000 in
theorem cd_143 : Cond.code ⟨"PutOffWicks$Parish","middlePutOff","()I"⟩ prog_4_method_21_code 5 (Option.some Jvm.ClassFile.FieldType.int) ∈ lw_g := lg_of 776 rfl rfl
set_option maxRecDepth 100000 in
theorem cd_144 : Cond.code ⟨"PutOffWicks$Parish","ordersLeft","()I"⟩ prog_4_method_23_code 7 (Option.some Jvm.ClassFile.FieldType.int) ∈ lw_g := lg_of 746 rfl rfl
set_option maxRecDepth 100000 in
theorem cd_145 : Cond.code ⟨"PutOffWicks$Parish","ownersLeft","()I"⟩ prog_4_method_16_code 3 (Option.some Jvm.ClassFile.FieldType.int) ∈ lw_g := lg_of 725 rfl rfl
set_option maxRecDepth 100000 in
theorem cd_146 : Cond.code ⟨"PutOffWicks$Parish","proudest","()I"⟩ prog_4_method_18_code 6 (Option.some Jvm.ClassFile.FieldType.int) ∈ lw_g := lg_of 721 rfl rfl
set_option maxRecDepth 100000 in
theorem cd_147 : Cond.code ⟨"PutOffWicks$Parish","putItOff","(I)V"⟩ prog_4_method_13_code 2 (Option.none : Option Jvm.ClassFile.FieldType) ∈ lw_g := lg_of 694 rfl rfl
set_option maxRecDepth 100000 in
theorem cd_148 : Cond.code ⟨"PutOffWicks$Parish","putLight","(IZ)V"⟩ prog_4_method_5_code 3 (Option.none : Option Jvm.ClassFile.FieldType) ∈ lw_g := lg_of 465 rfl rfl
set_option maxRecDepth 100000 in
theorem cd_149 : Cond.code ⟨"PutOffWicks$Parish","putOffBy","(I)I"⟩ prog_4_method_17_code 4 (Option.some Jvm.ClassFile.FieldType.int) ∈ lw_g := lg_of 729 rfl rfl
set_option maxRecDepth 100000 in
theorem cd_150 : Cond.code ⟨"PutOffWicks$Parish","waitersFor","(I)I"⟩ prog_4_method_15_code 4 (Option.some Jvm.ClassFile.FieldType.int) ∈ lw_g := lg_of 658 rfl rfl
set_option maxRecDepth 100000 in
theorem cd_151 : Cond.code ⟨"PutOffWicks$Reading","begin","()V"⟩ prog_6_method_2_code 1 (Option.none : Option Jvm.ClassFile.FieldType) ∈ lw_g := lg_of 496 rfl rfl
set_option maxRecDepth 100000 in
theorem cd_152 : Cond.code ⟨"PutOffWicks$Reading","fail","(II)V"⟩ prog_6_method_5_code 3 (Option.none : Option Jvm.ClassFile.FieldType) ∈ lw_g := lg_of 508 rfl rfl
set_option maxRecDepth 100000 in
theorem cd_153 : Cond.code ⟨"PutOffWicks$Reading","failed","()Z"⟩ prog_6_method_4_code 1 (Option.some Jvm.ClassFile.FieldType.boolean) ∈ lw_g := lg_of 797 rfl rfl
set_option maxRecDepth 100000 in
theorem cd_154 : Cond.code ⟨"PutOffWicks$Reading","goesOn","()Z"⟩ prog_6_method_8_code 1 (Option.some Jvm.ClassFile.FieldType.boolean) ∈ lw_g := lg_of 560 rfl rfl
set_option maxRecDepth 100000 in
theorem cd_155 : Cond.code ⟨"PutOffWicks$Reading","isDigit","(I)Z"⟩ prog_6_method_10_code 1 (Option.some Jvm.ClassFile.FieldType.boolean) ∈ lw_g := lg_of 532 rfl rfl
set_option maxRecDepth 100000 in
theorem cd_156 : Cond.code ⟨"PutOffWicks$Reading","needs","(I)V"⟩ prog_6_method_7_code 2 (Option.none : Option Jvm.ClassFile.FieldType) ∈ lw_g := lg_of 528 rfl rfl
set_option maxRecDepth 100000 in
theorem cd_157 : Cond.code ⟨"PutOffWicks$Reading","number","(I)I"⟩ prog_6_method_9_code 4 (Option.some Jvm.ClassFile.FieldType.int) ∈ lw_g := lg_of 536 rfl rfl
set_option maxRecDepth 100000 in
theorem cd_158 : Cond.code ⟨"PutOffWicks$Reading","sign","()I"⟩ prog_6_method_3_code 1 (Option.some Jvm.ClassFile.FieldType.int) ∈ lw_g := lg_of 500 rfl rfl
set_option maxRecDepth 100000 in
theorem cd_159 : Cond.code ⟨"PutOffWicks$Reading","takes","(I)Z"⟩ prog_6_method_6_code 2 (Option.some Jvm.ClassFile.FieldType.boolean) ∈ lw_g := lg_of 544 rfl rfl
set_option maxRecDepth 100000 in
theorem cd_160 : Cond.code ⟨"PutOffWicks$Reckoner","ask","(III)I"⟩ prog_7_method_3_code 5 (Option.some Jvm.ClassFile.FieldType.int) ∈ lw_g := lg_of 632 rfl rfl
set_option maxRecDepth 100000 in
theorem cd_161 : Cond.code ⟨"PutOffWicks$Reckoner","face","(LPutOffWicks$Parish;II)V"⟩ prog_7_method_2_code 4 (Option.none : Option Jvm.ClassFile.FieldType) ∈ lw_g := lg_of 628 rfl rfl
set_option maxRecDepth 100000 in
theorem cd_162 : Cond.code ⟨"PutOffWicks$Reckoner","fact","(I)I"⟩ prog_7_method_6_code 2 (Option.some Jvm.ClassFile.FieldType.int) ∈ lw_g := lg_of 644 rfl rfl
set_option maxRecDepth 100000 in
theorem cd_163 : Cond.code ⟨"PutOffWicks$Reckoner","joined","(III)I"⟩ prog_7_method_5_code 4 (Option.some Jvm.ClassFile.FieldType.int) ∈ lw_g := lg_of 666 rfl rfl
set_option maxRecDepth 100000 in
theorem cd_164 : Cond.code ⟨"PutOffWicks$Reckoner","pop","()I"⟩ prog_7_method_8_code 1 (Option.some Jvm.ClassFile.FieldType.int) ∈ lw_g := lg_of 662 rfl rfl
set_option maxRecDepth 100000 in
theorem cd_165 : Cond.code ⟨"PutOffWicks$Reckoner","push","(I)V"⟩ prog_7_method_7_code 2 (Option.none : Option Jvm.ClassFile.FieldType) ∈ lw_g := lg_of 640 rfl rfl
set_option maxRecDepth 100000 in
theorem cd_166 : Cond.code ⟨"PutOffWicks$Reckoner","reckon","(II)I"⟩ prog_7_method_4_code 8 (Option.some Jvm.ClassFile.FieldType.int) ∈ lw_g := lg_of 636 rfl rfl
set_option maxRecDepth 100000 in
theorem cd_167 : Cond.code ⟨"PutOffWicks$Rows","beats","(II)Z"⟩ prog_8_method_15_code 5 (Option.some Jvm.ClassFile.FieldType.boolean) ∈ lw_g := lg_of 1027 rfl rfl
set_option maxRecDepth 100000 in
theorem cd_168 : Cond.code ⟨"PutOffWicks$Rows","bestFirst","(I)I"⟩ prog_8_method_2_code 6 (Option.some Jvm.ClassFile.FieldType.int) ∈ lw_g := lg_of 898 rfl rfl
set_option maxRecDepth 100000 in
theorem cd_169 : Cond.code ⟨"PutOffWicks$Rows","dayIfKnowing","(II)I"⟩ prog_8_method_8_code 5 (Option.some Jvm.ClassFile.FieldType.int) ∈ lw_g := lg_of 933 rfl rfl
set_option maxRecDepth 100000 in
theorem cd_170 : Cond.code ⟨"PutOffWicks$Rows","dayIfNotKnowing","(II)I"⟩ prog_8_method_9_code 6 (Option.some Jvm.ClassFile.FieldType.int) ∈ lw_g := lg_of 937 rfl rfl
set_option maxRecDepth 100000 in
theorem cd_171 : Cond.code ⟨"PutOffWicks$Rows","difference","(II)I"⟩ prog_8_method_13_code 5 (Option.some Jvm.ClassFile.FieldType.int) ∈ lw_g := lg_of 1013 rfl rfl
set_option maxRecDepth 100000 in
theorem cd_172 : Cond.code ⟨"PutOffWicks$Rows","evenestCut","(I)I"⟩ prog_8_method_12_code 4 (Option.some Jvm.ClassFile.FieldType.int) ∈ lw_g := lg_of 1009 rfl rfl
set_option maxRecDepth 100000 in
theorem cd_173 : Cond.code ⟨"PutOffWicks$Rows","farthestFrom","(II)I"⟩ prog_8_method_7_code 5 (Option.some Jvm.ClassFile.FieldType.int) ∈ lw_g := lg_of 925 rfl rfl
set_option maxRecDepth 100000 in
theorem cd_174 : Cond.code ⟨"PutOffWicks$Rows","fewestWicks","(II)I"⟩ prog_8_method_6_code 5 (Option.some Jvm.ClassFile.FieldType.int) ∈ lw_g := lg_of 921 rfl rfl
set_option maxRecDepth 100000 in
theorem cd_175 : Cond.code ⟨"PutOffWicks$Rows","hoursBehind","(II)I"⟩ prog_8_method_3_code 8 (Option.some Jvm.ClassFile.FieldType.int) ∈ lw_g := lg_of 902 rfl rfl
set_option maxRecDepth 100000 in
theorem cd_176 : Cond.code ⟨"PutOffWicks$Rows","longestCord","(II)I"⟩ prog_8_method_10_code 5 (Option.some Jvm.ClassFile.FieldType.int) ∈ lw_g := lg_of 947 rfl rfl
set_option maxRecDepth 100000 in
theorem cd_177 : Cond.code ⟨"PutOffWicks$Rows","nextToSpin","(II)I"⟩ prog_8_method_4_code 5 (Option.some Jvm.ClassFile.FieldType.int) ∈ lw_g := lg_of 907 rfl rfl
set_option maxRecDepth 100000 in
theorem cd_178 : Cond.code ⟨"PutOffWicks$Rows","spinsAhead","(II)Z"⟩ prog_8_method_5_code 5 (Option.some Jvm.ClassFile.FieldType.boolean) ∈ lw_g := lg_of 911 rfl rfl
set_option maxRecDepth 100000 in
theorem cd_179 : Cond.code ⟨"PutOffWicks$Rows","sufficesFor","(III)Z"⟩ prog_8_method_11_code 6 (Option.some Jvm.ClassFile.FieldType.boolean) ∈ lw_g := lg_of 951 rfl rfl
set_option maxRecDepth 100000 in
theorem cd_180 : Cond.code ⟨"PutOffWicks$Rows","unbeaten","(I)I"⟩ prog_8_method_14_code 6 (Option.some Jvm.ClassFile.FieldType.int) ∈ lw_g := lg_of 1023 rfl rfl
set_option maxRecDepth 100000 in
theorem cd_181 : Cond.code ⟨"PutOffWicks$Shore","bestLights","(II)I"⟩ prog_9_method_6_code 7 (Option.some Jvm.ClassFile.FieldType.int) ∈ lw_g := lg_of 982 rfl rfl
set_option maxRecDepth 100000 in
theorem cd_182 : Cond.code ⟨"PutOffWicks$Shore","fillView","(I)V"⟩ prog_9_method_8_code 4 (Option.none : Option Jvm.ClassFile.FieldType) ∈ lw_g := lg_of 986 rfl rfl
set_option maxRecDepth 100000 in
theorem cd_183 : Cond.code ⟨"PutOffWicks$Shore","isSeen","(II)Z"⟩ prog_9_method_2_code 3 (Option.some Jvm.ClassFile.FieldType.boolean) ∈ lw_g := lg_of 967 rfl rfl
set_option maxRecDepth 100000 in
theorem cd_184 : Cond.code ⟨"PutOffWicks$Shore","longestRow","(II)I"⟩ prog_9_method_5_code 6 (Option.some Jvm.ClassFile.FieldType.int) ∈ lw_g := lg_of 973 rfl rfl
set_option maxRecDepth 100000 in
theorem cd_185 : Cond.code ⟨"PutOffWicks$Shore","placesOf","(II)I"⟩ prog_9_method_7_code 8 (Option.some Jvm.ClassFile.FieldType.int) ∈ lw_g := lg_of 994 rfl rfl
set_option maxRecDepth 100000 in
theorem cd_186 : Cond.code ⟨"PutOffWicks$Shore","placesSeeing","(II)I"⟩ prog_9_method_4_code 5 (Option.some Jvm.ClassFile.FieldType.int) ∈ lw_g := lg_of 959 rfl rfl
set_option maxRecDepth 100000 in
theorem cd_187 : Cond.code ⟨"PutOffWicks$Shore","sees","(III)Z"⟩ prog_9_method_3_code 6 (Option.some Jvm.ClassFile.FieldType.boolean) ∈ lw_g := lg_of 963 rfl rfl
set_option maxRecDepth 100000 in
theorem cd_188 : Cond.code ⟨"PutOffWicks$Tape","at","(I)I"⟩ prog_10_method_5_code 2 (Option.some Jvm.ClassFile.FieldType.int) ∈ lw_g := lg_of 504 rfl rfl
set_option maxRecDepth 100000 in
theorem cd_189 : Cond.code ⟨"PutOffWicks$Tape","hasRoom","()Z"⟩ prog_10_method_2_code 1 (Option.some Jvm.ClassFile.FieldType.boolean) ∈ lw_g := lg_of 473 rfl rfl
set_option maxRecDepth 100000 in
theorem cd_190 : Cond.code ⟨"PutOffWicks$Tape","put","(I)V"⟩ prog_10_method_3_code 3 (Option.none : Option Jvm.ClassFile.FieldType) ∈ lw_g := lg_of 477 rfl rfl
set_option maxRecDepth 100000 in
theorem cd_191 : Cond.code ⟨"PutOffWicks$Tape","take","(I)Z"⟩ prog_10_method_4_code 2 (Option.some Jvm.ClassFile.FieldType.boolean) ∈ lw_g := lg_of 488 rfl rfl
set_option maxRecDepth 100000 in
theorem cd_192 : Cond.code ⟨"PutOffWicks$Twist","closeGroup","()V"⟩ prog_11_method_7_code 2 (Option.none : Option Jvm.ClassFile.FieldType) ∈ lw_g := lg_of 819 rfl rfl
set_option maxRecDepth 100000 in
theorem cd_193 : Cond.code ⟨"PutOffWicks$Twist","comesOut","(I)I"⟩ prog_11_method_11_code 5 (Option.some Jvm.ClassFile.FieldType.int) ∈ lw_g := lg_of 835 rfl rfl
set_option maxRecDepth 100000 in
theorem cd_194 : Cond.code ⟨"PutOffWicks$Twist","ends","()Z"⟩ prog_11_method_3_code 1 (Option.some Jvm.ClassFile.FieldType.boolean) ∈ lw_g := lg_of 793 rfl rfl
set_option maxRecDepth 100000 in
theorem cd_195 : Cond.code ⟨"PutOffWicks$Twist","openGroup","(II)V"⟩ prog_11_method_6_code 3 (Option.none : Option Jvm.ClassFile.FieldType) ∈ lw_g := lg_of 815 rfl rfl
set_option maxRecDepth 100000 in
theorem cd_196 : Cond.code ⟨"PutOffWicks$Twist","oversLessUnders","()I"⟩ prog_11_method_9_code 3 (Option.some Jvm.ClassFile.FieldType.int) ∈ lw_g := lg_of 823 rfl rfl
set_option maxRecDepth 100000 in
theorem cd_197 : Cond.code ⟨"PutOffWicks$Twist","read","(I)I"⟩ prog_11_method_2_code 8 (Option.some Jvm.ClassFile.FieldType.int) ∈ lw_g := lg_of 788 rfl rfl
set_option maxRecDepth 100000 in
theorem cd_198 : Cond.code ⟨"PutOffWicks$Twist","readTimes","()I"⟩ prog_11_method_4_code 2 (Option.some Jvm.ClassFile.FieldType.int) ∈ lw_g := lg_of 802 rfl rfl
set_option maxRecDepth 100000 in
theorem cd_199 : Cond.code ⟨"PutOffWicks$Twist","readTurn","(IZI)V"⟩ prog_11_method_5_code 4 (Option.none : Option Jvm.ClassFile.FieldType) ∈ lw_g := lg_of 806 rfl rfl
set_option maxRecDepth 100000 in
theorem cd_200 : Cond.code ⟨"PutOffWicks$Twist","repeat","(III)V"⟩ prog_11_method_8_code 7 (Option.none : Option Jvm.ClassFile.FieldType) ∈ lw_g := lg_of 811 rfl rfl
set_option maxRecDepth 100000 in
theorem cd_201 : Cond.code ⟨"PutOffWicks$Twist","timesTillHome","(I)I"⟩ prog_11_method_12_code 5 (Option.some Jvm.ClassFile.FieldType.int) ∈ lw_g := lg_of 831 rfl rfl
set_option maxRecDepth 100000 in
theorem cd_202 : Cond.code ⟨"PutOffWicks$Twist","turnsLeft","()I"⟩ prog_11_method_10_code 3 (Option.some Jvm.ClassFile.FieldType.int) ∈ lw_g := lg_of 827 rfl rfl
set_option maxRecDepth 100000 in
theorem cd_203 : Cond.code ⟨"PutOffWicks","brightest","(III)I"⟩ prog_1_method_25_code 5 (Option.some Jvm.ClassFile.FieldType.int) ∈ lw_g := lg_of 978 rfl rfl
set_option maxRecDepth 100000 in
theorem cd_204 : Cond.code ⟨"PutOffWicks","byWhen","(II)I"⟩ prog_1_method_9_code 4 (Option.some Jvm.ClassFile.FieldType.int) ∈ lw_g := lg_of 709 rfl rfl
set_option maxRecDepth 100000 in
theorem cd_205 : Cond.code ⟨"PutOffWicks","chain","(I)I"⟩ prog_1_method_13_code 5 (Option.some Jvm.ClassFile.FieldType.int) ∈ lw_g := lg_of 738 rfl rfl
set_option maxRecDepth 100000 in
theorem cd_206 : Cond.code ⟨"PutOffWicks","check","(I)I"⟩ prog_1_method_31_code 4 (Option.some Jvm.ClassFile.FieldType.int) ∈ lw_g := lg_of 1048 rfl rfl
set_option maxRecDepth 100000 in
theorem cd_207 : Cond.code ⟨"PutOffWicks","cord","(II)I"⟩ prog_1_method_23_code 3 (Option.some Jvm.ClassFile.FieldType.int) ∈ lw_g := lg_of 943 rfl rfl
set_option maxRecDepth 100000 in
theorem cd_208 : Cond.code ⟨"PutOffWicks","count","(I)I"⟩ prog_1_method_32_code 2 (Option.some Jvm.ClassFile.FieldType.int) ∈ lw_g := lg_of 1052 rfl rfl
set_option maxRecDepth 100000 in
theorem cd_209 : Cond.code ⟨"PutOffWicks","dark","(I)I"⟩ prog_1_method_10_code 3 (Option.some Jvm.ClassFile.FieldType.int) ∈ lw_g := lg_of 713 rfl rfl
set_option maxRecDepth 100000 in
theorem cd_210 : Cond.code ⟨"PutOffWicks","days","(I)I"⟩ prog_1_method_6_code 2 (Option.some Jvm.ClassFile.FieldType.int) ∈ lw_g := lg_of 604 rfl rfl
set_option maxRecDepth 100000 in
theorem cd_211 : Cond.code ⟨"PutOffWicks","feed","(IIIII)I"⟩ prog_1_method_3_code 6 (Option.some Jvm.ClassFile.FieldType.int) ∈ lw_g := lg_of 469 rfl rfl
set_option maxRecDepth 100000 in
theorem cd_212 : Cond.code ⟨"PutOffWicks","forgiven","(I)I"⟩ prog_1_method_27_code 2 (Option.some Jvm.ClassFile.FieldType.int) ∈ lw_g := lg_of 1019 rfl rfl
set_option maxRecDepth 100000 in
theorem cd_213 : Cond.code ⟨"PutOffWicks","halves","(II)I"⟩ prog_1_method_26_code 4 (Option.some Jvm.ClassFile.FieldType.int) ∈ lw_g := lg_of 1005 rfl rfl
set_option maxRecDepth 100000 in
theorem cd_214 : Cond.code ⟨"PutOffWicks","keep","()I"⟩ prog_1_method_29_code 1 (Option.some Jvm.ClassFile.FieldType.int) ∈ lw_g := lg_of 1036 rfl rfl
set_option maxRecDepth 100000 in
theorem cd_215 : Cond.code ⟨"PutOffWicks","law","(I)I"⟩ prog_1_method_4_code 3 (Option.some Jvm.ClassFile.FieldType.int) ∈ lw_g := lg_of 481 rfl rfl
set_option maxRecDepth 100000 in
theorem cd_216 : Cond.code ⟨"PutOffWicks","light","(I)I"⟩ prog_1_method_15_code 2 (Option.some Jvm.ClassFile.FieldType.int) ∈ lw_g := lg_of 755 rfl rfl
set_option maxRecDepth 100000 in
theorem cd_217 : Cond.code ⟨"PutOffWicks","lit","(IZ)Z"⟩ prog_1_method_2_code 3 (Option.some Jvm.ClassFile.FieldType.boolean) ∈ lw_g := lg_of 453 rfl rfl
set_option maxRecDepth 100000 in
theorem cd_218 : Cond.code ⟨"PutOffWicks","median","()I"⟩ prog_1_method_17_code 1 (Option.some Jvm.ClassFile.FieldType.int) ∈ lw_g := lg_of 772 rfl rfl
set_option maxRecDepth 100000 in
theorem cd_219 : Cond.code ⟨"PutOffWicks","night","(II)I"⟩ prog_1_method_21_code 3 (Option.some Jvm.ClassFile.FieldType.int) ∈ lw_g := lg_of 917 rfl rfl
set_option maxRecDepth 100000 in
theorem cd_220 : Cond.code ⟨"PutOffWicks","oldest","()I"⟩ prog_1_method_12_code 3 (Option.some Jvm.ClassFile.FieldType.int) ∈ lw_g := lg_of 734 rfl rfl
set_option maxRecDepth 100000 in
theorem cd_221 : Cond.code ⟨"PutOffWicks","orders","()I"⟩ prog_1_method_14_code 1 (Option.some Jvm.ClassFile.FieldType.int) ∈ lw_g := lg_of 742 rfl rfl
set_option maxRecDepth 100000 in
theorem cd_222 : Cond.code ⟨"PutOffWicks","parish","(I)I"⟩ prog_1_method_5_code 3 (Option.some Jvm.ClassFile.FieldType.int) ∈ lw_g := lg_of 572 rfl rfl
set_option maxRecDepth 100000 in
theorem cd_223 : Cond.code ⟨"PutOffWicks","pride","(I)I"⟩ prog_1_method_11_code 3 (Option.some Jvm.ClassFile.FieldType.int) ∈ lw_g := lg_of 717 rfl rfl
set_option maxRecDepth 100000 in
theorem cd_224 : Cond.code ⟨"PutOffWicks","putsOff","(IIZI)I"⟩ prog_1_method_22_code 6 (Option.some Jvm.ClassFile.FieldType.int) ∈ lw_g := lg_of 929 rfl rfl
set_option maxRecDepth 100000 in
theorem cd_225 : Cond.code ⟨"PutOffWicks","seed","(I)Z"⟩ prog_1_method_28_code 2 (Option.some Jvm.ClassFile.FieldType.boolean) ∈ lw_g := lg_of 1031 rfl rfl
set_option maxRecDepth 100000 in
theorem cd_226 : Cond.code ⟨"PutOffWicks","seen","(III)I"⟩ prog_1_method_24_code 4 (Option.some Jvm.ClassFile.FieldType.int) ∈ lw_g := lg_of 955 rfl rfl
set_option maxRecDepth 100000 in
theorem cd_227 : Cond.code ⟨"PutOffWicks","spun","(II)I"⟩ prog_1_method_20_code 4 (Option.some Jvm.ClassFile.FieldType.int) ∈ lw_g := lg_of 894 rfl rfl
set_option maxRecDepth 100000 in
theorem cd_228 : Cond.code ⟨"PutOffWicks","thingIs","(II)I"⟩ prog_1_method_8_code 3 (Option.some Jvm.ClassFile.FieldType.int) ∈ lw_g := lg_of 704 rfl rfl
set_option maxRecDepth 100000 in
theorem cd_229 : Cond.code ⟨"PutOffWicks","tried","(II)I"⟩ prog_1_method_7_code 7 (Option.some Jvm.ClassFile.FieldType.int) ∈ lw_g := lg_of 699 rfl rfl
set_option maxRecDepth 100000 in
theorem cd_230 : Cond.code ⟨"PutOffWicks","twist","(III)I"⟩ prog_1_method_18_code 5 (Option.some Jvm.ClassFile.FieldType.int) ∈ lw_g := lg_of 784 rfl rfl
set_option maxRecDepth 100000 in
theorem cd_231 : Cond.code ⟨"PutOffWicks","undo","()Z"⟩ prog_1_method_30_code 1 (Option.some Jvm.ClassFile.FieldType.boolean) ∈ lw_g := lg_of 1040 rfl rfl
set_option maxRecDepth 100000 in
theorem cd_232 : Cond.code ⟨"PutOffWicks","waiting","(II)I"⟩ prog_1_method_19_code 3 (Option.some Jvm.ClassFile.FieldType.int) ∈ lw_g := lg_of 843 rfl rfl
set_option maxRecDepth 100000 in
theorem cd_233 : Cond.code ⟨"PutOffWicks","within","(III)Z"⟩ prog_1_method_33_code 3 (Option.some Jvm.ClassFile.FieldType.boolean) ∈ lw_g := lg_of 484 rfl rfl
set_option maxRecDepth 100000 in
theorem cd_234 : Cond.code ⟨"PutOffWicks","worstNews","(I)I"⟩ prog_1_method_16_code 3 (Option.some Jvm.ClassFile.FieldType.int) ∈ lw_g := lg_of 763 rfl rfl
set_option maxRecDepth 100000 in
theorem cd_235 : Cond.code ⟨"PutOffWicks$Waits","canEnd","(II)Z"⟩ prog_12_method_5_code 9 (Option.some Jvm.ClassFile.FieldType.boolean) ∈ lw_g := lg_of 869 rfl rfl
set_option maxRecDepth 100000 in
theorem cd_236 : Cond.code ⟨"PutOffWicks$Waits","fewestToEnd","()I"⟩ prog_12_method_4_code 2 (Option.some Jvm.ClassFile.FieldType.int) ∈ lw_g := lg_of 861 rfl rfl
set_option maxRecDepth 100000 in
theorem cd_237 : Cond.code ⟨"PutOffWicks$Waits","findRingOf","(III)I"⟩ prog_12_method_9_code 10 (Option.some Jvm.ClassFile.FieldType.int) ∈ lw_g := lg_of 878 rfl rfl
set_option maxRecDepth 100000 in
theorem cd_238 : Cond.code ⟨"PutOffWicks$Waits","findShortestRing","(I)I"⟩ prog_12_method_8_code 6 (Option.some Jvm.ClassFile.FieldType.int) ∈ lw_g := lg_of 873 rfl rfl
set_option maxRecDepth 100000 in
theorem cd_239 : Cond.code ⟨"PutOffWicks$Waits","forEver","()I"⟩ prog_12_method_3_code 4 (Option.some Jvm.ClassFile.FieldType.int) ∈ lw_g := lg_of 856 rfl rfl
set_option maxRecDepth 100000 in
theorem cd_240 : Cond.code ⟨"PutOffWicks$Waits","markFrom","(II)V"⟩ prog_12_method_10_code 4 (Option.none : Option Jvm.ClassFile.FieldType) ∈ lw_g := lg_of 886 rfl rfl
set_option maxRecDepth 100000 in
theorem cd_241 : Cond.code ⟨"PutOffWicks$Waits","read","(I)Z"⟩ prog_12_method_2_code 5 (Option.some Jvm.ClassFile.FieldType.boolean) ∈ lw_g := lg_of 847 rfl rfl
set_option maxRecDepth 100000 in
theorem cd_242 : Cond.code ⟨"PutOffWicks$Waits","ringAt","(II)I"⟩ prog_12_method_7_code 4 (Option.some Jvm.ClassFile.FieldType.int) ∈ lw_g := lg_of 890 rfl rfl
set_option maxRecDepth 100000 in
theorem cd_243 : Cond.code ⟨"PutOffWicks$Waits","ringsOfTwo","()I"⟩ prog_12_method_6_code 4 (Option.some Jvm.ClassFile.FieldType.int) ∈ lw_g := lg_of 865 rfl rfl
set_option maxRecDepth 100000 in
theorem cd_244 : Cond.code ⟨"PutOffWicks$Waits","writeRing","(III)V"⟩ prog_12_method_11_code 7 (Option.none : Option Jvm.ClassFile.FieldType) ∈ lw_g := lg_of 882 rfl rfl
def ch0 : List (Nat × Cond) := [(606, Cond.instanceMethod ⟨"PutOffWicks$Almanac","pass","(LPutOffWicks$Parish;I)I"⟩), (607, Cond.selects "PutOffWicks$Almanac" ⟨"PutOffWicks$Almanac","pass","(LPutOffWicks$Parish;I)I"⟩ ⟨"PutOffWicks$Almanac","pass","(LPutOffWicks$Parish;I)I"⟩), (110, Cond.initialized "PutOffWicks$Almanac"), (618, Cond.instanceMethod ⟨"PutOffWicks$Almanac","passOver","(LPutOffWicks$Parish;I)V"⟩), (9, Cond.selects "PutOffWicks$Almanac" ⟨"PutOffWicks$Almanac","passOver","(LPutOffWicks$Parish;I)V"⟩ ⟨"PutOffWicks$Almanac","passOver","(LPutOffWicks$Parish;I)V"⟩), (849, Cond.static ⟨"java/util/Arrays","fill","([II)V"⟩), (120, Cond.initialized "java/util/Arrays"), (988, Cond.static ⟨"java/util/Arrays","fill","([JJ)V"⟩), (610, Cond.static ⟨"java/lang/Integer","bitCount","(I)I"⟩), (118, Cond.initialized "java/lang/Integer"), (996, Cond.static ⟨"java/lang/Long","bitCount","(J)I"⟩), (121, Cond.initialized "java/lang/Long"), (837, Cond.static ⟨"java/lang/Math","abs","(I)I"⟩), (119, Cond.initialized "java/lang/Math"), (671, Cond.static ⟨"java/lang/Math","max","(II)I"⟩), (668, Cond.static ⟨"java/lang/Math","min","(II)I"⟩), (511, Cond.instanceMethod ⟨"PutOffWicks$Law","add","(II)I"⟩), (0, Cond.selects "PutOffWicks$Law" ⟨"PutOffWicks$Law","add","(II)I"⟩ ⟨"PutOffWicks$Law","add","(II)I"⟩), (109, Cond.initialized "PutOffWicks$Law"), (563, Cond.instanceMethod ⟨"PutOffWicks$Law","copyFrom","(LPutOffWicks$Law;)V"⟩), (564, Cond.selects "PutOffWicks$Law" ⟨"PutOffWicks$Law","copyFrom","(LPutOffWicks$Law;)V"⟩ ⟨"PutOffWicks$Law","copyFrom","(LPutOffWicks$Law;)V"⟩), (539, Cond.static ⟨"PutOffWicks$Law","isFact","(I)Z"⟩), (555, Cond.instanceMethod ⟨"PutOffWicks$Law","land","(I)V"⟩), (6, Cond.selects "PutOffWicks$Law" ⟨"PutOffWicks$Law","land","(I)V"⟩ ⟨"PutOffWicks$Law","land","(I)V"⟩), (523, Cond.instanceMethod ⟨"PutOffWicks$Law","opens","(I)Z"⟩), (3, Cond.selects "PutOffWicks$Law" ⟨"PutOffWicks$Law","opens","(I)Z"⟩ ⟨"PutOffWicks$Law","opens","(I)Z"⟩), (490, Cond.instanceMethod ⟨"PutOffWicks$Law","read","()I"⟩), (491, Cond.selects "PutOffWicks$Law" ⟨"PutOffWicks$Law","read","()I"⟩ ⟨"PutOffWicks$Law","read","()I"⟩), (547, Cond.instanceMethod ⟨"PutOffWicks$Law","readCondition","(I)V"⟩), (4, Cond.selects "PutOffWicks$Law" ⟨"PutOffWicks$Law","readCondition","(I)V"⟩ ⟨"PutOffWicks$Law","readCondition","(I)V"⟩), (519, Cond.instanceMethod ⟨"PutOffWicks$Law","readFactor","(I)V"⟩), (2, Cond.selects "PutOffWicks$Law" ⟨"PutOffWicks$Law","readFactor","(I)V"⟩ ⟨"PutOffWicks$Law","readFactor","(I)V"⟩), (551, Cond.instanceMethod ⟨"PutOffWicks$Law","readTest","(I)V"⟩), (5, Cond.selects "PutOffWicks$Law" ⟨"PutOffWicks$Law","readTest","(I)V"⟩ ⟨"PutOffWicks$Law","readTest","(I)V"⟩), (515, Cond.instanceMethod ⟨"PutOffWicks$Law","readValue","(I)V"⟩), (1, Cond.selects "PutOffWicks$Law" ⟨"PutOffWicks$Law","readValue","(I)V"⟩ ⟨"PutOffWicks$Law","readValue","(I)V"⟩), (1526, Cond.instanceMethod ⟨"PutOffWicksModel","areHome","(I)Z"⟩), (88, Cond.selects "PutOffWicksModel" ⟨"PutOffWicksModel","areHome","(I)Z"⟩ ⟨"PutOffWicksModel","areHome","(I)Z"⟩), (116, Cond.initialized "PutOffWicksModel"), (1257, Cond.instanceMethod ⟨"PutOffWicksModel","beginsText","(I)V"⟩), (41, Cond.selects "PutOffWicksModel" ⟨"PutOffWicksModel","beginsText","(I)V"⟩ ⟨"PutOffWicksModel","beginsText","(I)V"⟩), (1547, Cond.static ⟨"PutOffWicksModel","bits","(I)I"⟩), (1607, Cond.instanceMethod ⟨"PutOffWicksModel","brightOf","(I)I"⟩), (100, Cond.selects "PutOffWicksModel" ⟨"PutOffWicksModel","brightOf","(I)I"⟩ ⟨"PutOffWicksModel","brightOf","(I)I"⟩), (1602, Cond.instanceMethod ⟨"PutOffWicksModel","brightest","(III)I"⟩), (1603, Cond.selects "PutOffWicksModel" ⟨"PutOffWicksModel","brightest","(III)I"⟩ ⟨"PutOffWicksModel","brightest","(III)I"⟩), (1399, Cond.instanceMethod ⟨"PutOffWicksModel","burns","(II)V"⟩), (72, Cond.selects "PutOffWicksModel" ⟨"PutOffWicksModel","burns","(II)V"⟩ ⟨"PutOffWicksModel","burns","(II)V"⟩), (1395, Cond.instanceMethod ⟨"PutOffWicksModel","byLaw","(III)I"⟩), (71, Cond.selects "PutOffWicksModel" ⟨"PutOffWicksModel","byLaw","(III)I"⟩ ⟨"PutOffWicksModel","byLaw","(III)I"⟩)]
theorem ch0_ok : ch0.all (fun q => decide (lw_tbl[q.1]? = some q.2) && goodWord q.2) = true := by decide +kernel
def ch1 : List (Nat × Cond) := [(1431, Cond.instanceMethod ⟨"PutOffWicksModel","byWhen","(II)I"⟩), (1432, Cond.selects "PutOffWicksModel" ⟨"PutOffWicksModel","byWhen","(II)I"⟩ ⟨"PutOffWicksModel","byWhen","(II)I"⟩), (1451, Cond.instanceMethod ⟨"PutOffWicksModel","chain","(I)I"⟩), (1452, Cond.selects "PutOffWicksModel" ⟨"PutOffWicksModel","chain","(I)I"⟩ ⟨"PutOffWicksModel","chain","(I)I"⟩), (1563, Cond.instanceMethod ⟨"PutOffWicksModel","changesRow","(II)V"⟩), (94, Cond.selects "PutOffWicksModel" ⟨"PutOffWicksModel","changesRow","(II)V"⟩ ⟨"PutOffWicksModel","changesRow","(II)V"⟩), (1634, Cond.instanceMethod ⟨"PutOffWicksModel","check","(I)I"⟩), (1635, Cond.selects "PutOffWicksModel" ⟨"PutOffWicksModel","check","(I)I"⟩ ⟨"PutOffWicksModel","check","(I)I"⟩), (1304, Cond.instanceMethod ⟨"PutOffWicksModel","closesSums","(Z)V"⟩), (51, Cond.selects "PutOffWicksModel" ⟨"PutOffWicksModel","closesSums","(Z)V"⟩ ⟨"PutOffWicksModel","closesSums","(Z)V"⟩), (1522, Cond.instanceMethod ⟨"PutOffWicksModel","comesOut","(I)I"⟩), (87, Cond.selects "PutOffWicksModel" ⟨"PutOffWicksModel","comesOut","(I)I"⟩ ⟨"PutOffWicksModel","comesOut","(I)I"⟩), (1420, Cond.static ⟨"PutOffWicksModel","copies","([I[I)V"⟩), (1586, Cond.instanceMethod ⟨"PutOffWicksModel","cord","(II)I"⟩), (1587, Cond.selects "PutOffWicksModel" ⟨"PutOffWicksModel","cord","(II)I"⟩ ⟨"PutOffWicksModel","cord","(II)I"⟩), (1638, Cond.instanceMethod ⟨"PutOffWicksModel","count","(I)I"⟩), (1639, Cond.selects "PutOffWicksModel" ⟨"PutOffWicksModel","count","(I)I"⟩ ⟨"PutOffWicksModel","count","(I)I"⟩), (1435, Cond.instanceMethod ⟨"PutOffWicksModel","dark","(I)I"⟩), (1436, Cond.selects "PutOffWicksModel" ⟨"PutOffWicksModel","dark","(I)I"⟩ ⟨"PutOffWicksModel","dark","(I)I"⟩), (1360, Cond.instanceMethod ⟨"PutOffWicksModel","dayGoes","()V"⟩), (63, Cond.selects "PutOffWicksModel" ⟨"PutOffWicksModel","dayGoes","()V"⟩ ⟨"PutOffWicksModel","dayGoes","()V"⟩), (1351, Cond.instanceMethod ⟨"PutOffWicksModel","days","(I)I"⟩), (1352, Cond.selects "PutOffWicksModel" ⟨"PutOffWicksModel","days","(I)I"⟩ ⟨"PutOffWicksModel","days","(I)I"⟩), (1356, Cond.instanceMethod ⟨"PutOffWicksModel","daysGo","(I)V"⟩), (62, Cond.selects "PutOffWicksModel" ⟨"PutOffWicksModel","daysGo","(I)V"⟩ ⟨"PutOffWicksModel","daysGo","(I)V"⟩), (1444, Cond.instanceMethod ⟨"PutOffWicksModel","daysOf","(I)I"⟩), (76, Cond.selects "PutOffWicksModel" ⟨"PutOffWicksModel","daysOf","(I)I"⟩ ⟨"PutOffWicksModel","daysOf","(I)I"⟩), (1380, Cond.instanceMethod ⟨"PutOffWicksModel","draws","()I"⟩), (68, Cond.selects "PutOffWicksModel" ⟨"PutOffWicksModel","draws","()I"⟩ ⟨"PutOffWicksModel","draws","()I"⟩), (1324, Cond.instanceMethod ⟨"PutOffWicksModel","endsPiece","()V"⟩), (56, Cond.selects "PutOffWicksModel" ⟨"PutOffWicksModel","endsPiece","()V"⟩ ⟨"PutOffWicksModel","endsPiece","()V"⟩), (1297, Cond.static ⟨"PutOffWicksModel","factOf","(I)I"⟩), (1244, Cond.instanceMethod ⟨"PutOffWicksModel","feed","(IIIII)I"⟩), (1245, Cond.selects "PutOffWicksModel" ⟨"PutOffWicksModel","feed","(IIIII)I"⟩ ⟨"PutOffWicksModel","feed","(IIIII)I"⟩), (1368, Cond.instanceMethod ⟨"PutOffWicksModel","feels","(I)V"⟩), (65, Cond.selects "PutOffWicksModel" ⟨"PutOffWicksModel","feels","(I)V"⟩ ⟨"PutOffWicksModel","feels","(I)V"⟩), (1538, Cond.instanceMethod ⟨"PutOffWicksModel","forEver","()I"⟩), (90, Cond.selects "PutOffWicksModel" ⟨"PutOffWicksModel","forEver","()I"⟩ ⟨"PutOffWicksModel","forEver","()I"⟩), (1614, Cond.instanceMethod ⟨"PutOffWicksModel","forgiven","(I)I"⟩), (1615, Cond.selects "PutOffWicksModel" ⟨"PutOffWicksModel","forgiven","(I)I"⟩ ⟨"PutOffWicksModel","forgiven","(I)I"⟩), (1364, Cond.instanceMethod ⟨"PutOffWicksModel","goesOn","(I)V"⟩), (64, Cond.selects "PutOffWicksModel" ⟨"PutOffWicksModel","goesOn","(I)V"⟩ ⟨"PutOffWicksModel","goesOn","(I)V"⟩), (1610, Cond.instanceMethod ⟨"PutOffWicksModel","halves","(II)I"⟩), (1611, Cond.selects "PutOffWicksModel" ⟨"PutOffWicksModel","halves","(II)I"⟩ ⟨"PutOffWicksModel","halves","(II)I"⟩), (1463, Cond.static ⟨"PutOffWicksModel","has","(II)Z"⟩), (1312, Cond.instanceMethod ⟨"PutOffWicksModel","hasOpenSum","(I)Z"⟩), (53, Cond.selects "PutOffWicksModel" ⟨"PutOffWicksModel","hasOpenSum","(I)Z"⟩ ⟨"PutOffWicksModel","hasOpenSum","(I)Z"⟩), (1265, Cond.instanceMethod ⟨"PutOffWicksModel","here","()I"⟩), (43, Cond.selects "PutOffWicksModel" ⟨"PutOffWicksModel","here","()I"⟩ ⟨"PutOffWicksModel","here","()I"⟩), (1384, Cond.instanceMethod ⟨"PutOffWicksModel","holdsAny","(I)Z"⟩)]
theorem ch1_ok : ch1.all (fun q => decide (lw_tbl[q.1]? = some q.2) && goodWord q.2) = true := by decide +kernel
def ch2 : List (Nat × Cond) := [(69, Cond.selects "PutOffWicksModel" ⟨"PutOffWicksModel","holdsAny","(I)Z"⟩ ⟨"PutOffWicksModel","holdsAny","(I)Z"⟩), (1555, Cond.instanceMethod ⟨"PutOffWicksModel","hoursOfRow","(I)I"⟩), (92, Cond.selects "PutOffWicksModel" ⟨"PutOffWicksModel","hoursOfRow","(I)I"⟩ ⟨"PutOffWicksModel","hoursOfRow","(I)I"⟩), (1241, Cond.static ⟨"PutOffWicksModel","in","(III)Z"⟩), (1619, Cond.instanceMethod ⟨"PutOffWicksModel","isBetter","(II)Z"⟩), (101, Cond.selects "PutOffWicksModel" ⟨"PutOffWicksModel","isBetter","(II)Z"⟩ ⟨"PutOffWicksModel","isBetter","(II)Z"⟩), (1286, Cond.instanceMethod ⟨"PutOffWicksModel","isDigit","()Z"⟩), (48, Cond.selects "PutOffWicksModel" ⟨"PutOffWicksModel","isDigit","()Z"⟩ ⟨"PutOffWicksModel","isDigit","()Z"⟩), (1406, Cond.instanceMethod ⟨"PutOffWicksModel","isDone","(I)V"⟩), (73, Cond.selects "PutOffWicksModel" ⟨"PutOffWicksModel","isDone","(I)V"⟩ ⟨"PutOffWicksModel","isDone","(I)V"⟩), (1234, Cond.instanceMethod ⟨"PutOffWicksModel","isLeft","(I)Z"⟩), (38, Cond.selects "PutOffWicksModel" ⟨"PutOffWicksModel","isLeft","(I)Z"⟩ ⟨"PutOffWicksModel","isLeft","(I)Z"⟩), (1410, Cond.instanceMethod ⟨"PutOffWicksModel","isPutOff","(I)V"⟩), (74, Cond.selects "PutOffWicksModel" ⟨"PutOffWicksModel","isPutOff","(I)V"⟩ ⟨"PutOffWicksModel","isPutOff","(I)V"⟩), (1599, Cond.instanceMethod ⟨"PutOffWicksModel","isSeen","(II)Z"⟩), (99, Cond.selects "PutOffWicksModel" ⟨"PutOffWicksModel","isSeen","(II)Z"⟩ ⟨"PutOffWicksModel","isSeen","(II)Z"⟩), (1238, Cond.instanceMethod ⟨"PutOffWicksModel","isThing","(I)Z"⟩), (39, Cond.selects "PutOffWicksModel" ⟨"PutOffWicksModel","isThing","(I)Z"⟩ ⟨"PutOffWicksModel","isThing","(I)Z"⟩), (1332, Cond.instanceMethod ⟨"PutOffWicksModel","jumps","(I)V"⟩), (58, Cond.selects "PutOffWicksModel" ⟨"PutOffWicksModel","jumps","(I)V"⟩ ⟨"PutOffWicksModel","jumps","(I)V"⟩), (1626, Cond.instanceMethod ⟨"PutOffWicksModel","keep","()I"⟩), (1627, Cond.selects "PutOffWicksModel" ⟨"PutOffWicksModel","keep","()I"⟩ ⟨"PutOffWicksModel","keep","()I"⟩), (1575, Cond.instanceMethod ⟨"PutOffWicksModel","knowing","(II)I"⟩), (95, Cond.selects "PutOffWicksModel" ⟨"PutOffWicksModel","knowing","(II)I"⟩ ⟨"PutOffWicksModel","knowing","(II)I"⟩), (1328, Cond.instanceMethod ⟨"PutOffWicksModel","lands","(Z)V"⟩), (57, Cond.selects "PutOffWicksModel" ⟨"PutOffWicksModel","lands","(Z)V"⟩ ⟨"PutOffWicksModel","lands","(Z)V"⟩), (1252, Cond.instanceMethod ⟨"PutOffWicksModel","law","(I)I"⟩), (1253, Cond.selects "PutOffWicksModel" ⟨"PutOffWicksModel","law","(I)I"⟩ ⟨"PutOffWicksModel","law","(I)I"⟩), (1583, Cond.instanceMethod ⟨"PutOffWicksModel","leastLater","(II)I"⟩), (97, Cond.selects "PutOffWicksModel" ⟨"PutOffWicksModel","leastLater","(II)I"⟩ ⟨"PutOffWicksModel","leastLater","(II)I"⟩), (1372, Cond.instanceMethod ⟨"PutOffWicksModel","leftOf","(I)I"⟩), (66, Cond.selects "PutOffWicksModel" ⟨"PutOffWicksModel","leftOf","(I)I"⟩ ⟨"PutOffWicksModel","leftOf","(I)I"⟩), (1470, Cond.instanceMethod ⟨"PutOffWicksModel","light","(I)I"⟩), (1471, Cond.selects "PutOffWicksModel" ⟨"PutOffWicksModel","light","(I)I"⟩ ⟨"PutOffWicksModel","light","(I)I"⟩), (1475, Cond.instanceMethod ⟨"PutOffWicksModel","lightOf","(I)I"⟩), (79, Cond.selects "PutOffWicksModel" ⟨"PutOffWicksModel","lightOf","(I)I"⟩ ⟨"PutOffWicksModel","lightOf","(I)I"⟩), (1229, Cond.instanceMethod ⟨"PutOffWicksModel","lit","(IZ)Z"⟩), (1230, Cond.selects "PutOffWicksModel" ⟨"PutOffWicksModel","lit","(IZ)Z"⟩ ⟨"PutOffWicksModel","lit","(IZ)Z"⟩), (1402, Cond.static ⟨"PutOffWicksModel","max","(II)I"⟩), (1482, Cond.instanceMethod ⟨"PutOffWicksModel","median","()I"⟩), (1483, Cond.selects "PutOffWicksModel" ⟨"PutOffWicksModel","median","()I"⟩ ⟨"PutOffWicksModel","median","()I"⟩), (1413, Cond.static ⟨"PutOffWicksModel","min","(II)I"⟩), (1543, Cond.instanceMethod ⟨"PutOffWicksModel","mustEnd","()I"⟩), (91, Cond.selects "PutOffWicksModel" ⟨"PutOffWicksModel","mustEnd","()I"⟩ ⟨"PutOffWicksModel","mustEnd","()I"⟩), (1559, Cond.instanceMethod ⟨"PutOffWicksModel","nextRow","(I)Z"⟩), (93, Cond.selects "PutOffWicksModel" ⟨"PutOffWicksModel","nextRow","(I)Z"⟩ ⟨"PutOffWicksModel","nextRow","(I)Z"⟩), (1566, Cond.instanceMethod ⟨"PutOffWicksModel","night","(II)I"⟩), (1567, Cond.selects "PutOffWicksModel" ⟨"PutOffWicksModel","night","(II)I"⟩ ⟨"PutOffWicksModel","night","(II)I"⟩), (1294, Cond.instanceMethod ⟨"PutOffWicksModel","notes","(II)V"⟩), (50, Cond.selects "PutOffWicksModel" ⟨"PutOffWicksModel","notes","(II)V"⟩ ⟨"PutOffWicksModel","notes","(II)V"⟩)]
theorem ch2_ok : ch2.all (fun q => decide (lw_tbl[q.1]? = some q.2) && goodWord q.2) = true := by decide +kernel
def ch3 : List (Nat × Cond) := [(1534, Cond.instanceMethod ⟨"PutOffWicksModel","octet","(I)I"⟩), (89, Cond.selects "PutOffWicksModel" ⟨"PutOffWicksModel","octet","(I)I"⟩ ⟨"PutOffWicksModel","octet","(I)I"⟩), (1518, Cond.instanceMethod ⟨"PutOffWicksModel","oftenTill","(I)I"⟩), (86, Cond.selects "PutOffWicksModel" ⟨"PutOffWicksModel","oftenTill","(I)I"⟩ ⟨"PutOffWicksModel","oftenTill","(I)I"⟩), (1447, Cond.instanceMethod ⟨"PutOffWicksModel","oldest","()I"⟩), (1448, Cond.selects "PutOffWicksModel" ⟨"PutOffWicksModel","oldest","()I"⟩ ⟨"PutOffWicksModel","oldest","()I"⟩), (1281, Cond.instanceMethod ⟨"PutOffWicksModel","opens","(I)Z"⟩), (47, Cond.selects "PutOffWicksModel" ⟨"PutOffWicksModel","opens","(I)Z"⟩ ⟨"PutOffWicksModel","opens","(I)Z"⟩), (1455, Cond.instanceMethod ⟨"PutOffWicksModel","orders","()I"⟩), (1456, Cond.selects "PutOffWicksModel" ⟨"PutOffWicksModel","orders","()I"⟩ ⟨"PutOffWicksModel","orders","()I"⟩), (1507, Cond.instanceMethod ⟨"PutOffWicksModel","overs","()I"⟩), (84, Cond.selects "PutOffWicksModel" ⟨"PutOffWicksModel","overs","()I"⟩ ⟨"PutOffWicksModel","overs","()I"⟩), (1339, Cond.instanceMethod ⟨"PutOffWicksModel","parish","(I)I"⟩), (1340, Cond.selects "PutOffWicksModel" ⟨"PutOffWicksModel","parish","(I)I"⟩ ⟨"PutOffWicksModel","parish","(I)I"⟩), (1460, Cond.instanceMethod ⟨"PutOffWicksModel","placeOf","(II)I"⟩), (77, Cond.selects "PutOffWicksModel" ⟨"PutOffWicksModel","placeOf","(II)I"⟩ ⟨"PutOffWicksModel","placeOf","(II)I"⟩), (1439, Cond.instanceMethod ⟨"PutOffWicksModel","pride","(I)I"⟩), (1440, Cond.selects "PutOffWicksModel" ⟨"PutOffWicksModel","pride","(I)I"⟩ ⟨"PutOffWicksModel","pride","(I)I"⟩), (1570, Cond.instanceMethod ⟨"PutOffWicksModel","putsOff","(IIZI)I"⟩), (1571, Cond.selects "PutOffWicksModel" ⟨"PutOffWicksModel","putsOff","(IIZI)I"⟩ ⟨"PutOffWicksModel","putsOff","(IIZI)I"⟩), (1348, Cond.instanceMethod ⟨"PutOffWicksModel","readsAmount","(I)Z"⟩), (61, Cond.selects "PutOffWicksModel" ⟨"PutOffWicksModel","readsAmount","(I)Z"⟩ ⟨"PutOffWicksModel","readsAmount","(I)Z"⟩), (1320, Cond.instanceMethod ⟨"PutOffWicksModel","readsCompared","()Z"⟩), (55, Cond.selects "PutOffWicksModel" ⟨"PutOffWicksModel","readsCompared","()Z"⟩ ⟨"PutOffWicksModel","readsCompared","()Z"⟩), (1316, Cond.instanceMethod ⟨"PutOffWicksModel","readsCondition","()Z"⟩), (54, Cond.selects "PutOffWicksModel" ⟨"PutOffWicksModel","readsCondition","()Z"⟩ ⟨"PutOffWicksModel","readsCondition","()Z"⟩), (1277, Cond.instanceMethod ⟨"PutOffWicksModel","readsFactor","()Z"⟩), (46, Cond.selects "PutOffWicksModel" ⟨"PutOffWicksModel","readsFactor","()Z"⟩ ⟨"PutOffWicksModel","readsFactor","()Z"⟩), (1290, Cond.instanceMethod ⟨"PutOffWicksModel","readsNumber","()Z"⟩), (49, Cond.selects "PutOffWicksModel" ⟨"PutOffWicksModel","readsNumber","()Z"⟩ ⟨"PutOffWicksModel","readsNumber","()Z"⟩), (1261, Cond.instanceMethod ⟨"PutOffWicksModel","readsRule","()Z"⟩), (42, Cond.selects "PutOffWicksModel" ⟨"PutOffWicksModel","readsRule","()Z"⟩ ⟨"PutOffWicksModel","readsRule","()Z"⟩), (1273, Cond.instanceMethod ⟨"PutOffWicksModel","readsSum","()Z"⟩), (45, Cond.selects "PutOffWicksModel" ⟨"PutOffWicksModel","readsSum","()Z"⟩ ⟨"PutOffWicksModel","readsSum","()Z"⟩), (1344, Cond.instanceMethod ⟨"PutOffWicksModel","readsThing","()Z"⟩), (60, Cond.selects "PutOffWicksModel" ⟨"PutOffWicksModel","readsThing","()Z"⟩ ⟨"PutOffWicksModel","readsThing","()Z"⟩), (1495, Cond.instanceMethod ⟨"PutOffWicksModel","readsTimes","()V"⟩), (81, Cond.selects "PutOffWicksModel" ⟨"PutOffWicksModel","readsTimes","()V"⟩ ⟨"PutOffWicksModel","readsTimes","()V"⟩), (1491, Cond.instanceMethod ⟨"PutOffWicksModel","readsTurn","(I)Z"⟩), (80, Cond.selects "PutOffWicksModel" ⟨"PutOffWicksModel","readsTurn","(I)Z"⟩ ⟨"PutOffWicksModel","readsTurn","(I)Z"⟩), (1391, Cond.static ⟨"PutOffWicksModel","reckon","(III)I"⟩), (1388, Cond.instanceMethod ⟨"PutOffWicksModel","reckonsTo","(II)I"⟩), (70, Cond.selects "PutOffWicksModel" ⟨"PutOffWicksModel","reckonsTo","(II)I"⟩ ⟨"PutOffWicksModel","reckonsTo","(II)I"⟩), (1499, Cond.instanceMethod ⟨"PutOffWicksModel","repeats","(III)Z"⟩), (82, Cond.selects "PutOffWicksModel" ⟨"PutOffWicksModel","repeats","(III)Z"⟩ ⟨"PutOffWicksModel","repeats","(III)Z"⟩), (1622, Cond.instanceMethod ⟨"PutOffWicksModel","seed","(I)Z"⟩), (1623, Cond.selects "PutOffWicksModel" ⟨"PutOffWicksModel","seed","(I)Z"⟩ ⟨"PutOffWicksModel","seed","(I)Z"⟩), (1590, Cond.instanceMethod ⟨"PutOffWicksModel","seen","(III)I"⟩), (1591, Cond.selects "PutOffWicksModel" ⟨"PutOffWicksModel","seen","(III)I"⟩ ⟨"PutOffWicksModel","seen","(III)I"⟩), (1595, Cond.instanceMethod ⟨"PutOffWicksModel","seenAt","(II)I"⟩)]
theorem ch3_ok : ch3.all (fun q => decide (lw_tbl[q.1]? = some q.2) && goodWord q.2) = true := by decide +kernel
def ch4 : List (Nat × Cond) := [(98, Cond.selects "PutOffWicksModel" ⟨"PutOffWicksModel","seenAt","(II)I"⟩ ⟨"PutOffWicksModel","seenAt","(II)I"⟩), (1424, Cond.instanceMethod ⟨"PutOffWicksModel","setOf","(I)I"⟩), (75, Cond.selects "PutOffWicksModel" ⟨"PutOffWicksModel","setOf","(I)I"⟩ ⟨"PutOffWicksModel","setOf","(I)I"⟩), (1511, Cond.instanceMethod ⟨"PutOffWicksModel","shortened","()I"⟩), (85, Cond.selects "PutOffWicksModel" ⟨"PutOffWicksModel","shortened","()I"⟩ ⟨"PutOffWicksModel","shortened","()I"⟩), (1514, Cond.static ⟨"PutOffWicksModel","size","(I)I"⟩), (1550, Cond.instanceMethod ⟨"PutOffWicksModel","spun","(II)I"⟩), (1551, Cond.selects "PutOffWicksModel" ⟨"PutOffWicksModel","spun","(II)I"⟩ ⟨"PutOffWicksModel","spun","(II)I"⟩), (1300, Cond.static ⟨"PutOffWicksModel","sumSign","(I)I"⟩), (1336, Cond.instanceMethod ⟨"PutOffWicksModel","takes","(I)Z"⟩), (59, Cond.selects "PutOffWicksModel" ⟨"PutOffWicksModel","takes","(I)Z"⟩ ⟨"PutOffWicksModel","takes","(I)Z"⟩), (1427, Cond.instanceMethod ⟨"PutOffWicksModel","thingIs","(II)I"⟩), (1428, Cond.selects "PutOffWicksModel" ⟨"PutOffWicksModel","thingIs","(II)I"⟩ ⟨"PutOffWicksModel","thingIs","(II)I"⟩), (1416, Cond.instanceMethod ⟨"PutOffWicksModel","tried","(II)I"⟩), (1417, Cond.selects "PutOffWicksModel" ⟨"PutOffWicksModel","tried","(II)I"⟩ ⟨"PutOffWicksModel","tried","(II)I"⟩), (1503, Cond.instanceMethod ⟨"PutOffWicksModel","turnsAll","(I)V"⟩), (83, Cond.selects "PutOffWicksModel" ⟨"PutOffWicksModel","turnsAll","(I)V"⟩ ⟨"PutOffWicksModel","turnsAll","(I)V"⟩), (1486, Cond.instanceMethod ⟨"PutOffWicksModel","twist","(III)I"⟩), (1487, Cond.selects "PutOffWicksModel" ⟨"PutOffWicksModel","twist","(III)I"⟩ ⟨"PutOffWicksModel","twist","(III)I"⟩), (1249, Cond.instanceMethod ⟨"PutOffWicksModel","types","(I)V"⟩), (40, Cond.selects "PutOffWicksModel" ⟨"PutOffWicksModel","types","(I)V"⟩ ⟨"PutOffWicksModel","types","(I)V"⟩), (1630, Cond.instanceMethod ⟨"PutOffWicksModel","undo","()Z"⟩), (1631, Cond.selects "PutOffWicksModel" ⟨"PutOffWicksModel","undo","()Z"⟩ ⟨"PutOffWicksModel","undo","()Z"⟩), (1579, Cond.instanceMethod ⟨"PutOffWicksModel","unknowing","(II)I"⟩), (96, Cond.selects "PutOffWicksModel" ⟨"PutOffWicksModel","unknowing","(II)I"⟩ ⟨"PutOffWicksModel","unknowing","(II)I"⟩), (1308, Cond.instanceMethod ⟨"PutOffWicksModel","waitTop","()I"⟩), (52, Cond.selects "PutOffWicksModel" ⟨"PutOffWicksModel","waitTop","()I"⟩ ⟨"PutOffWicksModel","waitTop","()I"⟩), (1376, Cond.instanceMethod ⟨"PutOffWicksModel","waitersOf","(I)I"⟩), (67, Cond.selects "PutOffWicksModel" ⟨"PutOffWicksModel","waitersOf","(I)I"⟩ ⟨"PutOffWicksModel","waitersOf","(I)I"⟩), (1529, Cond.instanceMethod ⟨"PutOffWicksModel","waiting","(II)I"⟩), (1530, Cond.selects "PutOffWicksModel" ⟨"PutOffWicksModel","waiting","(II)I"⟩ ⟨"PutOffWicksModel","waiting","(II)I"⟩), (1467, Cond.instanceMethod ⟨"PutOffWicksModel","waysTo","(III)I"⟩), (78, Cond.selects "PutOffWicksModel" ⟨"PutOffWicksModel","waysTo","(III)I"⟩ ⟨"PutOffWicksModel","waysTo","(III)I"⟩), (1643, Cond.instanceMethod ⟨"PutOffWicksModel","whoHasLeft","()I"⟩), (102, Cond.selects "PutOffWicksModel" ⟨"PutOffWicksModel","whoHasLeft","()I"⟩ ⟨"PutOffWicksModel","whoHasLeft","()I"⟩), (1478, Cond.instanceMethod ⟨"PutOffWicksModel","worstNews","(I)I"⟩), (1479, Cond.selects "PutOffWicksModel" ⟨"PutOffWicksModel","worstNews","(I)I"⟩ ⟨"PutOffWicksModel","worstNews","(I)I"⟩), (1269, Cond.instanceMethod ⟨"PutOffWicksModel","wrongAt","(II)Z"⟩), (44, Cond.selects "PutOffWicksModel" ⟨"PutOffWicksModel","wrongAt","(II)Z"⟩ ⟨"PutOffWicksModel","wrongAt","(II)Z"⟩), (574, Cond.instanceMethod ⟨"PutOffWicks$ParishReader","read","()I"⟩), (575, Cond.selects "PutOffWicks$ParishReader" ⟨"PutOffWicks$ParishReader","read","()I"⟩ ⟨"PutOffWicks$ParishReader","read","()I"⟩), (108, Cond.initialized "PutOffWicks$ParishReader"), (580, Cond.instanceMethod ⟨"PutOffWicks$ParishReader","readLine","(I)V"⟩), (7, Cond.selects "PutOffWicks$ParishReader" ⟨"PutOffWicks$ParishReader","readLine","(I)V"⟩ ⟨"PutOffWicks$ParishReader","readLine","(I)V"⟩), (588, Cond.instanceMethod ⟨"PutOffWicks$ParishReader","readOther","(I)I"⟩), (8, Cond.selects "PutOffWicks$ParishReader" ⟨"PutOffWicks$ParishReader","readOther","(I)I"⟩ ⟨"PutOffWicks$ParishReader","readOther","(I)I"⟩), (593, Cond.instanceMethod ⟨"PutOffWicks$Parish","beginAs","(LPutOffWicks$Parish;)V"⟩), (594, Cond.selects "PutOffWicks$Parish" ⟨"PutOffWicks$Parish","beginAs","(LPutOffWicks$Parish;)V"⟩ ⟨"PutOffWicks$Parish","beginAs","(LPutOffWicks$Parish;)V"⟩), (107, Cond.initialized "PutOffWicks$Parish"), (765, Cond.instanceMethod ⟨"PutOffWicks$Parish","brightestOwner","()I"⟩)]
theorem ch4_ok : ch4.all (fun q => decide (lw_tbl[q.1]? = some q.2) && goodWord q.2) = true := by decide +kernel
def ch5 : List (Nat × Cond) := [(766, Cond.selects "PutOffWicks$Parish" ⟨"PutOffWicks$Parish","brightestOwner","()I"⟩ ⟨"PutOffWicks$Parish","brightestOwner","()I"⟩), (676, Cond.instanceMethod ⟨"PutOffWicks$Parish","burn","(II)V"⟩), (677, Cond.selects "PutOffWicks$Parish" ⟨"PutOffWicks$Parish","burn","(II)V"⟩ ⟨"PutOffWicks$Parish","burn","(II)V"⟩), (1042, Cond.instanceMethod ⟨"PutOffWicks$Parish","comeBackTo","(LPutOffWicks$Parish;)V"⟩), (1043, Cond.selects "PutOffWicks$Parish" ⟨"PutOffWicks$Parish","comeBackTo","(LPutOffWicks$Parish;)V"⟩ ⟨"PutOffWicks$Parish","comeBackTo","(LPutOffWicks$Parish;)V"⟩), (597, Cond.instanceMethod ⟨"PutOffWicks$Parish","copyFrom","(LPutOffWicks$Parish;)V"⟩), (598, Cond.selects "PutOffWicks$Parish" ⟨"PutOffWicks$Parish","copyFrom","(LPutOffWicks$Parish;)V"⟩ ⟨"PutOffWicks$Parish","copyFrom","(LPutOffWicks$Parish;)V"⟩), (621, Cond.instanceMethod ⟨"PutOffWicks$Parish","draw","()I"⟩), (622, Cond.selects "PutOffWicks$Parish" ⟨"PutOffWicks$Parish","draw","()I"⟩ ⟨"PutOffWicks$Parish","draw","()I"⟩), (687, Cond.instanceMethod ⟨"PutOffWicks$Parish","finish","(I)V"⟩), (688, Cond.selects "PutOffWicks$Parish" ⟨"PutOffWicks$Parish","finish","(I)V"⟩ ⟨"PutOffWicks$Parish","finish","(I)V"⟩), (455, Cond.instanceMethod ⟨"PutOffWicks$Parish","has","(I)Z"⟩), (456, Cond.selects "PutOffWicks$Parish" ⟨"PutOffWicks$Parish","has","(I)Z"⟩ ⟨"PutOffWicks$Parish","has","(I)Z"⟩), (459, Cond.instanceMethod ⟨"PutOffWicks$Parish","isDone","(I)Z"⟩), (460, Cond.selects "PutOffWicks$Parish" ⟨"PutOffWicks$Parish","isDone","(I)Z"⟩ ⟨"PutOffWicks$Parish","isDone","(I)Z"⟩), (682, Cond.instanceMethod ⟨"PutOffWicks$Parish","isFree","(I)Z"⟩), (683, Cond.selects "PutOffWicks$Parish" ⟨"PutOffWicks$Parish","isFree","(I)Z"⟩ ⟨"PutOffWicks$Parish","isFree","(I)Z"⟩), (647, Cond.instanceMethod ⟨"PutOffWicks$Parish","isLit","(I)Z"⟩), (648, Cond.selects "PutOffWicks$Parish" ⟨"PutOffWicks$Parish","isLit","(I)Z"⟩ ⟨"PutOffWicks$Parish","isLit","(I)Z"⟩), (651, Cond.instanceMethod ⟨"PutOffWicks$Parish","leftOf","(I)I"⟩), (652, Cond.selects "PutOffWicks$Parish" ⟨"PutOffWicks$Parish","leftOf","(I)I"⟩ ⟨"PutOffWicks$Parish","leftOf","(I)I"⟩), (779, Cond.instanceMethod ⟨"PutOffWicks$Parish","leftPutOffUnder","(I)I"⟩), (16, Cond.selects "PutOffWicks$Parish" ⟨"PutOffWicks$Parish","leftPutOffUnder","(I)I"⟩ ⟨"PutOffWicks$Parish","leftPutOffUnder","(I)I"⟩), (750, Cond.instanceMethod ⟨"PutOffWicks$Parish","leftThatNeed","(I)I"⟩), (15, Cond.selects "PutOffWicks$Parish" ⟨"PutOffWicks$Parish","leftThatNeed","(I)I"⟩ ⟨"PutOffWicks$Parish","leftThatNeed","(I)I"⟩), (757, Cond.instanceMethod ⟨"PutOffWicks$Parish","lightOf","(I)I"⟩), (758, Cond.selects "PutOffWicks$Parish" ⟨"PutOffWicks$Parish","lightOf","(I)I"⟩ ⟨"PutOffWicks$Parish","lightOf","(I)I"⟩), (774, Cond.instanceMethod ⟨"PutOffWicks$Parish","middlePutOff","()I"⟩), (775, Cond.selects "PutOffWicks$Parish" ⟨"PutOffWicks$Parish","middlePutOff","()I"⟩ ⟨"PutOffWicks$Parish","middlePutOff","()I"⟩), (744, Cond.instanceMethod ⟨"PutOffWicks$Parish","ordersLeft","()I"⟩), (745, Cond.selects "PutOffWicks$Parish" ⟨"PutOffWicks$Parish","ordersLeft","()I"⟩ ⟨"PutOffWicks$Parish","ordersLeft","()I"⟩), (723, Cond.instanceMethod ⟨"PutOffWicks$Parish","ownersLeft","()I"⟩), (724, Cond.selects "PutOffWicks$Parish" ⟨"PutOffWicks$Parish","ownersLeft","()I"⟩ ⟨"PutOffWicks$Parish","ownersLeft","()I"⟩), (719, Cond.instanceMethod ⟨"PutOffWicks$Parish","proudest","()I"⟩), (720, Cond.selects "PutOffWicks$Parish" ⟨"PutOffWicks$Parish","proudest","()I"⟩ ⟨"PutOffWicks$Parish","proudest","()I"⟩), (692, Cond.instanceMethod ⟨"PutOffWicks$Parish","putItOff","(I)V"⟩), (693, Cond.selects "PutOffWicks$Parish" ⟨"PutOffWicks$Parish","putItOff","(I)V"⟩ ⟨"PutOffWicks$Parish","putItOff","(I)V"⟩), (463, Cond.instanceMethod ⟨"PutOffWicks$Parish","putLight","(IZ)V"⟩), (464, Cond.selects "PutOffWicks$Parish" ⟨"PutOffWicks$Parish","putLight","(IZ)V"⟩ ⟨"PutOffWicks$Parish","putLight","(IZ)V"⟩), (727, Cond.instanceMethod ⟨"PutOffWicks$Parish","putOffBy","(I)I"⟩), (728, Cond.selects "PutOffWicks$Parish" ⟨"PutOffWicks$Parish","putOffBy","(I)I"⟩ ⟨"PutOffWicks$Parish","putOffBy","(I)I"⟩), (656, Cond.instanceMethod ⟨"PutOffWicks$Parish","waitersFor","(I)I"⟩), (657, Cond.selects "PutOffWicks$Parish" ⟨"PutOffWicks$Parish","waitersFor","(I)I"⟩ ⟨"PutOffWicks$Parish","waitersFor","(I)I"⟩), (494, Cond.instanceMethod ⟨"PutOffWicks$Reading","begin","()V"⟩), (495, Cond.selects "PutOffWicks$Reading" ⟨"PutOffWicks$Reading","begin","()V"⟩ ⟨"PutOffWicks$Reading","begin","()V"⟩), (106, Cond.initialized "PutOffWicks$Reading"), (506, Cond.instanceMethod ⟨"PutOffWicks$Reading","fail","(II)V"⟩), (507, Cond.selects "PutOffWicks$Reading" ⟨"PutOffWicks$Reading","fail","(II)V"⟩ ⟨"PutOffWicks$Reading","fail","(II)V"⟩), (795, Cond.instanceMethod ⟨"PutOffWicks$Reading","failed","()Z"⟩), (796, Cond.selects "PutOffWicks$Reading" ⟨"PutOffWicks$Reading","failed","()Z"⟩ ⟨"PutOffWicks$Reading","failed","()Z"⟩)]
theorem ch5_ok : ch5.all (fun q => decide (lw_tbl[q.1]? = some q.2) && goodWord q.2) = true := by decide +kernel
def ch6 : List (Nat × Cond) := [(558, Cond.instanceMethod ⟨"PutOffWicks$Reading","goesOn","()Z"⟩), (559, Cond.selects "PutOffWicks$Reading" ⟨"PutOffWicks$Reading","goesOn","()Z"⟩ ⟨"PutOffWicks$Reading","goesOn","()Z"⟩), (531, Cond.static ⟨"PutOffWicks$Reading","isDigit","(I)Z"⟩), (526, Cond.instanceMethod ⟨"PutOffWicks$Reading","needs","(I)V"⟩), (527, Cond.selects "PutOffWicks$Reading" ⟨"PutOffWicks$Reading","needs","(I)V"⟩ ⟨"PutOffWicks$Reading","needs","(I)V"⟩), (534, Cond.instanceMethod ⟨"PutOffWicks$Reading","number","(I)I"⟩), (535, Cond.selects "PutOffWicks$Reading" ⟨"PutOffWicks$Reading","number","(I)I"⟩ ⟨"PutOffWicks$Reading","number","(I)I"⟩), (498, Cond.instanceMethod ⟨"PutOffWicks$Reading","sign","()I"⟩), (499, Cond.selects "PutOffWicks$Reading" ⟨"PutOffWicks$Reading","sign","()I"⟩ ⟨"PutOffWicks$Reading","sign","()I"⟩), (542, Cond.instanceMethod ⟨"PutOffWicks$Reading","takes","(I)Z"⟩), (543, Cond.selects "PutOffWicks$Reading" ⟨"PutOffWicks$Reading","takes","(I)Z"⟩ ⟨"PutOffWicks$Reading","takes","(I)Z"⟩), (630, Cond.instanceMethod ⟨"PutOffWicks$Reckoner","ask","(III)I"⟩), (631, Cond.selects "PutOffWicks$Reckoner" ⟨"PutOffWicks$Reckoner","ask","(III)I"⟩ ⟨"PutOffWicks$Reckoner","ask","(III)I"⟩), (111, Cond.initialized "PutOffWicks$Reckoner"), (626, Cond.instanceMethod ⟨"PutOffWicks$Reckoner","face","(LPutOffWicks$Parish;II)V"⟩), (627, Cond.selects "PutOffWicks$Reckoner" ⟨"PutOffWicks$Reckoner","face","(LPutOffWicks$Parish;II)V"⟩ ⟨"PutOffWicks$Reckoner","face","(LPutOffWicks$Parish;II)V"⟩), (643, Cond.instanceMethod ⟨"PutOffWicks$Reckoner","fact","(I)I"⟩), (12, Cond.selects "PutOffWicks$Reckoner" ⟨"PutOffWicks$Reckoner","fact","(I)I"⟩ ⟨"PutOffWicks$Reckoner","fact","(I)I"⟩), (665, Cond.instanceMethod ⟨"PutOffWicks$Reckoner","joined","(III)I"⟩), (14, Cond.selects "PutOffWicks$Reckoner" ⟨"PutOffWicks$Reckoner","joined","(III)I"⟩ ⟨"PutOffWicks$Reckoner","joined","(III)I"⟩), (661, Cond.instanceMethod ⟨"PutOffWicks$Reckoner","pop","()I"⟩), (13, Cond.selects "PutOffWicks$Reckoner" ⟨"PutOffWicks$Reckoner","pop","()I"⟩ ⟨"PutOffWicks$Reckoner","pop","()I"⟩), (639, Cond.instanceMethod ⟨"PutOffWicks$Reckoner","push","(I)V"⟩), (11, Cond.selects "PutOffWicks$Reckoner" ⟨"PutOffWicks$Reckoner","push","(I)V"⟩ ⟨"PutOffWicks$Reckoner","push","(I)V"⟩), (635, Cond.instanceMethod ⟨"PutOffWicks$Reckoner","reckon","(II)I"⟩), (10, Cond.selects "PutOffWicks$Reckoner" ⟨"PutOffWicks$Reckoner","reckon","(II)I"⟩ ⟨"PutOffWicks$Reckoner","reckon","(II)I"⟩), (1026, Cond.instanceMethod ⟨"PutOffWicks$Rows","beats","(II)Z"⟩), (37, Cond.selects "PutOffWicks$Rows" ⟨"PutOffWicks$Rows","beats","(II)Z"⟩ ⟨"PutOffWicks$Rows","beats","(II)Z"⟩), (115, Cond.initialized "PutOffWicks$Rows"), (896, Cond.instanceMethod ⟨"PutOffWicks$Rows","bestFirst","(I)I"⟩), (897, Cond.selects "PutOffWicks$Rows" ⟨"PutOffWicks$Rows","bestFirst","(I)I"⟩ ⟨"PutOffWicks$Rows","bestFirst","(I)I"⟩), (931, Cond.instanceMethod ⟨"PutOffWicks$Rows","dayIfKnowing","(II)I"⟩), (932, Cond.selects "PutOffWicks$Rows" ⟨"PutOffWicks$Rows","dayIfKnowing","(II)I"⟩ ⟨"PutOffWicks$Rows","dayIfKnowing","(II)I"⟩), (935, Cond.instanceMethod ⟨"PutOffWicks$Rows","dayIfNotKnowing","(II)I"⟩), (936, Cond.selects "PutOffWicks$Rows" ⟨"PutOffWicks$Rows","dayIfNotKnowing","(II)I"⟩ ⟨"PutOffWicks$Rows","dayIfNotKnowing","(II)I"⟩), (1011, Cond.instanceMethod ⟨"PutOffWicks$Rows","difference","(II)I"⟩), (1012, Cond.selects "PutOffWicks$Rows" ⟨"PutOffWicks$Rows","difference","(II)I"⟩ ⟨"PutOffWicks$Rows","difference","(II)I"⟩), (1007, Cond.instanceMethod ⟨"PutOffWicks$Rows","evenestCut","(I)I"⟩), (1008, Cond.selects "PutOffWicks$Rows" ⟨"PutOffWicks$Rows","evenestCut","(I)I"⟩ ⟨"PutOffWicks$Rows","evenestCut","(I)I"⟩), (924, Cond.instanceMethod ⟨"PutOffWicks$Rows","farthestFrom","(II)I"⟩), (32, Cond.selects "PutOffWicks$Rows" ⟨"PutOffWicks$Rows","farthestFrom","(II)I"⟩ ⟨"PutOffWicks$Rows","farthestFrom","(II)I"⟩), (919, Cond.instanceMethod ⟨"PutOffWicks$Rows","fewestWicks","(II)I"⟩), (920, Cond.selects "PutOffWicks$Rows" ⟨"PutOffWicks$Rows","fewestWicks","(II)I"⟩ ⟨"PutOffWicks$Rows","fewestWicks","(II)I"⟩), (900, Cond.instanceMethod ⟨"PutOffWicks$Rows","hoursBehind","(II)I"⟩), (901, Cond.selects "PutOffWicks$Rows" ⟨"PutOffWicks$Rows","hoursBehind","(II)I"⟩ ⟨"PutOffWicks$Rows","hoursBehind","(II)I"⟩), (945, Cond.instanceMethod ⟨"PutOffWicks$Rows","longestCord","(II)I"⟩), (946, Cond.selects "PutOffWicks$Rows" ⟨"PutOffWicks$Rows","longestCord","(II)I"⟩ ⟨"PutOffWicks$Rows","longestCord","(II)I"⟩), (906, Cond.instanceMethod ⟨"PutOffWicks$Rows","nextToSpin","(II)I"⟩), (30, Cond.selects "PutOffWicks$Rows" ⟨"PutOffWicks$Rows","nextToSpin","(II)I"⟩ ⟨"PutOffWicks$Rows","nextToSpin","(II)I"⟩), (910, Cond.instanceMethod ⟨"PutOffWicks$Rows","spinsAhead","(II)Z"⟩)]
theorem ch6_ok : ch6.all (fun q => decide (lw_tbl[q.1]? = some q.2) && goodWord q.2) = true := by decide +kernel
def ch7 : List (Nat × Cond) := [(31, Cond.selects "PutOffWicks$Rows" ⟨"PutOffWicks$Rows","spinsAhead","(II)Z"⟩ ⟨"PutOffWicks$Rows","spinsAhead","(II)Z"⟩), (950, Cond.instanceMethod ⟨"PutOffWicks$Rows","sufficesFor","(III)Z"⟩), (33, Cond.selects "PutOffWicks$Rows" ⟨"PutOffWicks$Rows","sufficesFor","(III)Z"⟩ ⟨"PutOffWicks$Rows","sufficesFor","(III)Z"⟩), (1021, Cond.instanceMethod ⟨"PutOffWicks$Rows","unbeaten","(I)I"⟩), (1022, Cond.selects "PutOffWicks$Rows" ⟨"PutOffWicks$Rows","unbeaten","(I)I"⟩ ⟨"PutOffWicks$Rows","unbeaten","(I)I"⟩), (980, Cond.instanceMethod ⟨"PutOffWicks$Shore","bestLights","(II)I"⟩), (981, Cond.selects "PutOffWicks$Shore" ⟨"PutOffWicks$Shore","bestLights","(II)I"⟩ ⟨"PutOffWicks$Shore","bestLights","(II)I"⟩), (114, Cond.initialized "PutOffWicks$Shore"), (985, Cond.instanceMethod ⟨"PutOffWicks$Shore","fillView","(I)V"⟩), (36, Cond.selects "PutOffWicks$Shore" ⟨"PutOffWicks$Shore","fillView","(I)V"⟩ ⟨"PutOffWicks$Shore","fillView","(I)V"⟩), (966, Cond.instanceMethod ⟨"PutOffWicks$Shore","isSeen","(II)Z"⟩), (35, Cond.selects "PutOffWicks$Shore" ⟨"PutOffWicks$Shore","isSeen","(II)Z"⟩ ⟨"PutOffWicks$Shore","isSeen","(II)Z"⟩), (971, Cond.instanceMethod ⟨"PutOffWicks$Shore","longestRow","(II)I"⟩), (972, Cond.selects "PutOffWicks$Shore" ⟨"PutOffWicks$Shore","longestRow","(II)I"⟩ ⟨"PutOffWicks$Shore","longestRow","(II)I"⟩), (992, Cond.instanceMethod ⟨"PutOffWicks$Shore","placesOf","(II)I"⟩), (993, Cond.selects "PutOffWicks$Shore" ⟨"PutOffWicks$Shore","placesOf","(II)I"⟩ ⟨"PutOffWicks$Shore","placesOf","(II)I"⟩), (957, Cond.instanceMethod ⟨"PutOffWicks$Shore","placesSeeing","(II)I"⟩), (958, Cond.selects "PutOffWicks$Shore" ⟨"PutOffWicks$Shore","placesSeeing","(II)I"⟩ ⟨"PutOffWicks$Shore","placesSeeing","(II)I"⟩), (962, Cond.instanceMethod ⟨"PutOffWicks$Shore","sees","(III)Z"⟩), (34, Cond.selects "PutOffWicks$Shore" ⟨"PutOffWicks$Shore","sees","(III)Z"⟩ ⟨"PutOffWicks$Shore","sees","(III)Z"⟩), (502, Cond.instanceMethod ⟨"PutOffWicks$Tape","at","(I)I"⟩), (503, Cond.selects "PutOffWicks$Tape" ⟨"PutOffWicks$Tape","at","(I)I"⟩ ⟨"PutOffWicks$Tape","at","(I)I"⟩), (105, Cond.initialized "PutOffWicks$Tape"), (471, Cond.instanceMethod ⟨"PutOffWicks$Tape","hasRoom","()Z"⟩), (472, Cond.selects "PutOffWicks$Tape" ⟨"PutOffWicks$Tape","hasRoom","()Z"⟩ ⟨"PutOffWicks$Tape","hasRoom","()Z"⟩), (475, Cond.instanceMethod ⟨"PutOffWicks$Tape","put","(I)V"⟩), (476, Cond.selects "PutOffWicks$Tape" ⟨"PutOffWicks$Tape","put","(I)V"⟩ ⟨"PutOffWicks$Tape","put","(I)V"⟩), (486, Cond.instanceMethod ⟨"PutOffWicks$Tape","take","(I)Z"⟩), (487, Cond.selects "PutOffWicks$Tape" ⟨"PutOffWicks$Tape","take","(I)Z"⟩ ⟨"PutOffWicks$Tape","take","(I)Z"⟩), (818, Cond.instanceMethod ⟨"PutOffWicks$Twist","closeGroup","()V"⟩), (22, Cond.selects "PutOffWicks$Twist" ⟨"PutOffWicks$Twist","closeGroup","()V"⟩ ⟨"PutOffWicks$Twist","closeGroup","()V"⟩), (112, Cond.initialized "PutOffWicks$Twist"), (833, Cond.instanceMethod ⟨"PutOffWicks$Twist","comesOut","(I)I"⟩), (834, Cond.selects "PutOffWicks$Twist" ⟨"PutOffWicks$Twist","comesOut","(I)I"⟩ ⟨"PutOffWicks$Twist","comesOut","(I)I"⟩), (792, Cond.instanceMethod ⟨"PutOffWicks$Twist","ends","()Z"⟩), (17, Cond.selects "PutOffWicks$Twist" ⟨"PutOffWicks$Twist","ends","()Z"⟩ ⟨"PutOffWicks$Twist","ends","()Z"⟩), (814, Cond.instanceMethod ⟨"PutOffWicks$Twist","openGroup","(II)V"⟩), (21, Cond.selects "PutOffWicks$Twist" ⟨"PutOffWicks$Twist","openGroup","(II)V"⟩ ⟨"PutOffWicks$Twist","openGroup","(II)V"⟩), (821, Cond.instanceMethod ⟨"PutOffWicks$Twist","oversLessUnders","()I"⟩), (822, Cond.selects "PutOffWicks$Twist" ⟨"PutOffWicks$Twist","oversLessUnders","()I"⟩ ⟨"PutOffWicks$Twist","oversLessUnders","()I"⟩), (786, Cond.instanceMethod ⟨"PutOffWicks$Twist","read","(I)I"⟩), (787, Cond.selects "PutOffWicks$Twist" ⟨"PutOffWicks$Twist","read","(I)I"⟩ ⟨"PutOffWicks$Twist","read","(I)I"⟩), (801, Cond.instanceMethod ⟨"PutOffWicks$Twist","readTimes","()I"⟩), (18, Cond.selects "PutOffWicks$Twist" ⟨"PutOffWicks$Twist","readTimes","()I"⟩ ⟨"PutOffWicks$Twist","readTimes","()I"⟩), (805, Cond.instanceMethod ⟨"PutOffWicks$Twist","readTurn","(IZI)V"⟩), (19, Cond.selects "PutOffWicks$Twist" ⟨"PutOffWicks$Twist","readTurn","(IZI)V"⟩ ⟨"PutOffWicks$Twist","readTurn","(IZI)V"⟩), (810, Cond.instanceMethod ⟨"PutOffWicks$Twist","repeat","(III)V"⟩), (20, Cond.selects "PutOffWicks$Twist" ⟨"PutOffWicks$Twist","repeat","(III)V"⟩ ⟨"PutOffWicks$Twist","repeat","(III)V"⟩), (829, Cond.instanceMethod ⟨"PutOffWicks$Twist","timesTillHome","(I)I"⟩), (830, Cond.selects "PutOffWicks$Twist" ⟨"PutOffWicks$Twist","timesTillHome","(I)I"⟩ ⟨"PutOffWicks$Twist","timesTillHome","(I)I"⟩)]
theorem ch7_ok : ch7.all (fun q => decide (lw_tbl[q.1]? = some q.2) && goodWord q.2) = true := by decide +kernel
def ch8 : List (Nat × Cond) := [(825, Cond.instanceMethod ⟨"PutOffWicks$Twist","turnsLeft","()I"⟩), (826, Cond.selects "PutOffWicks$Twist" ⟨"PutOffWicks$Twist","turnsLeft","()I"⟩ ⟨"PutOffWicks$Twist","turnsLeft","()I"⟩), (976, Cond.instanceMethod ⟨"PutOffWicks","brightest","(III)I"⟩), (977, Cond.selects "PutOffWicks" ⟨"PutOffWicks","brightest","(III)I"⟩ ⟨"PutOffWicks","brightest","(III)I"⟩), (104, Cond.initialized "PutOffWicks"), (707, Cond.instanceMethod ⟨"PutOffWicks","byWhen","(II)I"⟩), (708, Cond.selects "PutOffWicks" ⟨"PutOffWicks","byWhen","(II)I"⟩ ⟨"PutOffWicks","byWhen","(II)I"⟩), (736, Cond.instanceMethod ⟨"PutOffWicks","chain","(I)I"⟩), (737, Cond.selects "PutOffWicks" ⟨"PutOffWicks","chain","(I)I"⟩ ⟨"PutOffWicks","chain","(I)I"⟩), (1046, Cond.instanceMethod ⟨"PutOffWicks","check","(I)I"⟩), (1047, Cond.selects "PutOffWicks" ⟨"PutOffWicks","check","(I)I"⟩ ⟨"PutOffWicks","check","(I)I"⟩), (941, Cond.instanceMethod ⟨"PutOffWicks","cord","(II)I"⟩), (942, Cond.selects "PutOffWicks" ⟨"PutOffWicks","cord","(II)I"⟩ ⟨"PutOffWicks","cord","(II)I"⟩), (1050, Cond.instanceMethod ⟨"PutOffWicks","count","(I)I"⟩), (1051, Cond.selects "PutOffWicks" ⟨"PutOffWicks","count","(I)I"⟩ ⟨"PutOffWicks","count","(I)I"⟩), (711, Cond.instanceMethod ⟨"PutOffWicks","dark","(I)I"⟩), (712, Cond.selects "PutOffWicks" ⟨"PutOffWicks","dark","(I)I"⟩ ⟨"PutOffWicks","dark","(I)I"⟩), (602, Cond.instanceMethod ⟨"PutOffWicks","days","(I)I"⟩), (603, Cond.selects "PutOffWicks" ⟨"PutOffWicks","days","(I)I"⟩ ⟨"PutOffWicks","days","(I)I"⟩), (467, Cond.instanceMethod ⟨"PutOffWicks","feed","(IIIII)I"⟩), (468, Cond.selects "PutOffWicks" ⟨"PutOffWicks","feed","(IIIII)I"⟩ ⟨"PutOffWicks","feed","(IIIII)I"⟩), (1017, Cond.instanceMethod ⟨"PutOffWicks","forgiven","(I)I"⟩), (1018, Cond.selects "PutOffWicks" ⟨"PutOffWicks","forgiven","(I)I"⟩ ⟨"PutOffWicks","forgiven","(I)I"⟩), (1003, Cond.instanceMethod ⟨"PutOffWicks","halves","(II)I"⟩), (1004, Cond.selects "PutOffWicks" ⟨"PutOffWicks","halves","(II)I"⟩ ⟨"PutOffWicks","halves","(II)I"⟩), (1034, Cond.instanceMethod ⟨"PutOffWicks","keep","()I"⟩), (1035, Cond.selects "PutOffWicks" ⟨"PutOffWicks","keep","()I"⟩ ⟨"PutOffWicks","keep","()I"⟩), (479, Cond.instanceMethod ⟨"PutOffWicks","law","(I)I"⟩), (480, Cond.selects "PutOffWicks" ⟨"PutOffWicks","law","(I)I"⟩ ⟨"PutOffWicks","law","(I)I"⟩), (753, Cond.instanceMethod ⟨"PutOffWicks","light","(I)I"⟩), (754, Cond.selects "PutOffWicks" ⟨"PutOffWicks","light","(I)I"⟩ ⟨"PutOffWicks","light","(I)I"⟩), (451, Cond.instanceMethod ⟨"PutOffWicks","lit","(IZ)Z"⟩), (452, Cond.selects "PutOffWicks" ⟨"PutOffWicks","lit","(IZ)Z"⟩ ⟨"PutOffWicks","lit","(IZ)Z"⟩), (770, Cond.instanceMethod ⟨"PutOffWicks","median","()I"⟩), (771, Cond.selects "PutOffWicks" ⟨"PutOffWicks","median","()I"⟩ ⟨"PutOffWicks","median","()I"⟩), (915, Cond.instanceMethod ⟨"PutOffWicks","night","(II)I"⟩), (916, Cond.selects "PutOffWicks" ⟨"PutOffWicks","night","(II)I"⟩ ⟨"PutOffWicks","night","(II)I"⟩), (732, Cond.instanceMethod ⟨"PutOffWicks","oldest","()I"⟩), (733, Cond.selects "PutOffWicks" ⟨"PutOffWicks","oldest","()I"⟩ ⟨"PutOffWicks","oldest","()I"⟩), (740, Cond.instanceMethod ⟨"PutOffWicks","orders","()I"⟩), (741, Cond.selects "PutOffWicks" ⟨"PutOffWicks","orders","()I"⟩ ⟨"PutOffWicks","orders","()I"⟩), (570, Cond.instanceMethod ⟨"PutOffWicks","parish","(I)I"⟩), (571, Cond.selects "PutOffWicks" ⟨"PutOffWicks","parish","(I)I"⟩ ⟨"PutOffWicks","parish","(I)I"⟩), (715, Cond.instanceMethod ⟨"PutOffWicks","pride","(I)I"⟩), (716, Cond.selects "PutOffWicks" ⟨"PutOffWicks","pride","(I)I"⟩ ⟨"PutOffWicks","pride","(I)I"⟩), (927, Cond.instanceMethod ⟨"PutOffWicks","putsOff","(IIZI)I"⟩), (928, Cond.selects "PutOffWicks" ⟨"PutOffWicks","putsOff","(IIZI)I"⟩ ⟨"PutOffWicks","putsOff","(IIZI)I"⟩), (1029, Cond.instanceMethod ⟨"PutOffWicks","seed","(I)Z"⟩), (1030, Cond.selects "PutOffWicks" ⟨"PutOffWicks","seed","(I)Z"⟩ ⟨"PutOffWicks","seed","(I)Z"⟩), (953, Cond.instanceMethod ⟨"PutOffWicks","seen","(III)I"⟩)]
theorem ch8_ok : ch8.all (fun q => decide (lw_tbl[q.1]? = some q.2) && goodWord q.2) = true := by decide +kernel
def ch9 : List (Nat × Cond) := [(954, Cond.selects "PutOffWicks" ⟨"PutOffWicks","seen","(III)I"⟩ ⟨"PutOffWicks","seen","(III)I"⟩), (892, Cond.instanceMethod ⟨"PutOffWicks","spun","(II)I"⟩), (893, Cond.selects "PutOffWicks" ⟨"PutOffWicks","spun","(II)I"⟩ ⟨"PutOffWicks","spun","(II)I"⟩), (702, Cond.instanceMethod ⟨"PutOffWicks","thingIs","(II)I"⟩), (703, Cond.selects "PutOffWicks" ⟨"PutOffWicks","thingIs","(II)I"⟩ ⟨"PutOffWicks","thingIs","(II)I"⟩), (697, Cond.instanceMethod ⟨"PutOffWicks","tried","(II)I"⟩), (698, Cond.selects "PutOffWicks" ⟨"PutOffWicks","tried","(II)I"⟩ ⟨"PutOffWicks","tried","(II)I"⟩), (782, Cond.instanceMethod ⟨"PutOffWicks","twist","(III)I"⟩), (783, Cond.selects "PutOffWicks" ⟨"PutOffWicks","twist","(III)I"⟩ ⟨"PutOffWicks","twist","(III)I"⟩), (1038, Cond.instanceMethod ⟨"PutOffWicks","undo","()Z"⟩), (1039, Cond.selects "PutOffWicks" ⟨"PutOffWicks","undo","()Z"⟩ ⟨"PutOffWicks","undo","()Z"⟩), (841, Cond.instanceMethod ⟨"PutOffWicks","waiting","(II)I"⟩), (842, Cond.selects "PutOffWicks" ⟨"PutOffWicks","waiting","(II)I"⟩ ⟨"PutOffWicks","waiting","(II)I"⟩), (483, Cond.static ⟨"PutOffWicks","within","(III)Z"⟩), (761, Cond.instanceMethod ⟨"PutOffWicks","worstNews","(I)I"⟩), (762, Cond.selects "PutOffWicks" ⟨"PutOffWicks","worstNews","(I)I"⟩ ⟨"PutOffWicks","worstNews","(I)I"⟩), (868, Cond.instanceMethod ⟨"PutOffWicks$Waits","canEnd","(II)Z"⟩), (24, Cond.selects "PutOffWicks$Waits" ⟨"PutOffWicks$Waits","canEnd","(II)Z"⟩ ⟨"PutOffWicks$Waits","canEnd","(II)Z"⟩), (113, Cond.initialized "PutOffWicks$Waits"), (859, Cond.instanceMethod ⟨"PutOffWicks$Waits","fewestToEnd","()I"⟩), (860, Cond.selects "PutOffWicks$Waits" ⟨"PutOffWicks$Waits","fewestToEnd","()I"⟩ ⟨"PutOffWicks$Waits","fewestToEnd","()I"⟩), (877, Cond.instanceMethod ⟨"PutOffWicks$Waits","findRingOf","(III)I"⟩), (26, Cond.selects "PutOffWicks$Waits" ⟨"PutOffWicks$Waits","findRingOf","(III)I"⟩ ⟨"PutOffWicks$Waits","findRingOf","(III)I"⟩), (872, Cond.instanceMethod ⟨"PutOffWicks$Waits","findShortestRing","(I)I"⟩), (25, Cond.selects "PutOffWicks$Waits" ⟨"PutOffWicks$Waits","findShortestRing","(I)I"⟩ ⟨"PutOffWicks$Waits","findShortestRing","(I)I"⟩), (854, Cond.instanceMethod ⟨"PutOffWicks$Waits","forEver","()I"⟩), (855, Cond.selects "PutOffWicks$Waits" ⟨"PutOffWicks$Waits","forEver","()I"⟩ ⟨"PutOffWicks$Waits","forEver","()I"⟩), (885, Cond.instanceMethod ⟨"PutOffWicks$Waits","markFrom","(II)V"⟩), (28, Cond.selects "PutOffWicks$Waits" ⟨"PutOffWicks$Waits","markFrom","(II)V"⟩ ⟨"PutOffWicks$Waits","markFrom","(II)V"⟩), (845, Cond.instanceMethod ⟨"PutOffWicks$Waits","read","(I)Z"⟩), (846, Cond.selects "PutOffWicks$Waits" ⟨"PutOffWicks$Waits","read","(I)Z"⟩ ⟨"PutOffWicks$Waits","read","(I)Z"⟩), (889, Cond.instanceMethod ⟨"PutOffWicks$Waits","ringAt","(II)I"⟩), (29, Cond.selects "PutOffWicks$Waits" ⟨"PutOffWicks$Waits","ringAt","(II)I"⟩ ⟨"PutOffWicks$Waits","ringAt","(II)I"⟩), (864, Cond.instanceMethod ⟨"PutOffWicks$Waits","ringsOfTwo","()I"⟩), (23, Cond.selects "PutOffWicks$Waits" ⟨"PutOffWicks$Waits","ringsOfTwo","()I"⟩ ⟨"PutOffWicks$Waits","ringsOfTwo","()I"⟩), (881, Cond.instanceMethod ⟨"PutOffWicks$Waits","writeRing","(III)V"⟩), (27, Cond.selects "PutOffWicks$Waits" ⟨"PutOffWicks$Waits","writeRing","(III)V"⟩ ⟨"PutOffWicks$Waits","writeRing","(III)V"⟩), (454, Cond.methodLink "PutOffWicks" 107 ⟨"PutOffWicks$Parish","has","(I)Z"⟩), (458, Cond.methodLink "PutOffWicks" 111 ⟨"PutOffWicks$Parish","isDone","(I)Z"⟩), (462, Cond.methodLink "PutOffWicks" 118 ⟨"PutOffWicks$Parish","putLight","(IZ)V"⟩), (470, Cond.methodLink "PutOffWicks" 122 ⟨"PutOffWicks$Tape","hasRoom","()Z"⟩), (474, Cond.methodLink "PutOffWicks" 126 ⟨"PutOffWicks$Tape","put","(I)V"⟩), (482, Cond.methodLink "PutOffWicks" 133 ⟨"PutOffWicks","within","(III)Z"⟩), (485, Cond.methodLink "PutOffWicks" 137 ⟨"PutOffWicks$Tape","take","(I)Z"⟩), (489, Cond.methodLink "PutOffWicks" 140 ⟨"PutOffWicks$Law","read","()I"⟩), (562, Cond.methodLink "PutOffWicks" 144 ⟨"PutOffWicks$Law","copyFrom","(LPutOffWicks$Law;)V"⟩), (573, Cond.methodLink "PutOffWicks" 151 ⟨"PutOffWicks$ParishReader","read","()I"⟩), (592, Cond.methodLink "PutOffWicks" 155 ⟨"PutOffWicks$Parish","beginAs","(LPutOffWicks$Parish;)V"⟩), (605, Cond.methodLink "PutOffWicks" 162 ⟨"PutOffWicks$Almanac","pass","(LPutOffWicks$Parish;I)I"⟩), (700, Cond.methodLink "PutOffWicks" 166 ⟨"PutOffWicks$Parish","copyFrom","(LPutOffWicks$Parish;)V"⟩)]
theorem ch9_ok : ch9.all (fun q => decide (lw_tbl[q.1]? = some q.2) && goodWord q.2) = true := by decide +kernel
def ch10 : List (Nat × Cond) := [(705, Cond.methodLink "PutOffWicks" 183 ⟨"PutOffWicks$Parish","isLit","(I)Z"⟩), (718, Cond.methodLink "PutOffWicks" 189 ⟨"PutOffWicks$Parish","proudest","()I"⟩), (730, Cond.methodLink "PutOffWicks" 192 ⟨"PutOffWicks$Parish","putOffBy","(I)I"⟩), (743, Cond.methodLink "PutOffWicks" 196 ⟨"PutOffWicks$Parish","ordersLeft","()I"⟩), (756, Cond.methodLink "PutOffWicks" 199 ⟨"PutOffWicks$Parish","lightOf","(I)I"⟩), (764, Cond.methodLink "PutOffWicks" 202 ⟨"PutOffWicks$Parish","brightestOwner","()I"⟩), (773, Cond.methodLink "PutOffWicks" 205 ⟨"PutOffWicks$Parish","middlePutOff","()I"⟩), (785, Cond.methodLink "PutOffWicks" 208 ⟨"PutOffWicks$Twist","read","(I)I"⟩), (820, Cond.methodLink "PutOffWicks" 213 ⟨"PutOffWicks$Twist","oversLessUnders","()I"⟩), (824, Cond.methodLink "PutOffWicks" 216 ⟨"PutOffWicks$Twist","turnsLeft","()I"⟩), (828, Cond.methodLink "PutOffWicks" 219 ⟨"PutOffWicks$Twist","timesTillHome","(I)I"⟩), (839, Cond.methodLink "PutOffWicks" 222 ⟨"PutOffWicks$Twist","comesOut","(I)I"⟩), (844, Cond.methodLink "PutOffWicks" 225 ⟨"PutOffWicks$Waits","read","(I)Z"⟩), (853, Cond.methodLink "PutOffWicks" 227 ⟨"PutOffWicks$Waits","forEver","()I"⟩), (858, Cond.methodLink "PutOffWicks" 230 ⟨"PutOffWicks$Waits","fewestToEnd","()I"⟩), (895, Cond.methodLink "PutOffWicks" 233 ⟨"PutOffWicks$Rows","bestFirst","(I)I"⟩), (913, Cond.methodLink "PutOffWicks" 236 ⟨"PutOffWicks$Rows","hoursBehind","(II)I"⟩), (918, Cond.methodLink "PutOffWicks" 240 ⟨"PutOffWicks$Rows","fewestWicks","(II)I"⟩), (930, Cond.methodLink "PutOffWicks" 243 ⟨"PutOffWicks$Rows","dayIfKnowing","(II)I"⟩), (934, Cond.methodLink "PutOffWicks" 246 ⟨"PutOffWicks$Rows","dayIfNotKnowing","(II)I"⟩), (939, Cond.methodLink "PutOffWicks" 249 ⟨"PutOffWicks$Tape","at","(I)I"⟩), (944, Cond.methodLink "PutOffWicks" 252 ⟨"PutOffWicks$Rows","longestCord","(II)I"⟩), (956, Cond.methodLink "PutOffWicks" 255 ⟨"PutOffWicks$Shore","placesSeeing","(II)I"⟩), (970, Cond.methodLink "PutOffWicks" 258 ⟨"PutOffWicks$Shore","longestRow","(II)I"⟩), (979, Cond.methodLink "PutOffWicks" 261 ⟨"PutOffWicks$Shore","bestLights","(II)I"⟩), (1001, Cond.methodLink "PutOffWicks" 264 ⟨"PutOffWicks$Shore","placesOf","(II)I"⟩), (1006, Cond.methodLink "PutOffWicks" 267 ⟨"PutOffWicks$Rows","evenestCut","(I)I"⟩), (1015, Cond.methodLink "PutOffWicks" 270 ⟨"PutOffWicks$Rows","difference","(II)I"⟩), (1020, Cond.methodLink "PutOffWicks" 273 ⟨"PutOffWicks$Rows","unbeaten","(I)I"⟩), (1041, Cond.methodLink "PutOffWicks" 280 ⟨"PutOffWicks$Parish","comeBackTo","(LPutOffWicks$Parish;)V"⟩), (1053, Cond.methodLink "PutOffWicks" 283 ⟨"PutOffWicks$Parish","ownersLeft","()I"⟩), (609, Cond.methodLink "PutOffWicks$Almanac" 21 ⟨"java/lang/Integer","bitCount","(I)I"⟩), (615, Cond.methodLink "PutOffWicks$Almanac" 33 ⟨"PutOffWicks$Parish","isDone","(I)Z"⟩), (616, Cond.methodLink "PutOffWicks$Almanac" 37 ⟨"PutOffWicks$Almanac","passOver","(LPutOffWicks$Parish;I)V"⟩), (620, Cond.methodLink "PutOffWicks$Almanac" 41 ⟨"PutOffWicks$Parish","draw","()I"⟩), (625, Cond.methodLink "PutOffWicks$Almanac" 45 ⟨"PutOffWicks$Reckoner","face","(LPutOffWicks$Parish;II)V"⟩), (629, Cond.methodLink "PutOffWicks$Almanac" 51 ⟨"PutOffWicks$Reckoner","ask","(III)I"⟩), (673, Cond.methodLink "PutOffWicks$Almanac" 59 ⟨"PutOffWicks$Parish","putLight","(IZ)V"⟩), (674, Cond.methodLink "PutOffWicks$Almanac" 63 ⟨"PutOffWicks$Parish","isLit","(I)Z"⟩), (675, Cond.methodLink "PutOffWicks$Almanac" 66 ⟨"PutOffWicks$Parish","burn","(II)V"⟩), (681, Cond.methodLink "PutOffWicks$Almanac" 70 ⟨"PutOffWicks$Parish","isFree","(I)Z"⟩), (686, Cond.methodLink "PutOffWicks$Almanac" 73 ⟨"PutOffWicks$Parish","finish","(I)V"⟩), (691, Cond.methodLink "PutOffWicks$Almanac" 77 ⟨"PutOffWicks$Parish","putItOff","(I)V"⟩), (566, Cond.methodLink "PutOffWicks$Law" 41 ⟨"java/lang/System","arraycopy","(Ljava/lang/Object;ILjava/lang/Object;II)V"⟩), (568, Cond.native ⟨"java/lang/System","arraycopy","(Ljava/lang/Object;ILjava/lang/Object;II)V"⟩), (567, Cond.static ⟨"java/lang/System","arraycopy","(Ljava/lang/Object;ILjava/lang/Object;II)V"⟩), (117, Cond.initialized "java/lang/System"), (493, Cond.methodLink "PutOffWicks$Law" 47 ⟨"PutOffWicks$Reading","begin","()V"⟩), (497, Cond.methodLink "PutOffWicks$Law" 52 ⟨"PutOffWicks$Reading","sign","()I"⟩), (505, Cond.methodLink "PutOffWicks$Law" 59 ⟨"PutOffWicks$Reading","fail","(II)V"⟩)]
theorem ch10_ok : ch10.all (fun q => decide (lw_tbl[q.1]? = some q.2) && goodWord q.2) = true := by decide +kernel
def ch11 : List (Nat × Cond) := [(509, Cond.methodLink "PutOffWicks$Law" 63 ⟨"PutOffWicks$Law","add","(II)I"⟩), (513, Cond.methodLink "PutOffWicks$Law" 67 ⟨"PutOffWicks$Law","readValue","(I)V"⟩), (525, Cond.methodLink "PutOffWicks$Law" 71 ⟨"PutOffWicks$Reading","needs","(I)V"⟩), (545, Cond.methodLink "PutOffWicks$Law" 74 ⟨"PutOffWicks$Law","readCondition","(I)V"⟩), (557, Cond.methodLink "PutOffWicks$Law" 77 ⟨"PutOffWicks$Reading","goesOn","()Z"⟩), (549, Cond.methodLink "PutOffWicks$Law" 84 ⟨"PutOffWicks$Law","readTest","(I)V"⟩), (553, Cond.methodLink "PutOffWicks$Law" 87 ⟨"PutOffWicks$Law","land","(I)V"⟩), (541, Cond.methodLink "PutOffWicks$Law" 90 ⟨"PutOffWicks$Reading","takes","(I)Z"⟩), (521, Cond.methodLink "PutOffWicks$Law" 94 ⟨"PutOffWicks$Law","opens","(I)Z"⟩), (517, Cond.methodLink "PutOffWicks$Law" 97 ⟨"PutOffWicks$Law","readFactor","(I)V"⟩), (530, Cond.methodLink "PutOffWicks$Law" 100 ⟨"PutOffWicks$Reading","isDigit","(I)Z"⟩), (533, Cond.methodLink "PutOffWicks$Law" 103 ⟨"PutOffWicks$Reading","number","(I)I"⟩), (538, Cond.methodLink "PutOffWicks$Law" 107 ⟨"PutOffWicks$Law","isFact","(I)Z"⟩), (600, Cond.methodLink "PutOffWicks$Parish" 43 ⟨"java/lang/System","arraycopy","(Ljava/lang/Object;ILjava/lang/Object;II)V"⟩), (596, Cond.methodLink "PutOffWicks$Parish" 49 ⟨"PutOffWicks$Parish","copyFrom","(LPutOffWicks$Parish;)V"⟩), (695, Cond.methodLink "PutOffWicks$Parish" 53 ⟨"java/lang/Math","min","(II)I"⟩), (685, Cond.methodLink "PutOffWicks$Parish" 60 ⟨"PutOffWicks$Parish","has","(I)Z"⟩), (654, Cond.methodLink "PutOffWicks$Parish" 64 ⟨"PutOffWicks$Parish","isDone","(I)Z"⟩), (679, Cond.methodLink "PutOffWicks$Parish" 67 ⟨"java/lang/Math","max","(II)I"⟩), (680, Cond.methodLink "PutOffWicks$Parish" 70 ⟨"PutOffWicks$Parish","putLight","(IZ)V"⟩), (690, Cond.methodLink "PutOffWicks$Parish" 74 ⟨"PutOffWicks$Parish","isLit","(I)Z"⟩), (722, Cond.methodLink "PutOffWicks$Parish" 77 ⟨"PutOffWicks$Parish","ownersLeft","()I"⟩), (726, Cond.methodLink "PutOffWicks$Parish" 81 ⟨"PutOffWicks$Parish","putOffBy","(I)I"⟩), (768, Cond.methodLink "PutOffWicks$Parish" 85 ⟨"PutOffWicks$Parish","lightOf","(I)I"⟩), (747, Cond.methodLink "PutOffWicks$Parish" 88 ⟨"java/lang/Integer","bitCount","(I)I"⟩), (777, Cond.methodLink "PutOffWicks$Parish" 93 ⟨"PutOffWicks$Parish","leftPutOffUnder","(I)I"⟩), (748, Cond.methodLink "PutOffWicks$Parish" 96 ⟨"PutOffWicks$Parish","leftThatNeed","(I)I"⟩), (577, Cond.methodLink "PutOffWicks$ParishReader" 22 ⟨"PutOffWicks$Reading","begin","()V"⟩), (578, Cond.methodLink "PutOffWicks$ParishReader" 34 ⟨"PutOffWicks$ParishReader","readLine","(I)V"⟩), (591, Cond.methodLink "PutOffWicks$ParishReader" 38 ⟨"PutOffWicks$Reading","goesOn","()Z"⟩), (582, Cond.methodLink "PutOffWicks$ParishReader" 45 ⟨"PutOffWicks$Reading","sign","()I"⟩), (583, Cond.methodLink "PutOffWicks$ParishReader" 52 ⟨"PutOffWicks$Reading","fail","(II)V"⟩), (584, Cond.methodLink "PutOffWicks$ParishReader" 56 ⟨"PutOffWicks$Reading","number","(I)I"⟩), (585, Cond.methodLink "PutOffWicks$ParishReader" 60 ⟨"PutOffWicks$Reading","takes","(I)Z"⟩), (586, Cond.methodLink "PutOffWicks$ParishReader" 64 ⟨"PutOffWicks$ParishReader","readOther","(I)I"⟩), (590, Cond.methodLink "PutOffWicks$ParishReader" 74 ⟨"PutOffWicks$Parish","putLight","(IZ)V"⟩), (501, Cond.methodLink "PutOffWicks$Reading" 20 ⟨"PutOffWicks$Tape","at","(I)I"⟩), (529, Cond.methodLink "PutOffWicks$Reading" 25 ⟨"PutOffWicks$Reading","fail","(II)V"⟩), (561, Cond.methodLink "PutOffWicks$Reading" 29 ⟨"PutOffWicks$Reading","needs","(I)V"⟩), (537, Cond.methodLink "PutOffWicks$Reading" 33 ⟨"PutOffWicks$Reading","isDigit","(I)Z"⟩), (633, Cond.methodLink "PutOffWicks$Reckoner" 51 ⟨"PutOffWicks$Reckoner","reckon","(II)I"⟩), (667, Cond.methodLink "PutOffWicks$Reckoner" 58 ⟨"java/lang/Math","min","(II)I"⟩), (670, Cond.methodLink "PutOffWicks$Reckoner" 63 ⟨"java/lang/Math","max","(II)I"⟩), (637, Cond.methodLink "PutOffWicks$Reckoner" 72 ⟨"PutOffWicks$Reckoner","push","(I)V"⟩), (641, Cond.methodLink "PutOffWicks$Reckoner" 76 ⟨"PutOffWicks$Reckoner","fact","(I)I"⟩), (659, Cond.methodLink "PutOffWicks$Reckoner" 80 ⟨"PutOffWicks$Reckoner","pop","()I"⟩), (663, Cond.methodLink "PutOffWicks$Reckoner" 84 ⟨"PutOffWicks$Reckoner","joined","(III)I"⟩), (645, Cond.methodLink "PutOffWicks$Reckoner" 88 ⟨"PutOffWicks$Parish","has","(I)Z"⟩), (646, Cond.methodLink "PutOffWicks$Reckoner" 103 ⟨"PutOffWicks$Parish","isLit","(I)Z"⟩), (650, Cond.methodLink "PutOffWicks$Reckoner" 106 ⟨"PutOffWicks$Parish","leftOf","(I)I"⟩)]
theorem ch11_ok : ch11.all (fun q => decide (lw_tbl[q.1]? = some q.2) && goodWord q.2) = true := by decide +kernel
def ch12 : List (Nat × Cond) := [(655, Cond.methodLink "PutOffWicks$Reckoner" 109 ⟨"PutOffWicks$Parish","waitersFor","(I)I"⟩), (899, Cond.methodLink "PutOffWicks$Rows" 15 ⟨"PutOffWicks$Rows","hoursBehind","(II)I"⟩), (903, Cond.methodLink "PutOffWicks$Rows" 19 ⟨"PutOffWicks$Tape","at","(I)I"⟩), (904, Cond.methodLink "PutOffWicks$Rows" 25 ⟨"PutOffWicks$Rows","nextToSpin","(II)I"⟩), (912, Cond.methodLink "PutOffWicks$Rows" 28 ⟨"java/lang/Math","max","(II)I"⟩), (908, Cond.methodLink "PutOffWicks$Rows" 33 ⟨"PutOffWicks$Rows","spinsAhead","(II)Z"⟩), (922, Cond.methodLink "PutOffWicks$Rows" 37 ⟨"PutOffWicks$Rows","farthestFrom","(II)I"⟩), (938, Cond.methodLink "PutOffWicks$Rows" 40 ⟨"java/lang/Math","min","(II)I"⟩), (948, Cond.methodLink "PutOffWicks$Rows" 43 ⟨"PutOffWicks$Rows","sufficesFor","(III)Z"⟩), (1010, Cond.methodLink "PutOffWicks$Rows" 47 ⟨"PutOffWicks$Rows","difference","(II)I"⟩), (1014, Cond.methodLink "PutOffWicks$Rows" 50 ⟨"java/lang/Math","abs","(I)I"⟩), (1024, Cond.methodLink "PutOffWicks$Rows" 53 ⟨"PutOffWicks$Rows","beats","(II)Z"⟩), (968, Cond.methodLink "PutOffWicks$Shore" 17 ⟨"PutOffWicks$Tape","at","(I)I"⟩), (969, Cond.methodLink "PutOffWicks$Shore" 23 ⟨"java/lang/Math","abs","(I)I"⟩), (964, Cond.methodLink "PutOffWicks$Shore" 28 ⟨"PutOffWicks$Shore","isSeen","(II)Z"⟩), (960, Cond.methodLink "PutOffWicks$Shore" 32 ⟨"PutOffWicks$Shore","sees","(III)Z"⟩), (974, Cond.methodLink "PutOffWicks$Shore" 36 ⟨"java/lang/Math","max","(II)I"⟩), (983, Cond.methodLink "PutOffWicks$Shore" 40 ⟨"PutOffWicks$Shore","fillView","(I)V"⟩), (990, Cond.methodLink "PutOffWicks$Shore" 44 ⟨"java/lang/Integer","bitCount","(I)I"⟩), (991, Cond.methodLink "PutOffWicks$Shore" 49 ⟨"PutOffWicks$Shore","placesOf","(II)I"⟩), (995, Cond.methodLink "PutOffWicks$Shore" 52 ⟨"java/lang/Long","bitCount","(J)I"⟩), (987, Cond.methodLink "PutOffWicks$Shore" 57 ⟨"java/util/Arrays","fill","([JJ)V"⟩), (789, Cond.methodLink "PutOffWicks$Twist" 41 ⟨"PutOffWicks$Reading","begin","()V"⟩), (790, Cond.methodLink "PutOffWicks$Twist" 46 ⟨"PutOffWicks$Twist","ends","()Z"⟩), (799, Cond.methodLink "PutOffWicks$Twist" 53 ⟨"PutOffWicks$Twist","readTimes","()I"⟩), (798, Cond.methodLink "PutOffWicks$Twist" 57 ⟨"PutOffWicks$Reading","sign","()I"⟩), (803, Cond.methodLink "PutOffWicks$Twist" 60 ⟨"PutOffWicks$Twist","readTurn","(IZI)V"⟩), (808, Cond.methodLink "PutOffWicks$Twist" 64 ⟨"PutOffWicks$Twist","repeat","(III)V"⟩), (812, Cond.methodLink "PutOffWicks$Twist" 68 ⟨"PutOffWicks$Twist","openGroup","(II)V"⟩), (816, Cond.methodLink "PutOffWicks$Twist" 72 ⟨"PutOffWicks$Twist","closeGroup","()V"⟩), (807, Cond.methodLink "PutOffWicks$Twist" 75 ⟨"PutOffWicks$Reading","fail","(II)V"⟩), (794, Cond.methodLink "PutOffWicks$Twist" 81 ⟨"PutOffWicks$Reading","failed","()Z"⟩), (836, Cond.methodLink "PutOffWicks$Twist" 86 ⟨"java/lang/Math","abs","(I)I"⟩), (832, Cond.methodLink "PutOffWicks$Twist" 92 ⟨"PutOffWicks$Twist","comesOut","(I)I"⟩), (848, Cond.methodLink "PutOffWicks$Waits" 28 ⟨"java/util/Arrays","fill","([II)V"⟩), (851, Cond.methodLink "PutOffWicks$Waits" 34 ⟨"PutOffWicks$Tape","at","(I)I"⟩), (862, Cond.methodLink "PutOffWicks$Waits" 45 ⟨"PutOffWicks$Waits","ringsOfTwo","()I"⟩), (866, Cond.methodLink "PutOffWicks$Waits" 49 ⟨"PutOffWicks$Waits","canEnd","(II)Z"⟩), (870, Cond.methodLink "PutOffWicks$Waits" 53 ⟨"PutOffWicks$Waits","findShortestRing","(I)I"⟩), (887, Cond.methodLink "PutOffWicks$Waits" 56 ⟨"PutOffWicks$Waits","ringAt","(II)I"⟩), (874, Cond.methodLink "PutOffWicks$Waits" 60 ⟨"PutOffWicks$Waits","forEver","()I"⟩), (875, Cond.methodLink "PutOffWicks$Waits" 63 ⟨"PutOffWicks$Waits","findRingOf","(III)I"⟩), (879, Cond.methodLink "PutOffWicks$Waits" 67 ⟨"PutOffWicks$Waits","writeRing","(III)V"⟩), (883, Cond.methodLink "PutOffWicks$Waits" 71 ⟨"PutOffWicks$Waits","markFrom","(II)V"⟩), (1240, Cond.methodLink "PutOffWicksModel" 124 ⟨"PutOffWicksModel","in","(III)Z"⟩), (1236, Cond.methodLink "PutOffWicksModel" 128 ⟨"PutOffWicksModel","isThing","(I)Z"⟩), (1232, Cond.methodLink "PutOffWicksModel" 132 ⟨"PutOffWicksModel","isLeft","(I)Z"⟩), (1247, Cond.methodLink "PutOffWicksModel" 138 ⟨"PutOffWicksModel","types","(I)V"⟩), (1263, Cond.methodLink "PutOffWicksModel" 148 ⟨"PutOffWicksModel","here","()I"⟩), (1267, Cond.methodLink "PutOffWicksModel" 155 ⟨"PutOffWicksModel","wrongAt","(II)Z"⟩)]
theorem ch12_ok : ch12.all (fun q => decide (lw_tbl[q.1]? = some q.2) && goodWord q.2) = true := by decide +kernel
def ch13 : List (Nat × Cond) := [(1284, Cond.methodLink "PutOffWicksModel" 162 ⟨"PutOffWicksModel","isDigit","()Z"⟩), (1306, Cond.methodLink "PutOffWicksModel" 176 ⟨"PutOffWicksModel","waitTop","()I"⟩), (1292, Cond.methodLink "PutOffWicksModel" 179 ⟨"PutOffWicksModel","notes","(II)V"⟩), (1279, Cond.methodLink "PutOffWicksModel" 183 ⟨"PutOffWicksModel","opens","(I)Z"⟩), (1288, Cond.methodLink "PutOffWicksModel" 186 ⟨"PutOffWicksModel","readsNumber","()Z"⟩), (1296, Cond.methodLink "PutOffWicksModel" 189 ⟨"PutOffWicksModel","factOf","(I)I"⟩), (1275, Cond.methodLink "PutOffWicksModel" 193 ⟨"PutOffWicksModel","readsFactor","()Z"⟩), (1299, Cond.methodLink "PutOffWicksModel" 196 ⟨"PutOffWicksModel","sumSign","(I)I"⟩), (1302, Cond.methodLink "PutOffWicksModel" 199 ⟨"PutOffWicksModel","closesSums","(Z)V"⟩), (1310, Cond.methodLink "PutOffWicksModel" 203 ⟨"PutOffWicksModel","hasOpenSum","(I)Z"⟩), (1271, Cond.methodLink "PutOffWicksModel" 206 ⟨"PutOffWicksModel","readsSum","()Z"⟩), (1322, Cond.methodLink "PutOffWicksModel" 209 ⟨"PutOffWicksModel","endsPiece","()V"⟩), (1318, Cond.methodLink "PutOffWicksModel" 212 ⟨"PutOffWicksModel","readsCompared","()Z"⟩), (1326, Cond.methodLink "PutOffWicksModel" 215 ⟨"PutOffWicksModel","lands","(Z)V"⟩), (1330, Cond.methodLink "PutOffWicksModel" 218 ⟨"PutOffWicksModel","jumps","(I)V"⟩), (1314, Cond.methodLink "PutOffWicksModel" 224 ⟨"PutOffWicksModel","readsCondition","()Z"⟩), (1255, Cond.methodLink "PutOffWicksModel" 227 ⟨"PutOffWicksModel","beginsText","(I)V"⟩), (1259, Cond.methodLink "PutOffWicksModel" 230 ⟨"PutOffWicksModel","readsRule","()Z"⟩), (1334, Cond.methodLink "PutOffWicksModel" 233 ⟨"PutOffWicksModel","takes","(I)Z"⟩), (1390, Cond.methodLink "PutOffWicksModel" 239 ⟨"PutOffWicksModel","reckon","(III)I"⟩), (1386, Cond.methodLink "PutOffWicksModel" 243 ⟨"PutOffWicksModel","reckonsTo","(II)I"⟩), (1346, Cond.methodLink "PutOffWicksModel" 250 ⟨"PutOffWicksModel","readsAmount","(I)Z"⟩), (1342, Cond.methodLink "PutOffWicksModel" 253 ⟨"PutOffWicksModel","readsThing","()Z"⟩), (1370, Cond.methodLink "PutOffWicksModel" 256 ⟨"PutOffWicksModel","leftOf","(I)I"⟩), (1374, Cond.methodLink "PutOffWicksModel" 259 ⟨"PutOffWicksModel","waitersOf","(I)I"⟩), (1378, Cond.methodLink "PutOffWicksModel" 262 ⟨"PutOffWicksModel","draws","()I"⟩), (1401, Cond.methodLink "PutOffWicksModel" 265 ⟨"PutOffWicksModel","max","(II)I"⟩), (1412, Cond.methodLink "PutOffWicksModel" 271 ⟨"PutOffWicksModel","min","(II)I"⟩), (1366, Cond.methodLink "PutOffWicksModel" 274 ⟨"PutOffWicksModel","feels","(I)V"⟩), (1382, Cond.methodLink "PutOffWicksModel" 277 ⟨"PutOffWicksModel","holdsAny","(I)Z"⟩), (1393, Cond.methodLink "PutOffWicksModel" 280 ⟨"PutOffWicksModel","byLaw","(III)I"⟩), (1397, Cond.methodLink "PutOffWicksModel" 283 ⟨"PutOffWicksModel","burns","(II)V"⟩), (1404, Cond.methodLink "PutOffWicksModel" 286 ⟨"PutOffWicksModel","isDone","(I)V"⟩), (1408, Cond.methodLink "PutOffWicksModel" 289 ⟨"PutOffWicksModel","isPutOff","(I)V"⟩), (1362, Cond.methodLink "PutOffWicksModel" 292 ⟨"PutOffWicksModel","goesOn","(I)V"⟩), (1358, Cond.methodLink "PutOffWicksModel" 295 ⟨"PutOffWicksModel","dayGoes","()V"⟩), (1354, Cond.methodLink "PutOffWicksModel" 298 ⟨"PutOffWicksModel","daysGo","(I)V"⟩), (1419, Cond.methodLink "PutOffWicksModel" 301 ⟨"PutOffWicksModel","copies","([I[I)V"⟩), (1422, Cond.methodLink "PutOffWicksModel" 305 ⟨"PutOffWicksModel","setOf","(I)I"⟩), (1442, Cond.methodLink "PutOffWicksModel" 308 ⟨"PutOffWicksModel","daysOf","(I)I"⟩), (1458, Cond.methodLink "PutOffWicksModel" 311 ⟨"PutOffWicksModel","placeOf","(II)I"⟩), (1462, Cond.methodLink "PutOffWicksModel" 314 ⟨"PutOffWicksModel","has","(II)Z"⟩), (1465, Cond.methodLink "PutOffWicksModel" 317 ⟨"PutOffWicksModel","waysTo","(III)I"⟩), (1473, Cond.methodLink "PutOffWicksModel" 320 ⟨"PutOffWicksModel","lightOf","(I)I"⟩), (1493, Cond.methodLink "PutOffWicksModel" 332 ⟨"PutOffWicksModel","readsTimes","()V"⟩), (1497, Cond.methodLink "PutOffWicksModel" 338 ⟨"PutOffWicksModel","repeats","(III)Z"⟩), (1513, Cond.methodLink "PutOffWicksModel" 341 ⟨"PutOffWicksModel","size","(I)I"⟩), (1520, Cond.methodLink "PutOffWicksModel" 344 ⟨"PutOffWicksModel","comesOut","(I)I"⟩), (1524, Cond.methodLink "PutOffWicksModel" 347 ⟨"PutOffWicksModel","areHome","(I)Z"⟩), (1489, Cond.methodLink "PutOffWicksModel" 350 ⟨"PutOffWicksModel","readsTurn","(I)Z"⟩)]
theorem ch13_ok : ch13.all (fun q => decide (lw_tbl[q.1]? = some q.2) && goodWord q.2) = true := by decide +kernel
def ch14 : List (Nat × Cond) := [(1501, Cond.methodLink "PutOffWicksModel" 353 ⟨"PutOffWicksModel","turnsAll","(I)V"⟩), (1505, Cond.methodLink "PutOffWicksModel" 356 ⟨"PutOffWicksModel","overs","()I"⟩), (1509, Cond.methodLink "PutOffWicksModel" 359 ⟨"PutOffWicksModel","shortened","()I"⟩), (1516, Cond.methodLink "PutOffWicksModel" 362 ⟨"PutOffWicksModel","oftenTill","(I)I"⟩), (1546, Cond.methodLink "PutOffWicksModel" 367 ⟨"PutOffWicksModel","bits","(I)I"⟩), (1532, Cond.methodLink "PutOffWicksModel" 370 ⟨"PutOffWicksModel","octet","(I)I"⟩), (1536, Cond.methodLink "PutOffWicksModel" 373 ⟨"PutOffWicksModel","forEver","()I"⟩), (1541, Cond.methodLink "PutOffWicksModel" 376 ⟨"PutOffWicksModel","mustEnd","()I"⟩), (1561, Cond.methodLink "PutOffWicksModel" 379 ⟨"PutOffWicksModel","changesRow","(II)V"⟩), (1553, Cond.methodLink "PutOffWicksModel" 382 ⟨"PutOffWicksModel","hoursOfRow","(I)I"⟩), (1557, Cond.methodLink "PutOffWicksModel" 385 ⟨"PutOffWicksModel","nextRow","(I)Z"⟩), (1581, Cond.methodLink "PutOffWicksModel" 388 ⟨"PutOffWicksModel","leastLater","(II)I"⟩), (1573, Cond.methodLink "PutOffWicksModel" 391 ⟨"PutOffWicksModel","knowing","(II)I"⟩), (1577, Cond.methodLink "PutOffWicksModel" 394 ⟨"PutOffWicksModel","unknowing","(II)I"⟩), (1597, Cond.methodLink "PutOffWicksModel" 397 ⟨"PutOffWicksModel","isSeen","(II)Z"⟩), (1593, Cond.methodLink "PutOffWicksModel" 400 ⟨"PutOffWicksModel","seenAt","(II)I"⟩), (1605, Cond.methodLink "PutOffWicksModel" 403 ⟨"PutOffWicksModel","brightOf","(I)I"⟩), (1617, Cond.methodLink "PutOffWicksModel" 406 ⟨"PutOffWicksModel","isBetter","(II)Z"⟩), (1641, Cond.methodLink "PutOffWicksModel" 416 ⟨"PutOffWicksModel","whoHasLeft","()I"⟩), (407, Cond.fieldLink "PutOffWicks" 10 "PutOffWicks" "tape" "LPutOffWicks$Tape;"), (408, Cond.fieldLink "PutOffWicks" 21 "PutOffWicks" "reading" "LPutOffWicks$Reading;"), (409, Cond.fieldLink "PutOffWicks" 28 "PutOffWicks" "now" "LPutOffWicks$Parish;"), (410, Cond.fieldLink "PutOffWicks" 32 "PutOffWicks" "kept" "LPutOffWicks$Parish;"), (411, Cond.fieldLink "PutOffWicks" 35 "PutOffWicks" "trial" "LPutOffWicks$Parish;"), (412, Cond.fieldLink "PutOffWicks" 43 "PutOffWicks" "parishReader" "LPutOffWicks$ParishReader;"), (413, Cond.fieldLink "PutOffWicks" 50 "PutOffWicks" "ruling" "LPutOffWicks$Law;"), (414, Cond.fieldLink "PutOffWicks" 54 "PutOffWicks" "lawDraft" "LPutOffWicks$Law;"), (415, Cond.fieldLink "PutOffWicks" 67 "PutOffWicks" "almanac" "LPutOffWicks$Almanac;"), (416, Cond.fieldLink "PutOffWicks" 74 "PutOffWicks" "twisting" "LPutOffWicks$Twist;"), (417, Cond.fieldLink "PutOffWicks" 81 "PutOffWicks" "waits" "LPutOffWicks$Waits;"), (418, Cond.fieldLink "PutOffWicks" 88 "PutOffWicks" "shore" "LPutOffWicks$Shore;"), (419, Cond.fieldLink "PutOffWicks" 95 "PutOffWicks" "rows" "LPutOffWicks$Rows;"), (420, Cond.fieldLink "PutOffWicks" 99 "PutOffWicks" "wasKept" "Z"), (208, Cond.fieldLink "PutOffWicks" 103 "PutOffWicks$Parish" "x" "I"), (184, Cond.fieldLink "PutOffWicks" 114 "PutOffWicks$Parish" "length" "[I"), (139, Cond.fieldLink "PutOffWicks" 130 "PutOffWicks$Tape" "size" "I"), (268, Cond.fieldLink "PutOffWicks" 148 "PutOffWicks$Law" "rules" "I"), (240, Cond.fieldLink "PutOffWicks" 152 "PutOffWicks$ParishReader" "draft" "LPutOffWicks$Parish;"), (200, Cond.fieldLink "PutOffWicks" 159 "PutOffWicks$Parish" "things" "I"), (190, Cond.fieldLink "PutOffWicks" 168 "PutOffWicks$Parish" "putOff" "[I"), (202, Cond.fieldLink "PutOffWicks" 171 "PutOffWicks$Parish" "guttered" "I"), (193, Cond.fieldLink "PutOffWicks" 174 "PutOffWicks$Parish" "litBits" "I"), (196, Cond.fieldLink "PutOffWicks" 177 "PutOffWicks$Parish" "doneBits" "I"), (179, Cond.fieldLink "PutOffWicks" 180 "PutOffWicks$Parish" "owner" "[I"), (182, Cond.fieldLink "PutOffWicks" 186 "PutOffWicks$Parish" "waitsFor" "[I"), (341, Cond.fieldLink "PutOffWicks" 210 "PutOffWicks$Twist" "turns" "I"), (206, Cond.fieldLink "PutOffWicks" 277 "PutOffWicks$Parish" "day" "I"), (322, Cond.fieldLink "PutOffWicks$Almanac" 9 "PutOffWicks$Almanac" "reckoner" "LPutOffWicks$Reckoner;"), (195, Cond.fieldLink "PutOffWicks$Almanac" 15 "PutOffWicks$Parish" "doneBits" "I"), (204, Cond.fieldLink "PutOffWicks$Almanac" 27 "PutOffWicks$Parish" "day" "I")]
theorem ch14_ok : ch14.all (fun q => decide (lw_tbl[q.1]? = some q.2) && goodWord q.2) = true := by decide +kernel
def ch15 : List (Nat × Cond) := [(199, Cond.fieldLink "PutOffWicks$Almanac" 30 "PutOffWicks$Parish" "things" "I"), (185, Cond.fieldLink "PutOffWicks$Almanac" 55 "PutOffWicks$Parish" "length" "[I"), (253, Cond.fieldLink "PutOffWicks$Law" 11 "PutOffWicks$Law" "steps" "[I"), (255, Cond.fieldLink "PutOffWicks$Law" 15 "PutOffWicks$Law" "details" "[I"), (257, Cond.fieldLink "PutOffWicks$Law" 18 "PutOffWicks$Law" "letter" "[I"), (259, Cond.fieldLink "PutOffWicks$Law" 21 "PutOffWicks$Law" "valueAt" "[I"), (261, Cond.fieldLink "PutOffWicks$Law" 24 "PutOffWicks$Law" "holdsAt" "[I"), (263, Cond.fieldLink "PutOffWicks$Law" 27 "PutOffWicks$Law" "endAt" "[I"), (265, Cond.fieldLink "PutOffWicks$Law" 30 "PutOffWicks$Law" "size" "I"), (266, Cond.fieldLink "PutOffWicks$Law" 34 "PutOffWicks$Law" "rules" "I"), (252, Cond.fieldLink "PutOffWicks$Law" 37 "PutOffWicks$Law" "reading" "LPutOffWicks$Reading;"), (158, Cond.fieldLink "PutOffWicks$Law" 56 "PutOffWicks$Reading" "at" "I"), (162, Cond.fieldLink "PutOffWicks$Law" 81 "PutOffWicks$Reading" "fault" "I"), (176, Cond.fieldLink "PutOffWicks$Parish" 9 "PutOffWicks$Parish" "owner" "[I"), (180, Cond.fieldLink "PutOffWicks$Parish" 15 "PutOffWicks$Parish" "waitsFor" "[I"), (183, Cond.fieldLink "PutOffWicks$Parish" 18 "PutOffWicks$Parish" "length" "[I"), (188, Cond.fieldLink "PutOffWicks$Parish" 21 "PutOffWicks$Parish" "putOff" "[I"), (191, Cond.fieldLink "PutOffWicks$Parish" 24 "PutOffWicks$Parish" "litBits" "I"), (194, Cond.fieldLink "PutOffWicks$Parish" 28 "PutOffWicks$Parish" "doneBits" "I"), (197, Cond.fieldLink "PutOffWicks$Parish" 31 "PutOffWicks$Parish" "things" "I"), (201, Cond.fieldLink "PutOffWicks$Parish" 34 "PutOffWicks$Parish" "guttered" "I"), (203, Cond.fieldLink "PutOffWicks$Parish" 37 "PutOffWicks$Parish" "day" "I"), (207, Cond.fieldLink "PutOffWicks$Parish" 40 "PutOffWicks$Parish" "x" "I"), (239, Cond.fieldLink "PutOffWicks$ParishReader" 12 "PutOffWicks$ParishReader" "draft" "LPutOffWicks$Parish;"), (238, Cond.fieldLink "PutOffWicks$ParishReader" 18 "PutOffWicks$ParishReader" "reading" "LPutOffWicks$Reading;"), (192, Cond.fieldLink "PutOffWicks$ParishReader" 27 "PutOffWicks$Parish" "litBits" "I"), (198, Cond.fieldLink "PutOffWicks$ParishReader" 31 "PutOffWicks$Parish" "things" "I"), (160, Cond.fieldLink "PutOffWicks$ParishReader" 42 "PutOffWicks$Reading" "fault" "I"), (157, Cond.fieldLink "PutOffWicks$ParishReader" 49 "PutOffWicks$Reading" "at" "I"), (177, Cond.fieldLink "PutOffWicks$ParishReader" 67 "PutOffWicks$Parish" "owner" "[I"), (186, Cond.fieldLink "PutOffWicks$ParishReader" 71 "PutOffWicks$Parish" "length" "[I"), (181, Cond.fieldLink "PutOffWicks$ParishReader" 78 "PutOffWicks$Parish" "waitsFor" "[I"), (155, Cond.fieldLink "PutOffWicks$Reading" 7 "PutOffWicks$Reading" "at" "I"), (159, Cond.fieldLink "PutOffWicks$Reading" 13 "PutOffWicks$Reading" "fault" "I"), (154, Cond.fieldLink "PutOffWicks$Reading" 16 "PutOffWicks$Reading" "text" "LPutOffWicks$Tape;"), (297, Cond.fieldLink "PutOffWicks$Reckoner" 11 "PutOffWicks$Reckoner" "stack" "[I"), (298, Cond.fieldLink "PutOffWicks$Reckoner" 15 "PutOffWicks$Reckoner" "top" "I"), (299, Cond.fieldLink "PutOffWicks$Reckoner" 19 "PutOffWicks$Reckoner" "refused" "Z"), (301, Cond.fieldLink "PutOffWicks$Reckoner" 23 "PutOffWicks$Reckoner" "thing" "I"), (302, Cond.fieldLink "PutOffWicks$Reckoner" 26 "PutOffWicks$Reckoner" "drawn" "I"), (296, Cond.fieldLink "PutOffWicks$Reckoner" 29 "PutOffWicks$Reckoner" "law" "LPutOffWicks$Law;"), (300, Cond.fieldLink "PutOffWicks$Reckoner" 33 "PutOffWicks$Reckoner" "parish" "LPutOffWicks$Parish;"), (267, Cond.fieldLink "PutOffWicks$Reckoner" 37 "PutOffWicks$Law" "rules" "I"), (258, Cond.fieldLink "PutOffWicks$Reckoner" 42 "PutOffWicks$Law" "letter" "[I"), (262, Cond.fieldLink "PutOffWicks$Reckoner" 45 "PutOffWicks$Law" "holdsAt" "[I"), (264, Cond.fieldLink "PutOffWicks$Reckoner" 48 "PutOffWicks$Law" "endAt" "[I"), (260, Cond.fieldLink "PutOffWicks$Reckoner" 55 "PutOffWicks$Law" "valueAt" "[I"), (254, Cond.fieldLink "PutOffWicks$Reckoner" 66 "PutOffWicks$Law" "steps" "[I"), (256, Cond.fieldLink "PutOffWicks$Reckoner" 69 "PutOffWicks$Law" "details" "[I"), (178, Cond.fieldLink "PutOffWicks$Reckoner" 94 "PutOffWicks$Parish" "owner" "[I")]
theorem ch15_ok : ch15.all (fun q => decide (lw_tbl[q.1]? = some q.2) && goodWord q.2) = true := by decide +kernel
def ch16 : List (Nat × Cond) := [(189, Cond.fieldLink "PutOffWicks$Reckoner" 97 "PutOffWicks$Parish" "putOff" "[I"), (187, Cond.fieldLink "PutOffWicks$Reckoner" 100 "PutOffWicks$Parish" "length" "[I"), (205, Cond.fieldLink "PutOffWicks$Reckoner" 112 "PutOffWicks$Parish" "day" "I"), (403, Cond.fieldLink "PutOffWicks$Rows" 9 "PutOffWicks$Rows" "tape" "LPutOffWicks$Tape;"), (390, Cond.fieldLink "PutOffWicks$Shore" 9 "PutOffWicks$Shore" "view" "[J"), (389, Cond.fieldLink "PutOffWicks$Shore" 13 "PutOffWicks$Shore" "tape" "LPutOffWicks$Tape;"), (136, Cond.fieldLink "PutOffWicks$Tape" 9 "PutOffWicks$Tape" "bytes" "[I"), (137, Cond.fieldLink "PutOffWicks$Tape" 13 "PutOffWicks$Tape" "taken" "I"), (138, Cond.fieldLink "PutOffWicks$Tape" 17 "PutOffWicks$Tape" "size" "I"), (333, Cond.fieldLink "PutOffWicks$Twist" 11 "PutOffWicks$Twist" "turn" "[I"), (334, Cond.fieldLink "PutOffWicks$Twist" 15 "PutOffWicks$Twist" "left" "[I"), (335, Cond.fieldLink "PutOffWicks$Twist" 18 "PutOffWicks$Twist" "groupPlace" "[I"), (336, Cond.fieldLink "PutOffWicks$Twist" 21 "PutOffWicks$Twist" "groupTimes" "[I"), (337, Cond.fieldLink "PutOffWicks$Twist" 24 "PutOffWicks$Twist" "groupTurns" "[I"), (338, Cond.fieldLink "PutOffWicks$Twist" 27 "PutOffWicks$Twist" "goal" "[I"), (339, Cond.fieldLink "PutOffWicks$Twist" 30 "PutOffWicks$Twist" "groups" "I"), (340, Cond.fieldLink "PutOffWicks$Twist" 34 "PutOffWicks$Twist" "turns" "I"), (332, Cond.fieldLink "PutOffWicks$Twist" 37 "PutOffWicks$Twist" "reading" "LPutOffWicks$Reading;"), (156, Cond.fieldLink "PutOffWicks$Twist" 50 "PutOffWicks$Reading" "at" "I"), (161, Cond.fieldLink "PutOffWicks$Twist" 78 "PutOffWicks$Reading" "fault" "I"), (368, Cond.fieldLink "PutOffWicks$Waits" 9 "PutOffWicks$Waits" "waitsFor" "[I"), (369, Cond.fieldLink "PutOffWicks$Waits" 15 "PutOffWicks$Waits" "stays" "[I"), (370, Cond.fieldLink "PutOffWicks$Waits" 18 "PutOffWicks$Waits" "from" "[I"), (371, Cond.fieldLink "PutOffWicks$Waits" 21 "PutOffWicks$Waits" "rings" "[I"), (367, Cond.fieldLink "PutOffWicks$Waits" 24 "PutOffWicks$Waits" "tape" "LPutOffWicks$Tape;"), (1061, Cond.fieldLink "PutOffWicksModel" 7 "PutOffWicksModel" "now" "[I"), (1062, Cond.fieldLink "PutOffWicksModel" 13 "PutOffWicksModel" "aside" "[I"), (1063, Cond.fieldLink "PutOffWicksModel" 16 "PutOffWicksModel" "kept" "[I"), (1064, Cond.fieldLink "PutOffWicksModel" 19 "PutOffWicksModel" "whoseOf" "[I"), (1065, Cond.fieldLink "PutOffWicksModel" 22 "PutOffWicksModel" "waitsFor" "[I"), (1067, Cond.fieldLink "PutOffWicksModel" 25 "PutOffWicksModel" "tape" "[B"), (1078, Cond.fieldLink "PutOffWicksModel" 29 "PutOffWicksModel" "said" "[I"), (1079, Cond.fieldLink "PutOffWicksModel" 32 "PutOffWicksModel" "waitsAt" "[I"), (1080, Cond.fieldLink "PutOffWicksModel" 35 "PutOffWicksModel" "saidLetter" "[I"), (1081, Cond.fieldLink "PutOffWicksModel" 38 "PutOffWicksModel" "saidFrom" "[I"), (1082, Cond.fieldLink "PutOffWicksModel" 41 "PutOffWicksModel" "saidHalf" "[I"), (1083, Cond.fieldLink "PutOffWicksModel" 44 "PutOffWicksModel" "saidTo" "[I"), (1084, Cond.fieldLink "PutOffWicksModel" 47 "PutOffWicksModel" "codes" "[I"), (1085, Cond.fieldLink "PutOffWicksModel" 50 "PutOffWicksModel" "clauseOf" "[I"), (1086, Cond.fieldLink "PutOffWicksModel" 53 "PutOffWicksModel" "codeFrom" "[I"), (1087, Cond.fieldLink "PutOffWicksModel" 56 "PutOffWicksModel" "codeHalf" "[I"), (1088, Cond.fieldLink "PutOffWicksModel" 59 "PutOffWicksModel" "codeTo" "[I"), (1089, Cond.fieldLink "PutOffWicksModel" 62 "PutOffWicksModel" "stack" "[I"), (1090, Cond.fieldLink "PutOffWicksModel" 65 "PutOffWicksModel" "facts" "[I"), (1091, Cond.fieldLink "PutOffWicksModel" 68 "PutOffWicksModel" "newWhose" "[I"), (1092, Cond.fieldLink "PutOffWicksModel" 71 "PutOffWicksModel" "newLength" "[I"), (1093, Cond.fieldLink "PutOffWicksModel" 74 "PutOffWicksModel" "newLit" "[I"), (1094, Cond.fieldLink "PutOffWicksModel" 77 "PutOffWicksModel" "newWaits" "[I"), (1097, Cond.fieldLink "PutOffWicksModel" 80 "PutOffWicksModel" "leftNow" "[I"), (1098, Cond.fieldLink "PutOffWicksModel" 83 "PutOffWicksModel" "orderWays" "[I")]
theorem ch16_ok : ch16.all (fun q => decide (lw_tbl[q.1]? = some q.2) && goodWord q.2) = true := by decide +kernel
def ch17 : List (Nat × Cond) := [(1099, Cond.fieldLink "PutOffWicksModel" 86 "PutOffWicksModel" "turnNow" "[I"), (1100, Cond.fieldLink "PutOffWicksModel" 89 "PutOffWicksModel" "roundFrom" "[I"), (1101, Cond.fieldLink "PutOffWicksModel" 92 "PutOffWicksModel" "roundAt" "[I"), (1102, Cond.fieldLink "PutOffWicksModel" 95 "PutOffWicksModel" "roundTimes" "[I"), (1103, Cond.fieldLink "PutOffWicksModel" 98 "PutOffWicksModel" "strandAt" "[I"), (1104, Cond.fieldLink "PutOffWicksModel" 101 "PutOffWicksModel" "strandThen" "[I"), (1105, Cond.fieldLink "PutOffWicksModel" 104 "PutOffWicksModel" "turnLeft" "[I"), (1110, Cond.fieldLink "PutOffWicksModel" 107 "PutOffWicksModel" "awaits" "[I"), (1111, Cond.fieldLink "PutOffWicksModel" 111 "PutOffWicksModel" "endsBy" "[I"), (1112, Cond.fieldLink "PutOffWicksModel" 114 "PutOffWicksModel" "rowNow" "[I"), (1113, Cond.fieldLink "PutOffWicksModel" 117 "PutOffWicksModel" "seesAt" "[I"), (1066, Cond.fieldLink "PutOffWicksModel" 120 "PutOffWicksModel" "things" "I"), (1068, Cond.fieldLink "PutOffWicksModel" 135 "PutOffWicksModel" "taped" "I"), (1069, Cond.fieldLink "PutOffWicksModel" 142 "PutOffWicksModel" "place0" "I"), (1070, Cond.fieldLink "PutOffWicksModel" 145 "PutOffWicksModel" "length0" "I"), (1071, Cond.fieldLink "PutOffWicksModel" 152 "PutOffWicksModel" "fault" "I"), (1072, Cond.fieldLink "PutOffWicksModel" 159 "PutOffWicksModel" "number0" "I"), (1074, Cond.fieldLink "PutOffWicksModel" 166 "PutOffWicksModel" "codeMany" "I"), (1073, Cond.fieldLink "PutOffWicksModel" 170 "PutOffWicksModel" "open" "I"), (1075, Cond.fieldLink "PutOffWicksModel" 173 "PutOffWicksModel" "waiting" "I"), (1076, Cond.fieldLink "PutOffWicksModel" 221 "PutOffWicksModel" "saidMany" "I"), (1077, Cond.fieldLink "PutOffWicksModel" 236 "PutOffWicksModel" "clauses" "I"), (1095, Cond.fieldLink "PutOffWicksModel" 247 "PutOffWicksModel" "newThings" "I"), (1096, Cond.fieldLink "PutOffWicksModel" 268 "PutOffWicksModel" "doneNow" "I"), (1108, Cond.fieldLink "PutOffWicksModel" 323 "PutOffWicksModel" "itFrom" "I"), (1109, Cond.fieldLink "PutOffWicksModel" 326 "PutOffWicksModel" "itTimes" "I"), (1106, Cond.fieldLink "PutOffWicksModel" 329 "PutOffWicksModel" "turnMany" "I"), (1107, Cond.fieldLink "PutOffWicksModel" 335 "PutOffWicksModel" "rounds" "I"), (1114, Cond.fieldLink "PutOffWicksModel" 409 "PutOffWicksModel" "isKept" "Z"), (1115, Cond.fieldLink "PutOffWicksModel" 413 "PutOffWicksModel" "keptThings" "I"), (1032, Cond.constant "PutOffWicks" 276 65535), (624, Cond.constant "PutOffWicks$Parish" 59 65535), (857, Cond.constant "PutOffWicks$Waits" 44 65535), (1060, Cond.constant "PutOffWicksModel" 110 65536), (1283, Cond.constant "PutOffWicksModel" 169 1048576), (1540, Cond.constant "PutOffWicksModel" 365 65535), (1545, Cond.constant "PutOffWicksModel" 366 1000000), (612, Cond.constant "java/lang/Integer" 265 1431655765), (613, Cond.constant "java/lang/Integer" 266 858993459), (614, Cond.constant "java/lang/Integer" 267 252645135), (998, Cond.constantLong "java/lang/Long" 314 6148914691236517205), (999, Cond.constantLong "java/lang/Long" 316 3689348814741910323), (1000, Cond.constantLong "java/lang/Long" 318 1085102592571150095)]
theorem ch17_ok : ch17.all (fun q => decide (lw_tbl[q.1]? = some q.2) && goodWord q.2) = true := by decide +kernel
def FU : Nat := 1000000
abbrev isP (P : Nat) : Prop := P = 4 ∨ P = 9 ∨ P = 14 ∨ P = 20
def shX : Nat → Sh := fun k => match k with
  | 0 => .inl (11, [some 1, some 3, some 4, some 9, some 14, some 19, some 25, some 32, some 39, some 42, some 49, some 54, some 56, none])
  | 1 => .inl (8, [some 2, none, none])
  | 2 => .inr (0, 260)
  | 3 => .inl (4, [some 1, none, none])
  | 4 => .inl (2, [some 5, some 6, some 7, some 8, none, none, none, none, none, none])
  | 5 => .inr (0, 24)
  | 6 => .inr (0, 24)
  | 7 => .inr (0, 24)
  | 8 => .inr (0, 24)
  | 9 => .inl (2, [some 10, some 11, some 12, some 13, none, none, none, none, none, none])
  | 10 => .inr (0, 24)
  | 11 => .inr (0, 24)
  | 12 => .inr (0, 24)
  | 13 => .inr (0, 24)
  | 14 => .inl (2, [some 15, some 16, some 17, some 18, none, none, none, none, none, none])
  | 15 => .inr (0, 24)
  | 16 => .inr (0, 24)
  | 17 => .inr (0, 24)
  | 18 => .inr (0, 24)
  | 19 => .inl (3, [some 3, some 20])
  | 20 => .inl (2, [some 21, some 22, some 23, some 24, none, none, none, none, none, none])
  | 21 => .inr (0, 24)
  | 22 => .inr (0, 24)
  | 23 => .inr (0, 24)
  | 24 => .inr (0, 24)
  | 25 => .inl (1, [some 3, some 26, some 27, some 28, some 29, some 30, some 31, none, none])
  | 26 => .inr (0, 240)
  | 27 => .inr (0, 240)
  | 28 => .inr (0, 16)
  | 29 => .inr (0, 16)
  | 30 => .inr (0, 16)
  | 31 => .inr (0, 16)
  | 32 => .inl (1, [some 3, some 33, some 34, some 35, some 36, some 37, some 38, none, none])
  | 33 => .inr (0, 240)
  | 34 => .inr (0, 240)
  | 35 => .inr (0, 16)
  | 36 => .inr (0, 16)
  | 37 => .inr (0, 16)
  | 38 => .inr (0, 16)
  | 39 => .inl (0, [some 40])
  | 40 => .inl (5, [some 25, some 41, none, none, some 1000, none, none])
  | 41 => .inr (0, 64)
  | 42 => .inl (9, [some 3, some 43, some 44, some 45, some 46, some 47, some 48, none, none])
  | 43 => .inr (0, 64)
  | 44 => .inr (0, 64)
  | 45 => .inr (0, 2)
  | 46 => .inr (0, 2)
  | 47 => .inr (0, 2)
  | 48 => .inr (0, 8)
  | 49 => .inl (10, [some 1, some 50, some 51, some 52, some 53])
  | 50 => .inr (0, 16)
  | 51 => .inr (0, 16)
  | 52 => .inr (0, 16)
  | 53 => .inr (0, 176)
  | 54 => .inl (7, [some 1, some 55])
  | 55 => .inr (1, 48)
  | _ => .inl (6, [some 1])
def SX : SY := (57, shX)
theorem kx_0 : 0 < SX.1 := by decide
theorem sx_0 : SX.2 0 = .inl (11, [some 1, some 3, some 4, some 9, some 14, some 19, some 25, some 32, some 39, some 42, some 49, some 54, some 56, none]) := rfl
theorem kx_1 : 1 < SX.1 := by decide
theorem sx_1 : SX.2 1 = .inl (8, [some 2, none, none]) := rfl
theorem kx_2 : 2 < SX.1 := by decide
theorem sx_2 : SX.2 2 = .inr (0, 260) := rfl
theorem kx_3 : 3 < SX.1 := by decide
theorem sx_3 : SX.2 3 = .inl (4, [some 1, none, none]) := rfl
theorem kx_4 : 4 < SX.1 := by decide
theorem sx_4 : SX.2 4 = .inl (2, [some 5, some 6, some 7, some 8, none, none, none, none, none, none]) := rfl
theorem kx_5 : 5 < SX.1 := by decide
theorem sx_5 : SX.2 5 = .inr (0, 24) := rfl
theorem kx_6 : 6 < SX.1 := by decide
theorem sx_6 : SX.2 6 = .inr (0, 24) := rfl
theorem kx_7 : 7 < SX.1 := by decide
theorem sx_7 : SX.2 7 = .inr (0, 24) := rfl
theorem kx_8 : 8 < SX.1 := by decide
theorem sx_8 : SX.2 8 = .inr (0, 24) := rfl
theorem kx_9 : 9 < SX.1 := by decide
theorem sx_9 : SX.2 9 = .inl (2, [some 10, some 11, some 12, some 13, none, none, none, none, none, none]) := rfl
theorem kx_10 : 10 < SX.1 := by decide
theorem sx_10 : SX.2 10 = .inr (0, 24) := rfl
theorem kx_11 : 11 < SX.1 := by decide
theorem sx_11 : SX.2 11 = .inr (0, 24) := rfl
theorem kx_12 : 12 < SX.1 := by decide
theorem sx_12 : SX.2 12 = .inr (0, 24) := rfl
theorem kx_13 : 13 < SX.1 := by decide
theorem sx_13 : SX.2 13 = .inr (0, 24) := rfl
theorem kx_14 : 14 < SX.1 := by decide
theorem sx_14 : SX.2 14 = .inl (2, [some 15, some 16, some 17, some 18, none, none, none, none, none, none]) := rfl
theorem kx_15 : 15 < SX.1 := by decide
theorem sx_15 : SX.2 15 = .inr (0, 24) := rfl
theorem kx_16 : 16 < SX.1 := by decide
theorem sx_16 : SX.2 16 = .inr (0, 24) := rfl
theorem kx_17 : 17 < SX.1 := by decide
theorem sx_17 : SX.2 17 = .inr (0, 24) := rfl
theorem kx_18 : 18 < SX.1 := by decide
theorem sx_18 : SX.2 18 = .inr (0, 24) := rfl
theorem kx_19 : 19 < SX.1 := by decide
theorem sx_19 : SX.2 19 = .inl (3, [some 3, some 20]) := rfl
theorem kx_20 : 20 < SX.1 := by decide
theorem sx_20 : SX.2 20 = .inl (2, [some 21, some 22, some 23, some 24, none, none, none, none, none, none]) := rfl
theorem kx_21 : 21 < SX.1 := by decide
theorem sx_21 : SX.2 21 = .inr (0, 24) := rfl
theorem kx_22 : 22 < SX.1 := by decide
theorem sx_22 : SX.2 22 = .inr (0, 24) := rfl
theorem kx_23 : 23 < SX.1 := by decide
theorem sx_23 : SX.2 23 = .inr (0, 24) := rfl
theorem kx_24 : 24 < SX.1 := by decide
theorem sx_24 : SX.2 24 = .inr (0, 24) := rfl
theorem kx_25 : 25 < SX.1 := by decide
theorem sx_25 : SX.2 25 = .inl (1, [some 3, some 26, some 27, some 28, some 29, some 30, some 31, none, none]) := rfl
theorem kx_26 : 26 < SX.1 := by decide
theorem sx_26 : SX.2 26 = .inr (0, 240) := rfl
theorem kx_27 : 27 < SX.1 := by decide
theorem sx_27 : SX.2 27 = .inr (0, 240) := rfl
theorem kx_28 : 28 < SX.1 := by decide
theorem sx_28 : SX.2 28 = .inr (0, 16) := rfl
theorem kx_29 : 29 < SX.1 := by decide
theorem sx_29 : SX.2 29 = .inr (0, 16) := rfl
theorem kx_30 : 30 < SX.1 := by decide
theorem sx_30 : SX.2 30 = .inr (0, 16) := rfl
theorem kx_31 : 31 < SX.1 := by decide
theorem sx_31 : SX.2 31 = .inr (0, 16) := rfl
theorem kx_32 : 32 < SX.1 := by decide
theorem sx_32 : SX.2 32 = .inl (1, [some 3, some 33, some 34, some 35, some 36, some 37, some 38, none, none]) := rfl
theorem kx_33 : 33 < SX.1 := by decide
theorem sx_33 : SX.2 33 = .inr (0, 240) := rfl
theorem kx_34 : 34 < SX.1 := by decide
theorem sx_34 : SX.2 34 = .inr (0, 240) := rfl
theorem kx_35 : 35 < SX.1 := by decide
theorem sx_35 : SX.2 35 = .inr (0, 16) := rfl
theorem kx_36 : 36 < SX.1 := by decide
theorem sx_36 : SX.2 36 = .inr (0, 16) := rfl
theorem kx_37 : 37 < SX.1 := by decide
theorem sx_37 : SX.2 37 = .inr (0, 16) := rfl
theorem kx_38 : 38 < SX.1 := by decide
theorem sx_38 : SX.2 38 = .inr (0, 16) := rfl
theorem kx_39 : 39 < SX.1 := by decide
theorem sx_39 : SX.2 39 = .inl (0, [some 40]) := rfl
theorem kx_40 : 40 < SX.1 := by decide
theorem sx_40 : SX.2 40 = .inl (5, [some 25, some 41, none, none, some 1000, none, none]) := rfl
theorem kx_41 : 41 < SX.1 := by decide
theorem sx_41 : SX.2 41 = .inr (0, 64) := rfl
theorem kx_42 : 42 < SX.1 := by decide
theorem sx_42 : SX.2 42 = .inl (9, [some 3, some 43, some 44, some 45, some 46, some 47, some 48, none, none]) := rfl
theorem kx_43 : 43 < SX.1 := by decide
theorem sx_43 : SX.2 43 = .inr (0, 64) := rfl
theorem kx_44 : 44 < SX.1 := by decide
theorem sx_44 : SX.2 44 = .inr (0, 64) := rfl
theorem kx_45 : 45 < SX.1 := by decide
theorem sx_45 : SX.2 45 = .inr (0, 2) := rfl
theorem kx_46 : 46 < SX.1 := by decide
theorem sx_46 : SX.2 46 = .inr (0, 2) := rfl
theorem kx_47 : 47 < SX.1 := by decide
theorem sx_47 : SX.2 47 = .inr (0, 2) := rfl
theorem kx_48 : 48 < SX.1 := by decide
theorem sx_48 : SX.2 48 = .inr (0, 8) := rfl
theorem kx_49 : 49 < SX.1 := by decide
theorem sx_49 : SX.2 49 = .inl (10, [some 1, some 50, some 51, some 52, some 53]) := rfl
theorem kx_50 : 50 < SX.1 := by decide
theorem sx_50 : SX.2 50 = .inr (0, 16) := rfl
theorem kx_51 : 51 < SX.1 := by decide
theorem sx_51 : SX.2 51 = .inr (0, 16) := rfl
theorem kx_52 : 52 < SX.1 := by decide
theorem sx_52 : SX.2 52 = .inr (0, 16) := rfl
theorem kx_53 : 53 < SX.1 := by decide
theorem sx_53 : SX.2 53 = .inr (0, 176) := rfl
theorem kx_54 : 54 < SX.1 := by decide
theorem sx_54 : SX.2 54 = .inl (7, [some 1, some 55]) := rfl
theorem kx_55 : 55 < SX.1 := by decide
theorem sx_55 : SX.2 55 = .inr (1, 48) := rfl
theorem kx_56 : 56 < SX.1 := by decide
theorem sx_56 : SX.2 56 = .inl (6, [some 1]) := rfl
def shM : Nat → Sh := fun k => match k with
  | 0 => .inl (12, [some 1, some 2, some 3, some 4, some 5, none, some 6, none, none, none, none, none, none, none, none, none, none, some 7, some 8, some 9, some 10, some 11, some 12, some 13, some 14, some 15, some 16, some 17, some 18, some 19, some 20, some 21, some 22, some 23, none, none, some 24, some 25, some 26, some 27, some 28, some 29, some 30, some 31, some 32, none, none, none, none, some 33, some 34, some 35, some 36, none, none])
  | 1 => .inr (0, 99)
  | 2 => .inr (0, 99)
  | 3 => .inr (0, 99)
  | 4 => .inr (0, 24)
  | 5 => .inr (0, 24)
  | 6 => .inr (2, 260)
  | 7 => .inr (0, 260)
  | 8 => .inr (0, 260)
  | 9 => .inr (0, 16)
  | 10 => .inr (0, 16)
  | 11 => .inr (0, 16)
  | 12 => .inr (0, 16)
  | 13 => .inr (0, 260)
  | 14 => .inr (0, 16)
  | 15 => .inr (0, 16)
  | 16 => .inr (0, 16)
  | 17 => .inr (0, 16)
  | 18 => .inr (0, 260)
  | 19 => .inr (0, 9)
  | 20 => .inr (0, 24)
  | 21 => .inr (0, 24)
  | 22 => .inr (0, 24)
  | 23 => .inr (0, 24)
  | 24 => .inr (0, 12)
  | 25 => .inr (0, 4096)
  | 26 => .inr (0, 64)
  | 27 => .inr (0, 2)
  | 28 => .inr (0, 2)
  | 29 => .inr (0, 2)
  | 30 => .inr (0, 8)
  | 31 => .inr (0, 8)
  | 32 => .inr (0, 64)
  | 33 => .inr (0, 16)
  | 34 => .inr (0, 65536)
  | 35 => .inr (0, 8)
  | _ => .inr (0, 256)
def SM : SY := (37, shM)
theorem km_0 : 0 < SM.1 := by decide
theorem sm_0 : SM.2 0 = .inl (12, [some 1, some 2, some 3, some 4, some 5, none, some 6, none, none, none, none, none, none, none, none, none, none, some 7, some 8, some 9, some 10, some 11, some 12, some 13, some 14, some 15, some 16, some 17, some 18, some 19, some 20, some 21, some 22, some 23, none, none, some 24, some 25, some 26, some 27, some 28, some 29, some 30, some 31, some 32, none, none, none, none, some 33, some 34, some 35, some 36, none, none]) := rfl
theorem km_1 : 1 < SM.1 := by decide
theorem sm_1 : SM.2 1 = .inr (0, 99) := rfl
theorem km_2 : 2 < SM.1 := by decide
theorem sm_2 : SM.2 2 = .inr (0, 99) := rfl
theorem km_3 : 3 < SM.1 := by decide
theorem sm_3 : SM.2 3 = .inr (0, 99) := rfl
theorem km_4 : 4 < SM.1 := by decide
theorem sm_4 : SM.2 4 = .inr (0, 24) := rfl
theorem km_5 : 5 < SM.1 := by decide
theorem sm_5 : SM.2 5 = .inr (0, 24) := rfl
theorem km_6 : 6 < SM.1 := by decide
theorem sm_6 : SM.2 6 = .inr (2, 260) := rfl
theorem km_7 : 7 < SM.1 := by decide
theorem sm_7 : SM.2 7 = .inr (0, 260) := rfl
theorem km_8 : 8 < SM.1 := by decide
theorem sm_8 : SM.2 8 = .inr (0, 260) := rfl
theorem km_9 : 9 < SM.1 := by decide
theorem sm_9 : SM.2 9 = .inr (0, 16) := rfl
theorem km_10 : 10 < SM.1 := by decide
theorem sm_10 : SM.2 10 = .inr (0, 16) := rfl
theorem km_11 : 11 < SM.1 := by decide
theorem sm_11 : SM.2 11 = .inr (0, 16) := rfl
theorem km_12 : 12 < SM.1 := by decide
theorem sm_12 : SM.2 12 = .inr (0, 16) := rfl
theorem km_13 : 13 < SM.1 := by decide
theorem sm_13 : SM.2 13 = .inr (0, 260) := rfl
theorem km_14 : 14 < SM.1 := by decide
theorem sm_14 : SM.2 14 = .inr (0, 16) := rfl
theorem km_15 : 15 < SM.1 := by decide
theorem sm_15 : SM.2 15 = .inr (0, 16) := rfl
theorem km_16 : 16 < SM.1 := by decide
theorem sm_16 : SM.2 16 = .inr (0, 16) := rfl
theorem km_17 : 17 < SM.1 := by decide
theorem sm_17 : SM.2 17 = .inr (0, 16) := rfl
theorem km_18 : 18 < SM.1 := by decide
theorem sm_18 : SM.2 18 = .inr (0, 260) := rfl
theorem km_19 : 19 < SM.1 := by decide
theorem sm_19 : SM.2 19 = .inr (0, 9) := rfl
theorem km_20 : 20 < SM.1 := by decide
theorem sm_20 : SM.2 20 = .inr (0, 24) := rfl
theorem km_21 : 21 < SM.1 := by decide
theorem sm_21 : SM.2 21 = .inr (0, 24) := rfl
theorem km_22 : 22 < SM.1 := by decide
theorem sm_22 : SM.2 22 = .inr (0, 24) := rfl
theorem km_23 : 23 < SM.1 := by decide
theorem sm_23 : SM.2 23 = .inr (0, 24) := rfl
theorem km_24 : 24 < SM.1 := by decide
theorem sm_24 : SM.2 24 = .inr (0, 12) := rfl
theorem km_25 : 25 < SM.1 := by decide
theorem sm_25 : SM.2 25 = .inr (0, 4096) := rfl
theorem km_26 : 26 < SM.1 := by decide
theorem sm_26 : SM.2 26 = .inr (0, 64) := rfl
theorem km_27 : 27 < SM.1 := by decide
theorem sm_27 : SM.2 27 = .inr (0, 2) := rfl
theorem km_28 : 28 < SM.1 := by decide
theorem sm_28 : SM.2 28 = .inr (0, 2) := rfl
theorem km_29 : 29 < SM.1 := by decide
theorem sm_29 : SM.2 29 = .inr (0, 2) := rfl
theorem km_30 : 30 < SM.1 := by decide
theorem sm_30 : SM.2 30 = .inr (0, 8) := rfl
theorem km_31 : 31 < SM.1 := by decide
theorem sm_31 : SM.2 31 = .inr (0, 8) := rfl
theorem km_32 : 32 < SM.1 := by decide
theorem sm_32 : SM.2 32 = .inr (0, 64) := rfl
theorem km_33 : 33 < SM.1 := by decide
theorem sm_33 : SM.2 33 = .inr (0, 16) := rfl
theorem km_34 : 34 < SM.1 := by decide
theorem sm_34 : SM.2 34 = .inr (0, 65536) := rfl
theorem km_35 : 35 < SM.1 := by decide
theorem sm_35 : SM.2 35 = .inr (0, 8) := rfl
theorem km_36 : 36 < SM.1 := by decide
theorem sm_36 : SM.2 36 = .inr (0, 256) := rfl
theorem kP {P : Nat} (h : isP P) : P < SX.1 := by rcases h with rfl | rfl | rfl | rfl <;> decide
theorem sP {P : Nat} (h : isP P) : SX.2 P = .inl (2, [some (P + 1), some (P + 2), some (P + 3), some (P + 4), none, none, none, none, none, none]) := by rcases h with rfl | rfl | rfl | rfl <;> rfl
theorem lP {P : Nat} (h : isP P) : P < 2 ^ 31 := by rcases h with rfl | rfl | rfl | rfl <;> decide
theorem kPa1 {P : Nat} (h : isP P) : P + 1 < SX.1 := by rcases h with rfl | rfl | rfl | rfl <;> decide
theorem sPa1 {P : Nat} (h : isP P) : SX.2 (P + 1) = .inr (0, 24) := by rcases h with rfl | rfl | rfl | rfl <;> rfl
theorem qP1 {P : Nat} (h : isP P) : (P + 1 == 1000) = false := by rcases h with rfl | rfl | rfl | rfl <;> rfl
theorem kPa2 {P : Nat} (h : isP P) : P + 2 < SX.1 := by rcases h with rfl | rfl | rfl | rfl <;> decide
theorem sPa2 {P : Nat} (h : isP P) : SX.2 (P + 2) = .inr (0, 24) := by rcases h with rfl | rfl | rfl | rfl <;> rfl
theorem qP2 {P : Nat} (h : isP P) : (P + 2 == 1000) = false := by rcases h with rfl | rfl | rfl | rfl <;> rfl
theorem kPa3 {P : Nat} (h : isP P) : P + 3 < SX.1 := by rcases h with rfl | rfl | rfl | rfl <;> decide
theorem sPa3 {P : Nat} (h : isP P) : SX.2 (P + 3) = .inr (0, 24) := by rcases h with rfl | rfl | rfl | rfl <;> rfl
theorem qP3 {P : Nat} (h : isP P) : (P + 3 == 1000) = false := by rcases h with rfl | rfl | rfl | rfl <;> rfl
theorem kPa4 {P : Nat} (h : isP P) : P + 4 < SX.1 := by rcases h with rfl | rfl | rfl | rfl <;> decide
theorem sPa4 {P : Nat} (h : isP P) : SX.2 (P + 4) = .inr (0, 24) := by rcases h with rfl | rfl | rfl | rfl <;> rfl
theorem qP4 {P : Nat} (h : isP P) : (P + 4 == 1000) = false := by rcases h with rfl | rfl | rfl | rfl <;> rfl
theorem isP_4 : isP 4 := by decide
theorem isP_9 : isP 9 := by decide
theorem isP_14 : isP 14 := by decide
theorem isP_20 : isP 20 := by decide
theorem cl_0 : ∃ T N, clA[0]? = some ("PutOffWicks$Almanac", T, N) := ⟨_, _, rfl⟩
theorem cl_1 : ∃ T N, clA[1]? = some ("PutOffWicks$Law", T, N) := ⟨_, _, rfl⟩
theorem cl_2 : ∃ T N, clA[2]? = some ("PutOffWicks$Parish", T, N) := ⟨_, _, rfl⟩
theorem cl_3 : ∃ T N, clA[3]? = some ("PutOffWicks$ParishReader", T, N) := ⟨_, _, rfl⟩
theorem cl_4 : ∃ T N, clA[4]? = some ("PutOffWicks$Reading", T, N) := ⟨_, _, rfl⟩
theorem cl_5 : ∃ T N, clA[5]? = some ("PutOffWicks$Reckoner", T, N) := ⟨_, _, rfl⟩
theorem cl_6 : ∃ T N, clA[6]? = some ("PutOffWicks$Rows", T, N) := ⟨_, _, rfl⟩
theorem cl_7 : ∃ T N, clA[7]? = some ("PutOffWicks$Shore", T, N) := ⟨_, _, rfl⟩
theorem cl_8 : ∃ T N, clA[8]? = some ("PutOffWicks$Tape", T, N) := ⟨_, _, rfl⟩
theorem cl_9 : ∃ T N, clA[9]? = some ("PutOffWicks$Twist", T, N) := ⟨_, _, rfl⟩
theorem cl_10 : ∃ T N, clA[10]? = some ("PutOffWicks$Waits", T, N) := ⟨_, _, rfl⟩
theorem cl_11 : ∃ T N, clA[11]? = some ("PutOffWicks", T, N) := ⟨_, _, rfl⟩
theorem cl_12 : ∃ T N, clA[12]? = some ("PutOffWicksModel", T, N) := ⟨_, _, rfl⟩
def m_Almanac_pass : MI := (⟨"PutOffWicks$Almanac", "pass", "(LPutOffWicks$Parish;I)I"⟩, prog_2_method_2_code, 6, (some .int))
theorem mv_Almanac_pass : MV m_Almanac_pass 2 := ⟨ch_of ch0_ok 0 rfl, ch_of ch0_ok 1 rfl, ch_of ch0_ok 2 rfl, cd_0, ⟨by decide +kernel, by decide +kernel, by decide +kernel⟩⟩
def m_Almanac_passOver : MI := (⟨"PutOffWicks$Almanac", "passOver", "(LPutOffWicks$Parish;I)V"⟩, prog_2_method_3_code, 7, none)
theorem mv_Almanac_passOver : MV m_Almanac_passOver 2 := ⟨ch_of ch0_ok 3 rfl, ch_of ch0_ok 4 rfl, ch_of ch0_ok 2 rfl, cd_1, ⟨by decide +kernel, by decide +kernel, by decide +kernel⟩⟩
def m_JA_fillI : MI := (⟨"java/util/Arrays", "fill", "([II)V"⟩, prog_19_method_103_code, 4, none)
theorem mt_JA_fillI : MT m_JA_fillI 2 := ⟨ch_of ch0_ok 5 rfl, ch_of ch0_ok 6 rfl, cd_2, ⟨by decide +kernel, by decide +kernel, by decide +kernel⟩⟩
def m_JA_fillJ : MI := (⟨"java/util/Arrays", "fill", "([JJ)V"⟩, prog_19_method_101_code, 5, none)
theorem mt_JA_fillJ : MT m_JA_fillJ 2 := ⟨ch_of ch0_ok 7 rfl, ch_of ch0_ok 6 rfl, cd_3, ⟨by decide +kernel, by decide +kernel, by decide +kernel⟩⟩
def m_JI_bitCount : MI := (⟨"java/lang/Integer", "bitCount", "(I)I"⟩, prog_15_method_49_code, 1, (some .int))
theorem mt_JI_bitCount : MT m_JI_bitCount 1 := ⟨ch_of ch0_ok 8 rfl, ch_of ch0_ok 9 rfl, cd_4, ⟨by decide +kernel, by decide +kernel, by decide +kernel⟩⟩
def m_JL_bitCount : MI := (⟨"java/lang/Long", "bitCount", "(J)I"⟩, prog_16_method_50_code, 2, (some .int))
theorem mt_JL_bitCount : MT m_JL_bitCount 1 := ⟨ch_of ch0_ok 10 rfl, ch_of ch0_ok 11 rfl, cd_5, ⟨by decide +kernel, by decide +kernel, by decide +kernel⟩⟩
def m_JM_abs : MI := (⟨"java/lang/Math", "abs", "(I)I"⟩, prog_17_method_59_code, 1, (some .int))
theorem mt_JM_abs : MT m_JM_abs 1 := ⟨ch_of ch0_ok 12 rfl, ch_of ch0_ok 13 rfl, cd_6, ⟨by decide +kernel, by decide +kernel, by decide +kernel⟩⟩
def m_JM_max : MI := (⟨"java/lang/Math", "max", "(II)I"⟩, prog_17_method_65_code, 2, (some .int))
theorem mt_JM_max : MT m_JM_max 2 := ⟨ch_of ch0_ok 14 rfl, ch_of ch0_ok 13 rfl, cd_7, ⟨by decide +kernel, by decide +kernel, by decide +kernel⟩⟩
def m_JM_min : MI := (⟨"java/lang/Math", "min", "(II)I"⟩, prog_17_method_69_code, 2, (some .int))
theorem mt_JM_min : MT m_JM_min 2 := ⟨ch_of ch0_ok 15 rfl, ch_of ch0_ok 13 rfl, cd_8, ⟨by decide +kernel, by decide +kernel, by decide +kernel⟩⟩
def m_Law_add : MI := (⟨"PutOffWicks$Law", "add", "(II)I"⟩, prog_3_method_10_code, 3, (some .int))
theorem mv_Law_add : MV m_Law_add 2 := ⟨ch_of ch0_ok 16 rfl, ch_of ch0_ok 17 rfl, ch_of ch0_ok 18 rfl, cd_9, ⟨by decide +kernel, by decide +kernel, by decide +kernel⟩⟩
def m_Law_copyFrom : MI := (⟨"PutOffWicks$Law", "copyFrom", "(LPutOffWicks$Law;)V"⟩, prog_3_method_2_code, 2, none)
theorem mv_Law_copyFrom : MV m_Law_copyFrom 1 := ⟨ch_of ch0_ok 19 rfl, ch_of ch0_ok 20 rfl, ch_of ch0_ok 18 rfl, cd_10, ⟨by decide +kernel, by decide +kernel, by decide +kernel⟩⟩
def m_Law_isFact : MI := (⟨"PutOffWicks$Law", "isFact", "(I)Z"⟩, prog_3_method_9_code, 1, (some .boolean))
theorem mt_Law_isFact : MT m_Law_isFact 1 := ⟨ch_of ch0_ok 21 rfl, ch_of ch0_ok 18 rfl, cd_11, ⟨by decide +kernel, by decide +kernel, by decide +kernel⟩⟩
def m_Law_land : MI := (⟨"PutOffWicks$Law", "land", "(I)V"⟩, prog_3_method_11_code, 2, none)
theorem mv_Law_land : MV m_Law_land 1 := ⟨ch_of ch0_ok 22 rfl, ch_of ch0_ok 23 rfl, ch_of ch0_ok 18 rfl, cd_12, ⟨by decide +kernel, by decide +kernel, by decide +kernel⟩⟩
def m_Law_opens : MI := (⟨"PutOffWicks$Law", "opens", "(I)Z"⟩, prog_3_method_8_code, 2, (some .boolean))
theorem mv_Law_opens : MV m_Law_opens 1 := ⟨ch_of ch0_ok 24 rfl, ch_of ch0_ok 25 rfl, ch_of ch0_ok 18 rfl, cd_13, ⟨by decide +kernel, by decide +kernel, by decide +kernel⟩⟩
def m_Law_read : MI := (⟨"PutOffWicks$Law", "read", "()I"⟩, prog_3_method_3_code, 4, (some .int))
theorem mv_Law_read : MV m_Law_read 0 := ⟨ch_of ch0_ok 26 rfl, ch_of ch0_ok 27 rfl, ch_of ch0_ok 18 rfl, cd_14, ⟨by decide +kernel, by decide +kernel, by decide +kernel⟩⟩
def m_Law_readCondition : MI := (⟨"PutOffWicks$Law", "readCondition", "(I)V"⟩, prog_3_method_4_code, 6, none)
theorem mv_Law_readCondition : MV m_Law_readCondition 1 := ⟨ch_of ch0_ok 28 rfl, ch_of ch0_ok 29 rfl, ch_of ch0_ok 18 rfl, cd_15, ⟨by decide +kernel, by decide +kernel, by decide +kernel⟩⟩
def m_Law_readFactor : MI := (⟨"PutOffWicks$Law", "readFactor", "(I)V"⟩, prog_3_method_7_code, 3, none)
theorem mv_Law_readFactor : MV m_Law_readFactor 1 := ⟨ch_of ch0_ok 30 rfl, ch_of ch0_ok 31 rfl, ch_of ch0_ok 18 rfl, cd_16, ⟨by decide +kernel, by decide +kernel, by decide +kernel⟩⟩
def m_Law_readTest : MI := (⟨"PutOffWicks$Law", "readTest", "(I)V"⟩, prog_3_method_5_code, 4, none)
theorem mv_Law_readTest : MV m_Law_readTest 1 := ⟨ch_of ch0_ok 32 rfl, ch_of ch0_ok 33 rfl, ch_of ch0_ok 18 rfl, cd_17, ⟨by decide +kernel, by decide +kernel, by decide +kernel⟩⟩
def m_Law_readValue : MI := (⟨"PutOffWicks$Law", "readValue", "(I)V"⟩, prog_3_method_6_code, 9, none)
theorem mv_Law_readValue : MV m_Law_readValue 1 := ⟨ch_of ch0_ok 34 rfl, ch_of ch0_ok 35 rfl, ch_of ch0_ok 18 rfl, cd_18, ⟨by decide +kernel, by decide +kernel, by decide +kernel⟩⟩
def m_Mo_areHome : MI := (⟨"PutOffWicksModel", "areHome", "(I)Z"⟩, prog_14_method_78_code, 3, (some .boolean))
theorem mv_Mo_areHome : MV m_Mo_areHome 1 := ⟨ch_of ch0_ok 36 rfl, ch_of ch0_ok 37 rfl, ch_of ch0_ok 38 rfl, cd_19, ⟨by decide +kernel, by decide +kernel, by decide +kernel⟩⟩
def m_Mo_beginsText : MI := (⟨"PutOffWicksModel", "beginsText", "(I)V"⟩, prog_14_method_35_code, 2, none)
theorem mv_Mo_beginsText : MV m_Mo_beginsText 1 := ⟨ch_of ch0_ok 39 rfl, ch_of ch0_ok 40 rfl, ch_of ch0_ok 38 rfl, cd_20, ⟨by decide +kernel, by decide +kernel, by decide +kernel⟩⟩
def m_Mo_bits : MI := (⟨"PutOffWicksModel", "bits", "(I)I"⟩, prog_14_method_7_code, 3, (some .int))
theorem mt_Mo_bits : MT m_Mo_bits 1 := ⟨ch_of ch0_ok 41 rfl, ch_of ch0_ok 38 rfl, cd_21, ⟨by decide +kernel, by decide +kernel, by decide +kernel⟩⟩
def m_Mo_brightOf : MI := (⟨"PutOffWicksModel", "brightOf", "(I)I"⟩, prog_14_method_97_code, 4, (some .int))
theorem mv_Mo_brightOf : MV m_Mo_brightOf 1 := ⟨ch_of ch0_ok 42 rfl, ch_of ch0_ok 43 rfl, ch_of ch0_ok 38 rfl, cd_22, ⟨by decide +kernel, by decide +kernel, by decide +kernel⟩⟩
def m_Mo_brightest : MI := (⟨"PutOffWicksModel", "brightest", "(III)I"⟩, prog_14_method_98_code, 7, (some .int))
theorem mv_Mo_brightest : MV m_Mo_brightest 3 := ⟨ch_of ch0_ok 44 rfl, ch_of ch0_ok 45 rfl, ch_of ch0_ok 38 rfl, cd_23, ⟨by decide +kernel, by decide +kernel, by decide +kernel⟩⟩
def m_Mo_burns : MI := (⟨"PutOffWicksModel", "burns", "(II)V"⟩, prog_14_method_48_code, 3, none)
theorem mv_Mo_burns : MV m_Mo_burns 2 := ⟨ch_of ch0_ok 46 rfl, ch_of ch0_ok 47 rfl, ch_of ch0_ok 38 rfl, cd_24, ⟨by decide +kernel, by decide +kernel, by decide +kernel⟩⟩
def m_Mo_byLaw : MI := (⟨"PutOffWicksModel", "byLaw", "(III)I"⟩, prog_14_method_39_code, 6, (some .int))
theorem mv_Mo_byLaw : MV m_Mo_byLaw 3 := ⟨ch_of ch0_ok 48 rfl, ch_of ch0_ok 49 rfl, ch_of ch0_ok 38 rfl, cd_25, ⟨by decide +kernel, by decide +kernel, by decide +kernel⟩⟩
def m_Mo_byWhen : MI := (⟨"PutOffWicksModel", "byWhen", "(II)I"⟩, prog_14_method_58_code, 5, (some .int))
theorem mv_Mo_byWhen : MV m_Mo_byWhen 2 := ⟨ch_of ch1_ok 0 rfl, ch_of ch1_ok 1 rfl, ch_of ch0_ok 38 rfl, cd_26, ⟨by decide +kernel, by decide +kernel, by decide +kernel⟩⟩
def m_Mo_chain : MI := (⟨"PutOffWicksModel", "chain", "(I)I"⟩, prog_14_method_63_code, 4, (some .int))
theorem mv_Mo_chain : MV m_Mo_chain 1 := ⟨ch_of ch1_ok 2 rfl, ch_of ch1_ok 3 rfl, ch_of ch0_ok 38 rfl, cd_27, ⟨by decide +kernel, by decide +kernel, by decide +kernel⟩⟩
def m_Mo_changesRow : MI := (⟨"PutOffWicksModel", "changesRow", "(II)V"⟩, prog_14_method_84_code, 4, none)
theorem mv_Mo_changesRow : MV m_Mo_changesRow 2 := ⟨ch_of ch1_ok 4 rfl, ch_of ch1_ok 5 rfl, ch_of ch0_ok 38 rfl, cd_28, ⟨by decide +kernel, by decide +kernel, by decide +kernel⟩⟩
def m_Mo_check : MI := (⟨"PutOffWicksModel", "check", "(I)I"⟩, prog_14_method_105_code, 3, (some .int))
theorem mv_Mo_check : MV m_Mo_check 1 := ⟨ch_of ch1_ok 6 rfl, ch_of ch1_ok 7 rfl, ch_of ch0_ok 38 rfl, cd_29, ⟨by decide +kernel, by decide +kernel, by decide +kernel⟩⟩
def m_Mo_closesSums : MI := (⟨"PutOffWicksModel", "closesSums", "(Z)V"⟩, prog_14_method_25_code, 2, none)
theorem mv_Mo_closesSums : MV m_Mo_closesSums 1 := ⟨ch_of ch1_ok 8 rfl, ch_of ch1_ok 9 rfl, ch_of ch0_ok 38 rfl, cd_30, ⟨by decide +kernel, by decide +kernel, by decide +kernel⟩⟩
def m_Mo_comesOut : MI := (⟨"PutOffWicksModel", "comesOut", "(I)I"⟩, prog_14_method_75_code, 3, (some .int))
theorem mv_Mo_comesOut : MV m_Mo_comesOut 1 := ⟨ch_of ch1_ok 10 rfl, ch_of ch1_ok 11 rfl, ch_of ch0_ok 38 rfl, cd_31, ⟨by decide +kernel, by decide +kernel, by decide +kernel⟩⟩
def m_Mo_copies : MI := (⟨"PutOffWicksModel", "copies", "([I[I)V"⟩, prog_14_method_8_code, 3, none)
theorem mt_Mo_copies : MT m_Mo_copies 2 := ⟨ch_of ch1_ok 12 rfl, ch_of ch0_ok 38 rfl, cd_32, ⟨by decide +kernel, by decide +kernel, by decide +kernel⟩⟩
def m_Mo_cord : MI := (⟨"PutOffWicksModel", "cord", "(II)I"⟩, prog_14_method_93_code, 7, (some .int))
theorem mv_Mo_cord : MV m_Mo_cord 2 := ⟨ch_of ch1_ok 13 rfl, ch_of ch1_ok 14 rfl, ch_of ch0_ok 38 rfl, cd_33, ⟨by decide +kernel, by decide +kernel, by decide +kernel⟩⟩
def m_Mo_count : MI := (⟨"PutOffWicksModel", "count", "(I)I"⟩, prog_14_method_107_code, 2, (some .int))
theorem mv_Mo_count : MV m_Mo_count 1 := ⟨ch_of ch1_ok 15 rfl, ch_of ch1_ok 16 rfl, ch_of ch0_ok 38 rfl, cd_34, ⟨by decide +kernel, by decide +kernel, by decide +kernel⟩⟩
def m_Mo_dark : MI := (⟨"PutOffWicksModel", "dark", "(I)I"⟩, prog_14_method_59_code, 4, (some .int))
theorem mv_Mo_dark : MV m_Mo_dark 1 := ⟨ch_of ch1_ok 17 rfl, ch_of ch1_ok 18 rfl, ch_of ch0_ok 38 rfl, cd_35, ⟨by decide +kernel, by decide +kernel, by decide +kernel⟩⟩
def m_Mo_dayGoes : MI := (⟨"PutOffWicksModel", "dayGoes", "()V"⟩, prog_14_method_52_code, 2, none)
theorem mv_Mo_dayGoes : MV m_Mo_dayGoes 0 := ⟨ch_of ch1_ok 19 rfl, ch_of ch1_ok 20 rfl, ch_of ch0_ok 38 rfl, cd_36, ⟨by decide +kernel, by decide +kernel, by decide +kernel⟩⟩
def m_Mo_days : MI := (⟨"PutOffWicksModel", "days", "(I)I"⟩, prog_14_method_54_code, 2, (some .int))
theorem mv_Mo_days : MV m_Mo_days 1 := ⟨ch_of ch1_ok 21 rfl, ch_of ch1_ok 22 rfl, ch_of ch0_ok 38 rfl, cd_37, ⟨by decide +kernel, by decide +kernel, by decide +kernel⟩⟩
def m_Mo_daysGo : MI := (⟨"PutOffWicksModel", "daysGo", "(I)V"⟩, prog_14_method_53_code, 3, none)
theorem mv_Mo_daysGo : MV m_Mo_daysGo 1 := ⟨ch_of ch1_ok 23 rfl, ch_of ch1_ok 24 rfl, ch_of ch0_ok 38 rfl, cd_38, ⟨by decide +kernel, by decide +kernel, by decide +kernel⟩⟩
def m_Mo_daysOf : MI := (⟨"PutOffWicksModel", "daysOf", "(I)I"⟩, prog_14_method_60_code, 4, (some .int))
theorem mv_Mo_daysOf : MV m_Mo_daysOf 1 := ⟨ch_of ch1_ok 25 rfl, ch_of ch1_ok 26 rfl, ch_of ch0_ok 38 rfl, cd_39, ⟨by decide +kernel, by decide +kernel, by decide +kernel⟩⟩
def m_Mo_draws : MI := (⟨"PutOffWicksModel", "draws", "()I"⟩, prog_14_method_44_code, 1, (some .int))
theorem mv_Mo_draws : MV m_Mo_draws 0 := ⟨ch_of ch1_ok 27 rfl, ch_of ch1_ok 28 rfl, ch_of ch0_ok 38 rfl, cd_40, ⟨by decide +kernel, by decide +kernel, by decide +kernel⟩⟩
def m_Mo_endsPiece : MI := (⟨"PutOffWicksModel", "endsPiece", "()V"⟩, prog_14_method_29_code, 1, none)
theorem mv_Mo_endsPiece : MV m_Mo_endsPiece 0 := ⟨ch_of ch1_ok 29 rfl, ch_of ch1_ok 30 rfl, ch_of ch0_ok 38 rfl, cd_41, ⟨by decide +kernel, by decide +kernel, by decide +kernel⟩⟩
def m_Mo_factOf : MI := (⟨"PutOffWicksModel", "factOf", "(I)I"⟩, prog_14_method_23_code, 1, (some .int))
theorem mt_Mo_factOf : MT m_Mo_factOf 1 := ⟨ch_of ch1_ok 31 rfl, ch_of ch0_ok 38 rfl, cd_42, ⟨by decide +kernel, by decide +kernel, by decide +kernel⟩⟩
def m_Mo_feed : MI := (⟨"PutOffWicksModel", "feed", "(IIIII)I"⟩, prog_14_method_13_code, 6, (some .int))
theorem mv_Mo_feed : MV m_Mo_feed 5 := ⟨ch_of ch1_ok 32 rfl, ch_of ch1_ok 33 rfl, ch_of ch0_ok 38 rfl, cd_43, ⟨by decide +kernel, by decide +kernel, by decide +kernel⟩⟩
def m_Mo_feels : MI := (⟨"PutOffWicksModel", "feels", "(I)V"⟩, prog_14_method_47_code, 2, none)
theorem mv_Mo_feels : MV m_Mo_feels 1 := ⟨ch_of ch1_ok 34 rfl, ch_of ch1_ok 35 rfl, ch_of ch0_ok 38 rfl, cd_44, ⟨by decide +kernel, by decide +kernel, by decide +kernel⟩⟩
def m_Mo_forEver : MI := (⟨"PutOffWicksModel", "forEver", "()I"⟩, prog_14_method_81_code, 4, (some .int))
theorem mv_Mo_forEver : MV m_Mo_forEver 0 := ⟨ch_of ch1_ok 36 rfl, ch_of ch1_ok 37 rfl, ch_of ch0_ok 38 rfl, cd_45, ⟨by decide +kernel, by decide +kernel, by decide +kernel⟩⟩
def m_Mo_forgiven : MI := (⟨"PutOffWicksModel", "forgiven", "(I)I"⟩, prog_14_method_101_code, 6, (some .int))
theorem mv_Mo_forgiven : MV m_Mo_forgiven 1 := ⟨ch_of ch1_ok 38 rfl, ch_of ch1_ok 39 rfl, ch_of ch0_ok 38 rfl, cd_46, ⟨by decide +kernel, by decide +kernel, by decide +kernel⟩⟩
def m_Mo_goesOn : MI := (⟨"PutOffWicksModel", "goesOn", "(I)V"⟩, prog_14_method_51_code, 7, none)
theorem mv_Mo_goesOn : MV m_Mo_goesOn 1 := ⟨ch_of ch1_ok 40 rfl, ch_of ch1_ok 41 rfl, ch_of ch0_ok 38 rfl, cd_47, ⟨by decide +kernel, by decide +kernel, by decide +kernel⟩⟩
def m_Mo_halves : MI := (⟨"PutOffWicksModel", "halves", "(II)I"⟩, prog_14_method_99_code, 8, (some .int))
theorem mv_Mo_halves : MV m_Mo_halves 2 := ⟨ch_of ch1_ok 42 rfl, ch_of ch1_ok 43 rfl, ch_of ch0_ok 38 rfl, cd_48, ⟨by decide +kernel, by decide +kernel, by decide +kernel⟩⟩
def m_Mo_has : MI := (⟨"PutOffWicksModel", "has", "(II)Z"⟩, prog_14_method_6_code, 2, (some .boolean))
theorem mt_Mo_has : MT m_Mo_has 2 := ⟨ch_of ch1_ok 44 rfl, ch_of ch0_ok 38 rfl, cd_49, ⟨by decide +kernel, by decide +kernel, by decide +kernel⟩⟩
def m_Mo_hasOpenSum : MI := (⟨"PutOffWicksModel", "hasOpenSum", "(I)Z"⟩, prog_14_method_27_code, 3, (some .boolean))
theorem mv_Mo_hasOpenSum : MV m_Mo_hasOpenSum 1 := ⟨ch_of ch1_ok 45 rfl, ch_of ch1_ok 46 rfl, ch_of ch0_ok 38 rfl, cd_50, ⟨by decide +kernel, by decide +kernel, by decide +kernel⟩⟩
def m_Mo_here : MI := (⟨"PutOffWicksModel", "here", "()I"⟩, prog_14_method_15_code, 1, (some .int))
theorem mv_Mo_here : MV m_Mo_here 0 := ⟨ch_of ch1_ok 47 rfl, ch_of ch1_ok 48 rfl, ch_of ch0_ok 38 rfl, cd_51, ⟨by decide +kernel, by decide +kernel, by decide +kernel⟩⟩
def m_Mo_holdsAny : MI := (⟨"PutOffWicksModel", "holdsAny", "(I)Z"⟩, prog_14_method_40_code, 3, (some .boolean))
theorem mv_Mo_holdsAny : MV m_Mo_holdsAny 1 := ⟨ch_of ch1_ok 49 rfl, ch_of ch2_ok 0 rfl, ch_of ch0_ok 38 rfl, cd_52, ⟨by decide +kernel, by decide +kernel, by decide +kernel⟩⟩
def m_Mo_hoursOfRow : MI := (⟨"PutOffWicksModel", "hoursOfRow", "(I)I"⟩, prog_14_method_86_code, 5, (some .int))
theorem mv_Mo_hoursOfRow : MV m_Mo_hoursOfRow 1 := ⟨ch_of ch2_ok 1 rfl, ch_of ch2_ok 2 rfl, ch_of ch0_ok 38 rfl, cd_53, ⟨by decide +kernel, by decide +kernel, by decide +kernel⟩⟩
def m_Mo_in : MI := (⟨"PutOffWicksModel", "in", "(III)Z"⟩, prog_14_method_2_code, 3, (some .boolean))
theorem mt_Mo_in : MT m_Mo_in 3 := ⟨ch_of ch2_ok 3 rfl, ch_of ch0_ok 38 rfl, cd_54, ⟨by decide +kernel, by decide +kernel, by decide +kernel⟩⟩
def m_Mo_isBetter : MI := (⟨"PutOffWicksModel", "isBetter", "(II)Z"⟩, prog_14_method_100_code, 5, (some .boolean))
theorem mv_Mo_isBetter : MV m_Mo_isBetter 2 := ⟨ch_of ch2_ok 4 rfl, ch_of ch2_ok 5 rfl, ch_of ch0_ok 38 rfl, cd_55, ⟨by decide +kernel, by decide +kernel, by decide +kernel⟩⟩
def m_Mo_isDigit : MI := (⟨"PutOffWicksModel", "isDigit", "()Z"⟩, prog_14_method_16_code, 1, (some .boolean))
theorem mv_Mo_isDigit : MV m_Mo_isDigit 0 := ⟨ch_of ch2_ok 6 rfl, ch_of ch2_ok 7 rfl, ch_of ch0_ok 38 rfl, cd_56, ⟨by decide +kernel, by decide +kernel, by decide +kernel⟩⟩
def m_Mo_isDone : MI := (⟨"PutOffWicksModel", "isDone", "(I)V"⟩, prog_14_method_49_code, 2, none)
theorem mv_Mo_isDone : MV m_Mo_isDone 1 := ⟨ch_of ch2_ok 8 rfl, ch_of ch2_ok 9 rfl, ch_of ch0_ok 38 rfl, cd_57, ⟨by decide +kernel, by decide +kernel, by decide +kernel⟩⟩
def m_Mo_isLeft : MI := (⟨"PutOffWicksModel", "isLeft", "(I)Z"⟩, prog_14_method_10_code, 2, (some .boolean))
theorem mv_Mo_isLeft : MV m_Mo_isLeft 1 := ⟨ch_of ch2_ok 10 rfl, ch_of ch2_ok 11 rfl, ch_of ch0_ok 38 rfl, cd_58, ⟨by decide +kernel, by decide +kernel, by decide +kernel⟩⟩
def m_Mo_isPutOff : MI := (⟨"PutOffWicksModel", "isPutOff", "(I)V"⟩, prog_14_method_50_code, 2, none)
theorem mv_Mo_isPutOff : MV m_Mo_isPutOff 1 := ⟨ch_of ch2_ok 12 rfl, ch_of ch2_ok 13 rfl, ch_of ch0_ok 38 rfl, cd_59, ⟨by decide +kernel, by decide +kernel, by decide +kernel⟩⟩
def m_Mo_isSeen : MI := (⟨"PutOffWicksModel", "isSeen", "(II)Z"⟩, prog_14_method_94_code, 3, (some .boolean))
theorem mv_Mo_isSeen : MV m_Mo_isSeen 2 := ⟨ch_of ch2_ok 14 rfl, ch_of ch2_ok 15 rfl, ch_of ch0_ok 38 rfl, cd_60, ⟨by decide +kernel, by decide +kernel, by decide +kernel⟩⟩
def m_Mo_isThing : MI := (⟨"PutOffWicksModel", "isThing", "(I)Z"⟩, prog_14_method_9_code, 2, (some .boolean))
theorem mv_Mo_isThing : MV m_Mo_isThing 1 := ⟨ch_of ch2_ok 16 rfl, ch_of ch2_ok 17 rfl, ch_of ch0_ok 38 rfl, cd_61, ⟨by decide +kernel, by decide +kernel, by decide +kernel⟩⟩
def m_Mo_jumps : MI := (⟨"PutOffWicksModel", "jumps", "(I)V"⟩, prog_14_method_31_code, 2, none)
theorem mv_Mo_jumps : MV m_Mo_jumps 1 := ⟨ch_of ch2_ok 18 rfl, ch_of ch2_ok 19 rfl, ch_of ch0_ok 38 rfl, cd_62, ⟨by decide +kernel, by decide +kernel, by decide +kernel⟩⟩
def m_Mo_keep : MI := (⟨"PutOffWicksModel", "keep", "()I"⟩, prog_14_method_103_code, 1, (some .int))
theorem mv_Mo_keep : MV m_Mo_keep 0 := ⟨ch_of ch2_ok 20 rfl, ch_of ch2_ok 21 rfl, ch_of ch0_ok 38 rfl, cd_63, ⟨by decide +kernel, by decide +kernel, by decide +kernel⟩⟩
def m_Mo_knowing : MI := (⟨"PutOffWicksModel", "knowing", "(II)I"⟩, prog_14_method_91_code, 5, (some .int))
theorem mv_Mo_knowing : MV m_Mo_knowing 2 := ⟨ch_of ch2_ok 22 rfl, ch_of ch2_ok 23 rfl, ch_of ch0_ok 38 rfl, cd_64, ⟨by decide +kernel, by decide +kernel, by decide +kernel⟩⟩
def m_Mo_lands : MI := (⟨"PutOffWicksModel", "lands", "(Z)V"⟩, prog_14_method_30_code, 3, none)
theorem mv_Mo_lands : MV m_Mo_lands 1 := ⟨ch_of ch2_ok 24 rfl, ch_of ch2_ok 25 rfl, ch_of ch0_ok 38 rfl, cd_65, ⟨by decide +kernel, by decide +kernel, by decide +kernel⟩⟩
def m_Mo_law : MI := (⟨"PutOffWicksModel", "law", "(I)I"⟩, prog_14_method_36_code, 4, (some .int))
theorem mv_Mo_law : MV m_Mo_law 1 := ⟨ch_of ch2_ok 26 rfl, ch_of ch2_ok 27 rfl, ch_of ch0_ok 38 rfl, cd_66, ⟨by decide +kernel, by decide +kernel, by decide +kernel⟩⟩
def m_Mo_leastLater : MI := (⟨"PutOffWicksModel", "leastLater", "(II)I"⟩, prog_14_method_89_code, 5, (some .int))
theorem mv_Mo_leastLater : MV m_Mo_leastLater 2 := ⟨ch_of ch2_ok 28 rfl, ch_of ch2_ok 29 rfl, ch_of ch0_ok 38 rfl, cd_67, ⟨by decide +kernel, by decide +kernel, by decide +kernel⟩⟩
def m_Mo_leftOf : MI := (⟨"PutOffWicksModel", "leftOf", "(I)I"⟩, prog_14_method_45_code, 4, (some .int))
theorem mv_Mo_leftOf : MV m_Mo_leftOf 1 := ⟨ch_of ch2_ok 30 rfl, ch_of ch2_ok 31 rfl, ch_of ch0_ok 38 rfl, cd_68, ⟨by decide +kernel, by decide +kernel, by decide +kernel⟩⟩
def m_Mo_light : MI := (⟨"PutOffWicksModel", "light", "(I)I"⟩, prog_14_method_68_code, 2, (some .int))
theorem mv_Mo_light : MV m_Mo_light 1 := ⟨ch_of ch2_ok 32 rfl, ch_of ch2_ok 33 rfl, ch_of ch0_ok 38 rfl, cd_69, ⟨by decide +kernel, by decide +kernel, by decide +kernel⟩⟩
def m_Mo_lightOf : MI := (⟨"PutOffWicksModel", "lightOf", "(I)I"⟩, prog_14_method_67_code, 4, (some .int))
theorem mv_Mo_lightOf : MV m_Mo_lightOf 1 := ⟨ch_of ch2_ok 34 rfl, ch_of ch2_ok 35 rfl, ch_of ch0_ok 38 rfl, cd_70, ⟨by decide +kernel, by decide +kernel, by decide +kernel⟩⟩
def m_Mo_lit : MI := (⟨"PutOffWicksModel", "lit", "(IZ)Z"⟩, prog_14_method_11_code, 3, (some .boolean))
theorem mv_Mo_lit : MV m_Mo_lit 2 := ⟨ch_of ch2_ok 36 rfl, ch_of ch2_ok 37 rfl, ch_of ch0_ok 38 rfl, cd_71, ⟨by decide +kernel, by decide +kernel, by decide +kernel⟩⟩
def m_Mo_max : MI := (⟨"PutOffWicksModel", "max", "(II)I"⟩, prog_14_method_4_code, 2, (some .int))
theorem mt_Mo_max : MT m_Mo_max 2 := ⟨ch_of ch2_ok 38 rfl, ch_of ch0_ok 38 rfl, cd_72, ⟨by decide +kernel, by decide +kernel, by decide +kernel⟩⟩
def m_Mo_median : MI := (⟨"PutOffWicksModel", "median", "()I"⟩, prog_14_method_70_code, 6, (some .int))
theorem mv_Mo_median : MV m_Mo_median 0 := ⟨ch_of ch2_ok 39 rfl, ch_of ch2_ok 40 rfl, ch_of ch0_ok 38 rfl, cd_73, ⟨by decide +kernel, by decide +kernel, by decide +kernel⟩⟩
def m_Mo_min : MI := (⟨"PutOffWicksModel", "min", "(II)I"⟩, prog_14_method_3_code, 2, (some .int))
theorem mt_Mo_min : MT m_Mo_min 2 := ⟨ch_of ch2_ok 41 rfl, ch_of ch0_ok 38 rfl, cd_74, ⟨by decide +kernel, by decide +kernel, by decide +kernel⟩⟩
def m_Mo_mustEnd : MI := (⟨"PutOffWicksModel", "mustEnd", "()I"⟩, prog_14_method_82_code, 4, (some .int))
theorem mv_Mo_mustEnd : MV m_Mo_mustEnd 0 := ⟨ch_of ch2_ok 42 rfl, ch_of ch2_ok 43 rfl, ch_of ch0_ok 38 rfl, cd_75, ⟨by decide +kernel, by decide +kernel, by decide +kernel⟩⟩
def m_Mo_nextRow : MI := (⟨"PutOffWicksModel", "nextRow", "(I)Z"⟩, prog_14_method_85_code, 6, (some .boolean))
theorem mv_Mo_nextRow : MV m_Mo_nextRow 1 := ⟨ch_of ch2_ok 44 rfl, ch_of ch2_ok 45 rfl, ch_of ch0_ok 38 rfl, cd_76, ⟨by decide +kernel, by decide +kernel, by decide +kernel⟩⟩
def m_Mo_night : MI := (⟨"PutOffWicksModel", "night", "(II)I"⟩, prog_14_method_88_code, 7, (some .int))
theorem mv_Mo_night : MV m_Mo_night 2 := ⟨ch_of ch2_ok 46 rfl, ch_of ch2_ok 47 rfl, ch_of ch0_ok 38 rfl, cd_77, ⟨by decide +kernel, by decide +kernel, by decide +kernel⟩⟩
def m_Mo_notes : MI := (⟨"PutOffWicksModel", "notes", "(II)V"⟩, prog_14_method_20_code, 3, none)
theorem mv_Mo_notes : MV m_Mo_notes 2 := ⟨ch_of ch2_ok 48 rfl, ch_of ch2_ok 49 rfl, ch_of ch0_ok 38 rfl, cd_78, ⟨by decide +kernel, by decide +kernel, by decide +kernel⟩⟩
def m_Mo_octet : MI := (⟨"PutOffWicksModel", "octet", "(I)I"⟩, prog_14_method_14_code, 2, (some .int))
theorem mv_Mo_octet : MV m_Mo_octet 1 := ⟨ch_of ch3_ok 0 rfl, ch_of ch3_ok 1 rfl, ch_of ch0_ok 38 rfl, cd_79, ⟨by decide +kernel, by decide +kernel, by decide +kernel⟩⟩
def m_Mo_oftenTill : MI := (⟨"PutOffWicksModel", "oftenTill", "(I)I"⟩, prog_14_method_79_code, 4, (some .int))
theorem mv_Mo_oftenTill : MV m_Mo_oftenTill 1 := ⟨ch_of ch3_ok 2 rfl, ch_of ch3_ok 3 rfl, ch_of ch0_ok 38 rfl, cd_80, ⟨by decide +kernel, by decide +kernel, by decide +kernel⟩⟩
def m_Mo_oldest : MI := (⟨"PutOffWicksModel", "oldest", "()I"⟩, prog_14_method_62_code, 3, (some .int))
theorem mv_Mo_oldest : MV m_Mo_oldest 0 := ⟨ch_of ch3_ok 4 rfl, ch_of ch3_ok 5 rfl, ch_of ch0_ok 38 rfl, cd_81, ⟨by decide +kernel, by decide +kernel, by decide +kernel⟩⟩
def m_Mo_opens : MI := (⟨"PutOffWicksModel", "opens", "(I)Z"⟩, prog_14_method_21_code, 2, (some .boolean))
theorem mv_Mo_opens : MV m_Mo_opens 1 := ⟨ch_of ch3_ok 6 rfl, ch_of ch3_ok 7 rfl, ch_of ch0_ok 38 rfl, cd_82, ⟨by decide +kernel, by decide +kernel, by decide +kernel⟩⟩
def m_Mo_orders : MI := (⟨"PutOffWicksModel", "orders", "()I"⟩, prog_14_method_65_code, 5, (some .int))
theorem mv_Mo_orders : MV m_Mo_orders 0 := ⟨ch_of ch3_ok 8 rfl, ch_of ch3_ok 9 rfl, ch_of ch0_ok 38 rfl, cd_83, ⟨by decide +kernel, by decide +kernel, by decide +kernel⟩⟩
def m_Mo_overs : MI := (⟨"PutOffWicksModel", "overs", "()I"⟩, prog_14_method_76_code, 3, (some .int))
theorem mv_Mo_overs : MV m_Mo_overs 0 := ⟨ch_of ch3_ok 10 rfl, ch_of ch3_ok 11 rfl, ch_of ch0_ok 38 rfl, cd_84, ⟨by decide +kernel, by decide +kernel, by decide +kernel⟩⟩
def m_Mo_parish : MI := (⟨"PutOffWicksModel", "parish", "(I)I"⟩, prog_14_method_43_code, 4, (some .int))
theorem mv_Mo_parish : MV m_Mo_parish 1 := ⟨ch_of ch3_ok 12 rfl, ch_of ch3_ok 13 rfl, ch_of ch0_ok 38 rfl, cd_85, ⟨by decide +kernel, by decide +kernel, by decide +kernel⟩⟩
def m_Mo_placeOf : MI := (⟨"PutOffWicksModel", "placeOf", "(II)I"⟩, prog_14_method_64_code, 4, (some .int))
theorem mv_Mo_placeOf : MV m_Mo_placeOf 2 := ⟨ch_of ch3_ok 14 rfl, ch_of ch3_ok 15 rfl, ch_of ch0_ok 38 rfl, cd_86, ⟨by decide +kernel, by decide +kernel, by decide +kernel⟩⟩
def m_Mo_pride : MI := (⟨"PutOffWicksModel", "pride", "(I)I"⟩, prog_14_method_61_code, 4, (some .int))
theorem mv_Mo_pride : MV m_Mo_pride 1 := ⟨ch_of ch3_ok 16 rfl, ch_of ch3_ok 17 rfl, ch_of ch0_ok 38 rfl, cd_87, ⟨by decide +kernel, by decide +kernel, by decide +kernel⟩⟩
def m_Mo_putsOff : MI := (⟨"PutOffWicksModel", "putsOff", "(IIZI)I"⟩, prog_14_method_92_code, 6, (some .int))
theorem mv_Mo_putsOff : MV m_Mo_putsOff 4 := ⟨ch_of ch3_ok 18 rfl, ch_of ch3_ok 19 rfl, ch_of ch0_ok 38 rfl, cd_88, ⟨by decide +kernel, by decide +kernel, by decide +kernel⟩⟩
def m_Mo_readsAmount : MI := (⟨"PutOffWicksModel", "readsAmount", "(I)Z"⟩, prog_14_method_41_code, 3, (some .boolean))
theorem mv_Mo_readsAmount : MV m_Mo_readsAmount 1 := ⟨ch_of ch3_ok 20 rfl, ch_of ch3_ok 21 rfl, ch_of ch0_ok 38 rfl, cd_89, ⟨by decide +kernel, by decide +kernel, by decide +kernel⟩⟩
def m_Mo_readsCompared : MI := (⟨"PutOffWicksModel", "readsCompared", "()Z"⟩, prog_14_method_32_code, 2, (some .boolean))
theorem mv_Mo_readsCompared : MV m_Mo_readsCompared 0 := ⟨ch_of ch3_ok 22 rfl, ch_of ch3_ok 23 rfl, ch_of ch0_ok 38 rfl, cd_90, ⟨by decide +kernel, by decide +kernel, by decide +kernel⟩⟩
def m_Mo_readsCondition : MI := (⟨"PutOffWicksModel", "readsCondition", "()Z"⟩, prog_14_method_33_code, 1, (some .boolean))
theorem mv_Mo_readsCondition : MV m_Mo_readsCondition 0 := ⟨ch_of ch3_ok 24 rfl, ch_of ch3_ok 25 rfl, ch_of ch0_ok 38 rfl, cd_91, ⟨by decide +kernel, by decide +kernel, by decide +kernel⟩⟩
def m_Mo_readsFactor : MI := (⟨"PutOffWicksModel", "readsFactor", "()Z"⟩, prog_14_method_26_code, 2, (some .boolean))
theorem mv_Mo_readsFactor : MV m_Mo_readsFactor 0 := ⟨ch_of ch3_ok 26 rfl, ch_of ch3_ok 27 rfl, ch_of ch0_ok 38 rfl, cd_92, ⟨by decide +kernel, by decide +kernel, by decide +kernel⟩⟩
def m_Mo_readsNumber : MI := (⟨"PutOffWicksModel", "readsNumber", "()Z"⟩, prog_14_method_19_code, 2, (some .boolean))
theorem mv_Mo_readsNumber : MV m_Mo_readsNumber 0 := ⟨ch_of ch3_ok 28 rfl, ch_of ch3_ok 29 rfl, ch_of ch0_ok 38 rfl, cd_93, ⟨by decide +kernel, by decide +kernel, by decide +kernel⟩⟩
def m_Mo_readsRule : MI := (⟨"PutOffWicksModel", "readsRule", "()Z"⟩, prog_14_method_34_code, 2, (some .boolean))
theorem mv_Mo_readsRule : MV m_Mo_readsRule 0 := ⟨ch_of ch3_ok 30 rfl, ch_of ch3_ok 31 rfl, ch_of ch0_ok 38 rfl, cd_94, ⟨by decide +kernel, by decide +kernel, by decide +kernel⟩⟩
def m_Mo_readsSum : MI := (⟨"PutOffWicksModel", "readsSum", "()Z"⟩, prog_14_method_28_code, 3, (some .boolean))
theorem mv_Mo_readsSum : MV m_Mo_readsSum 0 := ⟨ch_of ch3_ok 32 rfl, ch_of ch3_ok 33 rfl, ch_of ch0_ok 38 rfl, cd_95, ⟨by decide +kernel, by decide +kernel, by decide +kernel⟩⟩
def m_Mo_readsThing : MI := (⟨"PutOffWicksModel", "readsThing", "()Z"⟩, prog_14_method_42_code, 2, (some .boolean))
theorem mv_Mo_readsThing : MV m_Mo_readsThing 0 := ⟨ch_of ch3_ok 34 rfl, ch_of ch3_ok 35 rfl, ch_of ch0_ok 38 rfl, cd_96, ⟨by decide +kernel, by decide +kernel, by decide +kernel⟩⟩
def m_Mo_readsTimes : MI := (⟨"PutOffWicksModel", "readsTimes", "()V"⟩, prog_14_method_71_code, 1, none)
theorem mv_Mo_readsTimes : MV m_Mo_readsTimes 0 := ⟨ch_of ch3_ok 36 rfl, ch_of ch3_ok 37 rfl, ch_of ch0_ok 38 rfl, cd_97, ⟨by decide +kernel, by decide +kernel, by decide +kernel⟩⟩
def m_Mo_readsTurn : MI := (⟨"PutOffWicksModel", "readsTurn", "(I)Z"⟩, prog_14_method_73_code, 6, (some .boolean))
theorem mv_Mo_readsTurn : MV m_Mo_readsTurn 1 := ⟨ch_of ch3_ok 38 rfl, ch_of ch3_ok 39 rfl, ch_of ch0_ok 38 rfl, cd_98, ⟨by decide +kernel, by decide +kernel, by decide +kernel⟩⟩
def m_Mo_reckon : MI := (⟨"PutOffWicksModel", "reckon", "(III)I"⟩, prog_14_method_37_code, 3, (some .int))
theorem mt_Mo_reckon : MT m_Mo_reckon 3 := ⟨ch_of ch3_ok 40 rfl, ch_of ch0_ok 38 rfl, cd_99, ⟨by decide +kernel, by decide +kernel, by decide +kernel⟩⟩
def m_Mo_reckonsTo : MI := (⟨"PutOffWicksModel", "reckonsTo", "(II)I"⟩, prog_14_method_38_code, 8, (some .int))
theorem mv_Mo_reckonsTo : MV m_Mo_reckonsTo 2 := ⟨ch_of ch3_ok 41 rfl, ch_of ch3_ok 42 rfl, ch_of ch0_ok 38 rfl, cd_100, ⟨by decide +kernel, by decide +kernel, by decide +kernel⟩⟩
def m_Mo_repeats : MI := (⟨"PutOffWicksModel", "repeats", "(III)Z"⟩, prog_14_method_72_code, 6, (some .boolean))
theorem mv_Mo_repeats : MV m_Mo_repeats 3 := ⟨ch_of ch3_ok 43 rfl, ch_of ch3_ok 44 rfl, ch_of ch0_ok 38 rfl, cd_101, ⟨by decide +kernel, by decide +kernel, by decide +kernel⟩⟩
def m_Mo_seed : MI := (⟨"PutOffWicksModel", "seed", "(I)Z"⟩, prog_14_method_102_code, 2, (some .boolean))
theorem mv_Mo_seed : MV m_Mo_seed 1 := ⟨ch_of ch3_ok 45 rfl, ch_of ch3_ok 46 rfl, ch_of ch0_ok 38 rfl, cd_102, ⟨by decide +kernel, by decide +kernel, by decide +kernel⟩⟩
def m_Mo_seen : MI := (⟨"PutOffWicksModel", "seen", "(III)I"⟩, prog_14_method_96_code, 9, (some .int))
theorem mv_Mo_seen : MV m_Mo_seen 3 := ⟨ch_of ch3_ok 47 rfl, ch_of ch3_ok 48 rfl, ch_of ch0_ok 38 rfl, cd_103, ⟨by decide +kernel, by decide +kernel, by decide +kernel⟩⟩
def m_Mo_seenAt : MI := (⟨"PutOffWicksModel", "seenAt", "(II)I"⟩, prog_14_method_95_code, 5, (some .int))
theorem mv_Mo_seenAt : MV m_Mo_seenAt 2 := ⟨ch_of ch3_ok 49 rfl, ch_of ch4_ok 0 rfl, ch_of ch0_ok 38 rfl, cd_104, ⟨by decide +kernel, by decide +kernel, by decide +kernel⟩⟩
def m_Mo_setOf : MI := (⟨"PutOffWicksModel", "setOf", "(I)I"⟩, prog_14_method_55_code, 4, (some .int))
theorem mv_Mo_setOf : MV m_Mo_setOf 1 := ⟨ch_of ch4_ok 1 rfl, ch_of ch4_ok 2 rfl, ch_of ch0_ok 38 rfl, cd_105, ⟨by decide +kernel, by decide +kernel, by decide +kernel⟩⟩
def m_Mo_shortened : MI := (⟨"PutOffWicksModel", "shortened", "()I"⟩, prog_14_method_77_code, 4, (some .int))
theorem mv_Mo_shortened : MV m_Mo_shortened 0 := ⟨ch_of ch4_ok 3 rfl, ch_of ch4_ok 4 rfl, ch_of ch0_ok 38 rfl, cd_106, ⟨by decide +kernel, by decide +kernel, by decide +kernel⟩⟩
def m_Mo_size : MI := (⟨"PutOffWicksModel", "size", "(I)I"⟩, prog_14_method_5_code, 1, (some .int))
theorem mt_Mo_size : MT m_Mo_size 1 := ⟨ch_of ch4_ok 5 rfl, ch_of ch0_ok 38 rfl, cd_107, ⟨by decide +kernel, by decide +kernel, by decide +kernel⟩⟩
def m_Mo_spun : MI := (⟨"PutOffWicksModel", "spun", "(II)I"⟩, prog_14_method_87_code, 7, (some .int))
theorem mv_Mo_spun : MV m_Mo_spun 2 := ⟨ch_of ch4_ok 6 rfl, ch_of ch4_ok 7 rfl, ch_of ch0_ok 38 rfl, cd_108, ⟨by decide +kernel, by decide +kernel, by decide +kernel⟩⟩
def m_Mo_sumSign : MI := (⟨"PutOffWicksModel", "sumSign", "(I)I"⟩, prog_14_method_24_code, 1, (some .int))
theorem mt_Mo_sumSign : MT m_Mo_sumSign 1 := ⟨ch_of ch4_ok 8 rfl, ch_of ch0_ok 38 rfl, cd_109, ⟨by decide +kernel, by decide +kernel, by decide +kernel⟩⟩
def m_Mo_takes : MI := (⟨"PutOffWicksModel", "takes", "(I)Z"⟩, prog_14_method_18_code, 2, (some .boolean))
theorem mv_Mo_takes : MV m_Mo_takes 1 := ⟨ch_of ch4_ok 9 rfl, ch_of ch4_ok 10 rfl, ch_of ch0_ok 38 rfl, cd_110, ⟨by decide +kernel, by decide +kernel, by decide +kernel⟩⟩
def m_Mo_thingIs : MI := (⟨"PutOffWicksModel", "thingIs", "(II)I"⟩, prog_14_method_57_code, 3, (some .int))
theorem mv_Mo_thingIs : MV m_Mo_thingIs 2 := ⟨ch_of ch4_ok 11 rfl, ch_of ch4_ok 12 rfl, ch_of ch0_ok 38 rfl, cd_111, ⟨by decide +kernel, by decide +kernel, by decide +kernel⟩⟩
def m_Mo_tried : MI := (⟨"PutOffWicksModel", "tried", "(II)I"⟩, prog_14_method_56_code, 4, (some .int))
theorem mv_Mo_tried : MV m_Mo_tried 2 := ⟨ch_of ch4_ok 13 rfl, ch_of ch4_ok 14 rfl, ch_of ch0_ok 38 rfl, cd_112, ⟨by decide +kernel, by decide +kernel, by decide +kernel⟩⟩
def m_Mo_turnsAll : MI := (⟨"PutOffWicksModel", "turnsAll", "(I)V"⟩, prog_14_method_74_code, 5, none)
theorem mv_Mo_turnsAll : MV m_Mo_turnsAll 1 := ⟨ch_of ch4_ok 15 rfl, ch_of ch4_ok 16 rfl, ch_of ch0_ok 38 rfl, cd_113, ⟨by decide +kernel, by decide +kernel, by decide +kernel⟩⟩
def m_Mo_twist : MI := (⟨"PutOffWicksModel", "twist", "(III)I"⟩, prog_14_method_80_code, 5, (some .int))
theorem mv_Mo_twist : MV m_Mo_twist 3 := ⟨ch_of ch4_ok 17 rfl, ch_of ch4_ok 18 rfl, ch_of ch0_ok 38 rfl, cd_114, ⟨by decide +kernel, by decide +kernel, by decide +kernel⟩⟩
def m_Mo_types : MI := (⟨"PutOffWicksModel", "types", "(I)V"⟩, prog_14_method_12_code, 3, none)
theorem mv_Mo_types : MV m_Mo_types 1 := ⟨ch_of ch4_ok 19 rfl, ch_of ch4_ok 20 rfl, ch_of ch0_ok 38 rfl, cd_115, ⟨by decide +kernel, by decide +kernel, by decide +kernel⟩⟩
def m_Mo_undo : MI := (⟨"PutOffWicksModel", "undo", "()Z"⟩, prog_14_method_104_code, 3, (some .boolean))
theorem mv_Mo_undo : MV m_Mo_undo 0 := ⟨ch_of ch4_ok 21 rfl, ch_of ch4_ok 22 rfl, ch_of ch0_ok 38 rfl, cd_116, ⟨by decide +kernel, by decide +kernel, by decide +kernel⟩⟩
def m_Mo_unknowing : MI := (⟨"PutOffWicksModel", "unknowing", "(II)I"⟩, prog_14_method_90_code, 4, (some .int))
theorem mv_Mo_unknowing : MV m_Mo_unknowing 2 := ⟨ch_of ch4_ok 23 rfl, ch_of ch4_ok 24 rfl, ch_of ch0_ok 38 rfl, cd_117, ⟨by decide +kernel, by decide +kernel, by decide +kernel⟩⟩
def m_Mo_waitTop : MI := (⟨"PutOffWicksModel", "waitTop", "()I"⟩, prog_14_method_22_code, 1, (some .int))
theorem mv_Mo_waitTop : MV m_Mo_waitTop 0 := ⟨ch_of ch4_ok 25 rfl, ch_of ch4_ok 26 rfl, ch_of ch0_ok 38 rfl, cd_118, ⟨by decide +kernel, by decide +kernel, by decide +kernel⟩⟩
def m_Mo_waitersOf : MI := (⟨"PutOffWicksModel", "waitersOf", "(I)I"⟩, prog_14_method_46_code, 4, (some .int))
theorem mv_Mo_waitersOf : MV m_Mo_waitersOf 1 := ⟨ch_of ch4_ok 27 rfl, ch_of ch4_ok 28 rfl, ch_of ch0_ok 38 rfl, cd_119, ⟨by decide +kernel, by decide +kernel, by decide +kernel⟩⟩
def m_Mo_waiting : MI := (⟨"PutOffWicksModel", "waiting", "(II)I"⟩, prog_14_method_83_code, 6, (some .int))
theorem mv_Mo_waiting : MV m_Mo_waiting 2 := ⟨ch_of ch4_ok 29 rfl, ch_of ch4_ok 30 rfl, ch_of ch0_ok 38 rfl, cd_120, ⟨by decide +kernel, by decide +kernel, by decide +kernel⟩⟩
def m_Mo_waysTo : MI := (⟨"PutOffWicksModel", "waysTo", "(III)I"⟩, prog_14_method_66_code, 5, (some .int))
theorem mv_Mo_waysTo : MV m_Mo_waysTo 3 := ⟨ch_of ch4_ok 31 rfl, ch_of ch4_ok 32 rfl, ch_of ch0_ok 38 rfl, cd_121, ⟨by decide +kernel, by decide +kernel, by decide +kernel⟩⟩
def m_Mo_whoHasLeft : MI := (⟨"PutOffWicksModel", "whoHasLeft", "()I"⟩, prog_14_method_106_code, 3, (some .int))
theorem mv_Mo_whoHasLeft : MV m_Mo_whoHasLeft 0 := ⟨ch_of ch4_ok 33 rfl, ch_of ch4_ok 34 rfl, ch_of ch0_ok 38 rfl, cd_122, ⟨by decide +kernel, by decide +kernel, by decide +kernel⟩⟩
def m_Mo_worstNews : MI := (⟨"PutOffWicksModel", "worstNews", "(I)I"⟩, prog_14_method_69_code, 4, (some .int))
theorem mv_Mo_worstNews : MV m_Mo_worstNews 1 := ⟨ch_of ch4_ok 35 rfl, ch_of ch4_ok 36 rfl, ch_of ch0_ok 38 rfl, cd_123, ⟨by decide +kernel, by decide +kernel, by decide +kernel⟩⟩
def m_Mo_wrongAt : MI := (⟨"PutOffWicksModel", "wrongAt", "(II)Z"⟩, prog_14_method_17_code, 3, (some .boolean))
theorem mv_Mo_wrongAt : MV m_Mo_wrongAt 2 := ⟨ch_of ch4_ok 37 rfl, ch_of ch4_ok 38 rfl, ch_of ch0_ok 38 rfl, cd_124, ⟨by decide +kernel, by decide +kernel, by decide +kernel⟩⟩
def m_ParishReader_read : MI := (⟨"PutOffWicks$ParishReader", "read", "()I"⟩, prog_5_method_2_code, 3, (some .int))
theorem mv_ParishReader_read : MV m_ParishReader_read 0 := ⟨ch_of ch4_ok 39 rfl, ch_of ch4_ok 40 rfl, ch_of ch4_ok 41 rfl, cd_125, ⟨by decide +kernel, by decide +kernel, by decide +kernel⟩⟩
def m_ParishReader_readLine : MI := (⟨"PutOffWicks$ParishReader", "readLine", "(I)V"⟩, prog_5_method_3_code, 6, none)
theorem mv_ParishReader_readLine : MV m_ParishReader_readLine 1 := ⟨ch_of ch4_ok 42 rfl, ch_of ch4_ok 43 rfl, ch_of ch4_ok 41 rfl, cd_126, ⟨by decide +kernel, by decide +kernel, by decide +kernel⟩⟩
def m_ParishReader_readOther : MI := (⟨"PutOffWicks$ParishReader", "readOther", "(I)I"⟩, prog_5_method_4_code, 4, (some .int))
theorem mv_ParishReader_readOther : MV m_ParishReader_readOther 1 := ⟨ch_of ch4_ok 44 rfl, ch_of ch4_ok 45 rfl, ch_of ch4_ok 41 rfl, cd_127, ⟨by decide +kernel, by decide +kernel, by decide +kernel⟩⟩
def m_Parish_beginAs : MI := (⟨"PutOffWicks$Parish", "beginAs", "(LPutOffWicks$Parish;)V"⟩, prog_4_method_7_code, 4, none)
theorem mv_Parish_beginAs : MV m_Parish_beginAs 1 := ⟨ch_of ch4_ok 46 rfl, ch_of ch4_ok 47 rfl, ch_of ch4_ok 48 rfl, cd_128, ⟨by decide +kernel, by decide +kernel, by decide +kernel⟩⟩
def m_Parish_brightestOwner : MI := (⟨"PutOffWicks$Parish", "brightestOwner", "()I"⟩, prog_4_method_20_code, 5, (some .int))
theorem mv_Parish_brightestOwner : MV m_Parish_brightestOwner 0 := ⟨ch_of ch4_ok 49 rfl, ch_of ch5_ok 0 rfl, ch_of ch4_ok 48 rfl, cd_129, ⟨by decide +kernel, by decide +kernel, by decide +kernel⟩⟩
def m_Parish_burn : MI := (⟨"PutOffWicks$Parish", "burn", "(II)V"⟩, prog_4_method_11_code, 3, none)
theorem mv_Parish_burn : MV m_Parish_burn 2 := ⟨ch_of ch5_ok 1 rfl, ch_of ch5_ok 2 rfl, ch_of ch4_ok 48 rfl, cd_130, ⟨by decide +kernel, by decide +kernel, by decide +kernel⟩⟩
def m_Parish_comeBackTo : MI := (⟨"PutOffWicks$Parish", "comeBackTo", "(LPutOffWicks$Parish;)V"⟩, prog_4_method_8_code, 4, none)
theorem mv_Parish_comeBackTo : MV m_Parish_comeBackTo 1 := ⟨ch_of ch5_ok 3 rfl, ch_of ch5_ok 4 rfl, ch_of ch4_ok 48 rfl, cd_131, ⟨by decide +kernel, by decide +kernel, by decide +kernel⟩⟩
def m_Parish_copyFrom : MI := (⟨"PutOffWicks$Parish", "copyFrom", "(LPutOffWicks$Parish;)V"⟩, prog_4_method_6_code, 2, none)
theorem mv_Parish_copyFrom : MV m_Parish_copyFrom 1 := ⟨ch_of ch5_ok 5 rfl, ch_of ch5_ok 6 rfl, ch_of ch4_ok 48 rfl, cd_132, ⟨by decide +kernel, by decide +kernel, by decide +kernel⟩⟩
def m_Parish_draw : MI := (⟨"PutOffWicks$Parish", "draw", "()I"⟩, prog_4_method_9_code, 1, (some .int))
theorem mv_Parish_draw : MV m_Parish_draw 0 := ⟨ch_of ch5_ok 7 rfl, ch_of ch5_ok 8 rfl, ch_of ch4_ok 48 rfl, cd_133, ⟨by decide +kernel, by decide +kernel, by decide +kernel⟩⟩
def m_Parish_finish : MI := (⟨"PutOffWicks$Parish", "finish", "(I)V"⟩, prog_4_method_12_code, 2, none)
theorem mv_Parish_finish : MV m_Parish_finish 1 := ⟨ch_of ch5_ok 9 rfl, ch_of ch5_ok 10 rfl, ch_of ch4_ok 48 rfl, cd_134, ⟨by decide +kernel, by decide +kernel, by decide +kernel⟩⟩
def m_Parish_has : MI := (⟨"PutOffWicks$Parish", "has", "(I)Z"⟩, prog_4_method_2_code, 2, (some .boolean))
theorem mv_Parish_has : MV m_Parish_has 1 := ⟨ch_of ch5_ok 11 rfl, ch_of ch5_ok 12 rfl, ch_of ch4_ok 48 rfl, cd_135, ⟨by decide +kernel, by decide +kernel, by decide +kernel⟩⟩
def m_Parish_isDone : MI := (⟨"PutOffWicks$Parish", "isDone", "(I)Z"⟩, prog_4_method_4_code, 2, (some .boolean))
theorem mv_Parish_isDone : MV m_Parish_isDone 1 := ⟨ch_of ch5_ok 13 rfl, ch_of ch5_ok 14 rfl, ch_of ch4_ok 48 rfl, cd_136, ⟨by decide +kernel, by decide +kernel, by decide +kernel⟩⟩
def m_Parish_isFree : MI := (⟨"PutOffWicks$Parish", "isFree", "(I)Z"⟩, prog_4_method_10_code, 2, (some .boolean))
theorem mv_Parish_isFree : MV m_Parish_isFree 1 := ⟨ch_of ch5_ok 15 rfl, ch_of ch5_ok 16 rfl, ch_of ch4_ok 48 rfl, cd_137, ⟨by decide +kernel, by decide +kernel, by decide +kernel⟩⟩
def m_Parish_isLit : MI := (⟨"PutOffWicks$Parish", "isLit", "(I)Z"⟩, prog_4_method_3_code, 2, (some .boolean))
theorem mv_Parish_isLit : MV m_Parish_isLit 1 := ⟨ch_of ch5_ok 17 rfl, ch_of ch5_ok 18 rfl, ch_of ch4_ok 48 rfl, cd_138, ⟨by decide +kernel, by decide +kernel, by decide +kernel⟩⟩
def m_Parish_leftOf : MI := (⟨"PutOffWicks$Parish", "leftOf", "(I)I"⟩, prog_4_method_14_code, 4, (some .int))
theorem mv_Parish_leftOf : MV m_Parish_leftOf 1 := ⟨ch_of ch5_ok 19 rfl, ch_of ch5_ok 20 rfl, ch_of ch4_ok 48 rfl, cd_139, ⟨by decide +kernel, by decide +kernel, by decide +kernel⟩⟩
def m_Parish_leftPutOffUnder : MI := (⟨"PutOffWicks$Parish", "leftPutOffUnder", "(I)I"⟩, prog_4_method_22_code, 4, (some .int))
theorem mv_Parish_leftPutOffUnder : MV m_Parish_leftPutOffUnder 1 := ⟨ch_of ch5_ok 21 rfl, ch_of ch5_ok 22 rfl, ch_of ch4_ok 48 rfl, cd_140, ⟨by decide +kernel, by decide +kernel, by decide +kernel⟩⟩
def m_Parish_leftThatNeed : MI := (⟨"PutOffWicks$Parish", "leftThatNeed", "(I)I"⟩, prog_4_method_24_code, 5, (some .int))
theorem mv_Parish_leftThatNeed : MV m_Parish_leftThatNeed 1 := ⟨ch_of ch5_ok 23 rfl, ch_of ch5_ok 24 rfl, ch_of ch4_ok 48 rfl, cd_141, ⟨by decide +kernel, by decide +kernel, by decide +kernel⟩⟩
def m_Parish_lightOf : MI := (⟨"PutOffWicks$Parish", "lightOf", "(I)I"⟩, prog_4_method_19_code, 4, (some .int))
theorem mv_Parish_lightOf : MV m_Parish_lightOf 1 := ⟨ch_of ch5_ok 25 rfl, ch_of ch5_ok 26 rfl, ch_of ch4_ok 48 rfl, cd_142, ⟨by decide +kernel, by decide +kernel, by decide +kernel⟩⟩
def m_Parish_middlePutOff : MI := (⟨"PutOffWicks$Parish", "middlePutOff", "()I"⟩, prog_4_method_21_code, 5, (some .int))
theorem mv_Parish_middlePutOff : MV m_Parish_middlePutOff 0 := ⟨ch_of ch5_ok 27 rfl, ch_of ch5_ok 28 rfl, ch_of ch4_ok 48 rfl, cd_143, ⟨by decide +kernel, by decide +kernel, by decide +kernel⟩⟩
def m_Parish_ordersLeft : MI := (⟨"PutOffWicks$Parish", "ordersLeft", "()I"⟩, prog_4_method_23_code, 7, (some .int))
theorem mv_Parish_ordersLeft : MV m_Parish_ordersLeft 0 := ⟨ch_of ch5_ok 29 rfl, ch_of ch5_ok 30 rfl, ch_of ch4_ok 48 rfl, cd_144, ⟨by decide +kernel, by decide +kernel, by decide +kernel⟩⟩
def m_Parish_ownersLeft : MI := (⟨"PutOffWicks$Parish", "ownersLeft", "()I"⟩, prog_4_method_16_code, 3, (some .int))
theorem mv_Parish_ownersLeft : MV m_Parish_ownersLeft 0 := ⟨ch_of ch5_ok 31 rfl, ch_of ch5_ok 32 rfl, ch_of ch4_ok 48 rfl, cd_145, ⟨by decide +kernel, by decide +kernel, by decide +kernel⟩⟩
def m_Parish_proudest : MI := (⟨"PutOffWicks$Parish", "proudest", "()I"⟩, prog_4_method_18_code, 6, (some .int))
theorem mv_Parish_proudest : MV m_Parish_proudest 0 := ⟨ch_of ch5_ok 33 rfl, ch_of ch5_ok 34 rfl, ch_of ch4_ok 48 rfl, cd_146, ⟨by decide +kernel, by decide +kernel, by decide +kernel⟩⟩
def m_Parish_putItOff : MI := (⟨"PutOffWicks$Parish", "putItOff", "(I)V"⟩, prog_4_method_13_code, 2, none)
theorem mv_Parish_putItOff : MV m_Parish_putItOff 1 := ⟨ch_of ch5_ok 35 rfl, ch_of ch5_ok 36 rfl, ch_of ch4_ok 48 rfl, cd_147, ⟨by decide +kernel, by decide +kernel, by decide +kernel⟩⟩
def m_Parish_putLight : MI := (⟨"PutOffWicks$Parish", "putLight", "(IZ)V"⟩, prog_4_method_5_code, 3, none)
theorem mv_Parish_putLight : MV m_Parish_putLight 2 := ⟨ch_of ch5_ok 37 rfl, ch_of ch5_ok 38 rfl, ch_of ch4_ok 48 rfl, cd_148, ⟨by decide +kernel, by decide +kernel, by decide +kernel⟩⟩
def m_Parish_putOffBy : MI := (⟨"PutOffWicks$Parish", "putOffBy", "(I)I"⟩, prog_4_method_17_code, 4, (some .int))
theorem mv_Parish_putOffBy : MV m_Parish_putOffBy 1 := ⟨ch_of ch5_ok 39 rfl, ch_of ch5_ok 40 rfl, ch_of ch4_ok 48 rfl, cd_149, ⟨by decide +kernel, by decide +kernel, by decide +kernel⟩⟩
def m_Parish_waitersFor : MI := (⟨"PutOffWicks$Parish", "waitersFor", "(I)I"⟩, prog_4_method_15_code, 4, (some .int))
theorem mv_Parish_waitersFor : MV m_Parish_waitersFor 1 := ⟨ch_of ch5_ok 41 rfl, ch_of ch5_ok 42 rfl, ch_of ch4_ok 48 rfl, cd_150, ⟨by decide +kernel, by decide +kernel, by decide +kernel⟩⟩
def m_Reading_begin : MI := (⟨"PutOffWicks$Reading", "begin", "()V"⟩, prog_6_method_2_code, 1, none)
theorem mv_Reading_begin : MV m_Reading_begin 0 := ⟨ch_of ch5_ok 43 rfl, ch_of ch5_ok 44 rfl, ch_of ch5_ok 45 rfl, cd_151, ⟨by decide +kernel, by decide +kernel, by decide +kernel⟩⟩
def m_Reading_fail : MI := (⟨"PutOffWicks$Reading", "fail", "(II)V"⟩, prog_6_method_5_code, 3, none)
theorem mv_Reading_fail : MV m_Reading_fail 2 := ⟨ch_of ch5_ok 46 rfl, ch_of ch5_ok 47 rfl, ch_of ch5_ok 45 rfl, cd_152, ⟨by decide +kernel, by decide +kernel, by decide +kernel⟩⟩
def m_Reading_failed : MI := (⟨"PutOffWicks$Reading", "failed", "()Z"⟩, prog_6_method_4_code, 1, (some .boolean))
theorem mv_Reading_failed : MV m_Reading_failed 0 := ⟨ch_of ch5_ok 48 rfl, ch_of ch5_ok 49 rfl, ch_of ch5_ok 45 rfl, cd_153, ⟨by decide +kernel, by decide +kernel, by decide +kernel⟩⟩
def m_Reading_goesOn : MI := (⟨"PutOffWicks$Reading", "goesOn", "()Z"⟩, prog_6_method_8_code, 1, (some .boolean))
theorem mv_Reading_goesOn : MV m_Reading_goesOn 0 := ⟨ch_of ch6_ok 0 rfl, ch_of ch6_ok 1 rfl, ch_of ch5_ok 45 rfl, cd_154, ⟨by decide +kernel, by decide +kernel, by decide +kernel⟩⟩
def m_Reading_isDigit : MI := (⟨"PutOffWicks$Reading", "isDigit", "(I)Z"⟩, prog_6_method_10_code, 1, (some .boolean))
theorem mt_Reading_isDigit : MT m_Reading_isDigit 1 := ⟨ch_of ch6_ok 2 rfl, ch_of ch5_ok 45 rfl, cd_155, ⟨by decide +kernel, by decide +kernel, by decide +kernel⟩⟩
def m_Reading_needs : MI := (⟨"PutOffWicks$Reading", "needs", "(I)V"⟩, prog_6_method_7_code, 2, none)
theorem mv_Reading_needs : MV m_Reading_needs 1 := ⟨ch_of ch6_ok 3 rfl, ch_of ch6_ok 4 rfl, ch_of ch5_ok 45 rfl, cd_156, ⟨by decide +kernel, by decide +kernel, by decide +kernel⟩⟩
def m_Reading_number : MI := (⟨"PutOffWicks$Reading", "number", "(I)I"⟩, prog_6_method_9_code, 4, (some .int))
theorem mv_Reading_number : MV m_Reading_number 1 := ⟨ch_of ch6_ok 5 rfl, ch_of ch6_ok 6 rfl, ch_of ch5_ok 45 rfl, cd_157, ⟨by decide +kernel, by decide +kernel, by decide +kernel⟩⟩
def m_Reading_sign : MI := (⟨"PutOffWicks$Reading", "sign", "()I"⟩, prog_6_method_3_code, 1, (some .int))
theorem mv_Reading_sign : MV m_Reading_sign 0 := ⟨ch_of ch6_ok 7 rfl, ch_of ch6_ok 8 rfl, ch_of ch5_ok 45 rfl, cd_158, ⟨by decide +kernel, by decide +kernel, by decide +kernel⟩⟩
def m_Reading_takes : MI := (⟨"PutOffWicks$Reading", "takes", "(I)Z"⟩, prog_6_method_6_code, 2, (some .boolean))
theorem mv_Reading_takes : MV m_Reading_takes 1 := ⟨ch_of ch6_ok 9 rfl, ch_of ch6_ok 10 rfl, ch_of ch5_ok 45 rfl, cd_159, ⟨by decide +kernel, by decide +kernel, by decide +kernel⟩⟩
def m_Reckoner_ask : MI := (⟨"PutOffWicks$Reckoner", "ask", "(III)I"⟩, prog_7_method_3_code, 5, (some .int))
theorem mv_Reckoner_ask : MV m_Reckoner_ask 3 := ⟨ch_of ch6_ok 11 rfl, ch_of ch6_ok 12 rfl, ch_of ch6_ok 13 rfl, cd_160, ⟨by decide +kernel, by decide +kernel, by decide +kernel⟩⟩
def m_Reckoner_face : MI := (⟨"PutOffWicks$Reckoner", "face", "(LPutOffWicks$Parish;II)V"⟩, prog_7_method_2_code, 4, none)
theorem mv_Reckoner_face : MV m_Reckoner_face 3 := ⟨ch_of ch6_ok 14 rfl, ch_of ch6_ok 15 rfl, ch_of ch6_ok 13 rfl, cd_161, ⟨by decide +kernel, by decide +kernel, by decide +kernel⟩⟩
def m_Reckoner_fact : MI := (⟨"PutOffWicks$Reckoner", "fact", "(I)I"⟩, prog_7_method_6_code, 2, (some .int))
theorem mv_Reckoner_fact : MV m_Reckoner_fact 1 := ⟨ch_of ch6_ok 16 rfl, ch_of ch6_ok 17 rfl, ch_of ch6_ok 13 rfl, cd_162, ⟨by decide +kernel, by decide +kernel, by decide +kernel⟩⟩
def m_Reckoner_joined : MI := (⟨"PutOffWicks$Reckoner", "joined", "(III)I"⟩, prog_7_method_5_code, 4, (some .int))
theorem mv_Reckoner_joined : MV m_Reckoner_joined 3 := ⟨ch_of ch6_ok 18 rfl, ch_of ch6_ok 19 rfl, ch_of ch6_ok 13 rfl, cd_163, ⟨by decide +kernel, by decide +kernel, by decide +kernel⟩⟩
def m_Reckoner_pop : MI := (⟨"PutOffWicks$Reckoner", "pop", "()I"⟩, prog_7_method_8_code, 1, (some .int))
theorem mv_Reckoner_pop : MV m_Reckoner_pop 0 := ⟨ch_of ch6_ok 20 rfl, ch_of ch6_ok 21 rfl, ch_of ch6_ok 13 rfl, cd_164, ⟨by decide +kernel, by decide +kernel, by decide +kernel⟩⟩
def m_Reckoner_push : MI := (⟨"PutOffWicks$Reckoner", "push", "(I)V"⟩, prog_7_method_7_code, 2, none)
theorem mv_Reckoner_push : MV m_Reckoner_push 1 := ⟨ch_of ch6_ok 22 rfl, ch_of ch6_ok 23 rfl, ch_of ch6_ok 13 rfl, cd_165, ⟨by decide +kernel, by decide +kernel, by decide +kernel⟩⟩
def m_Reckoner_reckon : MI := (⟨"PutOffWicks$Reckoner", "reckon", "(II)I"⟩, prog_7_method_4_code, 8, (some .int))
theorem mv_Reckoner_reckon : MV m_Reckoner_reckon 2 := ⟨ch_of ch6_ok 24 rfl, ch_of ch6_ok 25 rfl, ch_of ch6_ok 13 rfl, cd_166, ⟨by decide +kernel, by decide +kernel, by decide +kernel⟩⟩
def m_Rows_beats : MI := (⟨"PutOffWicks$Rows", "beats", "(II)Z"⟩, prog_8_method_15_code, 5, (some .boolean))
theorem mv_Rows_beats : MV m_Rows_beats 2 := ⟨ch_of ch6_ok 26 rfl, ch_of ch6_ok 27 rfl, ch_of ch6_ok 28 rfl, cd_167, ⟨by decide +kernel, by decide +kernel, by decide +kernel⟩⟩
def m_Rows_bestFirst : MI := (⟨"PutOffWicks$Rows", "bestFirst", "(I)I"⟩, prog_8_method_2_code, 6, (some .int))
theorem mv_Rows_bestFirst : MV m_Rows_bestFirst 1 := ⟨ch_of ch6_ok 29 rfl, ch_of ch6_ok 30 rfl, ch_of ch6_ok 28 rfl, cd_168, ⟨by decide +kernel, by decide +kernel, by decide +kernel⟩⟩
def m_Rows_dayIfKnowing : MI := (⟨"PutOffWicks$Rows", "dayIfKnowing", "(II)I"⟩, prog_8_method_8_code, 5, (some .int))
theorem mv_Rows_dayIfKnowing : MV m_Rows_dayIfKnowing 2 := ⟨ch_of ch6_ok 31 rfl, ch_of ch6_ok 32 rfl, ch_of ch6_ok 28 rfl, cd_169, ⟨by decide +kernel, by decide +kernel, by decide +kernel⟩⟩
def m_Rows_dayIfNotKnowing : MI := (⟨"PutOffWicks$Rows", "dayIfNotKnowing", "(II)I"⟩, prog_8_method_9_code, 6, (some .int))
theorem mv_Rows_dayIfNotKnowing : MV m_Rows_dayIfNotKnowing 2 := ⟨ch_of ch6_ok 33 rfl, ch_of ch6_ok 34 rfl, ch_of ch6_ok 28 rfl, cd_170, ⟨by decide +kernel, by decide +kernel, by decide +kernel⟩⟩
def m_Rows_difference : MI := (⟨"PutOffWicks$Rows", "difference", "(II)I"⟩, prog_8_method_13_code, 5, (some .int))
theorem mv_Rows_difference : MV m_Rows_difference 2 := ⟨ch_of ch6_ok 35 rfl, ch_of ch6_ok 36 rfl, ch_of ch6_ok 28 rfl, cd_171, ⟨by decide +kernel, by decide +kernel, by decide +kernel⟩⟩
def m_Rows_evenestCut : MI := (⟨"PutOffWicks$Rows", "evenestCut", "(I)I"⟩, prog_8_method_12_code, 4, (some .int))
theorem mv_Rows_evenestCut : MV m_Rows_evenestCut 1 := ⟨ch_of ch6_ok 37 rfl, ch_of ch6_ok 38 rfl, ch_of ch6_ok 28 rfl, cd_172, ⟨by decide +kernel, by decide +kernel, by decide +kernel⟩⟩
def m_Rows_farthestFrom : MI := (⟨"PutOffWicks$Rows", "farthestFrom", "(II)I"⟩, prog_8_method_7_code, 5, (some .int))
theorem mv_Rows_farthestFrom : MV m_Rows_farthestFrom 2 := ⟨ch_of ch6_ok 39 rfl, ch_of ch6_ok 40 rfl, ch_of ch6_ok 28 rfl, cd_173, ⟨by decide +kernel, by decide +kernel, by decide +kernel⟩⟩
def m_Rows_fewestWicks : MI := (⟨"PutOffWicks$Rows", "fewestWicks", "(II)I"⟩, prog_8_method_6_code, 5, (some .int))
theorem mv_Rows_fewestWicks : MV m_Rows_fewestWicks 2 := ⟨ch_of ch6_ok 41 rfl, ch_of ch6_ok 42 rfl, ch_of ch6_ok 28 rfl, cd_174, ⟨by decide +kernel, by decide +kernel, by decide +kernel⟩⟩
def m_Rows_hoursBehind : MI := (⟨"PutOffWicks$Rows", "hoursBehind", "(II)I"⟩, prog_8_method_3_code, 8, (some .int))
theorem mv_Rows_hoursBehind : MV m_Rows_hoursBehind 2 := ⟨ch_of ch6_ok 43 rfl, ch_of ch6_ok 44 rfl, ch_of ch6_ok 28 rfl, cd_175, ⟨by decide +kernel, by decide +kernel, by decide +kernel⟩⟩
def m_Rows_longestCord : MI := (⟨"PutOffWicks$Rows", "longestCord", "(II)I"⟩, prog_8_method_10_code, 5, (some .int))
theorem mv_Rows_longestCord : MV m_Rows_longestCord 2 := ⟨ch_of ch6_ok 45 rfl, ch_of ch6_ok 46 rfl, ch_of ch6_ok 28 rfl, cd_176, ⟨by decide +kernel, by decide +kernel, by decide +kernel⟩⟩
def m_Rows_nextToSpin : MI := (⟨"PutOffWicks$Rows", "nextToSpin", "(II)I"⟩, prog_8_method_4_code, 5, (some .int))
theorem mv_Rows_nextToSpin : MV m_Rows_nextToSpin 2 := ⟨ch_of ch6_ok 47 rfl, ch_of ch6_ok 48 rfl, ch_of ch6_ok 28 rfl, cd_177, ⟨by decide +kernel, by decide +kernel, by decide +kernel⟩⟩
def m_Rows_spinsAhead : MI := (⟨"PutOffWicks$Rows", "spinsAhead", "(II)Z"⟩, prog_8_method_5_code, 5, (some .boolean))
theorem mv_Rows_spinsAhead : MV m_Rows_spinsAhead 2 := ⟨ch_of ch6_ok 49 rfl, ch_of ch7_ok 0 rfl, ch_of ch6_ok 28 rfl, cd_178, ⟨by decide +kernel, by decide +kernel, by decide +kernel⟩⟩
def m_Rows_sufficesFor : MI := (⟨"PutOffWicks$Rows", "sufficesFor", "(III)Z"⟩, prog_8_method_11_code, 6, (some .boolean))
theorem mv_Rows_sufficesFor : MV m_Rows_sufficesFor 3 := ⟨ch_of ch7_ok 1 rfl, ch_of ch7_ok 2 rfl, ch_of ch6_ok 28 rfl, cd_179, ⟨by decide +kernel, by decide +kernel, by decide +kernel⟩⟩
def m_Rows_unbeaten : MI := (⟨"PutOffWicks$Rows", "unbeaten", "(I)I"⟩, prog_8_method_14_code, 6, (some .int))
theorem mv_Rows_unbeaten : MV m_Rows_unbeaten 1 := ⟨ch_of ch7_ok 3 rfl, ch_of ch7_ok 4 rfl, ch_of ch6_ok 28 rfl, cd_180, ⟨by decide +kernel, by decide +kernel, by decide +kernel⟩⟩
def m_Shore_bestLights : MI := (⟨"PutOffWicks$Shore", "bestLights", "(II)I"⟩, prog_9_method_6_code, 7, (some .int))
theorem mv_Shore_bestLights : MV m_Shore_bestLights 2 := ⟨ch_of ch7_ok 5 rfl, ch_of ch7_ok 6 rfl, ch_of ch7_ok 7 rfl, cd_181, ⟨by decide +kernel, by decide +kernel, by decide +kernel⟩⟩
def m_Shore_fillView : MI := (⟨"PutOffWicks$Shore", "fillView", "(I)V"⟩, prog_9_method_8_code, 4, none)
theorem mv_Shore_fillView : MV m_Shore_fillView 1 := ⟨ch_of ch7_ok 8 rfl, ch_of ch7_ok 9 rfl, ch_of ch7_ok 7 rfl, cd_182, ⟨by decide +kernel, by decide +kernel, by decide +kernel⟩⟩
def m_Shore_isSeen : MI := (⟨"PutOffWicks$Shore", "isSeen", "(II)Z"⟩, prog_9_method_2_code, 3, (some .boolean))
theorem mv_Shore_isSeen : MV m_Shore_isSeen 2 := ⟨ch_of ch7_ok 10 rfl, ch_of ch7_ok 11 rfl, ch_of ch7_ok 7 rfl, cd_183, ⟨by decide +kernel, by decide +kernel, by decide +kernel⟩⟩
def m_Shore_longestRow : MI := (⟨"PutOffWicks$Shore", "longestRow", "(II)I"⟩, prog_9_method_5_code, 6, (some .int))
theorem mv_Shore_longestRow : MV m_Shore_longestRow 2 := ⟨ch_of ch7_ok 12 rfl, ch_of ch7_ok 13 rfl, ch_of ch7_ok 7 rfl, cd_184, ⟨by decide +kernel, by decide +kernel, by decide +kernel⟩⟩
def m_Shore_placesOf : MI := (⟨"PutOffWicks$Shore", "placesOf", "(II)I"⟩, prog_9_method_7_code, 8, (some .int))
theorem mv_Shore_placesOf : MV m_Shore_placesOf 2 := ⟨ch_of ch7_ok 14 rfl, ch_of ch7_ok 15 rfl, ch_of ch7_ok 7 rfl, cd_185, ⟨by decide +kernel, by decide +kernel, by decide +kernel⟩⟩
def m_Shore_placesSeeing : MI := (⟨"PutOffWicks$Shore", "placesSeeing", "(II)I"⟩, prog_9_method_4_code, 5, (some .int))
theorem mv_Shore_placesSeeing : MV m_Shore_placesSeeing 2 := ⟨ch_of ch7_ok 16 rfl, ch_of ch7_ok 17 rfl, ch_of ch7_ok 7 rfl, cd_186, ⟨by decide +kernel, by decide +kernel, by decide +kernel⟩⟩
def m_Shore_sees : MI := (⟨"PutOffWicks$Shore", "sees", "(III)Z"⟩, prog_9_method_3_code, 6, (some .boolean))
theorem mv_Shore_sees : MV m_Shore_sees 3 := ⟨ch_of ch7_ok 18 rfl, ch_of ch7_ok 19 rfl, ch_of ch7_ok 7 rfl, cd_187, ⟨by decide +kernel, by decide +kernel, by decide +kernel⟩⟩
def m_Tape_at : MI := (⟨"PutOffWicks$Tape", "at", "(I)I"⟩, prog_10_method_5_code, 2, (some .int))
theorem mv_Tape_at : MV m_Tape_at 1 := ⟨ch_of ch7_ok 20 rfl, ch_of ch7_ok 21 rfl, ch_of ch7_ok 22 rfl, cd_188, ⟨by decide +kernel, by decide +kernel, by decide +kernel⟩⟩
def m_Tape_hasRoom : MI := (⟨"PutOffWicks$Tape", "hasRoom", "()Z"⟩, prog_10_method_2_code, 1, (some .boolean))
theorem mv_Tape_hasRoom : MV m_Tape_hasRoom 0 := ⟨ch_of ch7_ok 23 rfl, ch_of ch7_ok 24 rfl, ch_of ch7_ok 22 rfl, cd_189, ⟨by decide +kernel, by decide +kernel, by decide +kernel⟩⟩
def m_Tape_put : MI := (⟨"PutOffWicks$Tape", "put", "(I)V"⟩, prog_10_method_3_code, 3, none)
theorem mv_Tape_put : MV m_Tape_put 1 := ⟨ch_of ch7_ok 25 rfl, ch_of ch7_ok 26 rfl, ch_of ch7_ok 22 rfl, cd_190, ⟨by decide +kernel, by decide +kernel, by decide +kernel⟩⟩
def m_Tape_take : MI := (⟨"PutOffWicks$Tape", "take", "(I)Z"⟩, prog_10_method_4_code, 2, (some .boolean))
theorem mv_Tape_take : MV m_Tape_take 1 := ⟨ch_of ch7_ok 27 rfl, ch_of ch7_ok 28 rfl, ch_of ch7_ok 22 rfl, cd_191, ⟨by decide +kernel, by decide +kernel, by decide +kernel⟩⟩
def m_Twist_closeGroup : MI := (⟨"PutOffWicks$Twist", "closeGroup", "()V"⟩, prog_11_method_7_code, 2, none)
theorem mv_Twist_closeGroup : MV m_Twist_closeGroup 0 := ⟨ch_of ch7_ok 29 rfl, ch_of ch7_ok 30 rfl, ch_of ch7_ok 31 rfl, cd_192, ⟨by decide +kernel, by decide +kernel, by decide +kernel⟩⟩
def m_Twist_comesOut : MI := (⟨"PutOffWicks$Twist", "comesOut", "(I)I"⟩, prog_11_method_11_code, 5, (some .int))
theorem mv_Twist_comesOut : MV m_Twist_comesOut 1 := ⟨ch_of ch7_ok 32 rfl, ch_of ch7_ok 33 rfl, ch_of ch7_ok 31 rfl, cd_193, ⟨by decide +kernel, by decide +kernel, by decide +kernel⟩⟩
def m_Twist_ends : MI := (⟨"PutOffWicks$Twist", "ends", "()Z"⟩, prog_11_method_3_code, 1, (some .boolean))
theorem mv_Twist_ends : MV m_Twist_ends 0 := ⟨ch_of ch7_ok 34 rfl, ch_of ch7_ok 35 rfl, ch_of ch7_ok 31 rfl, cd_194, ⟨by decide +kernel, by decide +kernel, by decide +kernel⟩⟩
def m_Twist_openGroup : MI := (⟨"PutOffWicks$Twist", "openGroup", "(II)V"⟩, prog_11_method_6_code, 3, none)
theorem mv_Twist_openGroup : MV m_Twist_openGroup 2 := ⟨ch_of ch7_ok 36 rfl, ch_of ch7_ok 37 rfl, ch_of ch7_ok 31 rfl, cd_195, ⟨by decide +kernel, by decide +kernel, by decide +kernel⟩⟩
def m_Twist_oversLessUnders : MI := (⟨"PutOffWicks$Twist", "oversLessUnders", "()I"⟩, prog_11_method_9_code, 3, (some .int))
theorem mv_Twist_oversLessUnders : MV m_Twist_oversLessUnders 0 := ⟨ch_of ch7_ok 38 rfl, ch_of ch7_ok 39 rfl, ch_of ch7_ok 31 rfl, cd_196, ⟨by decide +kernel, by decide +kernel, by decide +kernel⟩⟩
def m_Twist_read : MI := (⟨"PutOffWicks$Twist", "read", "(I)I"⟩, prog_11_method_2_code, 8, (some .int))
theorem mv_Twist_read : MV m_Twist_read 1 := ⟨ch_of ch7_ok 40 rfl, ch_of ch7_ok 41 rfl, ch_of ch7_ok 31 rfl, cd_197, ⟨by decide +kernel, by decide +kernel, by decide +kernel⟩⟩
def m_Twist_readTimes : MI := (⟨"PutOffWicks$Twist", "readTimes", "()I"⟩, prog_11_method_4_code, 2, (some .int))
theorem mv_Twist_readTimes : MV m_Twist_readTimes 0 := ⟨ch_of ch7_ok 42 rfl, ch_of ch7_ok 43 rfl, ch_of ch7_ok 31 rfl, cd_198, ⟨by decide +kernel, by decide +kernel, by decide +kernel⟩⟩
def m_Twist_readTurn : MI := (⟨"PutOffWicks$Twist", "readTurn", "(IZI)V"⟩, prog_11_method_5_code, 4, none)
theorem mv_Twist_readTurn : MV m_Twist_readTurn 3 := ⟨ch_of ch7_ok 44 rfl, ch_of ch7_ok 45 rfl, ch_of ch7_ok 31 rfl, cd_199, ⟨by decide +kernel, by decide +kernel, by decide +kernel⟩⟩
def m_Twist_repeat : MI := (⟨"PutOffWicks$Twist", "repeat", "(III)V"⟩, prog_11_method_8_code, 7, none)
theorem mv_Twist_repeat : MV m_Twist_repeat 3 := ⟨ch_of ch7_ok 46 rfl, ch_of ch7_ok 47 rfl, ch_of ch7_ok 31 rfl, cd_200, ⟨by decide +kernel, by decide +kernel, by decide +kernel⟩⟩
def m_Twist_timesTillHome : MI := (⟨"PutOffWicks$Twist", "timesTillHome", "(I)I"⟩, prog_11_method_12_code, 5, (some .int))
theorem mv_Twist_timesTillHome : MV m_Twist_timesTillHome 1 := ⟨ch_of ch7_ok 48 rfl, ch_of ch7_ok 49 rfl, ch_of ch7_ok 31 rfl, cd_201, ⟨by decide +kernel, by decide +kernel, by decide +kernel⟩⟩
def m_Twist_turnsLeft : MI := (⟨"PutOffWicks$Twist", "turnsLeft", "()I"⟩, prog_11_method_10_code, 3, (some .int))
theorem mv_Twist_turnsLeft : MV m_Twist_turnsLeft 0 := ⟨ch_of ch8_ok 0 rfl, ch_of ch8_ok 1 rfl, ch_of ch7_ok 31 rfl, cd_202, ⟨by decide +kernel, by decide +kernel, by decide +kernel⟩⟩
def m_W_brightest : MI := (⟨"PutOffWicks", "brightest", "(III)I"⟩, prog_1_method_25_code, 5, (some .int))
theorem mv_W_brightest : MV m_W_brightest 3 := ⟨ch_of ch8_ok 2 rfl, ch_of ch8_ok 3 rfl, ch_of ch8_ok 4 rfl, cd_203, ⟨by decide +kernel, by decide +kernel, by decide +kernel⟩⟩
def m_W_byWhen : MI := (⟨"PutOffWicks", "byWhen", "(II)I"⟩, prog_1_method_9_code, 4, (some .int))
theorem mv_W_byWhen : MV m_W_byWhen 2 := ⟨ch_of ch8_ok 5 rfl, ch_of ch8_ok 6 rfl, ch_of ch8_ok 4 rfl, cd_204, ⟨by decide +kernel, by decide +kernel, by decide +kernel⟩⟩
def m_W_chain : MI := (⟨"PutOffWicks", "chain", "(I)I"⟩, prog_1_method_13_code, 5, (some .int))
theorem mv_W_chain : MV m_W_chain 1 := ⟨ch_of ch8_ok 7 rfl, ch_of ch8_ok 8 rfl, ch_of ch8_ok 4 rfl, cd_205, ⟨by decide +kernel, by decide +kernel, by decide +kernel⟩⟩
def m_W_check : MI := (⟨"PutOffWicks", "check", "(I)I"⟩, prog_1_method_31_code, 4, (some .int))
theorem mv_W_check : MV m_W_check 1 := ⟨ch_of ch8_ok 9 rfl, ch_of ch8_ok 10 rfl, ch_of ch8_ok 4 rfl, cd_206, ⟨by decide +kernel, by decide +kernel, by decide +kernel⟩⟩
def m_W_cord : MI := (⟨"PutOffWicks", "cord", "(II)I"⟩, prog_1_method_23_code, 3, (some .int))
theorem mv_W_cord : MV m_W_cord 2 := ⟨ch_of ch8_ok 11 rfl, ch_of ch8_ok 12 rfl, ch_of ch8_ok 4 rfl, cd_207, ⟨by decide +kernel, by decide +kernel, by decide +kernel⟩⟩
def m_W_count : MI := (⟨"PutOffWicks", "count", "(I)I"⟩, prog_1_method_32_code, 2, (some .int))
theorem mv_W_count : MV m_W_count 1 := ⟨ch_of ch8_ok 13 rfl, ch_of ch8_ok 14 rfl, ch_of ch8_ok 4 rfl, cd_208, ⟨by decide +kernel, by decide +kernel, by decide +kernel⟩⟩
def m_W_dark : MI := (⟨"PutOffWicks", "dark", "(I)I"⟩, prog_1_method_10_code, 3, (some .int))
theorem mv_W_dark : MV m_W_dark 1 := ⟨ch_of ch8_ok 15 rfl, ch_of ch8_ok 16 rfl, ch_of ch8_ok 4 rfl, cd_209, ⟨by decide +kernel, by decide +kernel, by decide +kernel⟩⟩
def m_W_days : MI := (⟨"PutOffWicks", "days", "(I)I"⟩, prog_1_method_6_code, 2, (some .int))
theorem mv_W_days : MV m_W_days 1 := ⟨ch_of ch8_ok 17 rfl, ch_of ch8_ok 18 rfl, ch_of ch8_ok 4 rfl, cd_210, ⟨by decide +kernel, by decide +kernel, by decide +kernel⟩⟩
def m_W_feed : MI := (⟨"PutOffWicks", "feed", "(IIIII)I"⟩, prog_1_method_3_code, 6, (some .int))
theorem mv_W_feed : MV m_W_feed 5 := ⟨ch_of ch8_ok 19 rfl, ch_of ch8_ok 20 rfl, ch_of ch8_ok 4 rfl, cd_211, ⟨by decide +kernel, by decide +kernel, by decide +kernel⟩⟩
def m_W_forgiven : MI := (⟨"PutOffWicks", "forgiven", "(I)I"⟩, prog_1_method_27_code, 2, (some .int))
theorem mv_W_forgiven : MV m_W_forgiven 1 := ⟨ch_of ch8_ok 21 rfl, ch_of ch8_ok 22 rfl, ch_of ch8_ok 4 rfl, cd_212, ⟨by decide +kernel, by decide +kernel, by decide +kernel⟩⟩
def m_W_halves : MI := (⟨"PutOffWicks", "halves", "(II)I"⟩, prog_1_method_26_code, 4, (some .int))
theorem mv_W_halves : MV m_W_halves 2 := ⟨ch_of ch8_ok 23 rfl, ch_of ch8_ok 24 rfl, ch_of ch8_ok 4 rfl, cd_213, ⟨by decide +kernel, by decide +kernel, by decide +kernel⟩⟩
def m_W_keep : MI := (⟨"PutOffWicks", "keep", "()I"⟩, prog_1_method_29_code, 1, (some .int))
theorem mv_W_keep : MV m_W_keep 0 := ⟨ch_of ch8_ok 25 rfl, ch_of ch8_ok 26 rfl, ch_of ch8_ok 4 rfl, cd_214, ⟨by decide +kernel, by decide +kernel, by decide +kernel⟩⟩
def m_W_law : MI := (⟨"PutOffWicks", "law", "(I)I"⟩, prog_1_method_4_code, 3, (some .int))
theorem mv_W_law : MV m_W_law 1 := ⟨ch_of ch8_ok 27 rfl, ch_of ch8_ok 28 rfl, ch_of ch8_ok 4 rfl, cd_215, ⟨by decide +kernel, by decide +kernel, by decide +kernel⟩⟩
def m_W_light : MI := (⟨"PutOffWicks", "light", "(I)I"⟩, prog_1_method_15_code, 2, (some .int))
theorem mv_W_light : MV m_W_light 1 := ⟨ch_of ch8_ok 29 rfl, ch_of ch8_ok 30 rfl, ch_of ch8_ok 4 rfl, cd_216, ⟨by decide +kernel, by decide +kernel, by decide +kernel⟩⟩
def m_W_lit : MI := (⟨"PutOffWicks", "lit", "(IZ)Z"⟩, prog_1_method_2_code, 3, (some .boolean))
theorem mv_W_lit : MV m_W_lit 2 := ⟨ch_of ch8_ok 31 rfl, ch_of ch8_ok 32 rfl, ch_of ch8_ok 4 rfl, cd_217, ⟨by decide +kernel, by decide +kernel, by decide +kernel⟩⟩
def m_W_median : MI := (⟨"PutOffWicks", "median", "()I"⟩, prog_1_method_17_code, 1, (some .int))
theorem mv_W_median : MV m_W_median 0 := ⟨ch_of ch8_ok 33 rfl, ch_of ch8_ok 34 rfl, ch_of ch8_ok 4 rfl, cd_218, ⟨by decide +kernel, by decide +kernel, by decide +kernel⟩⟩
def m_W_night : MI := (⟨"PutOffWicks", "night", "(II)I"⟩, prog_1_method_21_code, 3, (some .int))
theorem mv_W_night : MV m_W_night 2 := ⟨ch_of ch8_ok 35 rfl, ch_of ch8_ok 36 rfl, ch_of ch8_ok 4 rfl, cd_219, ⟨by decide +kernel, by decide +kernel, by decide +kernel⟩⟩
def m_W_oldest : MI := (⟨"PutOffWicks", "oldest", "()I"⟩, prog_1_method_12_code, 3, (some .int))
theorem mv_W_oldest : MV m_W_oldest 0 := ⟨ch_of ch8_ok 37 rfl, ch_of ch8_ok 38 rfl, ch_of ch8_ok 4 rfl, cd_220, ⟨by decide +kernel, by decide +kernel, by decide +kernel⟩⟩
def m_W_orders : MI := (⟨"PutOffWicks", "orders", "()I"⟩, prog_1_method_14_code, 1, (some .int))
theorem mv_W_orders : MV m_W_orders 0 := ⟨ch_of ch8_ok 39 rfl, ch_of ch8_ok 40 rfl, ch_of ch8_ok 4 rfl, cd_221, ⟨by decide +kernel, by decide +kernel, by decide +kernel⟩⟩
def m_W_parish : MI := (⟨"PutOffWicks", "parish", "(I)I"⟩, prog_1_method_5_code, 3, (some .int))
theorem mv_W_parish : MV m_W_parish 1 := ⟨ch_of ch8_ok 41 rfl, ch_of ch8_ok 42 rfl, ch_of ch8_ok 4 rfl, cd_222, ⟨by decide +kernel, by decide +kernel, by decide +kernel⟩⟩
def m_W_pride : MI := (⟨"PutOffWicks", "pride", "(I)I"⟩, prog_1_method_11_code, 3, (some .int))
theorem mv_W_pride : MV m_W_pride 1 := ⟨ch_of ch8_ok 43 rfl, ch_of ch8_ok 44 rfl, ch_of ch8_ok 4 rfl, cd_223, ⟨by decide +kernel, by decide +kernel, by decide +kernel⟩⟩
def m_W_putsOff : MI := (⟨"PutOffWicks", "putsOff", "(IIZI)I"⟩, prog_1_method_22_code, 6, (some .int))
theorem mv_W_putsOff : MV m_W_putsOff 4 := ⟨ch_of ch8_ok 45 rfl, ch_of ch8_ok 46 rfl, ch_of ch8_ok 4 rfl, cd_224, ⟨by decide +kernel, by decide +kernel, by decide +kernel⟩⟩
def m_W_seed : MI := (⟨"PutOffWicks", "seed", "(I)Z"⟩, prog_1_method_28_code, 2, (some .boolean))
theorem mv_W_seed : MV m_W_seed 1 := ⟨ch_of ch8_ok 47 rfl, ch_of ch8_ok 48 rfl, ch_of ch8_ok 4 rfl, cd_225, ⟨by decide +kernel, by decide +kernel, by decide +kernel⟩⟩
def m_W_seen : MI := (⟨"PutOffWicks", "seen", "(III)I"⟩, prog_1_method_24_code, 4, (some .int))
theorem mv_W_seen : MV m_W_seen 3 := ⟨ch_of ch8_ok 49 rfl, ch_of ch9_ok 0 rfl, ch_of ch8_ok 4 rfl, cd_226, ⟨by decide +kernel, by decide +kernel, by decide +kernel⟩⟩
def m_W_spun : MI := (⟨"PutOffWicks", "spun", "(II)I"⟩, prog_1_method_20_code, 4, (some .int))
theorem mv_W_spun : MV m_W_spun 2 := ⟨ch_of ch9_ok 1 rfl, ch_of ch9_ok 2 rfl, ch_of ch8_ok 4 rfl, cd_227, ⟨by decide +kernel, by decide +kernel, by decide +kernel⟩⟩
def m_W_thingIs : MI := (⟨"PutOffWicks", "thingIs", "(II)I"⟩, prog_1_method_8_code, 3, (some .int))
theorem mv_W_thingIs : MV m_W_thingIs 2 := ⟨ch_of ch9_ok 3 rfl, ch_of ch9_ok 4 rfl, ch_of ch8_ok 4 rfl, cd_228, ⟨by decide +kernel, by decide +kernel, by decide +kernel⟩⟩
def m_W_tried : MI := (⟨"PutOffWicks", "tried", "(II)I"⟩, prog_1_method_7_code, 7, (some .int))
theorem mv_W_tried : MV m_W_tried 2 := ⟨ch_of ch9_ok 5 rfl, ch_of ch9_ok 6 rfl, ch_of ch8_ok 4 rfl, cd_229, ⟨by decide +kernel, by decide +kernel, by decide +kernel⟩⟩
def m_W_twist : MI := (⟨"PutOffWicks", "twist", "(III)I"⟩, prog_1_method_18_code, 5, (some .int))
theorem mv_W_twist : MV m_W_twist 3 := ⟨ch_of ch9_ok 7 rfl, ch_of ch9_ok 8 rfl, ch_of ch8_ok 4 rfl, cd_230, ⟨by decide +kernel, by decide +kernel, by decide +kernel⟩⟩
def m_W_undo : MI := (⟨"PutOffWicks", "undo", "()Z"⟩, prog_1_method_30_code, 1, (some .boolean))
theorem mv_W_undo : MV m_W_undo 0 := ⟨ch_of ch9_ok 9 rfl, ch_of ch9_ok 10 rfl, ch_of ch8_ok 4 rfl, cd_231, ⟨by decide +kernel, by decide +kernel, by decide +kernel⟩⟩
def m_W_waiting : MI := (⟨"PutOffWicks", "waiting", "(II)I"⟩, prog_1_method_19_code, 3, (some .int))
theorem mv_W_waiting : MV m_W_waiting 2 := ⟨ch_of ch9_ok 11 rfl, ch_of ch9_ok 12 rfl, ch_of ch8_ok 4 rfl, cd_232, ⟨by decide +kernel, by decide +kernel, by decide +kernel⟩⟩
def m_W_within : MI := (⟨"PutOffWicks", "within", "(III)Z"⟩, prog_1_method_33_code, 3, (some .boolean))
theorem mt_W_within : MT m_W_within 3 := ⟨ch_of ch9_ok 13 rfl, ch_of ch8_ok 4 rfl, cd_233, ⟨by decide +kernel, by decide +kernel, by decide +kernel⟩⟩
def m_W_worstNews : MI := (⟨"PutOffWicks", "worstNews", "(I)I"⟩, prog_1_method_16_code, 3, (some .int))
theorem mv_W_worstNews : MV m_W_worstNews 1 := ⟨ch_of ch9_ok 14 rfl, ch_of ch9_ok 15 rfl, ch_of ch8_ok 4 rfl, cd_234, ⟨by decide +kernel, by decide +kernel, by decide +kernel⟩⟩
def m_Waits_canEnd : MI := (⟨"PutOffWicks$Waits", "canEnd", "(II)Z"⟩, prog_12_method_5_code, 9, (some .boolean))
theorem mv_Waits_canEnd : MV m_Waits_canEnd 2 := ⟨ch_of ch9_ok 16 rfl, ch_of ch9_ok 17 rfl, ch_of ch9_ok 18 rfl, cd_235, ⟨by decide +kernel, by decide +kernel, by decide +kernel⟩⟩
def m_Waits_fewestToEnd : MI := (⟨"PutOffWicks$Waits", "fewestToEnd", "()I"⟩, prog_12_method_4_code, 2, (some .int))
theorem mv_Waits_fewestToEnd : MV m_Waits_fewestToEnd 0 := ⟨ch_of ch9_ok 19 rfl, ch_of ch9_ok 20 rfl, ch_of ch9_ok 18 rfl, cd_236, ⟨by decide +kernel, by decide +kernel, by decide +kernel⟩⟩
def m_Waits_findRingOf : MI := (⟨"PutOffWicks$Waits", "findRingOf", "(III)I"⟩, prog_12_method_9_code, 10, (some .int))
theorem mv_Waits_findRingOf : MV m_Waits_findRingOf 3 := ⟨ch_of ch9_ok 21 rfl, ch_of ch9_ok 22 rfl, ch_of ch9_ok 18 rfl, cd_237, ⟨by decide +kernel, by decide +kernel, by decide +kernel⟩⟩
def m_Waits_findShortestRing : MI := (⟨"PutOffWicks$Waits", "findShortestRing", "(I)I"⟩, prog_12_method_8_code, 6, (some .int))
theorem mv_Waits_findShortestRing : MV m_Waits_findShortestRing 1 := ⟨ch_of ch9_ok 23 rfl, ch_of ch9_ok 24 rfl, ch_of ch9_ok 18 rfl, cd_238, ⟨by decide +kernel, by decide +kernel, by decide +kernel⟩⟩
def m_Waits_forEver : MI := (⟨"PutOffWicks$Waits", "forEver", "()I"⟩, prog_12_method_3_code, 4, (some .int))
theorem mv_Waits_forEver : MV m_Waits_forEver 0 := ⟨ch_of ch9_ok 25 rfl, ch_of ch9_ok 26 rfl, ch_of ch9_ok 18 rfl, cd_239, ⟨by decide +kernel, by decide +kernel, by decide +kernel⟩⟩
def m_Waits_markFrom : MI := (⟨"PutOffWicks$Waits", "markFrom", "(II)V"⟩, prog_12_method_10_code, 4, none)
theorem mv_Waits_markFrom : MV m_Waits_markFrom 2 := ⟨ch_of ch9_ok 27 rfl, ch_of ch9_ok 28 rfl, ch_of ch9_ok 18 rfl, cd_240, ⟨by decide +kernel, by decide +kernel, by decide +kernel⟩⟩
def m_Waits_read : MI := (⟨"PutOffWicks$Waits", "read", "(I)Z"⟩, prog_12_method_2_code, 5, (some .boolean))
theorem mv_Waits_read : MV m_Waits_read 1 := ⟨ch_of ch9_ok 29 rfl, ch_of ch9_ok 30 rfl, ch_of ch9_ok 18 rfl, cd_241, ⟨by decide +kernel, by decide +kernel, by decide +kernel⟩⟩
def m_Waits_ringAt : MI := (⟨"PutOffWicks$Waits", "ringAt", "(II)I"⟩, prog_12_method_7_code, 4, (some .int))
theorem mv_Waits_ringAt : MV m_Waits_ringAt 2 := ⟨ch_of ch9_ok 31 rfl, ch_of ch9_ok 32 rfl, ch_of ch9_ok 18 rfl, cd_242, ⟨by decide +kernel, by decide +kernel, by decide +kernel⟩⟩
def m_Waits_ringsOfTwo : MI := (⟨"PutOffWicks$Waits", "ringsOfTwo", "()I"⟩, prog_12_method_6_code, 4, (some .int))
theorem mv_Waits_ringsOfTwo : MV m_Waits_ringsOfTwo 0 := ⟨ch_of ch9_ok 33 rfl, ch_of ch9_ok 34 rfl, ch_of ch9_ok 18 rfl, cd_243, ⟨by decide +kernel, by decide +kernel, by decide +kernel⟩⟩
def m_Waits_writeRing : MI := (⟨"PutOffWicks$Waits", "writeRing", "(III)V"⟩, prog_12_method_11_code, 7, none)
theorem mv_Waits_writeRing : MV m_Waits_writeRing 3 := ⟨ch_of ch9_ok 35 rfl, ch_of ch9_ok 36 rfl, ch_of ch9_ok 18 rfl, cd_244, ⟨by decide +kernel, by decide +kernel, by decide +kernel⟩⟩
theorem pn_W : plainName "PutOffWicks" = true := by decide
theorem pn_Almanac : plainName "PutOffWicks$Almanac" = true := by decide
theorem pn_Law : plainName "PutOffWicks$Law" = true := by decide
theorem pn_Parish : plainName "PutOffWicks$Parish" = true := by decide
theorem pn_ParishReader : plainName "PutOffWicks$ParishReader" = true := by decide
theorem pn_Reading : plainName "PutOffWicks$Reading" = true := by decide
theorem pn_Reckoner : plainName "PutOffWicks$Reckoner" = true := by decide
theorem pn_Rows : plainName "PutOffWicks$Rows" = true := by decide
theorem pn_Shore : plainName "PutOffWicks$Shore" = true := by decide
theorem pn_Tape : plainName "PutOffWicks$Tape" = true := by decide
theorem pn_Twist : plainName "PutOffWicks$Twist" = true := by decide
theorem pn_Waits : plainName "PutOffWicks$Waits" = true := by decide
theorem pn_Mo : plainName "PutOffWicksModel" = true := by decide
theorem pn_JI : plainName "java/lang/Integer" = true := by decide
theorem pn_JL : plainName "java/lang/Long" = true := by decide
theorem pn_JA : plainName "java/util/Arrays" = true := by decide
theorem ml_W_107 : Cond.methodLink "PutOffWicks" 107 m_Parish_has.1 ∈ lw_g := ch_of ch9_ok 37 rfl
theorem ml_W_111 : Cond.methodLink "PutOffWicks" 111 m_Parish_isDone.1 ∈ lw_g := ch_of ch9_ok 38 rfl
theorem ml_W_118 : Cond.methodLink "PutOffWicks" 118 m_Parish_putLight.1 ∈ lw_g := ch_of ch9_ok 39 rfl
theorem ml_W_122 : Cond.methodLink "PutOffWicks" 122 m_Tape_hasRoom.1 ∈ lw_g := ch_of ch9_ok 40 rfl
theorem ml_W_126 : Cond.methodLink "PutOffWicks" 126 m_Tape_put.1 ∈ lw_g := ch_of ch9_ok 41 rfl
theorem ml_W_133 : Cond.methodLink "PutOffWicks" 133 m_W_within.1 ∈ lw_g := ch_of ch9_ok 42 rfl
theorem ml_W_137 : Cond.methodLink "PutOffWicks" 137 m_Tape_take.1 ∈ lw_g := ch_of ch9_ok 43 rfl
theorem ml_W_140 : Cond.methodLink "PutOffWicks" 140 m_Law_read.1 ∈ lw_g := ch_of ch9_ok 44 rfl
theorem ml_W_144 : Cond.methodLink "PutOffWicks" 144 m_Law_copyFrom.1 ∈ lw_g := ch_of ch9_ok 45 rfl
theorem ml_W_151 : Cond.methodLink "PutOffWicks" 151 m_ParishReader_read.1 ∈ lw_g := ch_of ch9_ok 46 rfl
theorem ml_W_155 : Cond.methodLink "PutOffWicks" 155 m_Parish_beginAs.1 ∈ lw_g := ch_of ch9_ok 47 rfl
theorem ml_W_162 : Cond.methodLink "PutOffWicks" 162 m_Almanac_pass.1 ∈ lw_g := ch_of ch9_ok 48 rfl
theorem ml_W_166 : Cond.methodLink "PutOffWicks" 166 m_Parish_copyFrom.1 ∈ lw_g := ch_of ch9_ok 49 rfl
theorem ml_W_183 : Cond.methodLink "PutOffWicks" 183 m_Parish_isLit.1 ∈ lw_g := ch_of ch10_ok 0 rfl
theorem ml_W_189 : Cond.methodLink "PutOffWicks" 189 m_Parish_proudest.1 ∈ lw_g := ch_of ch10_ok 1 rfl
theorem ml_W_192 : Cond.methodLink "PutOffWicks" 192 m_Parish_putOffBy.1 ∈ lw_g := ch_of ch10_ok 2 rfl
theorem ml_W_196 : Cond.methodLink "PutOffWicks" 196 m_Parish_ordersLeft.1 ∈ lw_g := ch_of ch10_ok 3 rfl
theorem ml_W_199 : Cond.methodLink "PutOffWicks" 199 m_Parish_lightOf.1 ∈ lw_g := ch_of ch10_ok 4 rfl
theorem ml_W_202 : Cond.methodLink "PutOffWicks" 202 m_Parish_brightestOwner.1 ∈ lw_g := ch_of ch10_ok 5 rfl
theorem ml_W_205 : Cond.methodLink "PutOffWicks" 205 m_Parish_middlePutOff.1 ∈ lw_g := ch_of ch10_ok 6 rfl
theorem ml_W_208 : Cond.methodLink "PutOffWicks" 208 m_Twist_read.1 ∈ lw_g := ch_of ch10_ok 7 rfl
theorem ml_W_213 : Cond.methodLink "PutOffWicks" 213 m_Twist_oversLessUnders.1 ∈ lw_g := ch_of ch10_ok 8 rfl
theorem ml_W_216 : Cond.methodLink "PutOffWicks" 216 m_Twist_turnsLeft.1 ∈ lw_g := ch_of ch10_ok 9 rfl
theorem ml_W_219 : Cond.methodLink "PutOffWicks" 219 m_Twist_timesTillHome.1 ∈ lw_g := ch_of ch10_ok 10 rfl
theorem ml_W_222 : Cond.methodLink "PutOffWicks" 222 m_Twist_comesOut.1 ∈ lw_g := ch_of ch10_ok 11 rfl
theorem ml_W_225 : Cond.methodLink "PutOffWicks" 225 m_Waits_read.1 ∈ lw_g := ch_of ch10_ok 12 rfl
theorem ml_W_227 : Cond.methodLink "PutOffWicks" 227 m_Waits_forEver.1 ∈ lw_g := ch_of ch10_ok 13 rfl
theorem ml_W_230 : Cond.methodLink "PutOffWicks" 230 m_Waits_fewestToEnd.1 ∈ lw_g := ch_of ch10_ok 14 rfl
theorem ml_W_233 : Cond.methodLink "PutOffWicks" 233 m_Rows_bestFirst.1 ∈ lw_g := ch_of ch10_ok 15 rfl
theorem ml_W_236 : Cond.methodLink "PutOffWicks" 236 m_Rows_hoursBehind.1 ∈ lw_g := ch_of ch10_ok 16 rfl
theorem ml_W_240 : Cond.methodLink "PutOffWicks" 240 m_Rows_fewestWicks.1 ∈ lw_g := ch_of ch10_ok 17 rfl
theorem ml_W_243 : Cond.methodLink "PutOffWicks" 243 m_Rows_dayIfKnowing.1 ∈ lw_g := ch_of ch10_ok 18 rfl
theorem ml_W_246 : Cond.methodLink "PutOffWicks" 246 m_Rows_dayIfNotKnowing.1 ∈ lw_g := ch_of ch10_ok 19 rfl
theorem ml_W_249 : Cond.methodLink "PutOffWicks" 249 m_Tape_at.1 ∈ lw_g := ch_of ch10_ok 20 rfl
theorem ml_W_252 : Cond.methodLink "PutOffWicks" 252 m_Rows_longestCord.1 ∈ lw_g := ch_of ch10_ok 21 rfl
theorem ml_W_255 : Cond.methodLink "PutOffWicks" 255 m_Shore_placesSeeing.1 ∈ lw_g := ch_of ch10_ok 22 rfl
theorem ml_W_258 : Cond.methodLink "PutOffWicks" 258 m_Shore_longestRow.1 ∈ lw_g := ch_of ch10_ok 23 rfl
theorem ml_W_261 : Cond.methodLink "PutOffWicks" 261 m_Shore_bestLights.1 ∈ lw_g := ch_of ch10_ok 24 rfl
theorem ml_W_264 : Cond.methodLink "PutOffWicks" 264 m_Shore_placesOf.1 ∈ lw_g := ch_of ch10_ok 25 rfl
theorem ml_W_267 : Cond.methodLink "PutOffWicks" 267 m_Rows_evenestCut.1 ∈ lw_g := ch_of ch10_ok 26 rfl
theorem ml_W_270 : Cond.methodLink "PutOffWicks" 270 m_Rows_difference.1 ∈ lw_g := ch_of ch10_ok 27 rfl
theorem ml_W_273 : Cond.methodLink "PutOffWicks" 273 m_Rows_unbeaten.1 ∈ lw_g := ch_of ch10_ok 28 rfl
theorem ml_W_280 : Cond.methodLink "PutOffWicks" 280 m_Parish_comeBackTo.1 ∈ lw_g := ch_of ch10_ok 29 rfl
theorem ml_W_283 : Cond.methodLink "PutOffWicks" 283 m_Parish_ownersLeft.1 ∈ lw_g := ch_of ch10_ok 30 rfl
theorem ml_Almanac_21 : Cond.methodLink "PutOffWicks$Almanac" 21 m_JI_bitCount.1 ∈ lw_g := ch_of ch10_ok 31 rfl
theorem ml_Almanac_33 : Cond.methodLink "PutOffWicks$Almanac" 33 m_Parish_isDone.1 ∈ lw_g := ch_of ch10_ok 32 rfl
theorem ml_Almanac_37 : Cond.methodLink "PutOffWicks$Almanac" 37 m_Almanac_passOver.1 ∈ lw_g := ch_of ch10_ok 33 rfl
theorem ml_Almanac_41 : Cond.methodLink "PutOffWicks$Almanac" 41 m_Parish_draw.1 ∈ lw_g := ch_of ch10_ok 34 rfl
theorem ml_Almanac_45 : Cond.methodLink "PutOffWicks$Almanac" 45 m_Reckoner_face.1 ∈ lw_g := ch_of ch10_ok 35 rfl
theorem ml_Almanac_51 : Cond.methodLink "PutOffWicks$Almanac" 51 m_Reckoner_ask.1 ∈ lw_g := ch_of ch10_ok 36 rfl
theorem ml_Almanac_59 : Cond.methodLink "PutOffWicks$Almanac" 59 m_Parish_putLight.1 ∈ lw_g := ch_of ch10_ok 37 rfl
theorem ml_Almanac_63 : Cond.methodLink "PutOffWicks$Almanac" 63 m_Parish_isLit.1 ∈ lw_g := ch_of ch10_ok 38 rfl
theorem ml_Almanac_66 : Cond.methodLink "PutOffWicks$Almanac" 66 m_Parish_burn.1 ∈ lw_g := ch_of ch10_ok 39 rfl
theorem ml_Almanac_70 : Cond.methodLink "PutOffWicks$Almanac" 70 m_Parish_isFree.1 ∈ lw_g := ch_of ch10_ok 40 rfl
theorem ml_Almanac_73 : Cond.methodLink "PutOffWicks$Almanac" 73 m_Parish_finish.1 ∈ lw_g := ch_of ch10_ok 41 rfl
theorem ml_Almanac_77 : Cond.methodLink "PutOffWicks$Almanac" 77 m_Parish_putItOff.1 ∈ lw_g := ch_of ch10_ok 42 rfl
theorem ac_Law_41 : AC "PutOffWicks$Law" 41 := ⟨ch_of ch10_ok 43 rfl, ch_of ch10_ok 44 rfl, ch_of ch10_ok 45 rfl, ch_of ch10_ok 46 rfl⟩
theorem ml_Law_47 : Cond.methodLink "PutOffWicks$Law" 47 m_Reading_begin.1 ∈ lw_g := ch_of ch10_ok 47 rfl
theorem ml_Law_52 : Cond.methodLink "PutOffWicks$Law" 52 m_Reading_sign.1 ∈ lw_g := ch_of ch10_ok 48 rfl
theorem ml_Law_59 : Cond.methodLink "PutOffWicks$Law" 59 m_Reading_fail.1 ∈ lw_g := ch_of ch10_ok 49 rfl
theorem ml_Law_63 : Cond.methodLink "PutOffWicks$Law" 63 m_Law_add.1 ∈ lw_g := ch_of ch11_ok 0 rfl
theorem ml_Law_67 : Cond.methodLink "PutOffWicks$Law" 67 m_Law_readValue.1 ∈ lw_g := ch_of ch11_ok 1 rfl
theorem ml_Law_71 : Cond.methodLink "PutOffWicks$Law" 71 m_Reading_needs.1 ∈ lw_g := ch_of ch11_ok 2 rfl
theorem ml_Law_74 : Cond.methodLink "PutOffWicks$Law" 74 m_Law_readCondition.1 ∈ lw_g := ch_of ch11_ok 3 rfl
theorem ml_Law_77 : Cond.methodLink "PutOffWicks$Law" 77 m_Reading_goesOn.1 ∈ lw_g := ch_of ch11_ok 4 rfl
theorem ml_Law_84 : Cond.methodLink "PutOffWicks$Law" 84 m_Law_readTest.1 ∈ lw_g := ch_of ch11_ok 5 rfl
theorem ml_Law_87 : Cond.methodLink "PutOffWicks$Law" 87 m_Law_land.1 ∈ lw_g := ch_of ch11_ok 6 rfl
theorem ml_Law_90 : Cond.methodLink "PutOffWicks$Law" 90 m_Reading_takes.1 ∈ lw_g := ch_of ch11_ok 7 rfl
theorem ml_Law_94 : Cond.methodLink "PutOffWicks$Law" 94 m_Law_opens.1 ∈ lw_g := ch_of ch11_ok 8 rfl
theorem ml_Law_97 : Cond.methodLink "PutOffWicks$Law" 97 m_Law_readFactor.1 ∈ lw_g := ch_of ch11_ok 9 rfl
theorem ml_Law_100 : Cond.methodLink "PutOffWicks$Law" 100 m_Reading_isDigit.1 ∈ lw_g := ch_of ch11_ok 10 rfl
theorem ml_Law_103 : Cond.methodLink "PutOffWicks$Law" 103 m_Reading_number.1 ∈ lw_g := ch_of ch11_ok 11 rfl
theorem ml_Law_107 : Cond.methodLink "PutOffWicks$Law" 107 m_Law_isFact.1 ∈ lw_g := ch_of ch11_ok 12 rfl
theorem ac_Parish_43 : AC "PutOffWicks$Parish" 43 := ⟨ch_of ch11_ok 13 rfl, ch_of ch10_ok 44 rfl, ch_of ch10_ok 45 rfl, ch_of ch10_ok 46 rfl⟩
theorem ml_Parish_49 : Cond.methodLink "PutOffWicks$Parish" 49 m_Parish_copyFrom.1 ∈ lw_g := ch_of ch11_ok 14 rfl
theorem ms_Parish_53 : MS "PutOffWicks$Parish" 53 Lib.Math.min.name Lib.Math.min.code 2 := ⟨ch_of ch11_ok 15 rfl, ch_of ch0_ok 15 rfl, ch_of ch0_ok 13 rfl, cd_8⟩
theorem ml_Parish_60 : Cond.methodLink "PutOffWicks$Parish" 60 m_Parish_has.1 ∈ lw_g := ch_of ch11_ok 16 rfl
theorem ml_Parish_64 : Cond.methodLink "PutOffWicks$Parish" 64 m_Parish_isDone.1 ∈ lw_g := ch_of ch11_ok 17 rfl
theorem ms_Parish_67 : MS "PutOffWicks$Parish" 67 Lib.Math.max.name Lib.Math.max.code 2 := ⟨ch_of ch11_ok 18 rfl, ch_of ch0_ok 14 rfl, ch_of ch0_ok 13 rfl, cd_7⟩
theorem ml_Parish_70 : Cond.methodLink "PutOffWicks$Parish" 70 m_Parish_putLight.1 ∈ lw_g := ch_of ch11_ok 19 rfl
theorem ml_Parish_74 : Cond.methodLink "PutOffWicks$Parish" 74 m_Parish_isLit.1 ∈ lw_g := ch_of ch11_ok 20 rfl
theorem ml_Parish_77 : Cond.methodLink "PutOffWicks$Parish" 77 m_Parish_ownersLeft.1 ∈ lw_g := ch_of ch11_ok 21 rfl
theorem ml_Parish_81 : Cond.methodLink "PutOffWicks$Parish" 81 m_Parish_putOffBy.1 ∈ lw_g := ch_of ch11_ok 22 rfl
theorem ml_Parish_85 : Cond.methodLink "PutOffWicks$Parish" 85 m_Parish_lightOf.1 ∈ lw_g := ch_of ch11_ok 23 rfl
theorem ml_Parish_88 : Cond.methodLink "PutOffWicks$Parish" 88 m_JI_bitCount.1 ∈ lw_g := ch_of ch11_ok 24 rfl
theorem ml_Parish_93 : Cond.methodLink "PutOffWicks$Parish" 93 m_Parish_leftPutOffUnder.1 ∈ lw_g := ch_of ch11_ok 25 rfl
theorem ml_Parish_96 : Cond.methodLink "PutOffWicks$Parish" 96 m_Parish_leftThatNeed.1 ∈ lw_g := ch_of ch11_ok 26 rfl
theorem ml_ParishReader_22 : Cond.methodLink "PutOffWicks$ParishReader" 22 m_Reading_begin.1 ∈ lw_g := ch_of ch11_ok 27 rfl
theorem ml_ParishReader_34 : Cond.methodLink "PutOffWicks$ParishReader" 34 m_ParishReader_readLine.1 ∈ lw_g := ch_of ch11_ok 28 rfl
theorem ml_ParishReader_38 : Cond.methodLink "PutOffWicks$ParishReader" 38 m_Reading_goesOn.1 ∈ lw_g := ch_of ch11_ok 29 rfl
theorem ml_ParishReader_45 : Cond.methodLink "PutOffWicks$ParishReader" 45 m_Reading_sign.1 ∈ lw_g := ch_of ch11_ok 30 rfl
theorem ml_ParishReader_52 : Cond.methodLink "PutOffWicks$ParishReader" 52 m_Reading_fail.1 ∈ lw_g := ch_of ch11_ok 31 rfl
theorem ml_ParishReader_56 : Cond.methodLink "PutOffWicks$ParishReader" 56 m_Reading_number.1 ∈ lw_g := ch_of ch11_ok 32 rfl
theorem ml_ParishReader_60 : Cond.methodLink "PutOffWicks$ParishReader" 60 m_Reading_takes.1 ∈ lw_g := ch_of ch11_ok 33 rfl
theorem ml_ParishReader_64 : Cond.methodLink "PutOffWicks$ParishReader" 64 m_ParishReader_readOther.1 ∈ lw_g := ch_of ch11_ok 34 rfl
theorem ml_ParishReader_74 : Cond.methodLink "PutOffWicks$ParishReader" 74 m_Parish_putLight.1 ∈ lw_g := ch_of ch11_ok 35 rfl
theorem ml_Reading_20 : Cond.methodLink "PutOffWicks$Reading" 20 m_Tape_at.1 ∈ lw_g := ch_of ch11_ok 36 rfl
theorem ml_Reading_25 : Cond.methodLink "PutOffWicks$Reading" 25 m_Reading_fail.1 ∈ lw_g := ch_of ch11_ok 37 rfl
theorem ml_Reading_29 : Cond.methodLink "PutOffWicks$Reading" 29 m_Reading_needs.1 ∈ lw_g := ch_of ch11_ok 38 rfl
theorem ml_Reading_33 : Cond.methodLink "PutOffWicks$Reading" 33 m_Reading_isDigit.1 ∈ lw_g := ch_of ch11_ok 39 rfl
theorem ml_Reckoner_51 : Cond.methodLink "PutOffWicks$Reckoner" 51 m_Reckoner_reckon.1 ∈ lw_g := ch_of ch11_ok 40 rfl
theorem ms_Reckoner_58 : MS "PutOffWicks$Reckoner" 58 Lib.Math.min.name Lib.Math.min.code 2 := ⟨ch_of ch11_ok 41 rfl, ch_of ch0_ok 15 rfl, ch_of ch0_ok 13 rfl, cd_8⟩
theorem ms_Reckoner_63 : MS "PutOffWicks$Reckoner" 63 Lib.Math.max.name Lib.Math.max.code 2 := ⟨ch_of ch11_ok 42 rfl, ch_of ch0_ok 14 rfl, ch_of ch0_ok 13 rfl, cd_7⟩
theorem ml_Reckoner_72 : Cond.methodLink "PutOffWicks$Reckoner" 72 m_Reckoner_push.1 ∈ lw_g := ch_of ch11_ok 43 rfl
theorem ml_Reckoner_76 : Cond.methodLink "PutOffWicks$Reckoner" 76 m_Reckoner_fact.1 ∈ lw_g := ch_of ch11_ok 44 rfl
theorem ml_Reckoner_80 : Cond.methodLink "PutOffWicks$Reckoner" 80 m_Reckoner_pop.1 ∈ lw_g := ch_of ch11_ok 45 rfl
theorem ml_Reckoner_84 : Cond.methodLink "PutOffWicks$Reckoner" 84 m_Reckoner_joined.1 ∈ lw_g := ch_of ch11_ok 46 rfl
theorem ml_Reckoner_88 : Cond.methodLink "PutOffWicks$Reckoner" 88 m_Parish_has.1 ∈ lw_g := ch_of ch11_ok 47 rfl
theorem ml_Reckoner_103 : Cond.methodLink "PutOffWicks$Reckoner" 103 m_Parish_isLit.1 ∈ lw_g := ch_of ch11_ok 48 rfl
theorem ml_Reckoner_106 : Cond.methodLink "PutOffWicks$Reckoner" 106 m_Parish_leftOf.1 ∈ lw_g := ch_of ch11_ok 49 rfl
theorem ml_Reckoner_109 : Cond.methodLink "PutOffWicks$Reckoner" 109 m_Parish_waitersFor.1 ∈ lw_g := ch_of ch12_ok 0 rfl
theorem ml_Rows_15 : Cond.methodLink "PutOffWicks$Rows" 15 m_Rows_hoursBehind.1 ∈ lw_g := ch_of ch12_ok 1 rfl
theorem ml_Rows_19 : Cond.methodLink "PutOffWicks$Rows" 19 m_Tape_at.1 ∈ lw_g := ch_of ch12_ok 2 rfl
theorem ml_Rows_25 : Cond.methodLink "PutOffWicks$Rows" 25 m_Rows_nextToSpin.1 ∈ lw_g := ch_of ch12_ok 3 rfl
theorem ms_Rows_28 : MS "PutOffWicks$Rows" 28 Lib.Math.max.name Lib.Math.max.code 2 := ⟨ch_of ch12_ok 4 rfl, ch_of ch0_ok 14 rfl, ch_of ch0_ok 13 rfl, cd_7⟩
theorem ml_Rows_33 : Cond.methodLink "PutOffWicks$Rows" 33 m_Rows_spinsAhead.1 ∈ lw_g := ch_of ch12_ok 5 rfl
theorem ml_Rows_37 : Cond.methodLink "PutOffWicks$Rows" 37 m_Rows_farthestFrom.1 ∈ lw_g := ch_of ch12_ok 6 rfl
theorem ms_Rows_40 : MS "PutOffWicks$Rows" 40 Lib.Math.min.name Lib.Math.min.code 2 := ⟨ch_of ch12_ok 7 rfl, ch_of ch0_ok 15 rfl, ch_of ch0_ok 13 rfl, cd_8⟩
theorem ml_Rows_43 : Cond.methodLink "PutOffWicks$Rows" 43 m_Rows_sufficesFor.1 ∈ lw_g := ch_of ch12_ok 8 rfl
theorem ml_Rows_47 : Cond.methodLink "PutOffWicks$Rows" 47 m_Rows_difference.1 ∈ lw_g := ch_of ch12_ok 9 rfl
theorem ms_Rows_50 : MS "PutOffWicks$Rows" 50 Lib.Math.abs.name Lib.Math.abs.code 1 := ⟨ch_of ch12_ok 10 rfl, ch_of ch0_ok 12 rfl, ch_of ch0_ok 13 rfl, cd_6⟩
theorem ml_Rows_53 : Cond.methodLink "PutOffWicks$Rows" 53 m_Rows_beats.1 ∈ lw_g := ch_of ch12_ok 11 rfl
theorem ml_Shore_17 : Cond.methodLink "PutOffWicks$Shore" 17 m_Tape_at.1 ∈ lw_g := ch_of ch12_ok 12 rfl
theorem ms_Shore_23 : MS "PutOffWicks$Shore" 23 Lib.Math.abs.name Lib.Math.abs.code 1 := ⟨ch_of ch12_ok 13 rfl, ch_of ch0_ok 12 rfl, ch_of ch0_ok 13 rfl, cd_6⟩
theorem ml_Shore_28 : Cond.methodLink "PutOffWicks$Shore" 28 m_Shore_isSeen.1 ∈ lw_g := ch_of ch12_ok 14 rfl
theorem ml_Shore_32 : Cond.methodLink "PutOffWicks$Shore" 32 m_Shore_sees.1 ∈ lw_g := ch_of ch12_ok 15 rfl
theorem ms_Shore_36 : MS "PutOffWicks$Shore" 36 Lib.Math.max.name Lib.Math.max.code 2 := ⟨ch_of ch12_ok 16 rfl, ch_of ch0_ok 14 rfl, ch_of ch0_ok 13 rfl, cd_7⟩
theorem ml_Shore_40 : Cond.methodLink "PutOffWicks$Shore" 40 m_Shore_fillView.1 ∈ lw_g := ch_of ch12_ok 17 rfl
theorem ml_Shore_44 : Cond.methodLink "PutOffWicks$Shore" 44 m_JI_bitCount.1 ∈ lw_g := ch_of ch12_ok 18 rfl
theorem ml_Shore_49 : Cond.methodLink "PutOffWicks$Shore" 49 m_Shore_placesOf.1 ∈ lw_g := ch_of ch12_ok 19 rfl
theorem ml_Shore_52 : Cond.methodLink "PutOffWicks$Shore" 52 m_JL_bitCount.1 ∈ lw_g := ch_of ch12_ok 20 rfl
theorem ml_Shore_57 : Cond.methodLink "PutOffWicks$Shore" 57 m_JA_fillJ.1 ∈ lw_g := ch_of ch12_ok 21 rfl
theorem ml_Twist_41 : Cond.methodLink "PutOffWicks$Twist" 41 m_Reading_begin.1 ∈ lw_g := ch_of ch12_ok 22 rfl
theorem ml_Twist_46 : Cond.methodLink "PutOffWicks$Twist" 46 m_Twist_ends.1 ∈ lw_g := ch_of ch12_ok 23 rfl
theorem ml_Twist_53 : Cond.methodLink "PutOffWicks$Twist" 53 m_Twist_readTimes.1 ∈ lw_g := ch_of ch12_ok 24 rfl
theorem ml_Twist_57 : Cond.methodLink "PutOffWicks$Twist" 57 m_Reading_sign.1 ∈ lw_g := ch_of ch12_ok 25 rfl
theorem ml_Twist_60 : Cond.methodLink "PutOffWicks$Twist" 60 m_Twist_readTurn.1 ∈ lw_g := ch_of ch12_ok 26 rfl
theorem ml_Twist_64 : Cond.methodLink "PutOffWicks$Twist" 64 m_Twist_repeat.1 ∈ lw_g := ch_of ch12_ok 27 rfl
theorem ml_Twist_68 : Cond.methodLink "PutOffWicks$Twist" 68 m_Twist_openGroup.1 ∈ lw_g := ch_of ch12_ok 28 rfl
theorem ml_Twist_72 : Cond.methodLink "PutOffWicks$Twist" 72 m_Twist_closeGroup.1 ∈ lw_g := ch_of ch12_ok 29 rfl
theorem ml_Twist_75 : Cond.methodLink "PutOffWicks$Twist" 75 m_Reading_fail.1 ∈ lw_g := ch_of ch12_ok 30 rfl
theorem ml_Twist_81 : Cond.methodLink "PutOffWicks$Twist" 81 m_Reading_failed.1 ∈ lw_g := ch_of ch12_ok 31 rfl
theorem ms_Twist_86 : MS "PutOffWicks$Twist" 86 Lib.Math.abs.name Lib.Math.abs.code 1 := ⟨ch_of ch12_ok 32 rfl, ch_of ch0_ok 12 rfl, ch_of ch0_ok 13 rfl, cd_6⟩
theorem ml_Twist_92 : Cond.methodLink "PutOffWicks$Twist" 92 m_Twist_comesOut.1 ∈ lw_g := ch_of ch12_ok 33 rfl
theorem ml_Waits_28 : Cond.methodLink "PutOffWicks$Waits" 28 m_JA_fillI.1 ∈ lw_g := ch_of ch12_ok 34 rfl
theorem ml_Waits_34 : Cond.methodLink "PutOffWicks$Waits" 34 m_Tape_at.1 ∈ lw_g := ch_of ch12_ok 35 rfl
theorem ml_Waits_40 : nW = Cond.methodLinkNest "PutOffWicks$Waits" 40 m_W_within.1 "PutOffWicks" := rfl
theorem ml_Waits_45 : Cond.methodLink "PutOffWicks$Waits" 45 m_Waits_ringsOfTwo.1 ∈ lw_g := ch_of ch12_ok 36 rfl
theorem ml_Waits_49 : Cond.methodLink "PutOffWicks$Waits" 49 m_Waits_canEnd.1 ∈ lw_g := ch_of ch12_ok 37 rfl
theorem ml_Waits_53 : Cond.methodLink "PutOffWicks$Waits" 53 m_Waits_findShortestRing.1 ∈ lw_g := ch_of ch12_ok 38 rfl
theorem ml_Waits_56 : Cond.methodLink "PutOffWicks$Waits" 56 m_Waits_ringAt.1 ∈ lw_g := ch_of ch12_ok 39 rfl
theorem ml_Waits_60 : Cond.methodLink "PutOffWicks$Waits" 60 m_Waits_forEver.1 ∈ lw_g := ch_of ch12_ok 40 rfl
theorem ml_Waits_63 : Cond.methodLink "PutOffWicks$Waits" 63 m_Waits_findRingOf.1 ∈ lw_g := ch_of ch12_ok 41 rfl
theorem ml_Waits_67 : Cond.methodLink "PutOffWicks$Waits" 67 m_Waits_writeRing.1 ∈ lw_g := ch_of ch12_ok 42 rfl
theorem ml_Waits_71 : Cond.methodLink "PutOffWicks$Waits" 71 m_Waits_markFrom.1 ∈ lw_g := ch_of ch12_ok 43 rfl
theorem ml_Mo_124 : Cond.methodLink "PutOffWicksModel" 124 m_Mo_in.1 ∈ lw_g := ch_of ch12_ok 44 rfl
theorem ml_Mo_128 : Cond.methodLink "PutOffWicksModel" 128 m_Mo_isThing.1 ∈ lw_g := ch_of ch12_ok 45 rfl
theorem ml_Mo_132 : Cond.methodLink "PutOffWicksModel" 132 m_Mo_isLeft.1 ∈ lw_g := ch_of ch12_ok 46 rfl
theorem ml_Mo_138 : Cond.methodLink "PutOffWicksModel" 138 m_Mo_types.1 ∈ lw_g := ch_of ch12_ok 47 rfl
theorem ml_Mo_148 : Cond.methodLink "PutOffWicksModel" 148 m_Mo_here.1 ∈ lw_g := ch_of ch12_ok 48 rfl
theorem ml_Mo_155 : Cond.methodLink "PutOffWicksModel" 155 m_Mo_wrongAt.1 ∈ lw_g := ch_of ch12_ok 49 rfl
theorem ml_Mo_162 : Cond.methodLink "PutOffWicksModel" 162 m_Mo_isDigit.1 ∈ lw_g := ch_of ch13_ok 0 rfl
theorem ml_Mo_176 : Cond.methodLink "PutOffWicksModel" 176 m_Mo_waitTop.1 ∈ lw_g := ch_of ch13_ok 1 rfl
theorem ml_Mo_179 : Cond.methodLink "PutOffWicksModel" 179 m_Mo_notes.1 ∈ lw_g := ch_of ch13_ok 2 rfl
theorem ml_Mo_183 : Cond.methodLink "PutOffWicksModel" 183 m_Mo_opens.1 ∈ lw_g := ch_of ch13_ok 3 rfl
theorem ml_Mo_186 : Cond.methodLink "PutOffWicksModel" 186 m_Mo_readsNumber.1 ∈ lw_g := ch_of ch13_ok 4 rfl
theorem ml_Mo_189 : Cond.methodLink "PutOffWicksModel" 189 m_Mo_factOf.1 ∈ lw_g := ch_of ch13_ok 5 rfl
theorem ml_Mo_193 : Cond.methodLink "PutOffWicksModel" 193 m_Mo_readsFactor.1 ∈ lw_g := ch_of ch13_ok 6 rfl
theorem ml_Mo_196 : Cond.methodLink "PutOffWicksModel" 196 m_Mo_sumSign.1 ∈ lw_g := ch_of ch13_ok 7 rfl
theorem ml_Mo_199 : Cond.methodLink "PutOffWicksModel" 199 m_Mo_closesSums.1 ∈ lw_g := ch_of ch13_ok 8 rfl
theorem ml_Mo_203 : Cond.methodLink "PutOffWicksModel" 203 m_Mo_hasOpenSum.1 ∈ lw_g := ch_of ch13_ok 9 rfl
theorem ml_Mo_206 : Cond.methodLink "PutOffWicksModel" 206 m_Mo_readsSum.1 ∈ lw_g := ch_of ch13_ok 10 rfl
theorem ml_Mo_209 : Cond.methodLink "PutOffWicksModel" 209 m_Mo_endsPiece.1 ∈ lw_g := ch_of ch13_ok 11 rfl
theorem ml_Mo_212 : Cond.methodLink "PutOffWicksModel" 212 m_Mo_readsCompared.1 ∈ lw_g := ch_of ch13_ok 12 rfl
theorem ml_Mo_215 : Cond.methodLink "PutOffWicksModel" 215 m_Mo_lands.1 ∈ lw_g := ch_of ch13_ok 13 rfl
theorem ml_Mo_218 : Cond.methodLink "PutOffWicksModel" 218 m_Mo_jumps.1 ∈ lw_g := ch_of ch13_ok 14 rfl
theorem ml_Mo_224 : Cond.methodLink "PutOffWicksModel" 224 m_Mo_readsCondition.1 ∈ lw_g := ch_of ch13_ok 15 rfl
theorem ml_Mo_227 : Cond.methodLink "PutOffWicksModel" 227 m_Mo_beginsText.1 ∈ lw_g := ch_of ch13_ok 16 rfl
theorem ml_Mo_230 : Cond.methodLink "PutOffWicksModel" 230 m_Mo_readsRule.1 ∈ lw_g := ch_of ch13_ok 17 rfl
theorem ml_Mo_233 : Cond.methodLink "PutOffWicksModel" 233 m_Mo_takes.1 ∈ lw_g := ch_of ch13_ok 18 rfl
theorem ml_Mo_239 : Cond.methodLink "PutOffWicksModel" 239 m_Mo_reckon.1 ∈ lw_g := ch_of ch13_ok 19 rfl
theorem ml_Mo_243 : Cond.methodLink "PutOffWicksModel" 243 m_Mo_reckonsTo.1 ∈ lw_g := ch_of ch13_ok 20 rfl
theorem ml_Mo_250 : Cond.methodLink "PutOffWicksModel" 250 m_Mo_readsAmount.1 ∈ lw_g := ch_of ch13_ok 21 rfl
theorem ml_Mo_253 : Cond.methodLink "PutOffWicksModel" 253 m_Mo_readsThing.1 ∈ lw_g := ch_of ch13_ok 22 rfl
theorem ml_Mo_256 : Cond.methodLink "PutOffWicksModel" 256 m_Mo_leftOf.1 ∈ lw_g := ch_of ch13_ok 23 rfl
theorem ml_Mo_259 : Cond.methodLink "PutOffWicksModel" 259 m_Mo_waitersOf.1 ∈ lw_g := ch_of ch13_ok 24 rfl
theorem ml_Mo_262 : Cond.methodLink "PutOffWicksModel" 262 m_Mo_draws.1 ∈ lw_g := ch_of ch13_ok 25 rfl
theorem ml_Mo_265 : Cond.methodLink "PutOffWicksModel" 265 m_Mo_max.1 ∈ lw_g := ch_of ch13_ok 26 rfl
theorem ml_Mo_271 : Cond.methodLink "PutOffWicksModel" 271 m_Mo_min.1 ∈ lw_g := ch_of ch13_ok 27 rfl
theorem ml_Mo_274 : Cond.methodLink "PutOffWicksModel" 274 m_Mo_feels.1 ∈ lw_g := ch_of ch13_ok 28 rfl
theorem ml_Mo_277 : Cond.methodLink "PutOffWicksModel" 277 m_Mo_holdsAny.1 ∈ lw_g := ch_of ch13_ok 29 rfl
theorem ml_Mo_280 : Cond.methodLink "PutOffWicksModel" 280 m_Mo_byLaw.1 ∈ lw_g := ch_of ch13_ok 30 rfl
theorem ml_Mo_283 : Cond.methodLink "PutOffWicksModel" 283 m_Mo_burns.1 ∈ lw_g := ch_of ch13_ok 31 rfl
theorem ml_Mo_286 : Cond.methodLink "PutOffWicksModel" 286 m_Mo_isDone.1 ∈ lw_g := ch_of ch13_ok 32 rfl
theorem ml_Mo_289 : Cond.methodLink "PutOffWicksModel" 289 m_Mo_isPutOff.1 ∈ lw_g := ch_of ch13_ok 33 rfl
theorem ml_Mo_292 : Cond.methodLink "PutOffWicksModel" 292 m_Mo_goesOn.1 ∈ lw_g := ch_of ch13_ok 34 rfl
theorem ml_Mo_295 : Cond.methodLink "PutOffWicksModel" 295 m_Mo_dayGoes.1 ∈ lw_g := ch_of ch13_ok 35 rfl
theorem ml_Mo_298 : Cond.methodLink "PutOffWicksModel" 298 m_Mo_daysGo.1 ∈ lw_g := ch_of ch13_ok 36 rfl
theorem ml_Mo_301 : Cond.methodLink "PutOffWicksModel" 301 m_Mo_copies.1 ∈ lw_g := ch_of ch13_ok 37 rfl
theorem ml_Mo_305 : Cond.methodLink "PutOffWicksModel" 305 m_Mo_setOf.1 ∈ lw_g := ch_of ch13_ok 38 rfl
theorem ml_Mo_308 : Cond.methodLink "PutOffWicksModel" 308 m_Mo_daysOf.1 ∈ lw_g := ch_of ch13_ok 39 rfl
theorem ml_Mo_311 : Cond.methodLink "PutOffWicksModel" 311 m_Mo_placeOf.1 ∈ lw_g := ch_of ch13_ok 40 rfl
theorem ml_Mo_314 : Cond.methodLink "PutOffWicksModel" 314 m_Mo_has.1 ∈ lw_g := ch_of ch13_ok 41 rfl
theorem ml_Mo_317 : Cond.methodLink "PutOffWicksModel" 317 m_Mo_waysTo.1 ∈ lw_g := ch_of ch13_ok 42 rfl
theorem ml_Mo_320 : Cond.methodLink "PutOffWicksModel" 320 m_Mo_lightOf.1 ∈ lw_g := ch_of ch13_ok 43 rfl
theorem ml_Mo_332 : Cond.methodLink "PutOffWicksModel" 332 m_Mo_readsTimes.1 ∈ lw_g := ch_of ch13_ok 44 rfl
theorem ml_Mo_338 : Cond.methodLink "PutOffWicksModel" 338 m_Mo_repeats.1 ∈ lw_g := ch_of ch13_ok 45 rfl
theorem ml_Mo_341 : Cond.methodLink "PutOffWicksModel" 341 m_Mo_size.1 ∈ lw_g := ch_of ch13_ok 46 rfl
theorem ml_Mo_344 : Cond.methodLink "PutOffWicksModel" 344 m_Mo_comesOut.1 ∈ lw_g := ch_of ch13_ok 47 rfl
theorem ml_Mo_347 : Cond.methodLink "PutOffWicksModel" 347 m_Mo_areHome.1 ∈ lw_g := ch_of ch13_ok 48 rfl
theorem ml_Mo_350 : Cond.methodLink "PutOffWicksModel" 350 m_Mo_readsTurn.1 ∈ lw_g := ch_of ch13_ok 49 rfl
theorem ml_Mo_353 : Cond.methodLink "PutOffWicksModel" 353 m_Mo_turnsAll.1 ∈ lw_g := ch_of ch14_ok 0 rfl
theorem ml_Mo_356 : Cond.methodLink "PutOffWicksModel" 356 m_Mo_overs.1 ∈ lw_g := ch_of ch14_ok 1 rfl
theorem ml_Mo_359 : Cond.methodLink "PutOffWicksModel" 359 m_Mo_shortened.1 ∈ lw_g := ch_of ch14_ok 2 rfl
theorem ml_Mo_362 : Cond.methodLink "PutOffWicksModel" 362 m_Mo_oftenTill.1 ∈ lw_g := ch_of ch14_ok 3 rfl
theorem ml_Mo_367 : Cond.methodLink "PutOffWicksModel" 367 m_Mo_bits.1 ∈ lw_g := ch_of ch14_ok 4 rfl
theorem ml_Mo_370 : Cond.methodLink "PutOffWicksModel" 370 m_Mo_octet.1 ∈ lw_g := ch_of ch14_ok 5 rfl
theorem ml_Mo_373 : Cond.methodLink "PutOffWicksModel" 373 m_Mo_forEver.1 ∈ lw_g := ch_of ch14_ok 6 rfl
theorem ml_Mo_376 : Cond.methodLink "PutOffWicksModel" 376 m_Mo_mustEnd.1 ∈ lw_g := ch_of ch14_ok 7 rfl
theorem ml_Mo_379 : Cond.methodLink "PutOffWicksModel" 379 m_Mo_changesRow.1 ∈ lw_g := ch_of ch14_ok 8 rfl
theorem ml_Mo_382 : Cond.methodLink "PutOffWicksModel" 382 m_Mo_hoursOfRow.1 ∈ lw_g := ch_of ch14_ok 9 rfl
theorem ml_Mo_385 : Cond.methodLink "PutOffWicksModel" 385 m_Mo_nextRow.1 ∈ lw_g := ch_of ch14_ok 10 rfl
theorem ml_Mo_388 : Cond.methodLink "PutOffWicksModel" 388 m_Mo_leastLater.1 ∈ lw_g := ch_of ch14_ok 11 rfl
theorem ml_Mo_391 : Cond.methodLink "PutOffWicksModel" 391 m_Mo_knowing.1 ∈ lw_g := ch_of ch14_ok 12 rfl
theorem ml_Mo_394 : Cond.methodLink "PutOffWicksModel" 394 m_Mo_unknowing.1 ∈ lw_g := ch_of ch14_ok 13 rfl
theorem ml_Mo_397 : Cond.methodLink "PutOffWicksModel" 397 m_Mo_isSeen.1 ∈ lw_g := ch_of ch14_ok 14 rfl
theorem ml_Mo_400 : Cond.methodLink "PutOffWicksModel" 400 m_Mo_seenAt.1 ∈ lw_g := ch_of ch14_ok 15 rfl
theorem ml_Mo_403 : Cond.methodLink "PutOffWicksModel" 403 m_Mo_brightOf.1 ∈ lw_g := ch_of ch14_ok 16 rfl
theorem ml_Mo_406 : Cond.methodLink "PutOffWicksModel" 406 m_Mo_isBetter.1 ∈ lw_g := ch_of ch14_ok 17 rfl
theorem ml_Mo_416 : Cond.methodLink "PutOffWicksModel" 416 m_Mo_whoHasLeft.1 ∈ lw_g := ch_of ch14_ok 18 rfl
theorem fl_W_10 : FL "PutOffWicks" 10 11 0 := ⟨"PutOffWicks", T_11, 14, rfl, by decide, ch_of ch14_ok 19 rfl, iw_11⟩
theorem fl_W_21 : FL "PutOffWicks" 21 11 1 := ⟨"PutOffWicks", T_11, 14, rfl, by decide, ch_of ch14_ok 20 rfl, iw_11⟩
theorem fl_W_28 : FL "PutOffWicks" 28 11 2 := ⟨"PutOffWicks", T_11, 14, rfl, by decide, ch_of ch14_ok 21 rfl, iw_11⟩
theorem fl_W_32 : FL "PutOffWicks" 32 11 3 := ⟨"PutOffWicks", T_11, 14, rfl, by decide, ch_of ch14_ok 22 rfl, iw_11⟩
theorem fl_W_35 : FL "PutOffWicks" 35 11 4 := ⟨"PutOffWicks", T_11, 14, rfl, by decide, ch_of ch14_ok 23 rfl, iw_11⟩
theorem fl_W_43 : FL "PutOffWicks" 43 11 5 := ⟨"PutOffWicks", T_11, 14, rfl, by decide, ch_of ch14_ok 24 rfl, iw_11⟩
theorem fl_W_50 : FL "PutOffWicks" 50 11 6 := ⟨"PutOffWicks", T_11, 14, rfl, by decide, ch_of ch14_ok 25 rfl, iw_11⟩
theorem fl_W_54 : FL "PutOffWicks" 54 11 7 := ⟨"PutOffWicks", T_11, 14, rfl, by decide, ch_of ch14_ok 26 rfl, iw_11⟩
theorem fl_W_67 : FL "PutOffWicks" 67 11 8 := ⟨"PutOffWicks", T_11, 14, rfl, by decide, ch_of ch14_ok 27 rfl, iw_11⟩
theorem fl_W_74 : FL "PutOffWicks" 74 11 9 := ⟨"PutOffWicks", T_11, 14, rfl, by decide, ch_of ch14_ok 28 rfl, iw_11⟩
theorem fl_W_81 : FL "PutOffWicks" 81 11 10 := ⟨"PutOffWicks", T_11, 14, rfl, by decide, ch_of ch14_ok 29 rfl, iw_11⟩
theorem fl_W_88 : FL "PutOffWicks" 88 11 11 := ⟨"PutOffWicks", T_11, 14, rfl, by decide, ch_of ch14_ok 30 rfl, iw_11⟩
theorem fl_W_95 : FL "PutOffWicks" 95 11 12 := ⟨"PutOffWicks", T_11, 14, rfl, by decide, ch_of ch14_ok 31 rfl, iw_11⟩
theorem fl_W_99 : FL "PutOffWicks" 99 11 13 := ⟨"PutOffWicks", T_11, 14, rfl, by decide, ch_of ch14_ok 32 rfl, iw_11⟩
theorem fp_W_99 : FP "PutOffWicks" 99 11 13 .boolean := ⟨"PutOffWicks", T_11, 14, ty_11, rfl, by decide, ch_of ch14_ok 32 rfl, iw_11, tk_11, nm_11, rfl, by decide +kernel⟩
theorem fl_W_103 : FL "PutOffWicks" 103 2 9 := ⟨"PutOffWicks$Parish", T_2, 10, rfl, by decide, ch_of ch14_ok 33 rfl, iw_2⟩
theorem fp_W_103 : FP "PutOffWicks" 103 2 9 .int := ⟨"PutOffWicks$Parish", T_2, 10, ty_2, rfl, by decide, ch_of ch14_ok 33 rfl, iw_2, tk_2, nm_2, rfl, by decide +kernel⟩
theorem fl_W_114 : FL "PutOffWicks" 114 2 2 := ⟨"PutOffWicks$Parish", T_2, 10, rfl, by decide, ch_of ch14_ok 34 rfl, iw_2⟩
theorem fl_W_130 : FL "PutOffWicks" 130 8 2 := ⟨"PutOffWicks$Tape", T_8, 3, rfl, by decide, ch_of ch14_ok 35 rfl, iw_8⟩
theorem fl_W_148 : FL "PutOffWicks" 148 1 8 := ⟨"PutOffWicks$Law", T_1, 9, rfl, by decide, ch_of ch14_ok 36 rfl, iw_1⟩
theorem fl_W_152 : FL "PutOffWicks" 152 3 1 := ⟨"PutOffWicks$ParishReader", T_3, 2, rfl, by decide, ch_of ch14_ok 37 rfl, iw_3⟩
theorem fl_W_159 : FL "PutOffWicks" 159 2 6 := ⟨"PutOffWicks$Parish", T_2, 10, rfl, by decide, ch_of ch14_ok 38 rfl, iw_2⟩
theorem fl_W_168 : FL "PutOffWicks" 168 2 3 := ⟨"PutOffWicks$Parish", T_2, 10, rfl, by decide, ch_of ch14_ok 39 rfl, iw_2⟩
theorem fl_W_171 : FL "PutOffWicks" 171 2 7 := ⟨"PutOffWicks$Parish", T_2, 10, rfl, by decide, ch_of ch14_ok 40 rfl, iw_2⟩
theorem fl_W_174 : FL "PutOffWicks" 174 2 4 := ⟨"PutOffWicks$Parish", T_2, 10, rfl, by decide, ch_of ch14_ok 41 rfl, iw_2⟩
theorem fl_W_177 : FL "PutOffWicks" 177 2 5 := ⟨"PutOffWicks$Parish", T_2, 10, rfl, by decide, ch_of ch14_ok 42 rfl, iw_2⟩
theorem fl_W_180 : FL "PutOffWicks" 180 2 0 := ⟨"PutOffWicks$Parish", T_2, 10, rfl, by decide, ch_of ch14_ok 43 rfl, iw_2⟩
theorem fl_W_186 : FL "PutOffWicks" 186 2 1 := ⟨"PutOffWicks$Parish", T_2, 10, rfl, by decide, ch_of ch14_ok 44 rfl, iw_2⟩
theorem fl_W_210 : FL "PutOffWicks" 210 9 8 := ⟨"PutOffWicks$Twist", T_9, 9, rfl, by decide, ch_of ch14_ok 45 rfl, iw_9⟩
theorem fl_W_277 : FL "PutOffWicks" 277 2 8 := ⟨"PutOffWicks$Parish", T_2, 10, rfl, by decide, ch_of ch14_ok 46 rfl, iw_2⟩
theorem fl_Almanac_9 : FL "PutOffWicks$Almanac" 9 0 0 := ⟨"PutOffWicks$Almanac", T_0, 1, rfl, by decide, ch_of ch14_ok 47 rfl, iw_0⟩
theorem fl_Almanac_15 : FL "PutOffWicks$Almanac" 15 2 5 := ⟨"PutOffWicks$Parish", T_2, 10, rfl, by decide, ch_of ch14_ok 48 rfl, iw_2⟩
theorem fl_Almanac_27 : FL "PutOffWicks$Almanac" 27 2 8 := ⟨"PutOffWicks$Parish", T_2, 10, rfl, by decide, ch_of ch14_ok 49 rfl, iw_2⟩
theorem fp_Almanac_27 : FP "PutOffWicks$Almanac" 27 2 8 .int := ⟨"PutOffWicks$Parish", T_2, 10, ty_2, rfl, by decide, ch_of ch14_ok 49 rfl, iw_2, tk_2, nm_2, rfl, by decide +kernel⟩
theorem fl_Almanac_30 : FL "PutOffWicks$Almanac" 30 2 6 := ⟨"PutOffWicks$Parish", T_2, 10, rfl, by decide, ch_of ch15_ok 0 rfl, iw_2⟩
theorem fl_Almanac_55 : FL "PutOffWicks$Almanac" 55 2 2 := ⟨"PutOffWicks$Parish", T_2, 10, rfl, by decide, ch_of ch15_ok 1 rfl, iw_2⟩
theorem fl_Law_11 : FL "PutOffWicks$Law" 11 1 1 := ⟨"PutOffWicks$Law", T_1, 9, rfl, by decide, ch_of ch15_ok 2 rfl, iw_1⟩
theorem fl_Law_15 : FL "PutOffWicks$Law" 15 1 2 := ⟨"PutOffWicks$Law", T_1, 9, rfl, by decide, ch_of ch15_ok 3 rfl, iw_1⟩
theorem fl_Law_18 : FL "PutOffWicks$Law" 18 1 3 := ⟨"PutOffWicks$Law", T_1, 9, rfl, by decide, ch_of ch15_ok 4 rfl, iw_1⟩
theorem fl_Law_21 : FL "PutOffWicks$Law" 21 1 4 := ⟨"PutOffWicks$Law", T_1, 9, rfl, by decide, ch_of ch15_ok 5 rfl, iw_1⟩
theorem fl_Law_24 : FL "PutOffWicks$Law" 24 1 5 := ⟨"PutOffWicks$Law", T_1, 9, rfl, by decide, ch_of ch15_ok 6 rfl, iw_1⟩
theorem fl_Law_27 : FL "PutOffWicks$Law" 27 1 6 := ⟨"PutOffWicks$Law", T_1, 9, rfl, by decide, ch_of ch15_ok 7 rfl, iw_1⟩
theorem fl_Law_30 : FL "PutOffWicks$Law" 30 1 7 := ⟨"PutOffWicks$Law", T_1, 9, rfl, by decide, ch_of ch15_ok 8 rfl, iw_1⟩
theorem fp_Law_30 : FP "PutOffWicks$Law" 30 1 7 .int := ⟨"PutOffWicks$Law", T_1, 9, ty_1, rfl, by decide, ch_of ch15_ok 8 rfl, iw_1, tk_1, nm_1, rfl, by decide +kernel⟩
theorem fl_Law_34 : FL "PutOffWicks$Law" 34 1 8 := ⟨"PutOffWicks$Law", T_1, 9, rfl, by decide, ch_of ch15_ok 9 rfl, iw_1⟩
theorem fp_Law_34 : FP "PutOffWicks$Law" 34 1 8 .int := ⟨"PutOffWicks$Law", T_1, 9, ty_1, rfl, by decide, ch_of ch15_ok 9 rfl, iw_1, tk_1, nm_1, rfl, by decide +kernel⟩
theorem fl_Law_37 : FL "PutOffWicks$Law" 37 1 0 := ⟨"PutOffWicks$Law", T_1, 9, rfl, by decide, ch_of ch15_ok 10 rfl, iw_1⟩
theorem fl_Law_56 : FL "PutOffWicks$Law" 56 4 1 := ⟨"PutOffWicks$Reading", T_4, 3, rfl, by decide, ch_of ch15_ok 11 rfl, iw_4⟩
theorem fp_Law_56 : FP "PutOffWicks$Law" 56 4 1 .int := ⟨"PutOffWicks$Reading", T_4, 3, ty_4, rfl, by decide, ch_of ch15_ok 11 rfl, iw_4, tk_4, nm_4, rfl, by decide +kernel⟩
theorem fl_Law_81 : FL "PutOffWicks$Law" 81 4 2 := ⟨"PutOffWicks$Reading", T_4, 3, rfl, by decide, ch_of ch15_ok 12 rfl, iw_4⟩
theorem fl_Parish_9 : FL "PutOffWicks$Parish" 9 2 0 := ⟨"PutOffWicks$Parish", T_2, 10, rfl, by decide, ch_of ch15_ok 13 rfl, iw_2⟩
theorem fl_Parish_15 : FL "PutOffWicks$Parish" 15 2 1 := ⟨"PutOffWicks$Parish", T_2, 10, rfl, by decide, ch_of ch15_ok 14 rfl, iw_2⟩
theorem fl_Parish_18 : FL "PutOffWicks$Parish" 18 2 2 := ⟨"PutOffWicks$Parish", T_2, 10, rfl, by decide, ch_of ch15_ok 15 rfl, iw_2⟩
theorem fl_Parish_21 : FL "PutOffWicks$Parish" 21 2 3 := ⟨"PutOffWicks$Parish", T_2, 10, rfl, by decide, ch_of ch15_ok 16 rfl, iw_2⟩
theorem fl_Parish_24 : FL "PutOffWicks$Parish" 24 2 4 := ⟨"PutOffWicks$Parish", T_2, 10, rfl, by decide, ch_of ch15_ok 17 rfl, iw_2⟩
theorem fp_Parish_24 : FP "PutOffWicks$Parish" 24 2 4 .int := ⟨"PutOffWicks$Parish", T_2, 10, ty_2, rfl, by decide, ch_of ch15_ok 17 rfl, iw_2, tk_2, nm_2, rfl, by decide +kernel⟩
theorem fl_Parish_28 : FL "PutOffWicks$Parish" 28 2 5 := ⟨"PutOffWicks$Parish", T_2, 10, rfl, by decide, ch_of ch15_ok 18 rfl, iw_2⟩
theorem fp_Parish_28 : FP "PutOffWicks$Parish" 28 2 5 .int := ⟨"PutOffWicks$Parish", T_2, 10, ty_2, rfl, by decide, ch_of ch15_ok 18 rfl, iw_2, tk_2, nm_2, rfl, by decide +kernel⟩
theorem fl_Parish_31 : FL "PutOffWicks$Parish" 31 2 6 := ⟨"PutOffWicks$Parish", T_2, 10, rfl, by decide, ch_of ch15_ok 19 rfl, iw_2⟩
theorem fp_Parish_31 : FP "PutOffWicks$Parish" 31 2 6 .int := ⟨"PutOffWicks$Parish", T_2, 10, ty_2, rfl, by decide, ch_of ch15_ok 19 rfl, iw_2, tk_2, nm_2, rfl, by decide +kernel⟩
theorem fl_Parish_34 : FL "PutOffWicks$Parish" 34 2 7 := ⟨"PutOffWicks$Parish", T_2, 10, rfl, by decide, ch_of ch15_ok 20 rfl, iw_2⟩
theorem fp_Parish_34 : FP "PutOffWicks$Parish" 34 2 7 .int := ⟨"PutOffWicks$Parish", T_2, 10, ty_2, rfl, by decide, ch_of ch15_ok 20 rfl, iw_2, tk_2, nm_2, rfl, by decide +kernel⟩
theorem fl_Parish_37 : FL "PutOffWicks$Parish" 37 2 8 := ⟨"PutOffWicks$Parish", T_2, 10, rfl, by decide, ch_of ch15_ok 21 rfl, iw_2⟩
theorem fp_Parish_37 : FP "PutOffWicks$Parish" 37 2 8 .int := ⟨"PutOffWicks$Parish", T_2, 10, ty_2, rfl, by decide, ch_of ch15_ok 21 rfl, iw_2, tk_2, nm_2, rfl, by decide +kernel⟩
theorem fl_Parish_40 : FL "PutOffWicks$Parish" 40 2 9 := ⟨"PutOffWicks$Parish", T_2, 10, rfl, by decide, ch_of ch15_ok 22 rfl, iw_2⟩
theorem fp_Parish_40 : FP "PutOffWicks$Parish" 40 2 9 .int := ⟨"PutOffWicks$Parish", T_2, 10, ty_2, rfl, by decide, ch_of ch15_ok 22 rfl, iw_2, tk_2, nm_2, rfl, by decide +kernel⟩
theorem fl_ParishReader_12 : FL "PutOffWicks$ParishReader" 12 3 1 := ⟨"PutOffWicks$ParishReader", T_3, 2, rfl, by decide, ch_of ch15_ok 23 rfl, iw_3⟩
theorem fl_ParishReader_18 : FL "PutOffWicks$ParishReader" 18 3 0 := ⟨"PutOffWicks$ParishReader", T_3, 2, rfl, by decide, ch_of ch15_ok 24 rfl, iw_3⟩
theorem fl_ParishReader_27 : FL "PutOffWicks$ParishReader" 27 2 4 := ⟨"PutOffWicks$Parish", T_2, 10, rfl, by decide, ch_of ch15_ok 25 rfl, iw_2⟩
theorem fp_ParishReader_27 : FP "PutOffWicks$ParishReader" 27 2 4 .int := ⟨"PutOffWicks$Parish", T_2, 10, ty_2, rfl, by decide, ch_of ch15_ok 25 rfl, iw_2, tk_2, nm_2, rfl, by decide +kernel⟩
theorem fl_ParishReader_31 : FL "PutOffWicks$ParishReader" 31 2 6 := ⟨"PutOffWicks$Parish", T_2, 10, rfl, by decide, ch_of ch15_ok 26 rfl, iw_2⟩
theorem fp_ParishReader_31 : FP "PutOffWicks$ParishReader" 31 2 6 .int := ⟨"PutOffWicks$Parish", T_2, 10, ty_2, rfl, by decide, ch_of ch15_ok 26 rfl, iw_2, tk_2, nm_2, rfl, by decide +kernel⟩
theorem fl_ParishReader_42 : FL "PutOffWicks$ParishReader" 42 4 2 := ⟨"PutOffWicks$Reading", T_4, 3, rfl, by decide, ch_of ch15_ok 27 rfl, iw_4⟩
theorem fl_ParishReader_49 : FL "PutOffWicks$ParishReader" 49 4 1 := ⟨"PutOffWicks$Reading", T_4, 3, rfl, by decide, ch_of ch15_ok 28 rfl, iw_4⟩
theorem fp_ParishReader_49 : FP "PutOffWicks$ParishReader" 49 4 1 .int := ⟨"PutOffWicks$Reading", T_4, 3, ty_4, rfl, by decide, ch_of ch15_ok 28 rfl, iw_4, tk_4, nm_4, rfl, by decide +kernel⟩
theorem fl_ParishReader_67 : FL "PutOffWicks$ParishReader" 67 2 0 := ⟨"PutOffWicks$Parish", T_2, 10, rfl, by decide, ch_of ch15_ok 29 rfl, iw_2⟩
theorem fl_ParishReader_71 : FL "PutOffWicks$ParishReader" 71 2 2 := ⟨"PutOffWicks$Parish", T_2, 10, rfl, by decide, ch_of ch15_ok 30 rfl, iw_2⟩
theorem fl_ParishReader_78 : FL "PutOffWicks$ParishReader" 78 2 1 := ⟨"PutOffWicks$Parish", T_2, 10, rfl, by decide, ch_of ch15_ok 31 rfl, iw_2⟩
theorem fl_Reading_7 : FL "PutOffWicks$Reading" 7 4 1 := ⟨"PutOffWicks$Reading", T_4, 3, rfl, by decide, ch_of ch15_ok 32 rfl, iw_4⟩
theorem fp_Reading_7 : FP "PutOffWicks$Reading" 7 4 1 .int := ⟨"PutOffWicks$Reading", T_4, 3, ty_4, rfl, by decide, ch_of ch15_ok 32 rfl, iw_4, tk_4, nm_4, rfl, by decide +kernel⟩
theorem fl_Reading_13 : FL "PutOffWicks$Reading" 13 4 2 := ⟨"PutOffWicks$Reading", T_4, 3, rfl, by decide, ch_of ch15_ok 33 rfl, iw_4⟩
theorem fp_Reading_13 : FP "PutOffWicks$Reading" 13 4 2 .int := ⟨"PutOffWicks$Reading", T_4, 3, ty_4, rfl, by decide, ch_of ch15_ok 33 rfl, iw_4, tk_4, nm_4, rfl, by decide +kernel⟩
theorem fl_Reading_16 : FL "PutOffWicks$Reading" 16 4 0 := ⟨"PutOffWicks$Reading", T_4, 3, rfl, by decide, ch_of ch15_ok 34 rfl, iw_4⟩
theorem fl_Reckoner_11 : FL "PutOffWicks$Reckoner" 11 5 1 := ⟨"PutOffWicks$Reckoner", T_5, 7, rfl, by decide, ch_of ch15_ok 35 rfl, iw_5⟩
theorem fl_Reckoner_15 : FL "PutOffWicks$Reckoner" 15 5 2 := ⟨"PutOffWicks$Reckoner", T_5, 7, rfl, by decide, ch_of ch15_ok 36 rfl, iw_5⟩
theorem fp_Reckoner_15 : FP "PutOffWicks$Reckoner" 15 5 2 .int := ⟨"PutOffWicks$Reckoner", T_5, 7, ty_5, rfl, by decide, ch_of ch15_ok 36 rfl, iw_5, tk_5, nm_5, rfl, by decide +kernel⟩
theorem fl_Reckoner_19 : FL "PutOffWicks$Reckoner" 19 5 3 := ⟨"PutOffWicks$Reckoner", T_5, 7, rfl, by decide, ch_of ch15_ok 37 rfl, iw_5⟩
theorem fp_Reckoner_19 : FP "PutOffWicks$Reckoner" 19 5 3 .boolean := ⟨"PutOffWicks$Reckoner", T_5, 7, ty_5, rfl, by decide, ch_of ch15_ok 37 rfl, iw_5, tk_5, nm_5, rfl, by decide +kernel⟩
theorem fl_Reckoner_23 : FL "PutOffWicks$Reckoner" 23 5 5 := ⟨"PutOffWicks$Reckoner", T_5, 7, rfl, by decide, ch_of ch15_ok 38 rfl, iw_5⟩
theorem fp_Reckoner_23 : FP "PutOffWicks$Reckoner" 23 5 5 .int := ⟨"PutOffWicks$Reckoner", T_5, 7, ty_5, rfl, by decide, ch_of ch15_ok 38 rfl, iw_5, tk_5, nm_5, rfl, by decide +kernel⟩
theorem fl_Reckoner_26 : FL "PutOffWicks$Reckoner" 26 5 6 := ⟨"PutOffWicks$Reckoner", T_5, 7, rfl, by decide, ch_of ch15_ok 39 rfl, iw_5⟩
theorem fp_Reckoner_26 : FP "PutOffWicks$Reckoner" 26 5 6 .int := ⟨"PutOffWicks$Reckoner", T_5, 7, ty_5, rfl, by decide, ch_of ch15_ok 39 rfl, iw_5, tk_5, nm_5, rfl, by decide +kernel⟩
theorem fl_Reckoner_29 : FL "PutOffWicks$Reckoner" 29 5 0 := ⟨"PutOffWicks$Reckoner", T_5, 7, rfl, by decide, ch_of ch15_ok 40 rfl, iw_5⟩
theorem fl_Reckoner_33 : FL "PutOffWicks$Reckoner" 33 5 4 := ⟨"PutOffWicks$Reckoner", T_5, 7, rfl, by decide, ch_of ch15_ok 41 rfl, iw_5⟩
theorem fp_Reckoner_33 : FP "PutOffWicks$Reckoner" 33 5 4 (.object "PutOffWicks$Parish") := ⟨"PutOffWicks$Reckoner", T_5, 7, ty_5, rfl, by decide, ch_of ch15_ok 41 rfl, iw_5, tk_5, nm_5, rfl, by decide +kernel⟩
theorem fl_Reckoner_37 : FL "PutOffWicks$Reckoner" 37 1 8 := ⟨"PutOffWicks$Law", T_1, 9, rfl, by decide, ch_of ch15_ok 42 rfl, iw_1⟩
theorem fl_Reckoner_42 : FL "PutOffWicks$Reckoner" 42 1 3 := ⟨"PutOffWicks$Law", T_1, 9, rfl, by decide, ch_of ch15_ok 43 rfl, iw_1⟩
theorem fl_Reckoner_45 : FL "PutOffWicks$Reckoner" 45 1 5 := ⟨"PutOffWicks$Law", T_1, 9, rfl, by decide, ch_of ch15_ok 44 rfl, iw_1⟩
theorem fl_Reckoner_48 : FL "PutOffWicks$Reckoner" 48 1 6 := ⟨"PutOffWicks$Law", T_1, 9, rfl, by decide, ch_of ch15_ok 45 rfl, iw_1⟩
theorem fl_Reckoner_55 : FL "PutOffWicks$Reckoner" 55 1 4 := ⟨"PutOffWicks$Law", T_1, 9, rfl, by decide, ch_of ch15_ok 46 rfl, iw_1⟩
theorem fl_Reckoner_66 : FL "PutOffWicks$Reckoner" 66 1 1 := ⟨"PutOffWicks$Law", T_1, 9, rfl, by decide, ch_of ch15_ok 47 rfl, iw_1⟩
theorem fl_Reckoner_69 : FL "PutOffWicks$Reckoner" 69 1 2 := ⟨"PutOffWicks$Law", T_1, 9, rfl, by decide, ch_of ch15_ok 48 rfl, iw_1⟩
theorem fl_Reckoner_94 : FL "PutOffWicks$Reckoner" 94 2 0 := ⟨"PutOffWicks$Parish", T_2, 10, rfl, by decide, ch_of ch15_ok 49 rfl, iw_2⟩
theorem fl_Reckoner_97 : FL "PutOffWicks$Reckoner" 97 2 3 := ⟨"PutOffWicks$Parish", T_2, 10, rfl, by decide, ch_of ch16_ok 0 rfl, iw_2⟩
theorem fl_Reckoner_100 : FL "PutOffWicks$Reckoner" 100 2 2 := ⟨"PutOffWicks$Parish", T_2, 10, rfl, by decide, ch_of ch16_ok 1 rfl, iw_2⟩
theorem fl_Reckoner_112 : FL "PutOffWicks$Reckoner" 112 2 8 := ⟨"PutOffWicks$Parish", T_2, 10, rfl, by decide, ch_of ch16_ok 2 rfl, iw_2⟩
theorem fl_Rows_9 : FL "PutOffWicks$Rows" 9 6 0 := ⟨"PutOffWicks$Rows", T_6, 1, rfl, by decide, ch_of ch16_ok 3 rfl, iw_6⟩
theorem fl_Shore_9 : FL "PutOffWicks$Shore" 9 7 1 := ⟨"PutOffWicks$Shore", T_7, 2, rfl, by decide, ch_of ch16_ok 4 rfl, iw_7⟩
theorem fl_Shore_13 : FL "PutOffWicks$Shore" 13 7 0 := ⟨"PutOffWicks$Shore", T_7, 2, rfl, by decide, ch_of ch16_ok 5 rfl, iw_7⟩
theorem fl_Tape_9 : FL "PutOffWicks$Tape" 9 8 0 := ⟨"PutOffWicks$Tape", T_8, 3, rfl, by decide, ch_of ch16_ok 6 rfl, iw_8⟩
theorem fl_Tape_13 : FL "PutOffWicks$Tape" 13 8 1 := ⟨"PutOffWicks$Tape", T_8, 3, rfl, by decide, ch_of ch16_ok 7 rfl, iw_8⟩
theorem fp_Tape_13 : FP "PutOffWicks$Tape" 13 8 1 .int := ⟨"PutOffWicks$Tape", T_8, 3, ty_8, rfl, by decide, ch_of ch16_ok 7 rfl, iw_8, tk_8, nm_8, rfl, by decide +kernel⟩
theorem fl_Tape_17 : FL "PutOffWicks$Tape" 17 8 2 := ⟨"PutOffWicks$Tape", T_8, 3, rfl, by decide, ch_of ch16_ok 8 rfl, iw_8⟩
theorem fp_Tape_17 : FP "PutOffWicks$Tape" 17 8 2 .int := ⟨"PutOffWicks$Tape", T_8, 3, ty_8, rfl, by decide, ch_of ch16_ok 8 rfl, iw_8, tk_8, nm_8, rfl, by decide +kernel⟩
theorem fl_Twist_11 : FL "PutOffWicks$Twist" 11 9 1 := ⟨"PutOffWicks$Twist", T_9, 9, rfl, by decide, ch_of ch16_ok 9 rfl, iw_9⟩
theorem fl_Twist_15 : FL "PutOffWicks$Twist" 15 9 2 := ⟨"PutOffWicks$Twist", T_9, 9, rfl, by decide, ch_of ch16_ok 10 rfl, iw_9⟩
theorem fl_Twist_18 : FL "PutOffWicks$Twist" 18 9 3 := ⟨"PutOffWicks$Twist", T_9, 9, rfl, by decide, ch_of ch16_ok 11 rfl, iw_9⟩
theorem fl_Twist_21 : FL "PutOffWicks$Twist" 21 9 4 := ⟨"PutOffWicks$Twist", T_9, 9, rfl, by decide, ch_of ch16_ok 12 rfl, iw_9⟩
theorem fl_Twist_24 : FL "PutOffWicks$Twist" 24 9 5 := ⟨"PutOffWicks$Twist", T_9, 9, rfl, by decide, ch_of ch16_ok 13 rfl, iw_9⟩
theorem fl_Twist_27 : FL "PutOffWicks$Twist" 27 9 6 := ⟨"PutOffWicks$Twist", T_9, 9, rfl, by decide, ch_of ch16_ok 14 rfl, iw_9⟩
theorem fl_Twist_30 : FL "PutOffWicks$Twist" 30 9 7 := ⟨"PutOffWicks$Twist", T_9, 9, rfl, by decide, ch_of ch16_ok 15 rfl, iw_9⟩
theorem fp_Twist_30 : FP "PutOffWicks$Twist" 30 9 7 .int := ⟨"PutOffWicks$Twist", T_9, 9, ty_9, rfl, by decide, ch_of ch16_ok 15 rfl, iw_9, tk_9, nm_9, rfl, by decide +kernel⟩
theorem fl_Twist_34 : FL "PutOffWicks$Twist" 34 9 8 := ⟨"PutOffWicks$Twist", T_9, 9, rfl, by decide, ch_of ch16_ok 16 rfl, iw_9⟩
theorem fp_Twist_34 : FP "PutOffWicks$Twist" 34 9 8 .int := ⟨"PutOffWicks$Twist", T_9, 9, ty_9, rfl, by decide, ch_of ch16_ok 16 rfl, iw_9, tk_9, nm_9, rfl, by decide +kernel⟩
theorem fl_Twist_37 : FL "PutOffWicks$Twist" 37 9 0 := ⟨"PutOffWicks$Twist", T_9, 9, rfl, by decide, ch_of ch16_ok 17 rfl, iw_9⟩
theorem fl_Twist_50 : FL "PutOffWicks$Twist" 50 4 1 := ⟨"PutOffWicks$Reading", T_4, 3, rfl, by decide, ch_of ch16_ok 18 rfl, iw_4⟩
theorem fp_Twist_50 : FP "PutOffWicks$Twist" 50 4 1 .int := ⟨"PutOffWicks$Reading", T_4, 3, ty_4, rfl, by decide, ch_of ch16_ok 18 rfl, iw_4, tk_4, nm_4, rfl, by decide +kernel⟩
theorem fl_Twist_78 : FL "PutOffWicks$Twist" 78 4 2 := ⟨"PutOffWicks$Reading", T_4, 3, rfl, by decide, ch_of ch16_ok 19 rfl, iw_4⟩
theorem fl_Waits_9 : FL "PutOffWicks$Waits" 9 10 1 := ⟨"PutOffWicks$Waits", T_10, 5, rfl, by decide, ch_of ch16_ok 20 rfl, iw_10⟩
theorem fl_Waits_15 : FL "PutOffWicks$Waits" 15 10 2 := ⟨"PutOffWicks$Waits", T_10, 5, rfl, by decide, ch_of ch16_ok 21 rfl, iw_10⟩
theorem fl_Waits_18 : FL "PutOffWicks$Waits" 18 10 3 := ⟨"PutOffWicks$Waits", T_10, 5, rfl, by decide, ch_of ch16_ok 22 rfl, iw_10⟩
theorem fl_Waits_21 : FL "PutOffWicks$Waits" 21 10 4 := ⟨"PutOffWicks$Waits", T_10, 5, rfl, by decide, ch_of ch16_ok 23 rfl, iw_10⟩
theorem fl_Waits_24 : FL "PutOffWicks$Waits" 24 10 0 := ⟨"PutOffWicks$Waits", T_10, 5, rfl, by decide, ch_of ch16_ok 24 rfl, iw_10⟩
theorem fl_Mo_7 : FL "PutOffWicksModel" 7 12 0 := ⟨"PutOffWicksModel", T_12, 55, rfl, by decide, ch_of ch16_ok 25 rfl, iw_12⟩
theorem fl_Mo_13 : FL "PutOffWicksModel" 13 12 1 := ⟨"PutOffWicksModel", T_12, 55, rfl, by decide, ch_of ch16_ok 26 rfl, iw_12⟩
theorem fl_Mo_16 : FL "PutOffWicksModel" 16 12 2 := ⟨"PutOffWicksModel", T_12, 55, rfl, by decide, ch_of ch16_ok 27 rfl, iw_12⟩
theorem fl_Mo_19 : FL "PutOffWicksModel" 19 12 3 := ⟨"PutOffWicksModel", T_12, 55, rfl, by decide, ch_of ch16_ok 28 rfl, iw_12⟩
theorem fl_Mo_22 : FL "PutOffWicksModel" 22 12 4 := ⟨"PutOffWicksModel", T_12, 55, rfl, by decide, ch_of ch16_ok 29 rfl, iw_12⟩
theorem fl_Mo_25 : FL "PutOffWicksModel" 25 12 6 := ⟨"PutOffWicksModel", T_12, 55, rfl, by decide, ch_of ch16_ok 30 rfl, iw_12⟩
theorem fl_Mo_29 : FL "PutOffWicksModel" 29 12 17 := ⟨"PutOffWicksModel", T_12, 55, rfl, by decide, ch_of ch16_ok 31 rfl, iw_12⟩
theorem fl_Mo_32 : FL "PutOffWicksModel" 32 12 18 := ⟨"PutOffWicksModel", T_12, 55, rfl, by decide, ch_of ch16_ok 32 rfl, iw_12⟩
theorem fl_Mo_35 : FL "PutOffWicksModel" 35 12 19 := ⟨"PutOffWicksModel", T_12, 55, rfl, by decide, ch_of ch16_ok 33 rfl, iw_12⟩
theorem fl_Mo_38 : FL "PutOffWicksModel" 38 12 20 := ⟨"PutOffWicksModel", T_12, 55, rfl, by decide, ch_of ch16_ok 34 rfl, iw_12⟩
theorem fl_Mo_41 : FL "PutOffWicksModel" 41 12 21 := ⟨"PutOffWicksModel", T_12, 55, rfl, by decide, ch_of ch16_ok 35 rfl, iw_12⟩
theorem fl_Mo_44 : FL "PutOffWicksModel" 44 12 22 := ⟨"PutOffWicksModel", T_12, 55, rfl, by decide, ch_of ch16_ok 36 rfl, iw_12⟩
theorem fl_Mo_47 : FL "PutOffWicksModel" 47 12 23 := ⟨"PutOffWicksModel", T_12, 55, rfl, by decide, ch_of ch16_ok 37 rfl, iw_12⟩
theorem fl_Mo_50 : FL "PutOffWicksModel" 50 12 24 := ⟨"PutOffWicksModel", T_12, 55, rfl, by decide, ch_of ch16_ok 38 rfl, iw_12⟩
theorem fl_Mo_53 : FL "PutOffWicksModel" 53 12 25 := ⟨"PutOffWicksModel", T_12, 55, rfl, by decide, ch_of ch16_ok 39 rfl, iw_12⟩
theorem fl_Mo_56 : FL "PutOffWicksModel" 56 12 26 := ⟨"PutOffWicksModel", T_12, 55, rfl, by decide, ch_of ch16_ok 40 rfl, iw_12⟩
theorem fl_Mo_59 : FL "PutOffWicksModel" 59 12 27 := ⟨"PutOffWicksModel", T_12, 55, rfl, by decide, ch_of ch16_ok 41 rfl, iw_12⟩
theorem fl_Mo_62 : FL "PutOffWicksModel" 62 12 28 := ⟨"PutOffWicksModel", T_12, 55, rfl, by decide, ch_of ch16_ok 42 rfl, iw_12⟩
theorem fl_Mo_65 : FL "PutOffWicksModel" 65 12 29 := ⟨"PutOffWicksModel", T_12, 55, rfl, by decide, ch_of ch16_ok 43 rfl, iw_12⟩
theorem fl_Mo_68 : FL "PutOffWicksModel" 68 12 30 := ⟨"PutOffWicksModel", T_12, 55, rfl, by decide, ch_of ch16_ok 44 rfl, iw_12⟩
theorem fl_Mo_71 : FL "PutOffWicksModel" 71 12 31 := ⟨"PutOffWicksModel", T_12, 55, rfl, by decide, ch_of ch16_ok 45 rfl, iw_12⟩
theorem fl_Mo_74 : FL "PutOffWicksModel" 74 12 32 := ⟨"PutOffWicksModel", T_12, 55, rfl, by decide, ch_of ch16_ok 46 rfl, iw_12⟩
theorem fl_Mo_77 : FL "PutOffWicksModel" 77 12 33 := ⟨"PutOffWicksModel", T_12, 55, rfl, by decide, ch_of ch16_ok 47 rfl, iw_12⟩
theorem fl_Mo_80 : FL "PutOffWicksModel" 80 12 36 := ⟨"PutOffWicksModel", T_12, 55, rfl, by decide, ch_of ch16_ok 48 rfl, iw_12⟩
theorem fl_Mo_83 : FL "PutOffWicksModel" 83 12 37 := ⟨"PutOffWicksModel", T_12, 55, rfl, by decide, ch_of ch16_ok 49 rfl, iw_12⟩
theorem fl_Mo_86 : FL "PutOffWicksModel" 86 12 38 := ⟨"PutOffWicksModel", T_12, 55, rfl, by decide, ch_of ch17_ok 0 rfl, iw_12⟩
theorem fl_Mo_89 : FL "PutOffWicksModel" 89 12 39 := ⟨"PutOffWicksModel", T_12, 55, rfl, by decide, ch_of ch17_ok 1 rfl, iw_12⟩
theorem fl_Mo_92 : FL "PutOffWicksModel" 92 12 40 := ⟨"PutOffWicksModel", T_12, 55, rfl, by decide, ch_of ch17_ok 2 rfl, iw_12⟩
theorem fl_Mo_95 : FL "PutOffWicksModel" 95 12 41 := ⟨"PutOffWicksModel", T_12, 55, rfl, by decide, ch_of ch17_ok 3 rfl, iw_12⟩
theorem fl_Mo_98 : FL "PutOffWicksModel" 98 12 42 := ⟨"PutOffWicksModel", T_12, 55, rfl, by decide, ch_of ch17_ok 4 rfl, iw_12⟩
theorem fl_Mo_101 : FL "PutOffWicksModel" 101 12 43 := ⟨"PutOffWicksModel", T_12, 55, rfl, by decide, ch_of ch17_ok 5 rfl, iw_12⟩
theorem fl_Mo_104 : FL "PutOffWicksModel" 104 12 44 := ⟨"PutOffWicksModel", T_12, 55, rfl, by decide, ch_of ch17_ok 6 rfl, iw_12⟩
theorem fl_Mo_107 : FL "PutOffWicksModel" 107 12 49 := ⟨"PutOffWicksModel", T_12, 55, rfl, by decide, ch_of ch17_ok 7 rfl, iw_12⟩
theorem fl_Mo_111 : FL "PutOffWicksModel" 111 12 50 := ⟨"PutOffWicksModel", T_12, 55, rfl, by decide, ch_of ch17_ok 8 rfl, iw_12⟩
theorem fl_Mo_114 : FL "PutOffWicksModel" 114 12 51 := ⟨"PutOffWicksModel", T_12, 55, rfl, by decide, ch_of ch17_ok 9 rfl, iw_12⟩
theorem fl_Mo_117 : FL "PutOffWicksModel" 117 12 52 := ⟨"PutOffWicksModel", T_12, 55, rfl, by decide, ch_of ch17_ok 10 rfl, iw_12⟩
theorem fl_Mo_120 : FL "PutOffWicksModel" 120 12 5 := ⟨"PutOffWicksModel", T_12, 55, rfl, by decide, ch_of ch17_ok 11 rfl, iw_12⟩
theorem fp_Mo_120 : FP "PutOffWicksModel" 120 12 5 .int := ⟨"PutOffWicksModel", T_12, 55, ty_12, rfl, by decide, ch_of ch17_ok 11 rfl, iw_12, tk_12, nm_12, rfl, by decide +kernel⟩
theorem fl_Mo_135 : FL "PutOffWicksModel" 135 12 7 := ⟨"PutOffWicksModel", T_12, 55, rfl, by decide, ch_of ch17_ok 12 rfl, iw_12⟩
theorem fp_Mo_135 : FP "PutOffWicksModel" 135 12 7 .int := ⟨"PutOffWicksModel", T_12, 55, ty_12, rfl, by decide, ch_of ch17_ok 12 rfl, iw_12, tk_12, nm_12, rfl, by decide +kernel⟩
theorem fl_Mo_142 : FL "PutOffWicksModel" 142 12 8 := ⟨"PutOffWicksModel", T_12, 55, rfl, by decide, ch_of ch17_ok 13 rfl, iw_12⟩
theorem fp_Mo_142 : FP "PutOffWicksModel" 142 12 8 .int := ⟨"PutOffWicksModel", T_12, 55, ty_12, rfl, by decide, ch_of ch17_ok 13 rfl, iw_12, tk_12, nm_12, rfl, by decide +kernel⟩
theorem fl_Mo_145 : FL "PutOffWicksModel" 145 12 9 := ⟨"PutOffWicksModel", T_12, 55, rfl, by decide, ch_of ch17_ok 14 rfl, iw_12⟩
theorem fp_Mo_145 : FP "PutOffWicksModel" 145 12 9 .int := ⟨"PutOffWicksModel", T_12, 55, ty_12, rfl, by decide, ch_of ch17_ok 14 rfl, iw_12, tk_12, nm_12, rfl, by decide +kernel⟩
theorem fl_Mo_152 : FL "PutOffWicksModel" 152 12 10 := ⟨"PutOffWicksModel", T_12, 55, rfl, by decide, ch_of ch17_ok 15 rfl, iw_12⟩
theorem fp_Mo_152 : FP "PutOffWicksModel" 152 12 10 .int := ⟨"PutOffWicksModel", T_12, 55, ty_12, rfl, by decide, ch_of ch17_ok 15 rfl, iw_12, tk_12, nm_12, rfl, by decide +kernel⟩
theorem fl_Mo_159 : FL "PutOffWicksModel" 159 12 11 := ⟨"PutOffWicksModel", T_12, 55, rfl, by decide, ch_of ch17_ok 16 rfl, iw_12⟩
theorem fp_Mo_159 : FP "PutOffWicksModel" 159 12 11 .int := ⟨"PutOffWicksModel", T_12, 55, ty_12, rfl, by decide, ch_of ch17_ok 16 rfl, iw_12, tk_12, nm_12, rfl, by decide +kernel⟩
theorem fl_Mo_166 : FL "PutOffWicksModel" 166 12 13 := ⟨"PutOffWicksModel", T_12, 55, rfl, by decide, ch_of ch17_ok 17 rfl, iw_12⟩
theorem fp_Mo_166 : FP "PutOffWicksModel" 166 12 13 .int := ⟨"PutOffWicksModel", T_12, 55, ty_12, rfl, by decide, ch_of ch17_ok 17 rfl, iw_12, tk_12, nm_12, rfl, by decide +kernel⟩
theorem fl_Mo_170 : FL "PutOffWicksModel" 170 12 12 := ⟨"PutOffWicksModel", T_12, 55, rfl, by decide, ch_of ch17_ok 18 rfl, iw_12⟩
theorem fp_Mo_170 : FP "PutOffWicksModel" 170 12 12 .int := ⟨"PutOffWicksModel", T_12, 55, ty_12, rfl, by decide, ch_of ch17_ok 18 rfl, iw_12, tk_12, nm_12, rfl, by decide +kernel⟩
theorem fl_Mo_173 : FL "PutOffWicksModel" 173 12 14 := ⟨"PutOffWicksModel", T_12, 55, rfl, by decide, ch_of ch17_ok 19 rfl, iw_12⟩
theorem fp_Mo_173 : FP "PutOffWicksModel" 173 12 14 .int := ⟨"PutOffWicksModel", T_12, 55, ty_12, rfl, by decide, ch_of ch17_ok 19 rfl, iw_12, tk_12, nm_12, rfl, by decide +kernel⟩
theorem fl_Mo_221 : FL "PutOffWicksModel" 221 12 15 := ⟨"PutOffWicksModel", T_12, 55, rfl, by decide, ch_of ch17_ok 20 rfl, iw_12⟩
theorem fp_Mo_221 : FP "PutOffWicksModel" 221 12 15 .int := ⟨"PutOffWicksModel", T_12, 55, ty_12, rfl, by decide, ch_of ch17_ok 20 rfl, iw_12, tk_12, nm_12, rfl, by decide +kernel⟩
theorem fl_Mo_236 : FL "PutOffWicksModel" 236 12 16 := ⟨"PutOffWicksModel", T_12, 55, rfl, by decide, ch_of ch17_ok 21 rfl, iw_12⟩
theorem fp_Mo_236 : FP "PutOffWicksModel" 236 12 16 .int := ⟨"PutOffWicksModel", T_12, 55, ty_12, rfl, by decide, ch_of ch17_ok 21 rfl, iw_12, tk_12, nm_12, rfl, by decide +kernel⟩
theorem fl_Mo_247 : FL "PutOffWicksModel" 247 12 34 := ⟨"PutOffWicksModel", T_12, 55, rfl, by decide, ch_of ch17_ok 22 rfl, iw_12⟩
theorem fp_Mo_247 : FP "PutOffWicksModel" 247 12 34 .int := ⟨"PutOffWicksModel", T_12, 55, ty_12, rfl, by decide, ch_of ch17_ok 22 rfl, iw_12, tk_12, nm_12, rfl, by decide +kernel⟩
theorem fl_Mo_268 : FL "PutOffWicksModel" 268 12 35 := ⟨"PutOffWicksModel", T_12, 55, rfl, by decide, ch_of ch17_ok 23 rfl, iw_12⟩
theorem fp_Mo_268 : FP "PutOffWicksModel" 268 12 35 .int := ⟨"PutOffWicksModel", T_12, 55, ty_12, rfl, by decide, ch_of ch17_ok 23 rfl, iw_12, tk_12, nm_12, rfl, by decide +kernel⟩
theorem fl_Mo_323 : FL "PutOffWicksModel" 323 12 47 := ⟨"PutOffWicksModel", T_12, 55, rfl, by decide, ch_of ch17_ok 24 rfl, iw_12⟩
theorem fp_Mo_323 : FP "PutOffWicksModel" 323 12 47 .int := ⟨"PutOffWicksModel", T_12, 55, ty_12, rfl, by decide, ch_of ch17_ok 24 rfl, iw_12, tk_12, nm_12, rfl, by decide +kernel⟩
theorem fl_Mo_326 : FL "PutOffWicksModel" 326 12 48 := ⟨"PutOffWicksModel", T_12, 55, rfl, by decide, ch_of ch17_ok 25 rfl, iw_12⟩
theorem fp_Mo_326 : FP "PutOffWicksModel" 326 12 48 .int := ⟨"PutOffWicksModel", T_12, 55, ty_12, rfl, by decide, ch_of ch17_ok 25 rfl, iw_12, tk_12, nm_12, rfl, by decide +kernel⟩
theorem fl_Mo_329 : FL "PutOffWicksModel" 329 12 45 := ⟨"PutOffWicksModel", T_12, 55, rfl, by decide, ch_of ch17_ok 26 rfl, iw_12⟩
theorem fp_Mo_329 : FP "PutOffWicksModel" 329 12 45 .int := ⟨"PutOffWicksModel", T_12, 55, ty_12, rfl, by decide, ch_of ch17_ok 26 rfl, iw_12, tk_12, nm_12, rfl, by decide +kernel⟩
theorem fl_Mo_335 : FL "PutOffWicksModel" 335 12 46 := ⟨"PutOffWicksModel", T_12, 55, rfl, by decide, ch_of ch17_ok 27 rfl, iw_12⟩
theorem fp_Mo_335 : FP "PutOffWicksModel" 335 12 46 .int := ⟨"PutOffWicksModel", T_12, 55, ty_12, rfl, by decide, ch_of ch17_ok 27 rfl, iw_12, tk_12, nm_12, rfl, by decide +kernel⟩
theorem fl_Mo_409 : FL "PutOffWicksModel" 409 12 53 := ⟨"PutOffWicksModel", T_12, 55, rfl, by decide, ch_of ch17_ok 28 rfl, iw_12⟩
theorem fp_Mo_409 : FP "PutOffWicksModel" 409 12 53 .boolean := ⟨"PutOffWicksModel", T_12, 55, ty_12, rfl, by decide, ch_of ch17_ok 28 rfl, iw_12, tk_12, nm_12, rfl, by decide +kernel⟩
theorem fl_Mo_413 : FL "PutOffWicksModel" 413 12 54 := ⟨"PutOffWicksModel", T_12, 55, rfl, by decide, ch_of ch17_ok 29 rfl, iw_12⟩
theorem fp_Mo_413 : FP "PutOffWicksModel" 413 12 54 .int := ⟨"PutOffWicksModel", T_12, 55, ty_12, rfl, by decide, ch_of ch17_ok 29 rfl, iw_12, tk_12, nm_12, rfl, by decide +kernel⟩
theorem c_W_276 : Cond.constant "PutOffWicks" 276 65535 ∈ lw_g := ch_of ch17_ok 30 rfl
theorem c_Parish_59 : Cond.constant "PutOffWicks$Parish" 59 65535 ∈ lw_g := ch_of ch17_ok 31 rfl
theorem c_Waits_44 : Cond.constant "PutOffWicks$Waits" 44 65535 ∈ lw_g := ch_of ch17_ok 32 rfl
theorem c_Mo_110 : Cond.constant "PutOffWicksModel" 110 65536 ∈ lw_g := ch_of ch17_ok 33 rfl
theorem c_Mo_169 : Cond.constant "PutOffWicksModel" 169 1048576 ∈ lw_g := ch_of ch17_ok 34 rfl
theorem c_Mo_365 : Cond.constant "PutOffWicksModel" 365 65535 ∈ lw_g := ch_of ch17_ok 35 rfl
theorem c_Mo_366 : Cond.constant "PutOffWicksModel" 366 1000000 ∈ lw_g := ch_of ch17_ok 36 rfl
theorem c_JI_265 : Cond.constant "java/lang/Integer" 265 1431655765 ∈ lw_g := ch_of ch17_ok 37 rfl
theorem c_JI_266 : Cond.constant "java/lang/Integer" 266 858993459 ∈ lw_g := ch_of ch17_ok 38 rfl
theorem c_JI_267 : Cond.constant "java/lang/Integer" 267 252645135 ∈ lw_g := ch_of ch17_ok 39 rfl
theorem c_JL_314 : Cond.constantLong "java/lang/Long" 314 6148914691236517205 ∈ lw_g := ch_of ch17_ok 40 rfl
theorem c_JL_316 : Cond.constantLong "java/lang/Long" 316 3689348814741910323 ∈ lw_g := ch_of ch17_ok 41 rfl
theorem c_JL_318 : Cond.constantLong "java/lang/Long" 318 1085102592571150095 ∈ lw_g := ch_of ch17_ok 42 rfl
end
section
theorem d_Tape_hasRoom_0 : decode m_Tape_hasRoom.2.1 0 = .ok (.aload_n 0, 1) := by decide +kernel
theorem d_Tape_hasRoom_1 : decode m_Tape_hasRoom.2.1 1 = .ok (.getfield 17, 3) := by decide +kernel
theorem d_Tape_hasRoom_4 : decode m_Tape_hasRoom.2.1 4 = .ok (.bipush 20, 2) := by decide +kernel
theorem d_Tape_hasRoom_6 : decode m_Tape_hasRoom.2.1 6 = .ok (.iadd, 1) := by decide +kernel
theorem d_Tape_hasRoom_7 : decode m_Tape_hasRoom.2.1 7 = .ok (.sipush 260, 3) := by decide +kernel
theorem d_Tape_hasRoom_10 : decode m_Tape_hasRoom.2.1 10 = .ok (.if_icmp .gt 7, 3) := by decide +kernel
theorem d_Tape_hasRoom_13 : decode m_Tape_hasRoom.2.1 13 = .ok (.iconst 1, 1) := by decide +kernel
theorem d_Tape_hasRoom_14 : decode m_Tape_hasRoom.2.1 14 = .ok (.goto 4, 3) := by decide +kernel
theorem d_Tape_hasRoom_17 : decode m_Tape_hasRoom.2.1 17 = .ok (.iconst 0, 1) := by decide +kernel
theorem d_Tape_hasRoom_18 : decode m_Tape_hasRoom.2.1 18 = .ok (.ireturn, 1) := by decide +kernel
def f_Tape_hasRoom (S : St) : Option (Int32) :=
    if (260 : Int32) < ((S 1 2) + 20) then (
    some (0 : Int32))
    else (
    some (1 : Int32))
set_option maxHeartbeats 4000000 in
set_option maxRecDepth 20000 in
theorem t_Tape_hasRoom  {S : St} {w : Int32} (h : f_Tape_hasRoom S = some w) : Ct SX m_Tape_hasRoom 1 [.ref 1] S (some w) S := by
  unfold f_Tape_hasRoom at h
  refine Ct.of pn_Tape (Nat.le_of_ble_eq_true rfl) ?_
  show G SX m_Tape_hasRoom 1 (some w) S 0 [(0, .ref 1)] [] S
  refine G_aload_n 0 rfl d_Tape_hasRoom_0 ?_
  refine G_getI fl_Tape_17 kx_1 sx_1 rfl d_Tape_hasRoom_1 ?_
  refine G_bipush 20 (by decide) d_Tape_hasRoom_4 ?_
  refine G_iadd d_Tape_hasRoom_6 ?_
  refine G_sipush 260 (by decide) d_Tape_hasRoom_7 ?_
  refine G_icmp_gt 17 (by decide) d_Tape_hasRoom_10 (fun c_10 => ?_) (fun c_10 => ?_)
  · replace h := ob_t h c_10
    refine G_iconst 0 (by decide) d_Tape_hasRoom_17 ?_
    cases h
    exact G_zret (Or.inl rfl) rfl d_Tape_hasRoom_18
  · replace h := ob_f h c_10
    refine G_iconst 1 (by decide) d_Tape_hasRoom_13 ?_
    refine G_goto 18 (by decide) d_Tape_hasRoom_14 ?_
    cases h
    exact G_zret (Or.inr rfl) rfl d_Tape_hasRoom_18
theorem d_Tape_put_0 : decode m_Tape_put.2.1 0 = .ok (.bipush 24, 2) := by decide +kernel
theorem d_Tape_put_2 : decode m_Tape_put.2.1 2 = .ok (.istore_n 2, 1) := by decide +kernel
theorem d_Tape_put_3 : decode m_Tape_put.2.1 3 = .ok (.iload_n 2, 1) := by decide +kernel
theorem d_Tape_put_4 : decode m_Tape_put.2.1 4 = .ok (.ifCond .lt 45, 3) := by decide +kernel
theorem d_Tape_put_7 : decode m_Tape_put.2.1 7 = .ok (.aload_n 0, 1) := by decide +kernel
theorem d_Tape_put_8 : decode m_Tape_put.2.1 8 = .ok (.getfield 17, 3) := by decide +kernel
theorem d_Tape_put_11 : decode m_Tape_put.2.1 11 = .ok (.sipush 260, 3) := by decide +kernel
theorem d_Tape_put_14 : decode m_Tape_put.2.1 14 = .ok (.if_icmp .ge 35, 3) := by decide +kernel
theorem d_Tape_put_17 : decode m_Tape_put.2.1 17 = .ok (.aload_n 0, 1) := by decide +kernel
theorem d_Tape_put_18 : decode m_Tape_put.2.1 18 = .ok (.getfield 9, 3) := by decide +kernel
theorem d_Tape_put_21 : decode m_Tape_put.2.1 21 = .ok (.aload_n 0, 1) := by decide +kernel
theorem d_Tape_put_22 : decode m_Tape_put.2.1 22 = .ok (.getfield 17, 3) := by decide +kernel
theorem d_Tape_put_25 : decode m_Tape_put.2.1 25 = .ok (.iload_n 1, 1) := by decide +kernel
theorem d_Tape_put_26 : decode m_Tape_put.2.1 26 = .ok (.iload_n 2, 1) := by decide +kernel
theorem d_Tape_put_27 : decode m_Tape_put.2.1 27 = .ok (.iushr, 1) := by decide +kernel
theorem d_Tape_put_28 : decode m_Tape_put.2.1 28 = .ok (.sipush 255, 3) := by decide +kernel
theorem d_Tape_put_31 : decode m_Tape_put.2.1 31 = .ok (.iand, 1) := by decide +kernel
theorem d_Tape_put_32 : decode m_Tape_put.2.1 32 = .ok (.iastore, 1) := by decide +kernel
theorem d_Tape_put_33 : decode m_Tape_put.2.1 33 = .ok (.aload_n 0, 1) := by decide +kernel
theorem d_Tape_put_34 : decode m_Tape_put.2.1 34 = .ok (.dup, 1) := by decide +kernel
theorem d_Tape_put_35 : decode m_Tape_put.2.1 35 = .ok (.getfield 17, 3) := by decide +kernel
theorem d_Tape_put_38 : decode m_Tape_put.2.1 38 = .ok (.iconst 1, 1) := by decide +kernel
theorem d_Tape_put_39 : decode m_Tape_put.2.1 39 = .ok (.iadd, 1) := by decide +kernel
theorem d_Tape_put_40 : decode m_Tape_put.2.1 40 = .ok (.putfield 17, 3) := by decide +kernel
theorem d_Tape_put_43 : decode m_Tape_put.2.1 43 = .ok (.iinc 2 (-8), 3) := by decide +kernel
theorem d_Tape_put_46 : decode m_Tape_put.2.1 46 = .ok (.goto (-43), 3) := by decide +kernel
theorem d_Tape_put_49 : decode m_Tape_put.2.1 49 = .ok (.return_, 1) := by decide +kernel
def f_Tape_put_3 : Nat → St → Int32 → Int32 → Option (St)
  | 0, _, _, _ => none
  | n + 1, S, l1, l2 =>
    if l2 < 0 then (
    some S)
    else (
    if (260 : Int32) ≤ (S 1 2) then (
    some S)
    else (
    if ig (S 1 2) 260 then (
    (some (sF S 2 (S 1 2).toNatClampNeg ((jushr l1 l2) &&& 255))).bind fun S_32 =>
    (some (sF S_32 1 2 ((S_32 1 2) + 1))).bind fun S_40 =>
    (some (l2 + (-8))).bind fun l2_43 =>
    f_Tape_put_3 n S_40 l1 l2_43) else none))
set_option maxHeartbeats 4000000 in
set_option maxRecDepth 20000 in
theorem t_Tape_put_3  : ∀ (n : Nat) (S : St) (l1 : Int32) (l2 : Int32) (w : St), f_Tape_put_3 n S l1 l2 = some w → G SX m_Tape_put 1 none w 3 [(0, .ref 1), (1, .int l1), (2, .int l2)] [] S := by
  intro n
  induction n with
  | zero =>
    intro S l1 l2 w h
    rw [f_Tape_put_3] at h
    cases h
  | succ n ih =>
    intro S l1 l2 w h
    rw [f_Tape_put_3] at h
    refine G_iload_n 2 rfl d_Tape_put_3 ?_
    refine G_if_lt 49 (by decide) d_Tape_put_4 (fun c_4 => ?_) (fun c_4 => ?_)
    · replace h := ob_t h c_4
      cases h
      exact G_vret rfl d_Tape_put_49
    · replace h := ob_f h c_4
      refine G_aload_n 0 rfl d_Tape_put_7 ?_
      refine G_getI fl_Tape_17 kx_1 sx_1 rfl d_Tape_put_8 ?_
      refine G_sipush 260 (by decide) d_Tape_put_11 ?_
      refine G_icmp_ge 49 (by decide) d_Tape_put_14 (fun c_14 => ?_) (fun c_14 => ?_)
      · replace h := ob_t h c_14
        cases h
        exact G_vret rfl d_Tape_put_49
      · replace h := ob_f h c_14
        refine G_aload_n 0 rfl d_Tape_put_17 ?_
        refine G_getR fl_Tape_9 kx_1 sx_1 rfl (by decide) d_Tape_put_18 ?_
        refine G_aload_n 0 rfl d_Tape_put_21 ?_
        refine G_getI fl_Tape_17 kx_1 sx_1 rfl d_Tape_put_22 ?_
        refine G_iload_n 1 rfl d_Tape_put_25 ?_
        refine G_iload_n 2 rfl d_Tape_put_26 ?_
        refine G_iushr d_Tape_put_27 ?_
        refine G_sipush 255 (by decide) d_Tape_put_28 ?_
        refine G_iand d_Tape_put_31 ?_
        obtain ⟨g_32, h⟩ := ob_g h
        obtain ⟨S_32, e_32, h⟩ := ob_s h
        refine G_iastore e_32 kx_2 sx_2 g_32 d_Tape_put_32 ?_
        refine G_aload_n 0 rfl d_Tape_put_33 ?_
        refine G_dup rfl d_Tape_put_34 ?_
        refine G_getI fl_Tape_17 kx_1 sx_1 rfl d_Tape_put_35 ?_
        refine G_iconst 1 (by decide) d_Tape_put_38 ?_
        refine G_iadd d_Tape_put_39 ?_
        obtain ⟨S_40, e_40, h⟩ := ob_s h
        refine G_putI e_40 fp_Tape_17 kx_1 sx_1 rfl d_Tape_put_40 ?_
        obtain ⟨l2_43, e_43, h⟩ := ob_s h
        refine G_iinc (-8) 2 [(2, .int l2_43), (0, .ref 1), (1, .int l1)] (by decide) rfl e_43 rfl (by decide) d_Tape_put_43 ?_
        refine G_goto 3 (by decide) d_Tape_put_46 ?_
        exact G_sub _ [1, 2, 0] rfl (ih S_40 l1 l2_43 _ h)
def f_Tape_put (S : St) (l1 : Int32) : Option (St) :=
    (some (24 : Int32)).bind fun l2_2 =>
    f_Tape_put_3 FU S l1 l2_2
set_option maxHeartbeats 4000000 in
set_option maxRecDepth 20000 in
theorem t_Tape_put  {S : St} {l1 : Int32} {w : St} (h : f_Tape_put S l1 = some w) : Ct SX m_Tape_put 1 [.ref 1, .int l1] S none w := by
  unfold f_Tape_put at h
  refine Ct.of pn_Tape (Nat.le_of_ble_eq_true rfl) ?_
  show G SX m_Tape_put 1 none w 0 [(0, .ref 1), (1, .int l1)] [] S
  refine G_bipush 24 (by decide) d_Tape_put_0 ?_
  obtain ⟨l2_2, e_2, h⟩ := ob_s h
  refine G_istore_n [(2, .int l2_2), (0, .ref 1), (1, .int l1)] e_2 rfl (by decide) d_Tape_put_2 ?_
  exact G_sub _ [1, 2, 0] rfl (t_Tape_put_3 FU S l1 l2_2 _ h)
theorem d_Tape_take_0 : decode m_Tape_take.2.1 0 = .ok (.iload_n 1, 1) := by decide +kernel
theorem d_Tape_take_1 : decode m_Tape_take.2.1 1 = .ok (.ifCond .lt 11, 3) := by decide +kernel
theorem d_Tape_take_4 : decode m_Tape_take.2.1 4 = .ok (.iload_n 1, 1) := by decide +kernel
theorem d_Tape_take_5 : decode m_Tape_take.2.1 5 = .ok (.aload_n 0, 1) := by decide +kernel
theorem d_Tape_take_6 : decode m_Tape_take.2.1 6 = .ok (.getfield 17, 3) := by decide +kernel
theorem d_Tape_take_9 : decode m_Tape_take.2.1 9 = .ok (.if_icmp .le 5, 3) := by decide +kernel
theorem d_Tape_take_12 : decode m_Tape_take.2.1 12 = .ok (.iconst 0, 1) := by decide +kernel
theorem d_Tape_take_13 : decode m_Tape_take.2.1 13 = .ok (.ireturn, 1) := by decide +kernel
theorem d_Tape_take_14 : decode m_Tape_take.2.1 14 = .ok (.aload_n 0, 1) := by decide +kernel
theorem d_Tape_take_15 : decode m_Tape_take.2.1 15 = .ok (.iload_n 1, 1) := by decide +kernel
theorem d_Tape_take_16 : decode m_Tape_take.2.1 16 = .ok (.putfield 13, 3) := by decide +kernel
theorem d_Tape_take_19 : decode m_Tape_take.2.1 19 = .ok (.aload_n 0, 1) := by decide +kernel
theorem d_Tape_take_20 : decode m_Tape_take.2.1 20 = .ok (.iconst 0, 1) := by decide +kernel
theorem d_Tape_take_21 : decode m_Tape_take.2.1 21 = .ok (.putfield 17, 3) := by decide +kernel
theorem d_Tape_take_24 : decode m_Tape_take.2.1 24 = .ok (.iconst 1, 1) := by decide +kernel
theorem d_Tape_take_25 : decode m_Tape_take.2.1 25 = .ok (.ireturn, 1) := by decide +kernel
def f_Tape_take (S : St) (l1 : Int32) : Option (Int32 × St) :=
    if l1 < 0 then (
    some (0, S))
    else (
    if l1 ≤ (S 1 2) then (
    (some (sF S 1 1 l1)).bind fun S_16 =>
    (some (sF S_16 1 2 0)).bind fun S_21 =>
    some (1, S_21))
    else (
    some (0, S)))
set_option maxHeartbeats 4000000 in
set_option maxRecDepth 20000 in
theorem t_Tape_take  {S : St} {l1 : Int32} {w : Int32 × St} (h : f_Tape_take S l1 = some w) : Ct SX m_Tape_take 1 [.ref 1, .int l1] S (some w.1) w.2 := by
  unfold f_Tape_take at h
  refine Ct.of pn_Tape (Nat.le_of_ble_eq_true rfl) ?_
  show G SX m_Tape_take 1 (some w.1) w.2 0 [(0, .ref 1), (1, .int l1)] [] S
  refine G_iload_n 1 rfl d_Tape_take_0 ?_
  refine G_if_lt 12 (by decide) d_Tape_take_1 (fun c_1 => ?_) (fun c_1 => ?_)
  · replace h := ob_t h c_1
    refine G_iconst 0 (by decide) d_Tape_take_12 ?_
    cases h
    exact G_zret (Or.inl rfl) rfl d_Tape_take_13
  · replace h := ob_f h c_1
    refine G_iload_n 1 rfl d_Tape_take_4 ?_
    refine G_aload_n 0 rfl d_Tape_take_5 ?_
    refine G_getI fl_Tape_17 kx_1 sx_1 rfl d_Tape_take_6 ?_
    refine G_icmp_le 14 (by decide) d_Tape_take_9 (fun c_9 => ?_) (fun c_9 => ?_)
    · replace h := ob_t h c_9
      refine G_aload_n 0 rfl d_Tape_take_14 ?_
      refine G_iload_n 1 rfl d_Tape_take_15 ?_
      obtain ⟨S_16, e_16, h⟩ := ob_s h
      refine G_putI e_16 fp_Tape_13 kx_1 sx_1 rfl d_Tape_take_16 ?_
      refine G_aload_n 0 rfl d_Tape_take_19 ?_
      refine G_iconst 0 (by decide) d_Tape_take_20 ?_
      obtain ⟨S_21, e_21, h⟩ := ob_s h
      refine G_putI e_21 fp_Tape_17 kx_1 sx_1 rfl d_Tape_take_21 ?_
      refine G_iconst 1 (by decide) d_Tape_take_24 ?_
      cases h
      exact G_zret (Or.inr rfl) rfl d_Tape_take_25
    · replace h := ob_f h c_9
      refine G_iconst 0 (by decide) d_Tape_take_12 ?_
      cases h
      exact G_zret (Or.inl rfl) rfl d_Tape_take_13
theorem d_Tape_at_0 : decode m_Tape_at.2.1 0 = .ok (.iload_n 1, 1) := by decide +kernel
theorem d_Tape_at_1 : decode m_Tape_at.2.1 1 = .ok (.ifCond .lt 27, 3) := by decide +kernel
theorem d_Tape_at_4 : decode m_Tape_at.2.1 4 = .ok (.iload_n 1, 1) := by decide +kernel
theorem d_Tape_at_5 : decode m_Tape_at.2.1 5 = .ok (.aload_n 0, 1) := by decide +kernel
theorem d_Tape_at_6 : decode m_Tape_at.2.1 6 = .ok (.getfield 13, 3) := by decide +kernel
theorem d_Tape_at_9 : decode m_Tape_at.2.1 9 = .ok (.if_icmp .ge 19, 3) := by decide +kernel
theorem d_Tape_at_12 : decode m_Tape_at.2.1 12 = .ok (.iload_n 1, 1) := by decide +kernel
theorem d_Tape_at_13 : decode m_Tape_at.2.1 13 = .ok (.sipush 260, 3) := by decide +kernel
theorem d_Tape_at_16 : decode m_Tape_at.2.1 16 = .ok (.if_icmp .ge 12, 3) := by decide +kernel
theorem d_Tape_at_19 : decode m_Tape_at.2.1 19 = .ok (.aload_n 0, 1) := by decide +kernel
theorem d_Tape_at_20 : decode m_Tape_at.2.1 20 = .ok (.getfield 9, 3) := by decide +kernel
theorem d_Tape_at_23 : decode m_Tape_at.2.1 23 = .ok (.iload_n 1, 1) := by decide +kernel
theorem d_Tape_at_24 : decode m_Tape_at.2.1 24 = .ok (.iaload, 1) := by decide +kernel
theorem d_Tape_at_25 : decode m_Tape_at.2.1 25 = .ok (.goto 4, 3) := by decide +kernel
theorem d_Tape_at_28 : decode m_Tape_at.2.1 28 = .ok (.iconst (-1), 1) := by decide +kernel
theorem d_Tape_at_29 : decode m_Tape_at.2.1 29 = .ok (.ireturn, 1) := by decide +kernel
def f_Tape_at (S : St) (l1 : Int32) : Option (Int32) :=
    if l1 < 0 then (
    some ((-1) : Int32))
    else (
    if (S 1 1) ≤ l1 then (
    some ((-1) : Int32))
    else (
    if (260 : Int32) ≤ l1 then (
    some ((-1) : Int32))
    else (
    if ig l1 260 then (
    some (S 2 l1.toNatClampNeg)) else none)))
set_option maxHeartbeats 4000000 in
set_option maxRecDepth 20000 in
theorem t_Tape_at  {S : St} {l1 : Int32} {w : Int32} (h : f_Tape_at S l1 = some w) : Ct SX m_Tape_at 1 [.ref 1, .int l1] S (some w) S := by
  unfold f_Tape_at at h
  refine Ct.of pn_Tape (Nat.le_of_ble_eq_true rfl) ?_
  show G SX m_Tape_at 1 (some w) S 0 [(0, .ref 1), (1, .int l1)] [] S
  refine G_iload_n 1 rfl d_Tape_at_0 ?_
  refine G_if_lt 28 (by decide) d_Tape_at_1 (fun c_1 => ?_) (fun c_1 => ?_)
  · replace h := ob_t h c_1
    refine G_iconst (-1) (by decide) d_Tape_at_28 ?_
    cases h
    exact G_iret rfl d_Tape_at_29
  · replace h := ob_f h c_1
    refine G_iload_n 1 rfl d_Tape_at_4 ?_
    refine G_aload_n 0 rfl d_Tape_at_5 ?_
    refine G_getI fl_Tape_13 kx_1 sx_1 rfl d_Tape_at_6 ?_
    refine G_icmp_ge 28 (by decide) d_Tape_at_9 (fun c_9 => ?_) (fun c_9 => ?_)
    · replace h := ob_t h c_9
      refine G_iconst (-1) (by decide) d_Tape_at_28 ?_
      cases h
      exact G_iret rfl d_Tape_at_29
    · replace h := ob_f h c_9
      refine G_iload_n 1 rfl d_Tape_at_12 ?_
      refine G_sipush 260 (by decide) d_Tape_at_13 ?_
      refine G_icmp_ge 28 (by decide) d_Tape_at_16 (fun c_16 => ?_) (fun c_16 => ?_)
      · replace h := ob_t h c_16
        refine G_iconst (-1) (by decide) d_Tape_at_28 ?_
        cases h
        exact G_iret rfl d_Tape_at_29
      · replace h := ob_f h c_16
        refine G_aload_n 0 rfl d_Tape_at_19 ?_
        refine G_getR fl_Tape_9 kx_1 sx_1 rfl (by decide) d_Tape_at_20 ?_
        refine G_iload_n 1 rfl d_Tape_at_23 ?_
        obtain ⟨g_24, h⟩ := ob_g h
        refine G_iaload kx_2 sx_2 g_24 d_Tape_at_24 ?_
        refine G_goto 29 (by decide) d_Tape_at_25 ?_
        cases h
        exact G_iret rfl d_Tape_at_29
theorem d_Reading_begin_0 : decode m_Reading_begin.2.1 0 = .ok (.aload_n 0, 1) := by decide +kernel
theorem d_Reading_begin_1 : decode m_Reading_begin.2.1 1 = .ok (.iconst 0, 1) := by decide +kernel
theorem d_Reading_begin_2 : decode m_Reading_begin.2.1 2 = .ok (.putfield 7, 3) := by decide +kernel
theorem d_Reading_begin_5 : decode m_Reading_begin.2.1 5 = .ok (.aload_n 0, 1) := by decide +kernel
theorem d_Reading_begin_6 : decode m_Reading_begin.2.1 6 = .ok (.iconst 0, 1) := by decide +kernel
theorem d_Reading_begin_7 : decode m_Reading_begin.2.1 7 = .ok (.putfield 13, 3) := by decide +kernel
theorem d_Reading_begin_10 : decode m_Reading_begin.2.1 10 = .ok (.return_, 1) := by decide +kernel
def f_Reading_begin (S : St) : Option (St) :=
    (some (sF S 3 1 0)).bind fun S_2 =>
    (some (sF S_2 3 2 0)).bind fun S_7 =>
    some S_7
set_option maxHeartbeats 4000000 in
set_option maxRecDepth 20000 in
theorem t_Reading_begin  {S : St} {w : St} (h : f_Reading_begin S = some w) : Ct SX m_Reading_begin 1 [.ref 3] S none w := by
  unfold f_Reading_begin at h
  refine Ct.of pn_Reading (Nat.le_of_ble_eq_true rfl) ?_
  show G SX m_Reading_begin 1 none w 0 [(0, .ref 3)] [] S
  refine G_aload_n 0 rfl d_Reading_begin_0 ?_
  refine G_iconst 0 (by decide) d_Reading_begin_1 ?_
  obtain ⟨S_2, e_2, h⟩ := ob_s h
  refine G_putI e_2 fp_Reading_7 kx_3 sx_3 rfl d_Reading_begin_2 ?_
  refine G_aload_n 0 rfl d_Reading_begin_5 ?_
  refine G_iconst 0 (by decide) d_Reading_begin_6 ?_
  obtain ⟨S_7, e_7, h⟩ := ob_s h
  refine G_putI e_7 fp_Reading_13 kx_3 sx_3 rfl d_Reading_begin_7 ?_
  cases h
  exact G_vret rfl d_Reading_begin_10
theorem d_Reading_sign_0 : decode m_Reading_sign.2.1 0 = .ok (.aload_n 0, 1) := by decide +kernel
theorem d_Reading_sign_1 : decode m_Reading_sign.2.1 1 = .ok (.getfield 16, 3) := by decide +kernel
theorem d_Reading_sign_4 : decode m_Reading_sign.2.1 4 = .ok (.aload_n 0, 1) := by decide +kernel
theorem d_Reading_sign_5 : decode m_Reading_sign.2.1 5 = .ok (.getfield 7, 3) := by decide +kernel
theorem d_Reading_sign_8 : decode m_Reading_sign.2.1 8 = .ok (.invokevirtual 20, 3) := by decide +kernel
theorem d_Reading_sign_11 : decode m_Reading_sign.2.1 11 = .ok (.ireturn, 1) := by decide +kernel
def f_Reading_sign (S : St) : Option (Int32) :=
    (f_Tape_at S (S 3 1)).bind fun v_8 =>
    some v_8
set_option maxHeartbeats 4000000 in
set_option maxRecDepth 20000 in
theorem t_Reading_sign  {S : St} {w : Int32} (h : f_Reading_sign S = some w) : Ct SX m_Reading_sign 2 [.ref 3] S (some w) S := by
  unfold f_Reading_sign at h
  refine Ct.of pn_Reading (Nat.le_of_ble_eq_true rfl) ?_
  show G SX m_Reading_sign 2 (some w) S 0 [(0, .ref 3)] [] S
  refine G_aload_n 0 rfl d_Reading_sign_0 ?_
  refine G_getR fl_Reading_16 kx_3 sx_3 rfl (by decide) d_Reading_sign_1 ?_
  refine G_aload_n 0 rfl d_Reading_sign_4 ?_
  refine G_getI fl_Reading_7 kx_3 sx_3 rfl d_Reading_sign_5 ?_
  obtain ⟨v_8, q_8, h⟩ := ob_b h
  refine G_callV [.int (S 3 1)] [] (t_Tape_at q_8) (by decide) (by decide) mv_Tape_at rfl ml_Reading_20 kx_1 sx_1 cl_8 rfl (Nat.le_of_ble_eq_true rfl) d_Reading_sign_8 ?_
  cases h
  exact G_iret rfl d_Reading_sign_11
theorem d_Reading_failed_0 : decode m_Reading_failed.2.1 0 = .ok (.aload_n 0, 1) := by decide +kernel
theorem d_Reading_failed_1 : decode m_Reading_failed.2.1 1 = .ok (.getfield 13, 3) := by decide +kernel
theorem d_Reading_failed_4 : decode m_Reading_failed.2.1 4 = .ok (.ifCond .eq 7, 3) := by decide +kernel
theorem d_Reading_failed_7 : decode m_Reading_failed.2.1 7 = .ok (.iconst 1, 1) := by decide +kernel
theorem d_Reading_failed_8 : decode m_Reading_failed.2.1 8 = .ok (.goto 4, 3) := by decide +kernel
theorem d_Reading_failed_11 : decode m_Reading_failed.2.1 11 = .ok (.iconst 0, 1) := by decide +kernel
theorem d_Reading_failed_12 : decode m_Reading_failed.2.1 12 = .ok (.ireturn, 1) := by decide +kernel
def f_Reading_failed (S : St) : Option (Int32) :=
    if (S 3 2) = 0 then (
    some (0 : Int32))
    else (
    some (1 : Int32))
set_option maxHeartbeats 4000000 in
set_option maxRecDepth 20000 in
theorem t_Reading_failed  {S : St} {w : Int32} (h : f_Reading_failed S = some w) : Ct SX m_Reading_failed 1 [.ref 3] S (some w) S := by
  unfold f_Reading_failed at h
  refine Ct.of pn_Reading (Nat.le_of_ble_eq_true rfl) ?_
  show G SX m_Reading_failed 1 (some w) S 0 [(0, .ref 3)] [] S
  refine G_aload_n 0 rfl d_Reading_failed_0 ?_
  refine G_getI fl_Reading_13 kx_3 sx_3 rfl d_Reading_failed_1 ?_
  refine G_if_eq 11 (by decide) d_Reading_failed_4 (fun c_4 => ?_) (fun c_4 => ?_)
  · replace h := ob_t h c_4
    refine G_iconst 0 (by decide) d_Reading_failed_11 ?_
    cases h
    exact G_zret (Or.inl rfl) rfl d_Reading_failed_12
  · replace h := ob_f h c_4
    refine G_iconst 1 (by decide) d_Reading_failed_7 ?_
    refine G_goto 12 (by decide) d_Reading_failed_8 ?_
    cases h
    exact G_zret (Or.inr rfl) rfl d_Reading_failed_12
theorem d_Reading_fail_0 : decode m_Reading_fail.2.1 0 = .ok (.aload_n 0, 1) := by decide +kernel
theorem d_Reading_fail_1 : decode m_Reading_fail.2.1 1 = .ok (.getfield 13, 3) := by decide +kernel
theorem d_Reading_fail_4 : decode m_Reading_fail.2.1 4 = .ok (.ifCond .ne 14, 3) := by decide +kernel
theorem d_Reading_fail_7 : decode m_Reading_fail.2.1 7 = .ok (.aload_n 0, 1) := by decide +kernel
theorem d_Reading_fail_8 : decode m_Reading_fail.2.1 8 = .ok (.sipush (-1000), 3) := by decide +kernel
theorem d_Reading_fail_11 : decode m_Reading_fail.2.1 11 = .ok (.iload_n 1, 1) := by decide +kernel
theorem d_Reading_fail_12 : decode m_Reading_fail.2.1 12 = .ok (.imul, 1) := by decide +kernel
theorem d_Reading_fail_13 : decode m_Reading_fail.2.1 13 = .ok (.iload_n 2, 1) := by decide +kernel
theorem d_Reading_fail_14 : decode m_Reading_fail.2.1 14 = .ok (.isub, 1) := by decide +kernel
theorem d_Reading_fail_15 : decode m_Reading_fail.2.1 15 = .ok (.putfield 13, 3) := by decide +kernel
theorem d_Reading_fail_18 : decode m_Reading_fail.2.1 18 = .ok (.return_, 1) := by decide +kernel
def f_Reading_fail (S : St) (l1 : Int32) (l2 : Int32) : Option (St) :=
    if (S 3 2) = 0 then (
    (some (sF S 3 2 (((-1000) * l1) - l2))).bind fun S_15 =>
    some S_15)
    else (
    some S)
set_option maxHeartbeats 4000000 in
set_option maxRecDepth 20000 in
theorem t_Reading_fail  {S : St} {l1 : Int32} {l2 : Int32} {w : St} (h : f_Reading_fail S l1 l2 = some w) : Ct SX m_Reading_fail 1 [.ref 3, .int l1, .int l2] S none w := by
  unfold f_Reading_fail at h
  refine Ct.of pn_Reading (Nat.le_of_ble_eq_true rfl) ?_
  show G SX m_Reading_fail 1 none w 0 [(0, .ref 3), (1, .int l1), (2, .int l2)] [] S
  refine G_aload_n 0 rfl d_Reading_fail_0 ?_
  refine G_getI fl_Reading_13 kx_3 sx_3 rfl d_Reading_fail_1 ?_
  refine G_if_ne 18 (by decide) d_Reading_fail_4 (fun c_4 => ?_) (fun c_4 => ?_)
  · replace h := ob_f h c_4
    cases h
    exact G_vret rfl d_Reading_fail_18
  · replace h := ob_t h c_4
    refine G_aload_n 0 rfl d_Reading_fail_7 ?_
    refine G_sipush (-1000) (by decide) d_Reading_fail_8 ?_
    refine G_iload_n 1 rfl d_Reading_fail_11 ?_
    refine G_imul d_Reading_fail_12 ?_
    refine G_iload_n 2 rfl d_Reading_fail_13 ?_
    refine G_isub d_Reading_fail_14 ?_
    obtain ⟨S_15, e_15, h⟩ := ob_s h
    refine G_putI e_15 fp_Reading_13 kx_3 sx_3 rfl d_Reading_fail_15 ?_
    cases h
    exact G_vret rfl d_Reading_fail_18
theorem d_Reading_takes_0 : decode m_Reading_takes.2.1 0 = .ok (.aload_n 0, 1) := by decide +kernel
theorem d_Reading_takes_1 : decode m_Reading_takes.2.1 1 = .ok (.getfield 13, 3) := by decide +kernel
theorem d_Reading_takes_4 : decode m_Reading_takes.2.1 4 = .ok (.ifCond .ne 18, 3) := by decide +kernel
theorem d_Reading_takes_7 : decode m_Reading_takes.2.1 7 = .ok (.aload_n 0, 1) := by decide +kernel
theorem d_Reading_takes_8 : decode m_Reading_takes.2.1 8 = .ok (.getfield 16, 3) := by decide +kernel
theorem d_Reading_takes_11 : decode m_Reading_takes.2.1 11 = .ok (.aload_n 0, 1) := by decide +kernel
theorem d_Reading_takes_12 : decode m_Reading_takes.2.1 12 = .ok (.getfield 7, 3) := by decide +kernel
theorem d_Reading_takes_15 : decode m_Reading_takes.2.1 15 = .ok (.invokevirtual 20, 3) := by decide +kernel
theorem d_Reading_takes_18 : decode m_Reading_takes.2.1 18 = .ok (.iload_n 1, 1) := by decide +kernel
theorem d_Reading_takes_19 : decode m_Reading_takes.2.1 19 = .ok (.if_icmp .eq 5, 3) := by decide +kernel
theorem d_Reading_takes_22 : decode m_Reading_takes.2.1 22 = .ok (.iconst 0, 1) := by decide +kernel
theorem d_Reading_takes_23 : decode m_Reading_takes.2.1 23 = .ok (.ireturn, 1) := by decide +kernel
theorem d_Reading_takes_24 : decode m_Reading_takes.2.1 24 = .ok (.aload_n 0, 1) := by decide +kernel
theorem d_Reading_takes_25 : decode m_Reading_takes.2.1 25 = .ok (.dup, 1) := by decide +kernel
theorem d_Reading_takes_26 : decode m_Reading_takes.2.1 26 = .ok (.getfield 7, 3) := by decide +kernel
theorem d_Reading_takes_29 : decode m_Reading_takes.2.1 29 = .ok (.iconst 1, 1) := by decide +kernel
theorem d_Reading_takes_30 : decode m_Reading_takes.2.1 30 = .ok (.iadd, 1) := by decide +kernel
theorem d_Reading_takes_31 : decode m_Reading_takes.2.1 31 = .ok (.putfield 7, 3) := by decide +kernel
theorem d_Reading_takes_34 : decode m_Reading_takes.2.1 34 = .ok (.iconst 1, 1) := by decide +kernel
theorem d_Reading_takes_35 : decode m_Reading_takes.2.1 35 = .ok (.ireturn, 1) := by decide +kernel
def f_Reading_takes (S : St) (l1 : Int32) : Option (Int32 × St) :=
    if (S 3 2) = 0 then (
    (f_Tape_at S (S 3 1)).bind fun v_15 =>
    if v_15 = l1 then (
    (some (sF S 3 1 ((S 3 1) + 1))).bind fun S_31 =>
    some (1, S_31))
    else (
    some (0, S)))
    else (
    some (0, S))
set_option maxHeartbeats 4000000 in
set_option maxRecDepth 20000 in
theorem t_Reading_takes  {S : St} {l1 : Int32} {w : Int32 × St} (h : f_Reading_takes S l1 = some w) : Ct SX m_Reading_takes 2 [.ref 3, .int l1] S (some w.1) w.2 := by
  unfold f_Reading_takes at h
  refine Ct.of pn_Reading (Nat.le_of_ble_eq_true rfl) ?_
  show G SX m_Reading_takes 2 (some w.1) w.2 0 [(0, .ref 3), (1, .int l1)] [] S
  refine G_aload_n 0 rfl d_Reading_takes_0 ?_
  refine G_getI fl_Reading_13 kx_3 sx_3 rfl d_Reading_takes_1 ?_
  refine G_if_ne 22 (by decide) d_Reading_takes_4 (fun c_4 => ?_) (fun c_4 => ?_)
  · replace h := ob_f h c_4
    refine G_iconst 0 (by decide) d_Reading_takes_22 ?_
    cases h
    exact G_zret (Or.inl rfl) rfl d_Reading_takes_23
  · replace h := ob_t h c_4
    refine G_aload_n 0 rfl d_Reading_takes_7 ?_
    refine G_getR fl_Reading_16 kx_3 sx_3 rfl (by decide) d_Reading_takes_8 ?_
    refine G_aload_n 0 rfl d_Reading_takes_11 ?_
    refine G_getI fl_Reading_7 kx_3 sx_3 rfl d_Reading_takes_12 ?_
    obtain ⟨v_15, q_15, h⟩ := ob_b h
    refine G_callV [.int (S 3 1)] [] (t_Tape_at q_15) (by decide) (by decide) mv_Tape_at rfl ml_Reading_20 kx_1 sx_1 cl_8 rfl (Nat.le_of_ble_eq_true rfl) d_Reading_takes_15 ?_
    refine G_iload_n 1 rfl d_Reading_takes_18 ?_
    refine G_icmp_eq 24 (by decide) d_Reading_takes_19 (fun c_19 => ?_) (fun c_19 => ?_)
    · replace h := ob_t h c_19
      refine G_aload_n 0 rfl d_Reading_takes_24 ?_
      refine G_dup rfl d_Reading_takes_25 ?_
      refine G_getI fl_Reading_7 kx_3 sx_3 rfl d_Reading_takes_26 ?_
      refine G_iconst 1 (by decide) d_Reading_takes_29 ?_
      refine G_iadd d_Reading_takes_30 ?_
      obtain ⟨S_31, e_31, h⟩ := ob_s h
      refine G_putI e_31 fp_Reading_7 kx_3 sx_3 rfl d_Reading_takes_31 ?_
      refine G_iconst 1 (by decide) d_Reading_takes_34 ?_
      cases h
      exact G_zret (Or.inr rfl) rfl d_Reading_takes_35
    · replace h := ob_f h c_19
      refine G_iconst 0 (by decide) d_Reading_takes_22 ?_
      cases h
      exact G_zret (Or.inl rfl) rfl d_Reading_takes_23
theorem d_Reading_needs_0 : decode m_Reading_needs.2.1 0 = .ok (.aload_n 0, 1) := by decide +kernel
theorem d_Reading_needs_1 : decode m_Reading_needs.2.1 1 = .ok (.getfield 16, 3) := by decide +kernel
theorem d_Reading_needs_4 : decode m_Reading_needs.2.1 4 = .ok (.aload_n 0, 1) := by decide +kernel
theorem d_Reading_needs_5 : decode m_Reading_needs.2.1 5 = .ok (.getfield 7, 3) := by decide +kernel
theorem d_Reading_needs_8 : decode m_Reading_needs.2.1 8 = .ok (.invokevirtual 20, 3) := by decide +kernel
theorem d_Reading_needs_11 : decode m_Reading_needs.2.1 11 = .ok (.iload_n 1, 1) := by decide +kernel
theorem d_Reading_needs_12 : decode m_Reading_needs.2.1 12 = .ok (.if_icmp .eq 15, 3) := by decide +kernel
theorem d_Reading_needs_15 : decode m_Reading_needs.2.1 15 = .ok (.aload_n 0, 1) := by decide +kernel
theorem d_Reading_needs_16 : decode m_Reading_needs.2.1 16 = .ok (.iconst 1, 1) := by decide +kernel
theorem d_Reading_needs_17 : decode m_Reading_needs.2.1 17 = .ok (.aload_n 0, 1) := by decide +kernel
theorem d_Reading_needs_18 : decode m_Reading_needs.2.1 18 = .ok (.getfield 7, 3) := by decide +kernel
theorem d_Reading_needs_21 : decode m_Reading_needs.2.1 21 = .ok (.invokevirtual 25, 3) := by decide +kernel
theorem d_Reading_needs_24 : decode m_Reading_needs.2.1 24 = .ok (.goto 20, 3) := by decide +kernel
theorem d_Reading_needs_27 : decode m_Reading_needs.2.1 27 = .ok (.aload_n 0, 1) := by decide +kernel
theorem d_Reading_needs_28 : decode m_Reading_needs.2.1 28 = .ok (.getfield 13, 3) := by decide +kernel
theorem d_Reading_needs_31 : decode m_Reading_needs.2.1 31 = .ok (.ifCond .ne 13, 3) := by decide +kernel
theorem d_Reading_needs_34 : decode m_Reading_needs.2.1 34 = .ok (.aload_n 0, 1) := by decide +kernel
theorem d_Reading_needs_35 : decode m_Reading_needs.2.1 35 = .ok (.dup, 1) := by decide +kernel
theorem d_Reading_needs_36 : decode m_Reading_needs.2.1 36 = .ok (.getfield 7, 3) := by decide +kernel
theorem d_Reading_needs_39 : decode m_Reading_needs.2.1 39 = .ok (.iconst 1, 1) := by decide +kernel
theorem d_Reading_needs_40 : decode m_Reading_needs.2.1 40 = .ok (.iadd, 1) := by decide +kernel
theorem d_Reading_needs_41 : decode m_Reading_needs.2.1 41 = .ok (.putfield 7, 3) := by decide +kernel
theorem d_Reading_needs_44 : decode m_Reading_needs.2.1 44 = .ok (.return_, 1) := by decide +kernel
def f_Reading_needs (S : St) (l1 : Int32) : Option (St) :=
    (f_Tape_at S (S 3 1)).bind fun v_8 =>
    if v_8 = l1 then (
    if (S 3 2) = 0 then (
    (some (sF S 3 1 ((S 3 1) + 1))).bind fun S_41 =>
    some S_41)
    else (
    some S))
    else (
    (f_Reading_fail S (1 : Int32) (S 3 1)).bind fun w_21 =>
    some w_21)
set_option maxHeartbeats 4000000 in
set_option maxRecDepth 20000 in
theorem t_Reading_needs  {S : St} {l1 : Int32} {w : St} (h : f_Reading_needs S l1 = some w) : Ct SX m_Reading_needs 2 [.ref 3, .int l1] S none w := by
  unfold f_Reading_needs at h
  refine Ct.of pn_Reading (Nat.le_of_ble_eq_true rfl) ?_
  show G SX m_Reading_needs 2 none w 0 [(0, .ref 3), (1, .int l1)] [] S
  refine G_aload_n 0 rfl d_Reading_needs_0 ?_
  refine G_getR fl_Reading_16 kx_3 sx_3 rfl (by decide) d_Reading_needs_1 ?_
  refine G_aload_n 0 rfl d_Reading_needs_4 ?_
  refine G_getI fl_Reading_7 kx_3 sx_3 rfl d_Reading_needs_5 ?_
  obtain ⟨v_8, q_8, h⟩ := ob_b h
  refine G_callV [.int (S 3 1)] [] (t_Tape_at q_8) (by decide) (by decide) mv_Tape_at rfl ml_Reading_20 kx_1 sx_1 cl_8 rfl (Nat.le_of_ble_eq_true rfl) d_Reading_needs_8 ?_
  refine G_iload_n 1 rfl d_Reading_needs_11 ?_
  refine G_icmp_eq 27 (by decide) d_Reading_needs_12 (fun c_12 => ?_) (fun c_12 => ?_)
  · replace h := ob_t h c_12
    refine G_aload_n 0 rfl d_Reading_needs_27 ?_
    refine G_getI fl_Reading_13 kx_3 sx_3 rfl d_Reading_needs_28 ?_
    refine G_if_ne 44 (by decide) d_Reading_needs_31 (fun c_31 => ?_) (fun c_31 => ?_)
    · replace h := ob_f h c_31
      cases h
      exact G_vret rfl d_Reading_needs_44
    · replace h := ob_t h c_31
      refine G_aload_n 0 rfl d_Reading_needs_34 ?_
      refine G_dup rfl d_Reading_needs_35 ?_
      refine G_getI fl_Reading_7 kx_3 sx_3 rfl d_Reading_needs_36 ?_
      refine G_iconst 1 (by decide) d_Reading_needs_39 ?_
      refine G_iadd d_Reading_needs_40 ?_
      obtain ⟨S_41, e_41, h⟩ := ob_s h
      refine G_putI e_41 fp_Reading_7 kx_3 sx_3 rfl d_Reading_needs_41 ?_
      cases h
      exact G_vret rfl d_Reading_needs_44
  · replace h := ob_f h c_12
    refine G_aload_n 0 rfl d_Reading_needs_15 ?_
    refine G_iconst 1 (by decide) d_Reading_needs_16 ?_
    refine G_aload_n 0 rfl d_Reading_needs_17 ?_
    refine G_getI fl_Reading_7 kx_3 sx_3 rfl d_Reading_needs_18 ?_
    obtain ⟨w_21, q_21, h⟩ := ob_b h
    refine G_callV [.int 1, .int (S 3 1)] [] (t_Reading_fail q_21) (by decide) (by decide) mv_Reading_fail rfl ml_Reading_25 kx_3 sx_3 cl_4 rfl (Nat.le_of_ble_eq_true rfl) d_Reading_needs_21 ?_
    refine G_goto 44 (by decide) d_Reading_needs_24 ?_
    cases h
    exact G_vret rfl d_Reading_needs_44
theorem d_Reading_goesOn_0 : decode m_Reading_goesOn.2.1 0 = .ok (.aload_n 0, 1) := by decide +kernel
theorem d_Reading_goesOn_1 : decode m_Reading_goesOn.2.1 1 = .ok (.getfield 13, 3) := by decide +kernel
theorem d_Reading_goesOn_4 : decode m_Reading_goesOn.2.1 4 = .ok (.ifCond .ne 18, 3) := by decide +kernel
theorem d_Reading_goesOn_7 : decode m_Reading_goesOn.2.1 7 = .ok (.aload_n 0, 1) := by decide +kernel
theorem d_Reading_goesOn_8 : decode m_Reading_goesOn.2.1 8 = .ok (.getfield 16, 3) := by decide +kernel
theorem d_Reading_goesOn_11 : decode m_Reading_goesOn.2.1 11 = .ok (.aload_n 0, 1) := by decide +kernel
theorem d_Reading_goesOn_12 : decode m_Reading_goesOn.2.1 12 = .ok (.getfield 7, 3) := by decide +kernel
theorem d_Reading_goesOn_15 : decode m_Reading_goesOn.2.1 15 = .ok (.invokevirtual 20, 3) := by decide +kernel
theorem d_Reading_goesOn_18 : decode m_Reading_goesOn.2.1 18 = .ok (.iconst (-1), 1) := by decide +kernel
theorem d_Reading_goesOn_19 : decode m_Reading_goesOn.2.1 19 = .ok (.if_icmp .ne 5, 3) := by decide +kernel
theorem d_Reading_goesOn_22 : decode m_Reading_goesOn.2.1 22 = .ok (.iconst 0, 1) := by decide +kernel
theorem d_Reading_goesOn_23 : decode m_Reading_goesOn.2.1 23 = .ok (.ireturn, 1) := by decide +kernel
theorem d_Reading_goesOn_24 : decode m_Reading_goesOn.2.1 24 = .ok (.aload_n 0, 1) := by decide +kernel
theorem d_Reading_goesOn_25 : decode m_Reading_goesOn.2.1 25 = .ok (.bipush 59, 2) := by decide +kernel
theorem d_Reading_goesOn_27 : decode m_Reading_goesOn.2.1 27 = .ok (.invokevirtual 29, 3) := by decide +kernel
theorem d_Reading_goesOn_30 : decode m_Reading_goesOn.2.1 30 = .ok (.aload_n 0, 1) := by decide +kernel
theorem d_Reading_goesOn_31 : decode m_Reading_goesOn.2.1 31 = .ok (.getfield 13, 3) := by decide +kernel
theorem d_Reading_goesOn_34 : decode m_Reading_goesOn.2.1 34 = .ok (.ifCond .ne 7, 3) := by decide +kernel
theorem d_Reading_goesOn_37 : decode m_Reading_goesOn.2.1 37 = .ok (.iconst 1, 1) := by decide +kernel
theorem d_Reading_goesOn_38 : decode m_Reading_goesOn.2.1 38 = .ok (.goto 4, 3) := by decide +kernel
theorem d_Reading_goesOn_41 : decode m_Reading_goesOn.2.1 41 = .ok (.iconst 0, 1) := by decide +kernel
theorem d_Reading_goesOn_42 : decode m_Reading_goesOn.2.1 42 = .ok (.ireturn, 1) := by decide +kernel
def f_Reading_goesOn (S : St) : Option (Int32 × St) :=
    if (S 3 2) = 0 then (
    (f_Tape_at S (S 3 1)).bind fun v_15 =>
    if v_15 = (-1) then (
    some (0, S))
    else (
    (f_Reading_needs S (59 : Int32)).bind fun w_27 =>
    if (w_27 3 2) = 0 then (
    some (1, w_27))
    else (
    some (0, w_27))))
    else (
    some (0, S))
set_option maxHeartbeats 4000000 in
set_option maxRecDepth 20000 in
theorem t_Reading_goesOn  {S : St} {w : Int32 × St} (h : f_Reading_goesOn S = some w) : Ct SX m_Reading_goesOn 3 [.ref 3] S (some w.1) w.2 := by
  unfold f_Reading_goesOn at h
  refine Ct.of pn_Reading (Nat.le_of_ble_eq_true rfl) ?_
  show G SX m_Reading_goesOn 3 (some w.1) w.2 0 [(0, .ref 3)] [] S
  refine G_aload_n 0 rfl d_Reading_goesOn_0 ?_
  refine G_getI fl_Reading_13 kx_3 sx_3 rfl d_Reading_goesOn_1 ?_
  refine G_if_ne 22 (by decide) d_Reading_goesOn_4 (fun c_4 => ?_) (fun c_4 => ?_)
  · replace h := ob_f h c_4
    refine G_iconst 0 (by decide) d_Reading_goesOn_22 ?_
    cases h
    exact G_zret (Or.inl rfl) rfl d_Reading_goesOn_23
  · replace h := ob_t h c_4
    refine G_aload_n 0 rfl d_Reading_goesOn_7 ?_
    refine G_getR fl_Reading_16 kx_3 sx_3 rfl (by decide) d_Reading_goesOn_8 ?_
    refine G_aload_n 0 rfl d_Reading_goesOn_11 ?_
    refine G_getI fl_Reading_7 kx_3 sx_3 rfl d_Reading_goesOn_12 ?_
    obtain ⟨v_15, q_15, h⟩ := ob_b h
    refine G_callV [.int (S 3 1)] [] (t_Tape_at q_15) (by decide) (by decide) mv_Tape_at rfl ml_Reading_20 kx_1 sx_1 cl_8 rfl (Nat.le_of_ble_eq_true rfl) d_Reading_goesOn_15 ?_
    refine G_iconst (-1) (by decide) d_Reading_goesOn_18 ?_
    refine G_icmp_ne 24 (by decide) d_Reading_goesOn_19 (fun c_19 => ?_) (fun c_19 => ?_)
    · replace h := ob_f h c_19
      refine G_aload_n 0 rfl d_Reading_goesOn_24 ?_
      refine G_bipush 59 (by decide) d_Reading_goesOn_25 ?_
      obtain ⟨w_27, q_27, h⟩ := ob_b h
      refine G_callV [.int 59] [] (t_Reading_needs q_27) (by decide) (by decide) mv_Reading_needs rfl ml_Reading_29 kx_3 sx_3 cl_4 rfl (Nat.le_of_ble_eq_true rfl) d_Reading_goesOn_27 ?_
      refine G_aload_n 0 rfl d_Reading_goesOn_30 ?_
      refine G_getI fl_Reading_13 kx_3 sx_3 rfl d_Reading_goesOn_31 ?_
      refine G_if_ne 41 (by decide) d_Reading_goesOn_34 (fun c_34 => ?_) (fun c_34 => ?_)
      · replace h := ob_f h c_34
        refine G_iconst 0 (by decide) d_Reading_goesOn_41 ?_
        cases h
        exact G_zret (Or.inl rfl) rfl d_Reading_goesOn_42
      · replace h := ob_t h c_34
        refine G_iconst 1 (by decide) d_Reading_goesOn_37 ?_
        refine G_goto 42 (by decide) d_Reading_goesOn_38 ?_
        cases h
        exact G_zret (Or.inr rfl) rfl d_Reading_goesOn_42
    · replace h := ob_t h c_19
      refine G_iconst 0 (by decide) d_Reading_goesOn_22 ?_
      cases h
      exact G_zret (Or.inl rfl) rfl d_Reading_goesOn_23
theorem d_Reading_isDigit_0 : decode m_Reading_isDigit.2.1 0 = .ok (.iload_n 0, 1) := by decide +kernel
theorem d_Reading_isDigit_1 : decode m_Reading_isDigit.2.1 1 = .ok (.bipush 48, 2) := by decide +kernel
theorem d_Reading_isDigit_3 : decode m_Reading_isDigit.2.1 3 = .ok (.if_icmp .lt 13, 3) := by decide +kernel
theorem d_Reading_isDigit_6 : decode m_Reading_isDigit.2.1 6 = .ok (.iload_n 0, 1) := by decide +kernel
theorem d_Reading_isDigit_7 : decode m_Reading_isDigit.2.1 7 = .ok (.bipush 57, 2) := by decide +kernel
theorem d_Reading_isDigit_9 : decode m_Reading_isDigit.2.1 9 = .ok (.if_icmp .gt 7, 3) := by decide +kernel
theorem d_Reading_isDigit_12 : decode m_Reading_isDigit.2.1 12 = .ok (.iconst 1, 1) := by decide +kernel
theorem d_Reading_isDigit_13 : decode m_Reading_isDigit.2.1 13 = .ok (.goto 4, 3) := by decide +kernel
theorem d_Reading_isDigit_16 : decode m_Reading_isDigit.2.1 16 = .ok (.iconst 0, 1) := by decide +kernel
theorem d_Reading_isDigit_17 : decode m_Reading_isDigit.2.1 17 = .ok (.ireturn, 1) := by decide +kernel
def f_Reading_isDigit (S : St) (l0 : Int32) : Option (Int32) :=
    if l0 < 48 then (
    some (0 : Int32))
    else (
    if (57 : Int32) < l0 then (
    some (0 : Int32))
    else (
    some (1 : Int32)))
set_option maxHeartbeats 4000000 in
set_option maxRecDepth 20000 in
theorem t_Reading_isDigit  {S : St} {l0 : Int32} {w : Int32} (h : f_Reading_isDigit S l0 = some w) : Ct SX m_Reading_isDigit 1 [.int l0] S (some w) S := by
  unfold f_Reading_isDigit at h
  refine Ct.of pn_Reading (Nat.le_of_ble_eq_true rfl) ?_
  show G SX m_Reading_isDigit 1 (some w) S 0 [(0, .int l0)] [] S
  refine G_iload_n 0 rfl d_Reading_isDigit_0 ?_
  refine G_bipush 48 (by decide) d_Reading_isDigit_1 ?_
  refine G_icmp_lt 16 (by decide) d_Reading_isDigit_3 (fun c_3 => ?_) (fun c_3 => ?_)
  · replace h := ob_t h c_3
    refine G_iconst 0 (by decide) d_Reading_isDigit_16 ?_
    cases h
    exact G_zret (Or.inl rfl) rfl d_Reading_isDigit_17
  · replace h := ob_f h c_3
    refine G_iload_n 0 rfl d_Reading_isDigit_6 ?_
    refine G_bipush 57 (by decide) d_Reading_isDigit_7 ?_
    refine G_icmp_gt 16 (by decide) d_Reading_isDigit_9 (fun c_9 => ?_) (fun c_9 => ?_)
    · replace h := ob_t h c_9
      refine G_iconst 0 (by decide) d_Reading_isDigit_16 ?_
      cases h
      exact G_zret (Or.inl rfl) rfl d_Reading_isDigit_17
    · replace h := ob_f h c_9
      refine G_iconst 1 (by decide) d_Reading_isDigit_12 ?_
      refine G_goto 17 (by decide) d_Reading_isDigit_13 ?_
      cases h
      exact G_zret (Or.inr rfl) rfl d_Reading_isDigit_17
theorem d_Reading_number_0 : decode m_Reading_number.2.1 0 = .ok (.aload_n 0, 1) := by decide +kernel
theorem d_Reading_number_1 : decode m_Reading_number.2.1 1 = .ok (.getfield 13, 3) := by decide +kernel
theorem d_Reading_number_4 : decode m_Reading_number.2.1 4 = .ok (.ifCond .eq 5, 3) := by decide +kernel
theorem d_Reading_number_7 : decode m_Reading_number.2.1 7 = .ok (.iconst 0, 1) := by decide +kernel
theorem d_Reading_number_8 : decode m_Reading_number.2.1 8 = .ok (.ireturn, 1) := by decide +kernel
theorem d_Reading_number_9 : decode m_Reading_number.2.1 9 = .ok (.iconst 0, 1) := by decide +kernel
theorem d_Reading_number_10 : decode m_Reading_number.2.1 10 = .ok (.istore_n 2, 1) := by decide +kernel
theorem d_Reading_number_11 : decode m_Reading_number.2.1 11 = .ok (.iconst 0, 1) := by decide +kernel
theorem d_Reading_number_12 : decode m_Reading_number.2.1 12 = .ok (.istore_n 3, 1) := by decide +kernel
theorem d_Reading_number_13 : decode m_Reading_number.2.1 13 = .ok (.iload_n 3, 1) := by decide +kernel
theorem d_Reading_number_14 : decode m_Reading_number.2.1 14 = .ok (.iload_n 1, 1) := by decide +kernel
theorem d_Reading_number_15 : decode m_Reading_number.2.1 15 = .ok (.if_icmp .ge 56, 3) := by decide +kernel
theorem d_Reading_number_18 : decode m_Reading_number.2.1 18 = .ok (.aload_n 0, 1) := by decide +kernel
theorem d_Reading_number_19 : decode m_Reading_number.2.1 19 = .ok (.getfield 16, 3) := by decide +kernel
theorem d_Reading_number_22 : decode m_Reading_number.2.1 22 = .ok (.aload_n 0, 1) := by decide +kernel
theorem d_Reading_number_23 : decode m_Reading_number.2.1 23 = .ok (.getfield 7, 3) := by decide +kernel
theorem d_Reading_number_26 : decode m_Reading_number.2.1 26 = .ok (.invokevirtual 20, 3) := by decide +kernel
theorem d_Reading_number_29 : decode m_Reading_number.2.1 29 = .ok (.invokestatic 33, 3) := by decide +kernel
theorem d_Reading_number_32 : decode m_Reading_number.2.1 32 = .ok (.ifCond .eq 39, 3) := by decide +kernel
theorem d_Reading_number_35 : decode m_Reading_number.2.1 35 = .ok (.bipush 10, 2) := by decide +kernel
theorem d_Reading_number_37 : decode m_Reading_number.2.1 37 = .ok (.iload_n 2, 1) := by decide +kernel
theorem d_Reading_number_38 : decode m_Reading_number.2.1 38 = .ok (.imul, 1) := by decide +kernel
theorem d_Reading_number_39 : decode m_Reading_number.2.1 39 = .ok (.aload_n 0, 1) := by decide +kernel
theorem d_Reading_number_40 : decode m_Reading_number.2.1 40 = .ok (.getfield 16, 3) := by decide +kernel
theorem d_Reading_number_43 : decode m_Reading_number.2.1 43 = .ok (.aload_n 0, 1) := by decide +kernel
theorem d_Reading_number_44 : decode m_Reading_number.2.1 44 = .ok (.getfield 7, 3) := by decide +kernel
theorem d_Reading_number_47 : decode m_Reading_number.2.1 47 = .ok (.invokevirtual 20, 3) := by decide +kernel
theorem d_Reading_number_50 : decode m_Reading_number.2.1 50 = .ok (.iadd, 1) := by decide +kernel
theorem d_Reading_number_51 : decode m_Reading_number.2.1 51 = .ok (.bipush 48, 2) := by decide +kernel
theorem d_Reading_number_53 : decode m_Reading_number.2.1 53 = .ok (.isub, 1) := by decide +kernel
theorem d_Reading_number_54 : decode m_Reading_number.2.1 54 = .ok (.istore_n 2, 1) := by decide +kernel
theorem d_Reading_number_55 : decode m_Reading_number.2.1 55 = .ok (.aload_n 0, 1) := by decide +kernel
theorem d_Reading_number_56 : decode m_Reading_number.2.1 56 = .ok (.dup, 1) := by decide +kernel
theorem d_Reading_number_57 : decode m_Reading_number.2.1 57 = .ok (.getfield 7, 3) := by decide +kernel
theorem d_Reading_number_60 : decode m_Reading_number.2.1 60 = .ok (.iconst 1, 1) := by decide +kernel
theorem d_Reading_number_61 : decode m_Reading_number.2.1 61 = .ok (.iadd, 1) := by decide +kernel
theorem d_Reading_number_62 : decode m_Reading_number.2.1 62 = .ok (.putfield 7, 3) := by decide +kernel
theorem d_Reading_number_65 : decode m_Reading_number.2.1 65 = .ok (.iinc 3 1, 3) := by decide +kernel
theorem d_Reading_number_68 : decode m_Reading_number.2.1 68 = .ok (.goto (-55), 3) := by decide +kernel
theorem d_Reading_number_71 : decode m_Reading_number.2.1 71 = .ok (.iload_n 3, 1) := by decide +kernel
theorem d_Reading_number_72 : decode m_Reading_number.2.1 72 = .ok (.ifCond .ne 15, 3) := by decide +kernel
theorem d_Reading_number_75 : decode m_Reading_number.2.1 75 = .ok (.aload_n 0, 1) := by decide +kernel
theorem d_Reading_number_76 : decode m_Reading_number.2.1 76 = .ok (.iconst 1, 1) := by decide +kernel
theorem d_Reading_number_77 : decode m_Reading_number.2.1 77 = .ok (.aload_n 0, 1) := by decide +kernel
theorem d_Reading_number_78 : decode m_Reading_number.2.1 78 = .ok (.getfield 7, 3) := by decide +kernel
theorem d_Reading_number_81 : decode m_Reading_number.2.1 81 = .ok (.invokevirtual 25, 3) := by decide +kernel
theorem d_Reading_number_84 : decode m_Reading_number.2.1 84 = .ok (.goto 29, 3) := by decide +kernel
theorem d_Reading_number_87 : decode m_Reading_number.2.1 87 = .ok (.aload_n 0, 1) := by decide +kernel
theorem d_Reading_number_88 : decode m_Reading_number.2.1 88 = .ok (.getfield 16, 3) := by decide +kernel
theorem d_Reading_number_91 : decode m_Reading_number.2.1 91 = .ok (.aload_n 0, 1) := by decide +kernel
theorem d_Reading_number_92 : decode m_Reading_number.2.1 92 = .ok (.getfield 7, 3) := by decide +kernel
theorem d_Reading_number_95 : decode m_Reading_number.2.1 95 = .ok (.invokevirtual 20, 3) := by decide +kernel
theorem d_Reading_number_98 : decode m_Reading_number.2.1 98 = .ok (.invokestatic 33, 3) := by decide +kernel
theorem d_Reading_number_101 : decode m_Reading_number.2.1 101 = .ok (.ifCond .eq 12, 3) := by decide +kernel
theorem d_Reading_number_104 : decode m_Reading_number.2.1 104 = .ok (.aload_n 0, 1) := by decide +kernel
theorem d_Reading_number_105 : decode m_Reading_number.2.1 105 = .ok (.iconst 2, 1) := by decide +kernel
theorem d_Reading_number_106 : decode m_Reading_number.2.1 106 = .ok (.aload_n 0, 1) := by decide +kernel
theorem d_Reading_number_107 : decode m_Reading_number.2.1 107 = .ok (.getfield 7, 3) := by decide +kernel
theorem d_Reading_number_110 : decode m_Reading_number.2.1 110 = .ok (.invokevirtual 25, 3) := by decide +kernel
theorem d_Reading_number_113 : decode m_Reading_number.2.1 113 = .ok (.iload_n 2, 1) := by decide +kernel
theorem d_Reading_number_114 : decode m_Reading_number.2.1 114 = .ok (.ireturn, 1) := by decide +kernel
def f_Reading_number_71 (S : St) (l2 : Int32) (l3 : Int32) : Option (Int32 × St) :=
    if l3 = 0 then (
    (f_Reading_fail S (1 : Int32) (S 3 1)).bind fun w_81 =>
    some (l2, w_81))
    else (
    (f_Tape_at S (S 3 1)).bind fun v_95 =>
    (f_Reading_isDigit S v_95).bind fun v_98 =>
    if v_98 = 0 then (
    some (l2, S))
    else (
    (f_Reading_fail S (2 : Int32) (S 3 1)).bind fun w_110 =>
    some (l2, w_110)))
set_option maxHeartbeats 4000000 in
set_option maxRecDepth 20000 in
theorem t_Reading_number_71  (S : St) (l2 : Int32) (l3 : Int32) (w : Int32 × St) (h : f_Reading_number_71 S l2 l3 = some w) : G SX m_Reading_number 2 (some w.1) w.2 71 [(0, .ref 3), (2, .int l2), (3, .int l3)] [] S := by
  unfold f_Reading_number_71 at h
  refine G_iload_n 2 rfl d_Reading_number_71 ?_
  refine G_if_ne 87 (by decide) d_Reading_number_72 (fun c_72 => ?_) (fun c_72 => ?_)
  · replace h := ob_f h c_72
    refine G_aload_n 0 rfl d_Reading_number_87 ?_
    refine G_getR fl_Reading_16 kx_3 sx_3 rfl (by decide) d_Reading_number_88 ?_
    refine G_aload_n 0 rfl d_Reading_number_91 ?_
    refine G_getI fl_Reading_7 kx_3 sx_3 rfl d_Reading_number_92 ?_
    obtain ⟨v_95, q_95, h⟩ := ob_b h
    refine G_callV [.int (S 3 1)] [] (t_Tape_at q_95) (by decide) (by decide) mv_Tape_at rfl ml_Reading_20 kx_1 sx_1 cl_8 rfl (Nat.le_of_ble_eq_true rfl) d_Reading_number_95 ?_
    obtain ⟨v_98, q_98, h⟩ := ob_b h
    refine G_callS [.int v_95] [] (t_Reading_isDigit q_98) (by decide) (by decide) mt_Reading_isDigit rfl ml_Reading_33 rfl (Nat.le_of_ble_eq_true rfl) d_Reading_number_98 ?_
    refine G_if_eq 113 (by decide) d_Reading_number_101 (fun c_101 => ?_) (fun c_101 => ?_)
    · replace h := ob_t h c_101
      refine G_iload_n 1 rfl d_Reading_number_113 ?_
      cases h
      exact G_iret rfl d_Reading_number_114
    · replace h := ob_f h c_101
      refine G_aload_n 0 rfl d_Reading_number_104 ?_
      refine G_iconst 2 (by decide) d_Reading_number_105 ?_
      refine G_aload_n 0 rfl d_Reading_number_106 ?_
      refine G_getI fl_Reading_7 kx_3 sx_3 rfl d_Reading_number_107 ?_
      obtain ⟨w_110, q_110, h⟩ := ob_b h
      refine G_callV [.int 2, .int (S 3 1)] [] (t_Reading_fail q_110) (by decide) (by decide) mv_Reading_fail rfl ml_Reading_25 kx_3 sx_3 cl_4 rfl (Nat.le_of_ble_eq_true rfl) d_Reading_number_110 ?_
      refine G_iload_n 1 rfl d_Reading_number_113 ?_
      cases h
      exact G_iret rfl d_Reading_number_114
  · replace h := ob_t h c_72
    refine G_aload_n 0 rfl d_Reading_number_75 ?_
    refine G_iconst 1 (by decide) d_Reading_number_76 ?_
    refine G_aload_n 0 rfl d_Reading_number_77 ?_
    refine G_getI fl_Reading_7 kx_3 sx_3 rfl d_Reading_number_78 ?_
    obtain ⟨w_81, q_81, h⟩ := ob_b h
    refine G_callV [.int 1, .int (S 3 1)] [] (t_Reading_fail q_81) (by decide) (by decide) mv_Reading_fail rfl ml_Reading_25 kx_3 sx_3 cl_4 rfl (Nat.le_of_ble_eq_true rfl) d_Reading_number_81 ?_
    refine G_goto 113 (by decide) d_Reading_number_84 ?_
    refine G_iload_n 1 rfl d_Reading_number_113 ?_
    cases h
    exact G_iret rfl d_Reading_number_114
def f_Reading_number_13 : Nat → St → Int32 → Int32 → Int32 → Option (Int32 × St)
  | 0, _, _, _, _ => none
  | n + 1, S, l1, l2, l3 =>
    if l1 ≤ l3 then (
    f_Reading_number_71 S l2 l3)
    else (
    (f_Tape_at S (S 3 1)).bind fun v_26 =>
    (f_Reading_isDigit S v_26).bind fun v_29 =>
    if v_29 = 0 then (
    f_Reading_number_71 S l2 l3)
    else (
    (f_Tape_at S (S 3 1)).bind fun v_47 =>
    (some (((10 * l2) + v_47) - 48)).bind fun l2_54 =>
    (some (sF S 3 1 ((S 3 1) + 1))).bind fun S_62 =>
    (some (l3 + 1)).bind fun l3_65 =>
    f_Reading_number_13 n S_62 l1 l2_54 l3_65))
set_option maxHeartbeats 4000000 in
set_option maxRecDepth 20000 in
theorem t_Reading_number_13  : ∀ (n : Nat) (S : St) (l1 : Int32) (l2 : Int32) (l3 : Int32) (w : Int32 × St), f_Reading_number_13 n S l1 l2 l3 = some w → G SX m_Reading_number 2 (some w.1) w.2 13 [(0, .ref 3), (1, .int l1), (2, .int l2), (3, .int l3)] [] S := by
  intro n
  induction n with
  | zero =>
    intro S l1 l2 l3 w h
    rw [f_Reading_number_13] at h
    cases h
  | succ n ih =>
    intro S l1 l2 l3 w h
    rw [f_Reading_number_13] at h
    refine G_iload_n 3 rfl d_Reading_number_13 ?_
    refine G_iload_n 1 rfl d_Reading_number_14 ?_
    refine G_icmp_ge 71 (by decide) d_Reading_number_15 (fun c_15 => ?_) (fun c_15 => ?_)
    · replace h := ob_t h c_15
      exact G_sub _ [0, 2, 3] rfl (t_Reading_number_71 S l2 l3 _ h)
    · replace h := ob_f h c_15
      refine G_aload_n 0 rfl d_Reading_number_18 ?_
      refine G_getR fl_Reading_16 kx_3 sx_3 rfl (by decide) d_Reading_number_19 ?_
      refine G_aload_n 0 rfl d_Reading_number_22 ?_
      refine G_getI fl_Reading_7 kx_3 sx_3 rfl d_Reading_number_23 ?_
      obtain ⟨v_26, q_26, h⟩ := ob_b h
      refine G_callV [.int (S 3 1)] [] (t_Tape_at q_26) (by decide) (by decide) mv_Tape_at rfl ml_Reading_20 kx_1 sx_1 cl_8 rfl (Nat.le_of_ble_eq_true rfl) d_Reading_number_26 ?_
      obtain ⟨v_29, q_29, h⟩ := ob_b h
      refine G_callS [.int v_26] [] (t_Reading_isDigit q_29) (by decide) (by decide) mt_Reading_isDigit rfl ml_Reading_33 rfl (Nat.le_of_ble_eq_true rfl) d_Reading_number_29 ?_
      refine G_if_eq 71 (by decide) d_Reading_number_32 (fun c_32 => ?_) (fun c_32 => ?_)
      · replace h := ob_t h c_32
        exact G_sub _ [0, 2, 3] rfl (t_Reading_number_71 S l2 l3 _ h)
      · replace h := ob_f h c_32
        refine G_bipush 10 (by decide) d_Reading_number_35 ?_
        refine G_iload_n 2 rfl d_Reading_number_37 ?_
        refine G_imul d_Reading_number_38 ?_
        refine G_aload_n 0 rfl d_Reading_number_39 ?_
        refine G_getR fl_Reading_16 kx_3 sx_3 rfl (by decide) d_Reading_number_40 ?_
        refine G_aload_n 0 rfl d_Reading_number_43 ?_
        refine G_getI fl_Reading_7 kx_3 sx_3 rfl d_Reading_number_44 ?_
        obtain ⟨v_47, q_47, h⟩ := ob_b h
        refine G_callV [.int (S 3 1)] [.int (10 * l2)] (t_Tape_at q_47) (by decide) (by decide) mv_Tape_at rfl ml_Reading_20 kx_1 sx_1 cl_8 rfl (Nat.le_of_ble_eq_true rfl) d_Reading_number_47 ?_
        refine G_iadd d_Reading_number_50 ?_
        refine G_bipush 48 (by decide) d_Reading_number_51 ?_
        refine G_isub d_Reading_number_53 ?_
        obtain ⟨l2_54, e_54, h⟩ := ob_s h
        refine G_istore_n [(2, .int l2_54), (0, .ref 3), (1, .int l1), (3, .int l3)] e_54 rfl (by decide) d_Reading_number_54 ?_
        refine G_aload_n 1 rfl d_Reading_number_55 ?_
        refine G_dup rfl d_Reading_number_56 ?_
        refine G_getI fl_Reading_7 kx_3 sx_3 rfl d_Reading_number_57 ?_
        refine G_iconst 1 (by decide) d_Reading_number_60 ?_
        refine G_iadd d_Reading_number_61 ?_
        obtain ⟨S_62, e_62, h⟩ := ob_s h
        refine G_putI e_62 fp_Reading_7 kx_3 sx_3 rfl d_Reading_number_62 ?_
        obtain ⟨l3_65, e_65, h⟩ := ob_s h
        refine G_iinc 1 3 [(3, .int l3_65), (2, .int l2_54), (0, .ref 3), (1, .int l1)] (by decide) rfl e_65 rfl (by decide) d_Reading_number_65 ?_
        refine G_goto 13 (by decide) d_Reading_number_68 ?_
        exact G_sub _ [2, 3, 1, 0] rfl (ih S_62 l1 l2_54 l3_65 _ h)
def f_Reading_number (S : St) (l1 : Int32) : Option (Int32 × St) :=
    if (S 3 2) = 0 then (
    (some (0 : Int32)).bind fun l2_10 =>
    (some (0 : Int32)).bind fun l3_12 =>
    f_Reading_number_13 FU S l1 l2_10 l3_12)
    else (
    some (0, S))
set_option maxHeartbeats 4000000 in
set_option maxRecDepth 20000 in
theorem t_Reading_number  {S : St} {l1 : Int32} {w : Int32 × St} (h : f_Reading_number S l1 = some w) : Ct SX m_Reading_number 2 [.ref 3, .int l1] S (some w.1) w.2 := by
  unfold f_Reading_number at h
  refine Ct.of pn_Reading (Nat.le_of_ble_eq_true rfl) ?_
  show G SX m_Reading_number 2 (some w.1) w.2 0 [(0, .ref 3), (1, .int l1)] [] S
  refine G_aload_n 0 rfl d_Reading_number_0 ?_
  refine G_getI fl_Reading_13 kx_3 sx_3 rfl d_Reading_number_1 ?_
  refine G_if_eq 9 (by decide) d_Reading_number_4 (fun c_4 => ?_) (fun c_4 => ?_)
  · replace h := ob_t h c_4
    refine G_iconst 0 (by decide) d_Reading_number_9 ?_
    obtain ⟨l2_10, e_10, h⟩ := ob_s h
    refine G_istore_n [(2, .int l2_10), (0, .ref 3), (1, .int l1)] e_10 rfl (by decide) d_Reading_number_10 ?_
    refine G_iconst 0 (by decide) d_Reading_number_11 ?_
    obtain ⟨l3_12, e_12, h⟩ := ob_s h
    refine G_istore_n [(3, .int l3_12), (2, .int l2_10), (0, .ref 3), (1, .int l1)] e_12 rfl (by decide) d_Reading_number_12 ?_
    exact G_sub _ [2, 3, 1, 0] rfl (t_Reading_number_13 FU S l1 l2_10 l3_12 _ h)
  · replace h := ob_f h c_4
    refine G_iconst 0 (by decide) d_Reading_number_7 ?_
    cases h
    exact G_iret rfl d_Reading_number_8
end
