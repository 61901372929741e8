section
-- ===== PART A: goes FIRST, ahead of the names: the tables' words, and 'selects' of the private methods out of them =====
/-- a private method of a class that the tables say can be made, by its rows of tables_1 -/
def lw_okq (q : MethodName × Nat) : Prop := (q.1.cls ≠ "java/lang/invoke/MethodHandle" ∧ q.1.cls ≠ "java/lang/invoke/VarHandle") ∧ Cond.instantiable q.1.cls q.2 ∈ tables_1 ∧ Cond.privateMethod q.1 ∈ tables_1 ∧ Cond.instanceMethod q.1 ∈ tables_1
theorem lw_p0 : lw_okq (⟨"PutOffWicks$Law", "add", "(II)I"⟩, 9) := ⟨⟨by decide +kernel, by decide +kernel⟩, List.mem_of_getElem? (i := 144) (by decide +kernel), List.mem_of_getElem? (i := 407) (by decide +kernel), List.mem_of_getElem? (i := 408) (by decide +kernel)⟩
theorem lw_p1 : lw_okq (⟨"PutOffWicks$Law", "readValue", "(I)V"⟩, 9) := ⟨⟨by decide +kernel, by decide +kernel⟩, List.mem_of_getElem? (i := 144) (by decide +kernel), List.mem_of_getElem? (i := 411) (by decide +kernel), List.mem_of_getElem? (i := 412) (by decide +kernel)⟩
theorem lw_p2 : lw_okq (⟨"PutOffWicks$Law", "readFactor", "(I)V"⟩, 9) := ⟨⟨by decide +kernel, by decide +kernel⟩, List.mem_of_getElem? (i := 144) (by decide +kernel), List.mem_of_getElem? (i := 415) (by decide +kernel), List.mem_of_getElem? (i := 416) (by decide +kernel)⟩
theorem lw_p3 : lw_okq (⟨"PutOffWicks$Law", "opens", "(I)Z"⟩, 9) := ⟨⟨by decide +kernel, by decide +kernel⟩, List.mem_of_getElem? (i := 144) (by decide +kernel), List.mem_of_getElem? (i := 419) (by decide +kernel), List.mem_of_getElem? (i := 420) (by decide +kernel)⟩
theorem lw_p4 : lw_okq (⟨"PutOffWicks$Law", "readCondition", "(I)V"⟩, 9) := ⟨⟨by decide +kernel, by decide +kernel⟩, List.mem_of_getElem? (i := 144) (by decide +kernel), List.mem_of_getElem? (i := 443) (by decide +kernel), List.mem_of_getElem? (i := 444) (by decide +kernel)⟩
theorem lw_p5 : lw_okq (⟨"PutOffWicks$Law", "readTest", "(I)V"⟩, 9) := ⟨⟨by decide +kernel, by decide +kernel⟩, List.mem_of_getElem? (i := 144) (by decide +kernel), List.mem_of_getElem? (i := 447) (by decide +kernel), List.mem_of_getElem? (i := 448) (by decide +kernel)⟩
theorem lw_p6 : lw_okq (⟨"PutOffWicks$Law", "land", "(I)V"⟩, 9) := ⟨⟨by decide +kernel, by decide +kernel⟩, List.mem_of_getElem? (i := 144) (by decide +kernel), List.mem_of_getElem? (i := 451) (by decide +kernel), List.mem_of_getElem? (i := 452) (by decide +kernel)⟩
theorem lw_p7 : lw_okq (⟨"PutOffWicks$ParishReader", "readLine", "(I)V"⟩, 2) := ⟨⟨by decide +kernel, by decide +kernel⟩, List.mem_of_getElem? (i := 128) (by decide +kernel), List.mem_of_getElem? (i := 476) (by decide +kernel), List.mem_of_getElem? (i := 477) (by decide +kernel)⟩
theorem lw_p8 : lw_okq (⟨"PutOffWicks$ParishReader", "readOther", "(I)I"⟩, 2) := ⟨⟨by decide +kernel, by decide +kernel⟩, List.mem_of_getElem? (i := 128) (by decide +kernel), List.mem_of_getElem? (i := 484) (by decide +kernel), List.mem_of_getElem? (i := 485) (by decide +kernel)⟩
theorem lw_p9 : lw_okq (⟨"PutOffWicks$Almanac", "passOver", "(LPutOffWicks$Parish;I)V"⟩, 1) := ⟨⟨by decide +kernel, by decide +kernel⟩, List.mem_of_getElem? (i := 186) (by decide +kernel), List.mem_of_getElem? (i := 514) (by decide +kernel), List.mem_of_getElem? (i := 515) (by decide +kernel)⟩
theorem lw_p10 : lw_okq (⟨"PutOffWicks$Reckoner", "reckon", "(II)I"⟩, 7) := ⟨⟨by decide +kernel, by decide +kernel⟩, List.mem_of_getElem? (i := 188) (by decide +kernel), List.mem_of_getElem? (i := 531) (by decide +kernel), List.mem_of_getElem? (i := 532) (by decide +kernel)⟩
theorem lw_p11 : lw_okq (⟨"PutOffWicks$Reckoner", "push", "(I)V"⟩, 7) := ⟨⟨by decide +kernel, by decide +kernel⟩, List.mem_of_getElem? (i := 188) (by decide +kernel), List.mem_of_getElem? (i := 535) (by decide +kernel), List.mem_of_getElem? (i := 536) (by decide +kernel)⟩
theorem lw_p12 : lw_okq (⟨"PutOffWicks$Reckoner", "fact", "(I)I"⟩, 7) := ⟨⟨by decide +kernel, by decide +kernel⟩, List.mem_of_getElem? (i := 188) (by decide +kernel), List.mem_of_getElem? (i := 539) (by decide +kernel), List.mem_of_getElem? (i := 540) (by decide +kernel)⟩
theorem lw_p13 : lw_okq (⟨"PutOffWicks$Reckoner", "pop", "()I"⟩, 7) := ⟨⟨by decide +kernel, by decide +kernel⟩, List.mem_of_getElem? (i := 188) (by decide +kernel), List.mem_of_getElem? (i := 557) (by decide +kernel), List.mem_of_getElem? (i := 558) (by decide +kernel)⟩
theorem lw_p14 : lw_okq (⟨"PutOffWicks$Reckoner", "joined", "(III)I"⟩, 7) := ⟨⟨by decide +kernel, by decide +kernel⟩, List.mem_of_getElem? (i := 188) (by decide +kernel), List.mem_of_getElem? (i := 561) (by decide +kernel), List.mem_of_getElem? (i := 562) (by decide +kernel)⟩
theorem lw_p15 : lw_okq (⟨"PutOffWicks$Parish", "leftThatNeed", "(I)I"⟩, 10) := ⟨⟨by decide +kernel, by decide +kernel⟩, List.mem_of_getElem? (i := 68) (by decide +kernel), List.mem_of_getElem? (i := 646) (by decide +kernel), List.mem_of_getElem? (i := 647) (by decide +kernel)⟩
def lw_privs_1 : List (MethodName × Nat) := [(⟨"PutOffWicks$Law", "add", "(II)I"⟩, 9), (⟨"PutOffWicks$Law", "readValue", "(I)V"⟩, 9), (⟨"PutOffWicks$Law", "readFactor", "(I)V"⟩, 9), (⟨"PutOffWicks$Law", "opens", "(I)Z"⟩, 9), (⟨"PutOffWicks$Law", "readCondition", "(I)V"⟩, 9), (⟨"PutOffWicks$Law", "readTest", "(I)V"⟩, 9), (⟨"PutOffWicks$Law", "land", "(I)V"⟩, 9), (⟨"PutOffWicks$ParishReader", "readLine", "(I)V"⟩, 2), (⟨"PutOffWicks$ParishReader", "readOther", "(I)I"⟩, 2), (⟨"PutOffWicks$Almanac", "passOver", "(LPutOffWicks$Parish;I)V"⟩, 1), (⟨"PutOffWicks$Reckoner", "reckon", "(II)I"⟩, 7), (⟨"PutOffWicks$Reckoner", "push", "(I)V"⟩, 7), (⟨"PutOffWicks$Reckoner", "fact", "(I)I"⟩, 7), (⟨"PutOffWicks$Reckoner", "pop", "()I"⟩, 7), (⟨"PutOffWicks$Reckoner", "joined", "(III)I"⟩, 7), (⟨"PutOffWicks$Parish", "leftThatNeed", "(I)I"⟩, 10)]
theorem lw_r1 : ∀ q ∈ lw_privs_1, lw_okq q := List.forall_mem_cons.mpr ⟨lw_p0, List.forall_mem_cons.mpr ⟨lw_p1, List.forall_mem_cons.mpr ⟨lw_p2, List.forall_mem_cons.mpr ⟨lw_p3, List.forall_mem_cons.mpr ⟨lw_p4, List.forall_mem_cons.mpr ⟨lw_p5, List.forall_mem_cons.mpr ⟨lw_p6, List.forall_mem_cons.mpr ⟨lw_p7, List.forall_mem_cons.mpr ⟨lw_p8, List.forall_mem_cons.mpr ⟨lw_p9, List.forall_mem_cons.mpr ⟨lw_p10, List.forall_mem_cons.mpr ⟨lw_p11, List.forall_mem_cons.mpr ⟨lw_p12, List.forall_mem_cons.mpr ⟨lw_p13, List.forall_mem_cons.mpr ⟨lw_p14, List.forall_mem_cons.mpr ⟨lw_p15, fun _ h => absurd h List.not_mem_nil⟩⟩⟩⟩⟩⟩⟩⟩⟩⟩⟩⟩⟩⟩⟩⟩
theorem lw_p16 : lw_okq (⟨"PutOffWicks$Parish", "leftPutOffUnder", "(I)I"⟩, 10) := ⟨⟨by decide +kernel, by decide +kernel⟩, List.mem_of_getElem? (i := 68) (by decide +kernel), List.mem_of_getElem? (i := 675) (by decide +kernel), List.mem_of_getElem? (i := 676) (by decide +kernel)⟩
theorem lw_p17 : lw_okq (⟨"PutOffWicks$Twist", "ends", "()Z"⟩, 9) := ⟨⟨by decide +kernel, by decide +kernel⟩, List.mem_of_getElem? (i := 224) (by decide +kernel), List.mem_of_getElem? (i := 688) (by decide +kernel), List.mem_of_getElem? (i := 689) (by decide +kernel)⟩
theorem lw_p18 : lw_okq (⟨"PutOffWicks$Twist", "readTimes", "()I"⟩, 9) := ⟨⟨by decide +kernel, by decide +kernel⟩, List.mem_of_getElem? (i := 224) (by decide +kernel), List.mem_of_getElem? (i := 697) (by decide +kernel), List.mem_of_getElem? (i := 698) (by decide +kernel)⟩
theorem lw_p19 : lw_okq (⟨"PutOffWicks$Twist", "readTurn", "(IZI)V"⟩, 9) := ⟨⟨by decide +kernel, by decide +kernel⟩, List.mem_of_getElem? (i := 224) (by decide +kernel), List.mem_of_getElem? (i := 701) (by decide +kernel), List.mem_of_getElem? (i := 702) (by decide +kernel)⟩
theorem lw_p20 : lw_okq (⟨"PutOffWicks$Twist", "repeat", "(III)V"⟩, 9) := ⟨⟨by decide +kernel, by decide +kernel⟩, List.mem_of_getElem? (i := 224) (by decide +kernel), List.mem_of_getElem? (i := 706) (by decide +kernel), List.mem_of_getElem? (i := 707) (by decide +kernel)⟩
theorem lw_p21 : lw_okq (⟨"PutOffWicks$Twist", "openGroup", "(II)V"⟩, 9) := ⟨⟨by decide +kernel, by decide +kernel⟩, List.mem_of_getElem? (i := 224) (by decide +kernel), List.mem_of_getElem? (i := 710) (by decide +kernel), List.mem_of_getElem? (i := 711) (by decide +kernel)⟩
theorem lw_p22 : lw_okq (⟨"PutOffWicks$Twist", "closeGroup", "()V"⟩, 9) := ⟨⟨by decide +kernel, by decide +kernel⟩, List.mem_of_getElem? (i := 224) (by decide +kernel), List.mem_of_getElem? (i := 714) (by decide +kernel), List.mem_of_getElem? (i := 715) (by decide +kernel)⟩
theorem lw_p23 : lw_okq (⟨"PutOffWicks$Waits", "ringsOfTwo", "()I"⟩, 5) := ⟨⟨by decide +kernel, by decide +kernel⟩, List.mem_of_getElem? (i := 259) (by decide +kernel), List.mem_of_getElem? (i := 760) (by decide +kernel), List.mem_of_getElem? (i := 761) (by decide +kernel)⟩
theorem lw_p24 : lw_okq (⟨"PutOffWicks$Waits", "canEnd", "(II)Z"⟩, 5) := ⟨⟨by decide +kernel, by decide +kernel⟩, List.mem_of_getElem? (i := 259) (by decide +kernel), List.mem_of_getElem? (i := 764) (by decide +kernel), List.mem_of_getElem? (i := 765) (by decide +kernel)⟩
theorem lw_p25 : lw_okq (⟨"PutOffWicks$Waits", "findShortestRing", "(I)I"⟩, 5) := ⟨⟨by decide +kernel, by decide +kernel⟩, List.mem_of_getElem? (i := 259) (by decide +kernel), List.mem_of_getElem? (i := 768) (by decide +kernel), List.mem_of_getElem? (i := 769) (by decide +kernel)⟩
theorem lw_p26 : lw_okq (⟨"PutOffWicks$Waits", "findRingOf", "(III)I"⟩, 5) := ⟨⟨by decide +kernel, by decide +kernel⟩, List.mem_of_getElem? (i := 259) (by decide +kernel), List.mem_of_getElem? (i := 773) (by decide +kernel), List.mem_of_getElem? (i := 774) (by decide +kernel)⟩
theorem lw_p27 : lw_okq (⟨"PutOffWicks$Waits", "writeRing", "(III)V"⟩, 5) := ⟨⟨by decide +kernel, by decide +kernel⟩, List.mem_of_getElem? (i := 259) (by decide +kernel), List.mem_of_getElem? (i := 777) (by decide +kernel), List.mem_of_getElem? (i := 778) (by decide +kernel)⟩
theorem lw_p28 : lw_okq (⟨"PutOffWicks$Waits", "markFrom", "(II)V"⟩, 5) := ⟨⟨by decide +kernel, by decide +kernel⟩, List.mem_of_getElem? (i := 259) (by decide +kernel), List.mem_of_getElem? (i := 781) (by decide +kernel), List.mem_of_getElem? (i := 782) (by decide +kernel)⟩
theorem lw_p29 : lw_okq (⟨"PutOffWicks$Waits", "ringAt", "(II)I"⟩, 5) := ⟨⟨by decide +kernel, by decide +kernel⟩, List.mem_of_getElem? (i := 259) (by decide +kernel), List.mem_of_getElem? (i := 785) (by decide +kernel), List.mem_of_getElem? (i := 786) (by decide +kernel)⟩
theorem lw_p30 : lw_okq (⟨"PutOffWicks$Rows", "nextToSpin", "(II)I"⟩, 1) := ⟨⟨by decide +kernel, by decide +kernel⟩, List.mem_of_getElem? (i := 295) (by decide +kernel), List.mem_of_getElem? (i := 802) (by decide +kernel), List.mem_of_getElem? (i := 803) (by decide +kernel)⟩
theorem lw_p31 : lw_okq (⟨"PutOffWicks$Rows", "spinsAhead", "(II)Z"⟩, 1) := ⟨⟨by decide +kernel, by decide +kernel⟩, List.mem_of_getElem? (i := 295) (by decide +kernel), List.mem_of_getElem? (i := 806) (by decide +kernel), List.mem_of_getElem? (i := 807) (by decide +kernel)⟩
def lw_privs_2 : List (MethodName × Nat) := [(⟨"PutOffWicks$Parish", "leftPutOffUnder", "(I)I"⟩, 10), (⟨"PutOffWicks$Twist", "ends", "()Z"⟩, 9), (⟨"PutOffWicks$Twist", "readTimes", "()I"⟩, 9), (⟨"PutOffWicks$Twist", "readTurn", "(IZI)V"⟩, 9), (⟨"PutOffWicks$Twist", "repeat", "(III)V"⟩, 9), (⟨"PutOffWicks$Twist", "openGroup", "(II)V"⟩, 9), (⟨"PutOffWicks$Twist", "closeGroup", "()V"⟩, 9), (⟨"PutOffWicks$Waits", "ringsOfTwo", "()I"⟩, 5), (⟨"PutOffWicks$Waits", "canEnd", "(II)Z"⟩, 5), (⟨"PutOffWicks$Waits", "findShortestRing", "(I)I"⟩, 5), (⟨"PutOffWicks$Waits", "findRingOf", "(III)I"⟩, 5), (⟨"PutOffWicks$Waits", "writeRing", "(III)V"⟩, 5), (⟨"PutOffWicks$Waits", "markFrom", "(II)V"⟩, 5), (⟨"PutOffWicks$Waits", "ringAt", "(II)I"⟩, 5), (⟨"PutOffWicks$Rows", "nextToSpin", "(II)I"⟩, 1), (⟨"PutOffWicks$Rows", "spinsAhead", "(II)Z"⟩, 1)]
theorem lw_r2 : ∀ q ∈ lw_privs_2, lw_okq q := List.forall_mem_cons.mpr ⟨lw_p16, List.forall_mem_cons.mpr ⟨lw_p17, List.forall_mem_cons.mpr ⟨lw_p18, List.forall_mem_cons.mpr ⟨lw_p19, List.forall_mem_cons.mpr ⟨lw_p20, List.forall_mem_cons.mpr ⟨lw_p21, List.forall_mem_cons.mpr ⟨lw_p22, List.forall_mem_cons.mpr ⟨lw_p23, List.forall_mem_cons.mpr ⟨lw_p24, List.forall_mem_cons.mpr ⟨lw_p25, List.forall_mem_cons.mpr ⟨lw_p26, List.forall_mem_cons.mpr ⟨lw_p27, List.forall_mem_cons.mpr ⟨lw_p28, List.forall_mem_cons.mpr ⟨lw_p29, List.forall_mem_cons.mpr ⟨lw_p30, List.forall_mem_cons.mpr ⟨lw_p31, fun _ h => absurd h List.not_mem_nil⟩⟩⟩⟩⟩⟩⟩⟩⟩⟩⟩⟩⟩⟩⟩⟩
theorem lw_p32 : lw_okq (⟨"PutOffWicks$Rows", "farthestFrom", "(II)I"⟩, 1) := ⟨⟨by decide +kernel, by decide +kernel⟩, List.mem_of_getElem? (i := 295) (by decide +kernel), List.mem_of_getElem? (i := 820) (by decide +kernel), List.mem_of_getElem? (i := 821) (by decide +kernel)⟩
theorem lw_p33 : lw_okq (⟨"PutOffWicks$Rows", "sufficesFor", "(III)Z"⟩, 1) := ⟨⟨by decide +kernel, by decide +kernel⟩, List.mem_of_getElem? (i := 295) (by decide +kernel), List.mem_of_getElem? (i := 846) (by decide +kernel), List.mem_of_getElem? (i := 847) (by decide +kernel)⟩
theorem lw_p34 : lw_okq (⟨"PutOffWicks$Shore", "sees", "(III)Z"⟩, 2) := ⟨⟨by decide +kernel, by decide +kernel⟩, List.mem_of_getElem? (i := 281) (by decide +kernel), List.mem_of_getElem? (i := 858) (by decide +kernel), List.mem_of_getElem? (i := 859) (by decide +kernel)⟩
theorem lw_p35 : lw_okq (⟨"PutOffWicks$Shore", "isSeen", "(II)Z"⟩, 2) := ⟨⟨by decide +kernel, by decide +kernel⟩, List.mem_of_getElem? (i := 281) (by decide +kernel), List.mem_of_getElem? (i := 862) (by decide +kernel), List.mem_of_getElem? (i := 863) (by decide +kernel)⟩
theorem lw_p36 : lw_okq (⟨"PutOffWicks$Shore", "fillView", "(I)V"⟩, 2) := ⟨⟨by decide +kernel, by decide +kernel⟩, List.mem_of_getElem? (i := 281) (by decide +kernel), List.mem_of_getElem? (i := 881) (by decide +kernel), List.mem_of_getElem? (i := 882) (by decide +kernel)⟩
theorem lw_p37 : lw_okq (⟨"PutOffWicks$Rows", "beats", "(II)Z"⟩, 1) := ⟨⟨by decide +kernel, by decide +kernel⟩, List.mem_of_getElem? (i := 295) (by decide +kernel), List.mem_of_getElem? (i := 922) (by decide +kernel), List.mem_of_getElem? (i := 923) (by decide +kernel)⟩
theorem lw_p38 : lw_okq (⟨"PutOffWicksModel", "isLeft", "(I)Z"⟩, 55) := ⟨⟨by decide +kernel, by decide +kernel⟩, List.mem_of_getElem? (i := 952) (by decide +kernel), List.mem_of_getElem? (i := 1130) (by decide +kernel), List.mem_of_getElem? (i := 1131) (by decide +kernel)⟩
theorem lw_p39 : lw_okq (⟨"PutOffWicksModel", "isThing", "(I)Z"⟩, 55) := ⟨⟨by decide +kernel, by decide +kernel⟩, List.mem_of_getElem? (i := 952) (by decide +kernel), List.mem_of_getElem? (i := 1134) (by decide +kernel), List.mem_of_getElem? (i := 1135) (by decide +kernel)⟩
theorem lw_p40 : lw_okq (⟨"PutOffWicksModel", "types", "(I)V"⟩, 55) := ⟨⟨by decide +kernel, by decide +kernel⟩, List.mem_of_getElem? (i := 952) (by decide +kernel), List.mem_of_getElem? (i := 1145) (by decide +kernel), List.mem_of_getElem? (i := 1146) (by decide +kernel)⟩
theorem lw_p41 : lw_okq (⟨"PutOffWicksModel", "beginsText", "(I)V"⟩, 55) := ⟨⟨by decide +kernel, by decide +kernel⟩, List.mem_of_getElem? (i := 952) (by decide +kernel), List.mem_of_getElem? (i := 1153) (by decide +kernel), List.mem_of_getElem? (i := 1154) (by decide +kernel)⟩
theorem lw_p42 : lw_okq (⟨"PutOffWicksModel", "readsRule", "()Z"⟩, 55) := ⟨⟨by decide +kernel, by decide +kernel⟩, List.mem_of_getElem? (i := 952) (by decide +kernel), List.mem_of_getElem? (i := 1157) (by decide +kernel), List.mem_of_getElem? (i := 1158) (by decide +kernel)⟩
theorem lw_p43 : lw_okq (⟨"PutOffWicksModel", "here", "()I"⟩, 55) := ⟨⟨by decide +kernel, by decide +kernel⟩, List.mem_of_getElem? (i := 952) (by decide +kernel), List.mem_of_getElem? (i := 1161) (by decide +kernel), List.mem_of_getElem? (i := 1162) (by decide +kernel)⟩
theorem lw_p44 : lw_okq (⟨"PutOffWicksModel", "wrongAt", "(II)Z"⟩, 55) := ⟨⟨by decide +kernel, by decide +kernel⟩, List.mem_of_getElem? (i := 952) (by decide +kernel), List.mem_of_getElem? (i := 1165) (by decide +kernel), List.mem_of_getElem? (i := 1166) (by decide +kernel)⟩
theorem lw_p45 : lw_okq (⟨"PutOffWicksModel", "readsSum", "()Z"⟩, 55) := ⟨⟨by decide +kernel, by decide +kernel⟩, List.mem_of_getElem? (i := 952) (by decide +kernel), List.mem_of_getElem? (i := 1169) (by decide +kernel), List.mem_of_getElem? (i := 1170) (by decide +kernel)⟩
theorem lw_p46 : lw_okq (⟨"PutOffWicksModel", "readsFactor", "()Z"⟩, 55) := ⟨⟨by decide +kernel, by decide +kernel⟩, List.mem_of_getElem? (i := 952) (by decide +kernel), List.mem_of_getElem? (i := 1173) (by decide +kernel), List.mem_of_getElem? (i := 1174) (by decide +kernel)⟩
theorem lw_p47 : lw_okq (⟨"PutOffWicksModel", "opens", "(I)Z"⟩, 55) := ⟨⟨by decide +kernel, by decide +kernel⟩, List.mem_of_getElem? (i := 952) (by decide +kernel), List.mem_of_getElem? (i := 1177) (by decide +kernel), List.mem_of_getElem? (i := 1178) (by decide +kernel)⟩
def lw_privs_3 : List (MethodName × Nat) := [(⟨"PutOffWicks$Rows", "farthestFrom", "(II)I"⟩, 1), (⟨"PutOffWicks$Rows", "sufficesFor", "(III)Z"⟩, 1), (⟨"PutOffWicks$Shore", "sees", "(III)Z"⟩, 2), (⟨"PutOffWicks$Shore", "isSeen", "(II)Z"⟩, 2), (⟨"PutOffWicks$Shore", "fillView", "(I)V"⟩, 2), (⟨"PutOffWicks$Rows", "beats", "(II)Z"⟩, 1), (⟨"PutOffWicksModel", "isLeft", "(I)Z"⟩, 55), (⟨"PutOffWicksModel", "isThing", "(I)Z"⟩, 55), (⟨"PutOffWicksModel", "types", "(I)V"⟩, 55), (⟨"PutOffWicksModel", "beginsText", "(I)V"⟩, 55), (⟨"PutOffWicksModel", "readsRule", "()Z"⟩, 55), (⟨"PutOffWicksModel", "here", "()I"⟩, 55), (⟨"PutOffWicksModel", "wrongAt", "(II)Z"⟩, 55), (⟨"PutOffWicksModel", "readsSum", "()Z"⟩, 55), (⟨"PutOffWicksModel", "readsFactor", "()Z"⟩, 55), (⟨"PutOffWicksModel", "opens", "(I)Z"⟩, 55)]
theorem lw_r3 : ∀ q ∈ lw_privs_3, lw_okq q := List.forall_mem_cons.mpr ⟨lw_p32, List.forall_mem_cons.mpr ⟨lw_p33, List.forall_mem_cons.mpr ⟨lw_p34, List.forall_mem_cons.mpr ⟨lw_p35, List.forall_mem_cons.mpr ⟨lw_p36, List.forall_mem_cons.mpr ⟨lw_p37, List.forall_mem_cons.mpr ⟨lw_p38, List.forall_mem_cons.mpr ⟨lw_p39, List.forall_mem_cons.mpr ⟨lw_p40, List.forall_mem_cons.mpr ⟨lw_p41, List.forall_mem_cons.mpr ⟨lw_p42, List.forall_mem_cons.mpr ⟨lw_p43, List.forall_mem_cons.mpr ⟨lw_p44, List.forall_mem_cons.mpr ⟨lw_p45, List.forall_mem_cons.mpr ⟨lw_p46, List.forall_mem_cons.mpr ⟨lw_p47, fun _ h => absurd h List.not_mem_nil⟩⟩⟩⟩⟩⟩⟩⟩⟩⟩⟩⟩⟩⟩⟩⟩
theorem lw_p48 : lw_okq (⟨"PutOffWicksModel", "isDigit", "()Z"⟩, 55) := ⟨⟨by decide +kernel, by decide +kernel⟩, List.mem_of_getElem? (i := 952) (by decide +kernel), List.mem_of_getElem? (i := 1182) (by decide +kernel), List.mem_of_getElem? (i := 1183) (by decide +kernel)⟩
theorem lw_p49 : lw_okq (⟨"PutOffWicksModel", "readsNumber", "()Z"⟩, 55) := ⟨⟨by decide +kernel, by decide +kernel⟩, List.mem_of_getElem? (i := 952) (by decide +kernel), List.mem_of_getElem? (i := 1186) (by decide +kernel), List.mem_of_getElem? (i := 1187) (by decide +kernel)⟩
theorem lw_p50 : lw_okq (⟨"PutOffWicksModel", "notes", "(II)V"⟩, 55) := ⟨⟨by decide +kernel, by decide +kernel⟩, List.mem_of_getElem? (i := 952) (by decide +kernel), List.mem_of_getElem? (i := 1190) (by decide +kernel), List.mem_of_getElem? (i := 1191) (by decide +kernel)⟩
theorem lw_p51 : lw_okq (⟨"PutOffWicksModel", "closesSums", "(Z)V"⟩, 55) := ⟨⟨by decide +kernel, by decide +kernel⟩, List.mem_of_getElem? (i := 952) (by decide +kernel), List.mem_of_getElem? (i := 1200) (by decide +kernel), List.mem_of_getElem? (i := 1201) (by decide +kernel)⟩
theorem lw_p52 : lw_okq (⟨"PutOffWicksModel", "waitTop", "()I"⟩, 55) := ⟨⟨by decide +kernel, by decide +kernel⟩, List.mem_of_getElem? (i := 952) (by decide +kernel), List.mem_of_getElem? (i := 1204) (by decide +kernel), List.mem_of_getElem? (i := 1205) (by decide +kernel)⟩
theorem lw_p53 : lw_okq (⟨"PutOffWicksModel", "hasOpenSum", "(I)Z"⟩, 55) := ⟨⟨by decide +kernel, by decide +kernel⟩, List.mem_of_getElem? (i := 952) (by decide +kernel), List.mem_of_getElem? (i := 1208) (by decide +kernel), List.mem_of_getElem? (i := 1209) (by decide +kernel)⟩
theorem lw_p54 : lw_okq (⟨"PutOffWicksModel", "readsCondition", "()Z"⟩, 55) := ⟨⟨by decide +kernel, by decide +kernel⟩, List.mem_of_getElem? (i := 952) (by decide +kernel), List.mem_of_getElem? (i := 1212) (by decide +kernel), List.mem_of_getElem? (i := 1213) (by decide +kernel)⟩
theorem lw_p55 : lw_okq (⟨"PutOffWicksModel", "readsCompared", "()Z"⟩, 55) := ⟨⟨by decide +kernel, by decide +kernel⟩, List.mem_of_getElem? (i := 952) (by decide +kernel), List.mem_of_getElem? (i := 1216) (by decide +kernel), List.mem_of_getElem? (i := 1217) (by decide +kernel)⟩
theorem lw_p56 : lw_okq (⟨"PutOffWicksModel", "endsPiece", "()V"⟩, 55) := ⟨⟨by decide +kernel, by decide +kernel⟩, List.mem_of_getElem? (i := 952) (by decide +kernel), List.mem_of_getElem? (i := 1220) (by decide +kernel), List.mem_of_getElem? (i := 1221) (by decide +kernel)⟩
theorem lw_p57 : lw_okq (⟨"PutOffWicksModel", "lands", "(Z)V"⟩, 55) := ⟨⟨by decide +kernel, by decide +kernel⟩, List.mem_of_getElem? (i := 952) (by decide +kernel), List.mem_of_getElem? (i := 1224) (by decide +kernel), List.mem_of_getElem? (i := 1225) (by decide +kernel)⟩
theorem lw_p58 : lw_okq (⟨"PutOffWicksModel", "jumps", "(I)V"⟩, 55) := ⟨⟨by decide +kernel, by decide +kernel⟩, List.mem_of_getElem? (i := 952) (by decide +kernel), List.mem_of_getElem? (i := 1228) (by decide +kernel), List.mem_of_getElem? (i := 1229) (by decide +kernel)⟩
theorem lw_p59 : lw_okq (⟨"PutOffWicksModel", "takes", "(I)Z"⟩, 55) := ⟨⟨by decide +kernel, by decide +kernel⟩, List.mem_of_getElem? (i := 952) (by decide +kernel), List.mem_of_getElem? (i := 1232) (by decide +kernel), List.mem_of_getElem? (i := 1233) (by decide +kernel)⟩
theorem lw_p60 : lw_okq (⟨"PutOffWicksModel", "readsThing", "()Z"⟩, 55) := ⟨⟨by decide +kernel, by decide +kernel⟩, List.mem_of_getElem? (i := 952) (by decide +kernel), List.mem_of_getElem? (i := 1240) (by decide +kernel), List.mem_of_getElem? (i := 1241) (by decide +kernel)⟩
theorem lw_p61 : lw_okq (⟨"PutOffWicksModel", "readsAmount", "(I)Z"⟩, 55) := ⟨⟨by decide +kernel, by decide +kernel⟩, List.mem_of_getElem? (i := 952) (by decide +kernel), List.mem_of_getElem? (i := 1244) (by decide +kernel), List.mem_of_getElem? (i := 1245) (by decide +kernel)⟩
theorem lw_p62 : lw_okq (⟨"PutOffWicksModel", "daysGo", "(I)V"⟩, 55) := ⟨⟨by decide +kernel, by decide +kernel⟩, List.mem_of_getElem? (i := 952) (by decide +kernel), List.mem_of_getElem? (i := 1252) (by decide +kernel), List.mem_of_getElem? (i := 1253) (by decide +kernel)⟩
theorem lw_p63 : lw_okq (⟨"PutOffWicksModel", "dayGoes", "()V"⟩, 55) := ⟨⟨by decide +kernel, by decide +kernel⟩, List.mem_of_getElem? (i := 952) (by decide +kernel), List.mem_of_getElem? (i := 1256) (by decide +kernel), List.mem_of_getElem? (i := 1257) (by decide +kernel)⟩
def lw_privs_4 : List (MethodName × Nat) := [(⟨"PutOffWicksModel", "isDigit", "()Z"⟩, 55), (⟨"PutOffWicksModel", "readsNumber", "()Z"⟩, 55), (⟨"PutOffWicksModel", "notes", "(II)V"⟩, 55), (⟨"PutOffWicksModel", "closesSums", "(Z)V"⟩, 55), (⟨"PutOffWicksModel", "waitTop", "()I"⟩, 55), (⟨"PutOffWicksModel", "hasOpenSum", "(I)Z"⟩, 55), (⟨"PutOffWicksModel", "readsCondition", "()Z"⟩, 55), (⟨"PutOffWicksModel", "readsCompared", "()Z"⟩, 55), (⟨"PutOffWicksModel", "endsPiece", "()V"⟩, 55), (⟨"PutOffWicksModel", "lands", "(Z)V"⟩, 55), (⟨"PutOffWicksModel", "jumps", "(I)V"⟩, 55), (⟨"PutOffWicksModel", "takes", "(I)Z"⟩, 55), (⟨"PutOffWicksModel", "readsThing", "()Z"⟩, 55), (⟨"PutOffWicksModel", "readsAmount", "(I)Z"⟩, 55), (⟨"PutOffWicksModel", "daysGo", "(I)V"⟩, 55), (⟨"PutOffWicksModel", "dayGoes", "()V"⟩, 55)]
theorem lw_r4 : ∀ q ∈ lw_privs_4, lw_okq q := List.forall_mem_cons.mpr ⟨lw_p48, List.forall_mem_cons.mpr ⟨lw_p49, List.forall_mem_cons.mpr ⟨lw_p50, List.forall_mem_cons.mpr ⟨lw_p51, List.forall_mem_cons.mpr ⟨lw_p52, List.forall_mem_cons.mpr ⟨lw_p53, List.forall_mem_cons.mpr ⟨lw_p54, List.forall_mem_cons.mpr ⟨lw_p55, List.forall_mem_cons.mpr ⟨lw_p56, List.forall_mem_cons.mpr ⟨lw_p57, List.forall_mem_cons.mpr ⟨lw_p58, List.forall_mem_cons.mpr ⟨lw_p59, List.forall_mem_cons.mpr ⟨lw_p60, List.forall_mem_cons.mpr ⟨lw_p61, List.forall_mem_cons.mpr ⟨lw_p62, List.forall_mem_cons.mpr ⟨lw_p63, fun _ h => absurd h List.not_mem_nil⟩⟩⟩⟩⟩⟩⟩⟩⟩⟩⟩⟩⟩⟩⟩⟩
theorem lw_p64 : lw_okq (⟨"PutOffWicksModel", "goesOn", "(I)V"⟩, 55) := ⟨⟨by decide +kernel, by decide +kernel⟩, List.mem_of_getElem? (i := 952) (by decide +kernel), List.mem_of_getElem? (i := 1260) (by decide +kernel), List.mem_of_getElem? (i := 1261) (by decide +kernel)⟩
theorem lw_p65 : lw_okq (⟨"PutOffWicksModel", "feels", "(I)V"⟩, 55) := ⟨⟨by decide +kernel, by decide +kernel⟩, List.mem_of_getElem? (i := 952) (by decide +kernel), List.mem_of_getElem? (i := 1264) (by decide +kernel), List.mem_of_getElem? (i := 1265) (by decide +kernel)⟩
theorem lw_p66 : lw_okq (⟨"PutOffWicksModel", "leftOf", "(I)I"⟩, 55) := ⟨⟨by decide +kernel, by decide +kernel⟩, List.mem_of_getElem? (i := 952) (by decide +kernel), List.mem_of_getElem? (i := 1268) (by decide +kernel), List.mem_of_getElem? (i := 1269) (by decide +kernel)⟩
theorem lw_p67 : lw_okq (⟨"PutOffWicksModel", "waitersOf", "(I)I"⟩, 55) := ⟨⟨by decide +kernel, by decide +kernel⟩, List.mem_of_getElem? (i := 952) (by decide +kernel), List.mem_of_getElem? (i := 1272) (by decide +kernel), List.mem_of_getElem? (i := 1273) (by decide +kernel)⟩
theorem lw_p68 : lw_okq (⟨"PutOffWicksModel", "draws", "()I"⟩, 55) := ⟨⟨by decide +kernel, by decide +kernel⟩, List.mem_of_getElem? (i := 952) (by decide +kernel), List.mem_of_getElem? (i := 1276) (by decide +kernel), List.mem_of_getElem? (i := 1277) (by decide +kernel)⟩
theorem lw_p69 : lw_okq (⟨"PutOffWicksModel", "holdsAny", "(I)Z"⟩, 55) := ⟨⟨by decide +kernel, by decide +kernel⟩, List.mem_of_getElem? (i := 952) (by decide +kernel), List.mem_of_getElem? (i := 1280) (by decide +kernel), List.mem_of_getElem? (i := 1281) (by decide +kernel)⟩
theorem lw_p70 : lw_okq (⟨"PutOffWicksModel", "reckonsTo", "(II)I"⟩, 55) := ⟨⟨by decide +kernel, by decide +kernel⟩, List.mem_of_getElem? (i := 952) (by decide +kernel), List.mem_of_getElem? (i := 1284) (by decide +kernel), List.mem_of_getElem? (i := 1285) (by decide +kernel)⟩
theorem lw_p71 : lw_okq (⟨"PutOffWicksModel", "byLaw", "(III)I"⟩, 55) := ⟨⟨by decide +kernel, by decide +kernel⟩, List.mem_of_getElem? (i := 952) (by decide +kernel), List.mem_of_getElem? (i := 1291) (by decide +kernel), List.mem_of_getElem? (i := 1292) (by decide +kernel)⟩
theorem lw_p72 : lw_okq (⟨"PutOffWicksModel", "burns", "(II)V"⟩, 55) := ⟨⟨by decide +kernel, by decide +kernel⟩, List.mem_of_getElem? (i := 952) (by decide +kernel), List.mem_of_getElem? (i := 1295) (by decide +kernel), List.mem_of_getElem? (i := 1296) (by decide +kernel)⟩
theorem lw_p73 : lw_okq (⟨"PutOffWicksModel", "isDone", "(I)V"⟩, 55) := ⟨⟨by decide +kernel, by decide +kernel⟩, List.mem_of_getElem? (i := 952) (by decide +kernel), List.mem_of_getElem? (i := 1302) (by decide +kernel), List.mem_of_getElem? (i := 1303) (by decide +kernel)⟩
theorem lw_p74 : lw_okq (⟨"PutOffWicksModel", "isPutOff", "(I)V"⟩, 55) := ⟨⟨by decide +kernel, by decide +kernel⟩, List.mem_of_getElem? (i := 952) (by decide +kernel), List.mem_of_getElem? (i := 1306) (by decide +kernel), List.mem_of_getElem? (i := 1307) (by decide +kernel)⟩
theorem lw_p75 : lw_okq (⟨"PutOffWicksModel", "setOf", "(I)I"⟩, 55) := ⟨⟨by decide +kernel, by decide +kernel⟩, List.mem_of_getElem? (i := 952) (by decide +kernel), List.mem_of_getElem? (i := 1320) (by decide +kernel), List.mem_of_getElem? (i := 1321) (by decide +kernel)⟩
theorem lw_p76 : lw_okq (⟨"PutOffWicksModel", "daysOf", "(I)I"⟩, 55) := ⟨⟨by decide +kernel, by decide +kernel⟩, List.mem_of_getElem? (i := 952) (by decide +kernel), List.mem_of_getElem? (i := 1340) (by decide +kernel), List.mem_of_getElem? (i := 1341) (by decide +kernel)⟩
theorem lw_p77 : lw_okq (⟨"PutOffWicksModel", "placeOf", "(II)I"⟩, 55) := ⟨⟨by decide +kernel, by decide +kernel⟩, List.mem_of_getElem? (i := 952) (by decide +kernel), List.mem_of_getElem? (i := 1356) (by decide +kernel), List.mem_of_getElem? (i := 1357) (by decide +kernel)⟩
theorem lw_p78 : lw_okq (⟨"PutOffWicksModel", "waysTo", "(III)I"⟩, 55) := ⟨⟨by decide +kernel, by decide +kernel⟩, List.mem_of_getElem? (i := 952) (by decide +kernel), List.mem_of_getElem? (i := 1363) (by decide +kernel), List.mem_of_getElem? (i := 1364) (by decide +kernel)⟩
theorem lw_p79 : lw_okq (⟨"PutOffWicksModel", "lightOf", "(I)I"⟩, 55) := ⟨⟨by decide +kernel, by decide +kernel⟩, List.mem_of_getElem? (i := 952) (by decide +kernel), List.mem_of_getElem? (i := 1371) (by decide +kernel), List.mem_of_getElem? (i := 1372) (by decide +kernel)⟩
def lw_privs_5 : List (MethodName × Nat) := [(⟨"PutOffWicksModel", "goesOn", "(I)V"⟩, 55), (⟨"PutOffWicksModel", "feels", "(I)V"⟩, 55), (⟨"PutOffWicksModel", "leftOf", "(I)I"⟩, 55), (⟨"PutOffWicksModel", "waitersOf", "(I)I"⟩, 55), (⟨"PutOffWicksModel", "draws", "()I"⟩, 55), (⟨"PutOffWicksModel", "holdsAny", "(I)Z"⟩, 55), (⟨"PutOffWicksModel", "reckonsTo", "(II)I"⟩, 55), (⟨"PutOffWicksModel", "byLaw", "(III)I"⟩, 55), (⟨"PutOffWicksModel", "burns", "(II)V"⟩, 55), (⟨"PutOffWicksModel", "isDone", "(I)V"⟩, 55), (⟨"PutOffWicksModel", "isPutOff", "(I)V"⟩, 55), (⟨"PutOffWicksModel", "setOf", "(I)I"⟩, 55), (⟨"PutOffWicksModel", "daysOf", "(I)I"⟩, 55), (⟨"PutOffWicksModel", "placeOf", "(II)I"⟩, 55), (⟨"PutOffWicksModel", "waysTo", "(III)I"⟩, 55), (⟨"PutOffWicksModel", "lightOf", "(I)I"⟩, 55)]
theorem lw_r5 : ∀ q ∈ lw_privs_5, lw_okq q := List.forall_mem_cons.mpr ⟨lw_p64, List.forall_mem_cons.mpr ⟨lw_p65, List.forall_mem_cons.mpr ⟨lw_p66, List.forall_mem_cons.mpr ⟨lw_p67, List.forall_mem_cons.mpr ⟨lw_p68, List.forall_mem_cons.mpr ⟨lw_p69, List.forall_mem_cons.mpr ⟨lw_p70, List.forall_mem_cons.mpr ⟨lw_p71, List.forall_mem_cons.mpr ⟨lw_p72, List.forall_mem_cons.mpr ⟨lw_p73, List.forall_mem_cons.mpr ⟨lw_p74, List.forall_mem_cons.mpr ⟨lw_p75, List.forall_mem_cons.mpr ⟨lw_p76, List.forall_mem_cons.mpr ⟨lw_p77, List.forall_mem_cons.mpr ⟨lw_p78, List.forall_mem_cons.mpr ⟨lw_p79, fun _ h => absurd h List.not_mem_nil⟩⟩⟩⟩⟩⟩⟩⟩⟩⟩⟩⟩⟩⟩⟩⟩
theorem lw_p80 : lw_okq (⟨"PutOffWicksModel", "readsTurn", "(I)Z"⟩, 55) := ⟨⟨by decide +kernel, by decide +kernel⟩, List.mem_of_getElem? (i := 952) (by decide +kernel), List.mem_of_getElem? (i := 1387) (by decide +kernel), List.mem_of_getElem? (i := 1388) (by decide +kernel)⟩
theorem lw_p81 : lw_okq (⟨"PutOffWicksModel", "readsTimes", "()V"⟩, 55) := ⟨⟨by decide +kernel, by decide +kernel⟩, List.mem_of_getElem? (i := 952) (by decide +kernel), List.mem_of_getElem? (i := 1391) (by decide +kernel), List.mem_of_getElem? (i := 1392) (by decide +kernel)⟩
theorem lw_p82 : lw_okq (⟨"PutOffWicksModel", "repeats", "(III)Z"⟩, 55) := ⟨⟨by decide +kernel, by decide +kernel⟩, List.mem_of_getElem? (i := 952) (by decide +kernel), List.mem_of_getElem? (i := 1395) (by decide +kernel), List.mem_of_getElem? (i := 1396) (by decide +kernel)⟩
theorem lw_p83 : lw_okq (⟨"PutOffWicksModel", "turnsAll", "(I)V"⟩, 55) := ⟨⟨by decide +kernel, by decide +kernel⟩, List.mem_of_getElem? (i := 952) (by decide +kernel), List.mem_of_getElem? (i := 1399) (by decide +kernel), List.mem_of_getElem? (i := 1400) (by decide +kernel)⟩
theorem lw_p84 : lw_okq (⟨"PutOffWicksModel", "overs", "()I"⟩, 55) := ⟨⟨by decide +kernel, by decide +kernel⟩, List.mem_of_getElem? (i := 952) (by decide +kernel), List.mem_of_getElem? (i := 1403) (by decide +kernel), List.mem_of_getElem? (i := 1404) (by decide +kernel)⟩
theorem lw_p85 : lw_okq (⟨"PutOffWicksModel", "shortened", "()I"⟩, 55) := ⟨⟨by decide +kernel, by decide +kernel⟩, List.mem_of_getElem? (i := 952) (by decide +kernel), List.mem_of_getElem? (i := 1407) (by decide +kernel), List.mem_of_getElem? (i := 1408) (by decide +kernel)⟩
theorem lw_p86 : lw_okq (⟨"PutOffWicksModel", "oftenTill", "(I)I"⟩, 55) := ⟨⟨by decide +kernel, by decide +kernel⟩, List.mem_of_getElem? (i := 952) (by decide +kernel), List.mem_of_getElem? (i := 1414) (by decide +kernel), List.mem_of_getElem? (i := 1415) (by decide +kernel)⟩
theorem lw_p87 : lw_okq (⟨"PutOffWicksModel", "comesOut", "(I)I"⟩, 55) := ⟨⟨by decide +kernel, by decide +kernel⟩, List.mem_of_getElem? (i := 952) (by decide +kernel), List.mem_of_getElem? (i := 1418) (by decide +kernel), List.mem_of_getElem? (i := 1419) (by decide +kernel)⟩
theorem lw_p88 : lw_okq (⟨"PutOffWicksModel", "areHome", "(I)Z"⟩, 55) := ⟨⟨by decide +kernel, by decide +kernel⟩, List.mem_of_getElem? (i := 952) (by decide +kernel), List.mem_of_getElem? (i := 1422) (by decide +kernel), List.mem_of_getElem? (i := 1423) (by decide +kernel)⟩
theorem lw_p89 : lw_okq (⟨"PutOffWicksModel", "octet", "(I)I"⟩, 55) := ⟨⟨by decide +kernel, by decide +kernel⟩, List.mem_of_getElem? (i := 952) (by decide +kernel), List.mem_of_getElem? (i := 1430) (by decide +kernel), List.mem_of_getElem? (i := 1431) (by decide +kernel)⟩
theorem lw_p90 : lw_okq (⟨"PutOffWicksModel", "forEver", "()I"⟩, 55) := ⟨⟨by decide +kernel, by decide +kernel⟩, List.mem_of_getElem? (i := 952) (by decide +kernel), List.mem_of_getElem? (i := 1434) (by decide +kernel), List.mem_of_getElem? (i := 1435) (by decide +kernel)⟩
theorem lw_p91 : lw_okq (⟨"PutOffWicksModel", "mustEnd", "()I"⟩, 55) := ⟨⟨by decide +kernel, by decide +kernel⟩, List.mem_of_getElem? (i := 952) (by decide +kernel), List.mem_of_getElem? (i := 1439) (by decide +kernel), List.mem_of_getElem? (i := 1440) (by decide +kernel)⟩
theorem lw_p92 : lw_okq (⟨"PutOffWicksModel", "hoursOfRow", "(I)I"⟩, 55) := ⟨⟨by decide +kernel, by decide +kernel⟩, List.mem_of_getElem? (i := 952) (by decide +kernel), List.mem_of_getElem? (i := 1451) (by decide +kernel), List.mem_of_getElem? (i := 1452) (by decide +kernel)⟩
theorem lw_p93 : lw_okq (⟨"PutOffWicksModel", "nextRow", "(I)Z"⟩, 55) := ⟨⟨by decide +kernel, by decide +kernel⟩, List.mem_of_getElem? (i := 952) (by decide +kernel), List.mem_of_getElem? (i := 1455) (by decide +kernel), List.mem_of_getElem? (i := 1456) (by decide +kernel)⟩
theorem lw_p94 : lw_okq (⟨"PutOffWicksModel", "changesRow", "(II)V"⟩, 55) := ⟨⟨by decide +kernel, by decide +kernel⟩, List.mem_of_getElem? (i := 952) (by decide +kernel), List.mem_of_getElem? (i := 1459) (by decide +kernel), List.mem_of_getElem? (i := 1460) (by decide +kernel)⟩
theorem lw_p95 : lw_okq (⟨"PutOffWicksModel", "knowing", "(II)I"⟩, 55) := ⟨⟨by decide +kernel, by decide +kernel⟩, List.mem_of_getElem? (i := 952) (by decide +kernel), List.mem_of_getElem? (i := 1471) (by decide +kernel), List.mem_of_getElem? (i := 1472) (by decide +kernel)⟩
def lw_privs_6 : List (MethodName × Nat) := [(⟨"PutOffWicksModel", "readsTurn", "(I)Z"⟩, 55), (⟨"PutOffWicksModel", "readsTimes", "()V"⟩, 55), (⟨"PutOffWicksModel", "repeats", "(III)Z"⟩, 55), (⟨"PutOffWicksModel", "turnsAll", "(I)V"⟩, 55), (⟨"PutOffWicksModel", "overs", "()I"⟩, 55), (⟨"PutOffWicksModel", "shortened", "()I"⟩, 55), (⟨"PutOffWicksModel", "oftenTill", "(I)I"⟩, 55), (⟨"PutOffWicksModel", "comesOut", "(I)I"⟩, 55), (⟨"PutOffWicksModel", "areHome", "(I)Z"⟩, 55), (⟨"PutOffWicksModel", "octet", "(I)I"⟩, 55), (⟨"PutOffWicksModel", "forEver", "()I"⟩, 55), (⟨"PutOffWicksModel", "mustEnd", "()I"⟩, 55), (⟨"PutOffWicksModel", "hoursOfRow", "(I)I"⟩, 55), (⟨"PutOffWicksModel", "nextRow", "(I)Z"⟩, 55), (⟨"PutOffWicksModel", "changesRow", "(II)V"⟩, 55), (⟨"PutOffWicksModel", "knowing", "(II)I"⟩, 55)]
theorem lw_r6 : ∀ q ∈ lw_privs_6, lw_okq q := List.forall_mem_cons.mpr ⟨lw_p80, List.forall_mem_cons.mpr ⟨lw_p81, List.forall_mem_cons.mpr ⟨lw_p82, List.forall_mem_cons.mpr ⟨lw_p83, List.forall_mem_cons.mpr ⟨lw_p84, List.forall_mem_cons.mpr ⟨lw_p85, List.forall_mem_cons.mpr ⟨lw_p86, List.forall_mem_cons.mpr ⟨lw_p87, List.forall_mem_cons.mpr ⟨lw_p88, List.forall_mem_cons.mpr ⟨lw_p89, List.forall_mem_cons.mpr ⟨lw_p90, List.forall_mem_cons.mpr ⟨lw_p91, List.forall_mem_cons.mpr ⟨lw_p92, List.forall_mem_cons.mpr ⟨lw_p93, List.forall_mem_cons.mpr ⟨lw_p94, List.forall_mem_cons.mpr ⟨lw_p95, fun _ h => absurd h List.not_mem_nil⟩⟩⟩⟩⟩⟩⟩⟩⟩⟩⟩⟩⟩⟩⟩⟩
theorem lw_p96 : lw_okq (⟨"PutOffWicksModel", "unknowing", "(II)I"⟩, 55) := ⟨⟨by decide +kernel, by decide +kernel⟩, List.mem_of_getElem? (i := 952) (by decide +kernel), List.mem_of_getElem? (i := 1475) (by decide +kernel), List.mem_of_getElem? (i := 1476) (by decide +kernel)⟩
theorem lw_p97 : lw_okq (⟨"PutOffWicksModel", "leastLater", "(II)I"⟩, 55) := ⟨⟨by decide +kernel, by decide +kernel⟩, List.mem_of_getElem? (i := 952) (by decide +kernel), List.mem_of_getElem? (i := 1479) (by decide +kernel), List.mem_of_getElem? (i := 1480) (by decide +kernel)⟩
theorem lw_p98 : lw_okq (⟨"PutOffWicksModel", "seenAt", "(II)I"⟩, 55) := ⟨⟨by decide +kernel, by decide +kernel⟩, List.mem_of_getElem? (i := 952) (by decide +kernel), List.mem_of_getElem? (i := 1491) (by decide +kernel), List.mem_of_getElem? (i := 1492) (by decide +kernel)⟩
theorem lw_p99 : lw_okq (⟨"PutOffWicksModel", "isSeen", "(II)Z"⟩, 55) := ⟨⟨by decide +kernel, by decide +kernel⟩, List.mem_of_getElem? (i := 952) (by decide +kernel), List.mem_of_getElem? (i := 1495) (by decide +kernel), List.mem_of_getElem? (i := 1496) (by decide +kernel)⟩
theorem lw_p100 : lw_okq (⟨"PutOffWicksModel", "brightOf", "(I)I"⟩, 55) := ⟨⟨by decide +kernel, by decide +kernel⟩, List.mem_of_getElem? (i := 952) (by decide +kernel), List.mem_of_getElem? (i := 1503) (by decide +kernel), List.mem_of_getElem? (i := 1504) (by decide +kernel)⟩
theorem lw_p101 : lw_okq (⟨"PutOffWicksModel", "isBetter", "(II)Z"⟩, 55) := ⟨⟨by decide +kernel, by decide +kernel⟩, List.mem_of_getElem? (i := 952) (by decide +kernel), List.mem_of_getElem? (i := 1515) (by decide +kernel), List.mem_of_getElem? (i := 1516) (by decide +kernel)⟩
theorem lw_p102 : lw_okq (⟨"PutOffWicksModel", "whoHasLeft", "()I"⟩, 55) := ⟨⟨by decide +kernel, by decide +kernel⟩, List.mem_of_getElem? (i := 952) (by decide +kernel), List.mem_of_getElem? (i := 1539) (by decide +kernel), List.mem_of_getElem? (i := 1540) (by decide +kernel)⟩
def lw_privs_7 : List (MethodName × Nat) := [(⟨"PutOffWicksModel", "unknowing", "(II)I"⟩, 55), (⟨"PutOffWicksModel", "leastLater", "(II)I"⟩, 55), (⟨"PutOffWicksModel", "seenAt", "(II)I"⟩, 55), (⟨"PutOffWicksModel", "isSeen", "(II)Z"⟩, 55), (⟨"PutOffWicksModel", "brightOf", "(I)I"⟩, 55), (⟨"PutOffWicksModel", "isBetter", "(II)Z"⟩, 55), (⟨"PutOffWicksModel", "whoHasLeft", "()I"⟩, 55)]
theorem lw_r7 : ∀ q ∈ lw_privs_7, lw_okq q := List.forall_mem_cons.mpr ⟨lw_p96, List.forall_mem_cons.mpr ⟨lw_p97, List.forall_mem_cons.mpr ⟨lw_p98, List.forall_mem_cons.mpr ⟨lw_p99, List.forall_mem_cons.mpr ⟨lw_p100, List.forall_mem_cons.mpr ⟨lw_p101, List.forall_mem_cons.mpr ⟨lw_p102, fun _ h => absurd h List.not_mem_nil⟩⟩⟩⟩⟩⟩⟩
def lw_privs : List (MethodName × Nat) := lw_privs_1 ++ (lw_privs_2 ++ (lw_privs_3 ++ (lw_privs_4 ++ (lw_privs_5 ++ (lw_privs_6 ++ (lw_privs_7))))))
def lw_tbl : List Cond := k2_sels lw_privs ++ tables_1
theorem lw_privs_ok : ∀ q ∈ lw_privs, lw_okq q := by
  show ∀ q ∈ lw_privs_1 ++ (lw_privs_2 ++ (lw_privs_3 ++ (lw_privs_4 ++ (lw_privs_5 ++ (lw_privs_6 ++ (lw_privs_7)))))), lw_okq q
  exact List.forall_mem_append.mpr ⟨lw_r1, List.forall_mem_append.mpr ⟨lw_r2, List.forall_mem_append.mpr ⟨lw_r3, List.forall_mem_append.mpr ⟨lw_r4, List.forall_mem_append.mpr ⟨lw_r5, List.forall_mem_append.mpr ⟨lw_r6, lw_r7⟩⟩⟩⟩⟩⟩
-- ===== end of PART A; then your names; then what follows =====
end
section
theorem mem_pl {big : List Cond} (ws : List Cond) (ps : List Nat) (hp : ws = ps.filterMap (fun i => big[i]?)) : ∀ w ∈ ws, w ∈ big := by
  intro w hw
  rw [hp] at hw
  obtain ⟨i, -, hi⟩ := List.mem_filterMap.mp hw
  exact List.mem_of_getElem? hi
def lw_g : List Cond := lw_tbl.filter goodWord
theorem lg_of {w : Cond} (i : Nat) (h : lw_tbl[i]? = some w) (g : goodWord w = true) : w ∈ lw_g := List.mem_filter.mpr ⟨List.mem_of_getElem? h, g⟩
theorem lg_good : GoodIn lw_g lw_g := fun w hw => ⟨hw, good_of_word (List.mem_filter.mp hw).2⟩
theorem lg_all {ws : List Cond} (h : ∀ w ∈ ws, w ∈ lw_tbl) (g : ws.all goodWord = true) : ∀ w ∈ ws, w ∈ lw_g := fun w hw => List.mem_filter.mpr ⟨h w hw, List.all_eq_true.mp g w hw⟩
def T_0 : u_T := fun k => match k with
  | _ => ("PutOffWicks$Almanac", "reckoner", "LPutOffWicks$Reckoner;", true)
def ty_0 : Nat → FieldType := fun k => match k with
  | _ => .object "PutOffWicks$Reckoner"
theorem nm_0 : ∀ a, a < 1 → ∀ b, b < 1 → a ≠ b → (T_0 a).2.1 ≠ (T_0 b).2.1 := by decide +kernel
theorem tk_0 : ∀ k, k < 1 → parseFieldDescriptor (T_0 k).2.2.1 = some (ty_0 k) := by decide +kernel
theorem iw_0 : ∀ w ∈ u_ws "PutOffWicks$Almanac" T_0 1, w ∈ lw_g := lg_all (mem_pl _ [323] (by decide +kernel)) (by decide +kernel)
def T_1 : u_T := fun k => match k with
  | 0 => ("PutOffWicks$Law", "reading", "LPutOffWicks$Reading;", true)
  | 1 => ("PutOffWicks$Law", "steps", "[I", true)
  | 2 => ("PutOffWicks$Law", "details", "[I", true)
  | 3 => ("PutOffWicks$Law", "letter", "[I", true)
  | 4 => ("PutOffWicks$Law", "valueAt", "[I", true)
  | 5 => ("PutOffWicks$Law", "holdsAt", "[I", true)
  | 6 => ("PutOffWicks$Law", "endAt", "[I", true)
  | 7 => ("PutOffWicks$Law", "size", "I", false)
  | _ => ("PutOffWicks$Law", "rules", "I", false)
def ty_1 : Nat → FieldType := fun k => match k with
  | 0 => .object "PutOffWicks$Reading"
  | 1 => .array .int
  | 2 => .array .int
  | 3 => .array .int
  | 4 => .array .int
  | 5 => .array .int
  | 6 => .array .int
  | 7 => .int
  | _ => .int
theorem nm_1 : ∀ a, a < 9 → ∀ b, b < 9 → a ≠ b → (T_1 a).2.1 ≠ (T_1 b).2.1 := by decide +kernel
theorem tk_1 : ∀ k, k < 9 → parseFieldDescriptor (T_1 k).2.2.1 = some (ty_1 k) := by decide +kernel
theorem iw_1 : ∀ w ∈ u_ws "PutOffWicks$Law" T_1 9, w ∈ lw_g := lg_all (mem_pl _ [269, 271, 273, 275, 277, 279, 281, 283, 285] (by decide +kernel)) (by decide +kernel)
def T_2 : u_T := fun k => match k with
  | 0 => ("PutOffWicks$Parish", "owner", "[I", true)
  | 1 => ("PutOffWicks$Parish", "waitsFor", "[I", true)
  | 2 => ("PutOffWicks$Parish", "length", "[I", true)
  | 3 => ("PutOffWicks$Parish", "putOff", "[I", true)
  | 4 => ("PutOffWicks$Parish", "litBits", "I", false)
  | 5 => ("PutOffWicks$Parish", "doneBits", "I", false)
  | 6 => ("PutOffWicks$Parish", "things", "I", false)
  | 7 => ("PutOffWicks$Parish", "guttered", "I", false)
  | 8 => ("PutOffWicks$Parish", "day", "I", false)
  | _ => ("PutOffWicks$Parish", "x", "I", false)
def ty_2 : Nat → FieldType := fun k => match k with
  | 0 => .array .int
  | 1 => .array .int
  | 2 => .array .int
  | 3 => .array .int
  | 4 => .int
  | 5 => .int
  | 6 => .int
  | 7 => .int
  | 8 => .int
  | _ => .int
theorem nm_2 : ∀ a, a < 10 → ∀ b, b < 10 → a ≠ b → (T_2 a).2.1 ≠ (T_2 b).2.1 := by decide +kernel
theorem tk_2 : ∀ k, k < 10 → parseFieldDescriptor (T_2 k).2.2.1 = some (ty_2 k) := by decide +kernel
theorem iw_2 : ∀ w ∈ u_ws "PutOffWicks$Parish" T_2 10, w ∈ lw_g := lg_all (mem_pl _ [209, 211, 213, 215, 217, 219, 221, 223, 225, 227] (by decide +kernel)) (by decide +kernel)
def T_3 : u_T := fun k => match k with
  | 0 => ("PutOffWicks$ParishReader", "reading", "LPutOffWicks$Reading;", true)
  | _ => ("PutOffWicks$ParishReader", "draft", "LPutOffWicks$Parish;", true)
def ty_3 : Nat → FieldType := fun k => match k with
  | 0 => .object "PutOffWicks$Reading"
  | _ => .object "PutOffWicks$Parish"
theorem nm_3 : ∀ a, a < 2 → ∀ b, b < 2 → a ≠ b → (T_3 a).2.1 ≠ (T_3 b).2.1 := by decide +kernel
theorem tk_3 : ∀ k, k < 2 → parseFieldDescriptor (T_3 k).2.2.1 = some (ty_3 k) := by decide +kernel
theorem iw_3 : ∀ w ∈ u_ws "PutOffWicks$ParishReader" T_3 2, w ∈ lw_g := lg_all (mem_pl _ [241, 243] (by decide +kernel)) (by decide +kernel)
def T_4 : u_T := fun k => match k with
  | 0 => ("PutOffWicks$Reading", "text", "LPutOffWicks$Tape;", true)
  | 1 => ("PutOffWicks$Reading", "at", "I", false)
  | _ => ("PutOffWicks$Reading", "fault", "I", false)
def ty_4 : Nat → FieldType := fun k => match k with
  | 0 => .object "PutOffWicks$Tape"
  | 1 => .int
  | _ => .int
theorem nm_4 : ∀ a, a < 3 → ∀ b, b < 3 → a ≠ b → (T_4 a).2.1 ≠ (T_4 b).2.1 := by decide +kernel
theorem tk_4 : ∀ k, k < 3 → parseFieldDescriptor (T_4 k).2.2.1 = some (ty_4 k) := by decide +kernel
theorem iw_4 : ∀ w ∈ u_ws "PutOffWicks$Reading" T_4 3, w ∈ lw_g := lg_all (mem_pl _ [163, 165, 167] (by decide +kernel)) (by decide +kernel)
def T_5 : u_T := fun k => match k with
  | 0 => ("PutOffWicks$Reckoner", "law", "LPutOffWicks$Law;", true)
  | 1 => ("PutOffWicks$Reckoner", "stack", "[I", true)
  | 2 => ("PutOffWicks$Reckoner", "top", "I", false)
  | 3 => ("PutOffWicks$Reckoner", "refused", "Z", false)
  | 4 => ("PutOffWicks$Reckoner", "parish", "LPutOffWicks$Parish;", false)
  | 5 => ("PutOffWicks$Reckoner", "thing", "I", false)
  | _ => ("PutOffWicks$Reckoner", "drawn", "I", false)
def ty_5 : Nat → FieldType := fun k => match k with
  | 0 => .object "PutOffWicks$Law"
  | 1 => .array .int
  | 2 => .int
  | 3 => .boolean
  | 4 => .object "PutOffWicks$Parish"
  | 5 => .int
  | _ => .int
theorem nm_5 : ∀ a, a < 7 → ∀ b, b < 7 → a ≠ b → (T_5 a).2.1 ≠ (T_5 b).2.1 := by decide +kernel
theorem tk_5 : ∀ k, k < 7 → parseFieldDescriptor (T_5 k).2.2.1 = some (ty_5 k) := by decide +kernel
theorem iw_5 : ∀ w ∈ u_ws "PutOffWicks$Reckoner" T_5 7, w ∈ lw_g := lg_all (mem_pl _ [303, 305, 307, 309, 311, 313, 315] (by decide +kernel)) (by decide +kernel)
def T_6 : u_T := fun k => match k with
  | _ => ("PutOffWicks$Rows", "tape", "LPutOffWicks$Tape;", true)
def ty_6 : Nat → FieldType := fun k => match k with
  | _ => .object "PutOffWicks$Tape"
theorem nm_6 : ∀ a, a < 1 → ∀ b, b < 1 → a ≠ b → (T_6 a).2.1 ≠ (T_6 b).2.1 := by decide +kernel
theorem tk_6 : ∀ k, k < 1 → parseFieldDescriptor (T_6 k).2.2.1 = some (ty_6 k) := by decide +kernel
theorem iw_6 : ∀ w ∈ u_ws "PutOffWicks$Rows" T_6 1, w ∈ lw_g := lg_all (mem_pl _ [404] (by decide +kernel)) (by decide +kernel)
def T_7 : u_T := fun k => match k with
  | 0 => ("PutOffWicks$Shore", "tape", "LPutOffWicks$Tape;", true)
  | _ => ("PutOffWicks$Shore", "view", "[J", true)
def ty_7 : Nat → FieldType := fun k => match k with
  | 0 => .object "PutOffWicks$Tape"
  | _ => .array .long
theorem nm_7 : ∀ a, a < 2 → ∀ b, b < 2 → a ≠ b → (T_7 a).2.1 ≠ (T_7 b).2.1 := by decide +kernel
theorem tk_7 : ∀ k, k < 2 → parseFieldDescriptor (T_7 k).2.2.1 = some (ty_7 k) := by decide +kernel
theorem iw_7 : ∀ w ∈ u_ws "PutOffWicks$Shore" T_7 2, w ∈ lw_g := lg_all (mem_pl _ [391, 393] (by decide +kernel)) (by decide +kernel)
def T_8 : u_T := fun k => match k with
  | 0 => ("PutOffWicks$Tape", "bytes", "[I", true)
  | 1 => ("PutOffWicks$Tape", "taken", "I", false)
  | _ => ("PutOffWicks$Tape", "size", "I", false)
def ty_8 : Nat → FieldType := fun k => match k with
  | 0 => .array .int
  | 1 => .int
  | _ => .int
theorem nm_8 : ∀ a, a < 3 → ∀ b, b < 3 → a ≠ b → (T_8 a).2.1 ≠ (T_8 b).2.1 := by decide +kernel
theorem tk_8 : ∀ k, k < 3 → parseFieldDescriptor (T_8 k).2.2.1 = some (ty_8 k) := by decide +kernel
theorem iw_8 : ∀ w ∈ u_ws "PutOffWicks$Tape" T_8 3, w ∈ lw_g := lg_all (mem_pl _ [140, 142, 144] (by decide +kernel)) (by decide +kernel)
def T_9 : u_T := fun k => match k with
  | 0 => ("PutOffWicks$Twist", "reading", "LPutOffWicks$Reading;", true)
  | 1 => ("PutOffWicks$Twist", "turn", "[I", true)
  | 2 => ("PutOffWicks$Twist", "left", "[I", true)
  | 3 => ("PutOffWicks$Twist", "groupPlace", "[I", true)
  | 4 => ("PutOffWicks$Twist", "groupTimes", "[I", true)
  | 5 => ("PutOffWicks$Twist", "groupTurns", "[I", true)
  | 6 => ("PutOffWicks$Twist", "goal", "[I", true)
  | 7 => ("PutOffWicks$Twist", "groups", "I", false)
  | _ => ("PutOffWicks$Twist", "turns", "I", false)
def ty_9 : Nat → FieldType := fun k => match k with
  | 0 => .object "PutOffWicks$Reading"
  | 1 => .array .int
  | 2 => .array .int
  | 3 => .array .int
  | 4 => .array .int
  | 5 => .array .int
  | 6 => .array .int
  | 7 => .int
  | _ => .int
theorem nm_9 : ∀ a, a < 9 → ∀ b, b < 9 → a ≠ b → (T_9 a).2.1 ≠ (T_9 b).2.1 := by decide +kernel
theorem tk_9 : ∀ k, k < 9 → parseFieldDescriptor (T_9 k).2.2.1 = some (ty_9 k) := by decide +kernel
theorem iw_9 : ∀ w ∈ u_ws "PutOffWicks$Twist" T_9 9, w ∈ lw_g := lg_all (mem_pl _ [342, 344, 346, 348, 350, 352, 354, 356, 358] (by decide +kernel)) (by decide +kernel)
def T_10 : u_T := fun k => match k with
  | 0 => ("PutOffWicks$Waits", "tape", "LPutOffWicks$Tape;", true)
  | 1 => ("PutOffWicks$Waits", "waitsFor", "[I", true)
  | 2 => ("PutOffWicks$Waits", "stays", "[I", true)
  | 3 => ("PutOffWicks$Waits", "from", "[I", true)
  | _ => ("PutOffWicks$Waits", "rings", "[I", true)
def ty_10 : Nat → FieldType := fun k => match k with
  | 0 => .object "PutOffWicks$Tape"
  | 1 => .array .int
  | 2 => .array .int
  | 3 => .array .int
  | _ => .array .int
theorem nm_10 : ∀ a, a < 5 → ∀ b, b < 5 → a ≠ b → (T_10 a).2.1 ≠ (T_10 b).2.1 := by decide +kernel
theorem tk_10 : ∀ k, k < 5 → parseFieldDescriptor (T_10 k).2.2.1 = some (ty_10 k) := by decide +kernel
theorem iw_10 : ∀ w ∈ u_ws "PutOffWicks$Waits" T_10 5, w ∈ lw_g := lg_all (mem_pl _ [372, 374, 376, 378, 380] (by decide +kernel)) (by decide +kernel)
def T_11 : u_T := fun k => match k with
  | 0 => ("PutOffWicks", "tape", "LPutOffWicks$Tape;", true)
  | 1 => ("PutOffWicks", "reading", "LPutOffWicks$Reading;", true)
  | 2 => ("PutOffWicks", "now", "LPutOffWicks$Parish;", true)
  | 3 => ("PutOffWicks", "kept", "LPutOffWicks$Parish;", true)
  | 4 => ("PutOffWicks", "trial", "LPutOffWicks$Parish;", true)
  | 5 => ("PutOffWicks", "parishReader", "LPutOffWicks$ParishReader;", true)
  | 6 => ("PutOffWicks", "ruling", "LPutOffWicks$Law;", true)
  | 7 => ("PutOffWicks", "lawDraft", "LPutOffWicks$Law;", true)
  | 8 => ("PutOffWicks", "almanac", "LPutOffWicks$Almanac;", true)
  | 9 => ("PutOffWicks", "twisting", "LPutOffWicks$Twist;", true)
  | 10 => ("PutOffWicks", "waits", "LPutOffWicks$Waits;", true)
  | 11 => ("PutOffWicks", "shore", "LPutOffWicks$Shore;", true)
  | 12 => ("PutOffWicks", "rows", "LPutOffWicks$Rows;", true)
  | _ => ("PutOffWicks", "wasKept", "Z", false)
def ty_11 : Nat → FieldType := fun k => match k with
  | 0 => .object "PutOffWicks$Tape"
  | 1 => .object "PutOffWicks$Reading"
  | 2 => .object "PutOffWicks$Parish"
  | 3 => .object "PutOffWicks$Parish"
  | 4 => .object "PutOffWicks$Parish"
  | 5 => .object "PutOffWicks$ParishReader"
  | 6 => .object "PutOffWicks$Law"
  | 7 => .object "PutOffWicks$Law"
  | 8 => .object "PutOffWicks$Almanac"
  | 9 => .object "PutOffWicks$Twist"
  | 10 => .object "PutOffWicks$Waits"
  | 11 => .object "PutOffWicks$Shore"
  | 12 => .object "PutOffWicks$Rows"
  | _ => .boolean
theorem nm_11 : ∀ a, a < 14 → ∀ b, b < 14 → a ≠ b → (T_11 a).2.1 ≠ (T_11 b).2.1 := by decide +kernel
theorem tk_11 : ∀ k, k < 14 → parseFieldDescriptor (T_11 k).2.2.1 = some (ty_11 k) := by decide +kernel
theorem iw_11 : ∀ w ∈ u_ws "PutOffWicks" T_11 14, w ∈ lw_g := lg_all (mem_pl _ [421, 423, 425, 427, 429, 431, 433, 435, 437, 439, 441, 443, 445, 447] (by decide +kernel)) (by decide +kernel)
def T_12 : u_T := fun k => match k with
  | 0 => ("PutOffWicksModel", "now", "[I", true)
  | 1 => ("PutOffWicksModel", "aside", "[I", true)
  | 2 => ("PutOffWicksModel", "kept", "[I", true)
  | 3 => ("PutOffWicksModel", "whoseOf", "[I", true)
  | 4 => ("PutOffWicksModel", "waitsFor", "[I", true)
  | 5 => ("PutOffWicksModel", "things", "I", false)
  | 6 => ("PutOffWicksModel", "tape", "[B", true)
  | 7 => ("PutOffWicksModel", "taped", "I", false)
  | 8 => ("PutOffWicksModel", "place0", "I", false)
  | 9 => ("PutOffWicksModel", "length0", "I", false)
  | 10 => ("PutOffWicksModel", "fault", "I", false)
  | 11 => ("PutOffWicksModel", "number0", "I", false)
  | 12 => ("PutOffWicksModel", "open", "I", false)
  | 13 => ("PutOffWicksModel", "codeMany", "I", false)
  | 14 => ("PutOffWicksModel", "waiting", "I", false)
  | 15 => ("PutOffWicksModel", "saidMany", "I", false)
  | 16 => ("PutOffWicksModel", "clauses", "I", false)
  | 17 => ("PutOffWicksModel", "said", "[I", true)
  | 18 => ("PutOffWicksModel", "waitsAt", "[I", true)
  | 19 => ("PutOffWicksModel", "saidLetter", "[I", true)
  | 20 => ("PutOffWicksModel", "saidFrom", "[I", true)
  | 21 => ("PutOffWicksModel", "saidHalf", "[I", true)
  | 22 => ("PutOffWicksModel", "saidTo", "[I", true)
  | 23 => ("PutOffWicksModel", "codes", "[I", true)
  | 24 => ("PutOffWicksModel", "clauseOf", "[I", true)
  | 25 => ("PutOffWicksModel", "codeFrom", "[I", true)
  | 26 => ("PutOffWicksModel", "codeHalf", "[I", true)
  | 27 => ("PutOffWicksModel", "codeTo", "[I", true)
  | 28 => ("PutOffWicksModel", "stack", "[I", true)
  | 29 => ("PutOffWicksModel", "facts", "[I", true)
  | 30 => ("PutOffWicksModel", "newWhose", "[I", true)
  | 31 => ("PutOffWicksModel", "newLength", "[I", true)
  | 32 => ("PutOffWicksModel", "newLit", "[I", true)
  | 33 => ("PutOffWicksModel", "newWaits", "[I", true)
  | 34 => ("PutOffWicksModel", "newThings", "I", false)
  | 35 => ("PutOffWicksModel", "doneNow", "I", false)
  | 36 => ("PutOffWicksModel", "leftNow", "[I", true)
  | 37 => ("PutOffWicksModel", "orderWays", "[I", true)
  | 38 => ("PutOffWicksModel", "turnNow", "[I", true)
  | 39 => ("PutOffWicksModel", "roundFrom", "[I", true)
  | 40 => ("PutOffWicksModel", "roundAt", "[I", true)
  | 41 => ("PutOffWicksModel", "roundTimes", "[I", true)
  | 42 => ("PutOffWicksModel", "strandAt", "[I", true)
  | 43 => ("PutOffWicksModel", "strandThen", "[I", true)
  | 44 => ("PutOffWicksModel", "turnLeft", "[I", true)
  | 45 => ("PutOffWicksModel", "turnMany", "I", false)
  | 46 => ("PutOffWicksModel", "rounds", "I", false)
  | 47 => ("PutOffWicksModel", "itFrom", "I", false)
  | 48 => ("PutOffWicksModel", "itTimes", "I", false)
  | 49 => ("PutOffWicksModel", "awaits", "[I", true)
  | 50 => ("PutOffWicksModel", "endsBy", "[I", true)
  | 51 => ("PutOffWicksModel", "rowNow", "[I", true)
  | 52 => ("PutOffWicksModel", "seesAt", "[I", true)
  | 53 => ("PutOffWicksModel", "isKept", "Z", false)
  | _ => ("PutOffWicksModel", "keptThings", "I", false)
def ty_12 : Nat → FieldType := fun k => match k with
  | 0 => .array .int
  | 1 => .array .int
  | 2 => .array .int
  | 3 => .array .int
  | 4 => .array .int
  | 5 => .int
  | 6 => .array .byte
  | 7 => .int
  | 8 => .int
  | 9 => .int
  | 10 => .int
  | 11 => .int
  | 12 => .int
  | 13 => .int
  | 14 => .int
  | 15 => .int
  | 16 => .int
  | 17 => .array .int
  | 18 => .array .int
  | 19 => .array .int
  | 20 => .array .int
  | 21 => .array .int
  | 22 => .array .int
  | 23 => .array .int
  | 24 => .array .int
  | 25 => .array .int
  | 26 => .array .int
  | 27 => .array .int
  | 28 => .array .int
  | 29 => .array .int
  | 30 => .array .int
  | 31 => .array .int
  | 32 => .array .int
  | 33 => .array .int
  | 34 => .int
  | 35 => .int
  | 36 => .array .int
  | 37 => .array .int
  | 38 => .array .int
  | 39 => .array .int
  | 40 => .array .int
  | 41 => .array .int
  | 42 => .array .int
  | 43 => .array .int
  | 44 => .array .int
  | 45 => .int
  | 46 => .int
  | 47 => .int
  | 48 => .int
  | 49 => .array .int
  | 50 => .array .int
  | 51 => .array .int
  | 52 => .array .int
  | 53 => .boolean
  | _ => .int
theorem nm_12 : ∀ a, a < 55 → ∀ b, b < 55 → a ≠ b → (T_12 a).2.1 ≠ (T_12 b).2.1 := by decide +kernel
theorem tk_12 : ∀ k, k < 55 → parseFieldDescriptor (T_12 k).2.2.1 = some (ty_12 k) := by decide +kernel
theorem iw_12 : ∀ w ∈ u_ws "PutOffWicksModel" T_12 55, w ∈ lw_g := lg_all (mem_pl _ [1116, 1118, 1120, 1122, 1124, 1126, 1128, 1130, 1132, 1134, 1136, 1138, 1140, 1142, 1144, 1146, 1148, 1150, 1152, 1154, 1156, 1158, 1160, 1162, 1164, 1166, 1168, 1170, 1172, 1174, 1176, 1178, 1180, 1182, 1184, 1186, 1188, 1190, 1192, 1194, 1196, 1198, 1200, 1202, 1204, 1206, 1208, 1210, 1212, 1214, 1216, 1218, 1220, 1222, 1224] (by decide +kernel)) (by decide +kernel)
def clA : List vw_C := [("PutOffWicks$Almanac", T_0, 1), ("PutOffWicks$Law", T_1, 9), ("PutOffWicks$Parish", T_2, 10), ("PutOffWicks$ParishReader", T_3, 2), ("PutOffWicks$Reading", T_4, 3), ("PutOffWicks$Reckoner", T_5, 7), ("PutOffWicks$Rows", T_6, 1), ("PutOffWicks$Shore", T_7, 2), ("PutOffWicks$Tape", T_8, 3), ("PutOffWicks$Twist", T_9, 9), ("PutOffWicks$Waits", T_10, 5), ("PutOffWicks", T_11, 14), ("PutOffWicksModel", T_12, 55)]
end
section
/-! THE ABSTRACT STATE: rows of ints by the number of a cell (an object's fields, an array's elements); shapes of cells are fixed -/
abbrev St : Type := Nat → Nat → Int32
def sR (S : St) (k : Nat) (row : Nat → Int32) : St := fun a => if a = k then row else S a
def sF (S : St) (k j : Nat) (v : Int32) : St := sR S k (upd (S k) j v)
def jrem (x y : Int32) : Int32 := x - x / y * y
def jushr (x y : Int32) : Int32 := (x.toUInt32 >>> (y.toUInt32 &&& Int32.toUInt32 31)).toInt32
def jshl (x y : Int32) : Int32 := x <<< (y &&& 31)
def jshr (x y : Int32) : Int32 := x >>> (y &&& 31)
def jmax (x y : Int32) : Int32 := if x < y then y else x
def jmin (x y : Int32) : Int32 := if y < x then y else x
def jabs (x : Int32) : Int32 := if 0 ≤ x then x else 0 - x
def lshl (x : Int64) (y : Int32) : Int64 := x <<< (y.toInt64 &&& 63)
def lushr (x : Int64) (y : Int32) : Int64 := (x.toUInt64 >>> (y.toInt64.toUInt64 &&& Int64.toUInt64 63)).toInt64
def ig (i : Int32) (n : Nat) : Bool := decide (¬ (i < 0 ∨ n ≤ i.toNatClampNeg))
theorem ig_in {i : Int32} {n : Nat} (h : ig i n = true) : vp_in i n := of_decide_eq_true (p := ¬ (i < 0 ∨ n ≤ i.toNatClampNeg)) h
def m64 (a b : Int32) : Int64 := ⟨⟨a.toBitVec ++ b.toBitVec⟩⟩
def h64 (v : Int64) : Int32 := ⟨⟨v.toBitVec.extractLsb' 32 32⟩⟩
def l64 (v : Int64) : Int32 := ⟨⟨v.toBitVec.extractLsb' 0 32⟩⟩
theorem m64_hl (v : Int64) : m64 (h64 v) (l64 v) = v := by
  apply Int64.toBitVec_inj.mp
  show (v.toBitVec.extractLsb' 32 32) ++ (v.toBitVec.extractLsb' 0 32) = v.toBitVec
  apply BitVec.eq_of_getLsbD_eq
  intro i hi
  rw [BitVec.getLsbD_append]
  by_cases h : i < 32
  · simp [h]
  · have : i - 32 < 32 := by omega
    have h2 : 32 + (i - 32) = i := by omega
    simp [h, this, h2]
def cv (ρ : Nat → Nat) (v : Value) : Value := match v with
  | .ref k => .ref (ρ k)
  | v => v
theorem cv_cat (ρ : Nat → Nat) (v : Value) : (cv ρ v).category = v.category := by cases v <;> rfl
abbrev Sh : Type := (Nat × List (Option Nat)) ⊕ (Nat × Nat)
abbrev SY : Type := Nat × (Nat → Sh)
def fv (ks : List (Option Nat)) (row : Nat → Int32) (j : Nat) : Value := match ks[j]? with
  | some (some k) => if k = 1000 then .ref (row j).toNatClampNeg else .ref k
  | some none => .int (row j)
  | none => .null
def lrow (row : Nat → Int32) (i : Nat) : Int64 := m64 (row (2 * i)) (row (2 * i + 1))
def ce (ρ : Nat → Nat) (τ : Nat → ClassId) (sh : Sh) (row : Nat → Int32) : va_E := match sh with
  | .inl o => .inr (o.1, (List.range o.2.length).map fun j => cv ρ (fv o.2 row j))
  | .inr a => .inl (τ a.1, a.2, if a.1 = 1 then .inr (.inl (lrow row)) else .inl row)
def sw (X : SY) (ρ : Nat → Nat) (τ : Nat → ClassId) (S : St) : va_W := (List.range X.1).map fun k => (ρ k, ce ρ τ (X.2 k) (S k))
def sty (τ : Nat → ClassId) : List (ClassId × FieldType) := [(τ 0, .int), (τ 1, .long), (τ 2, .byte)]
def sA (X : SY) (ρ : Nat → Nat) : Nat → Prop := fun q => ∃ k, k < X.1 ∧ q = ρ k
def inj (X : SY) (ρ : Nat → Nat) : Prop := ∀ i j, i < X.1 → j < X.1 → ρ i = ρ j → i = j
theorem sw_at {X : SY} {ρ : Nat → Nat} {τ : Nat → ClassId} {S : St} {k : Nat} (h : k < X.1) : (sw X ρ τ S)[k]? = some (ρ k, ce ρ τ (X.2 k) (S k)) := by
  simp [sw, h]
theorem sw_get {X : SY} {ρ : Nat → Nat} {τ : Nat → ClassId} {S : St} {k : Nat} {q : Nat × va_E} (h : (sw X ρ τ S)[k]? = some q) : k < X.1 ∧ q = (ρ k, ce ρ τ (X.2 k) (S k)) := by
  have hk : k < X.1 := by
    have := (List.getElem?_eq_some_iff.mp h).1
    simpa [sw] using this
  rw [sw_at hk] at h
  exact ⟨hk, (Option.some.inj h).symm⟩
theorem sw_set {X : SY} {ρ : Nat → Nat} {τ : Nat → ClassId} {S : St} {k : Nat} {row : Nat → Int32} {e : va_E} (h : k < X.1) (he : e = ce ρ τ (X.2 k) row) : (sw X ρ τ S).set k (ρ k, e) = sw X ρ τ (sR S k row) := by
  subst he
  apply List.ext_getElem?
  intro j
  by_cases hj : j = k
  · subst hj
    rw [List.getElem?_set_self (by simpa [sw] using h), sw_at h]
    simp [sR]
  · rw [List.getElem?_set_ne (Ne.symm hj)]
    by_cases hl : j < X.1
    · rw [sw_at hl, sw_at hl]
      simp [sR, hj]
    · rw [List.getElem?_eq_none (by simp [sw]; omega), List.getElem?_eq_none (by simp [sw]; omega)]
theorem sw_D {X : SY} {ρ : Nat → Nat} {τ : Nat → ClassId} {S : St} (hi : inj X ρ) : va_D (sA X ρ) (sw X ρ τ S) := by
  refine ⟨fun i j x y h1 h2 hxy => ?_, fun k q h => ?_⟩
  · obtain ⟨a1, rfl⟩ := sw_get h1
    obtain ⟨a2, rfl⟩ := sw_get h2
    exact hi i j a1 a2 hxy
  · obtain ⟨a1, rfl⟩ := sw_get h
    exact ⟨k, a1, rfl⟩
theorem fs_at {ρ : Nat → Nat} {ks : List (Option Nat)} {row : Nat → Int32} {j : Nat} {o : Option Nat} (h : ks[j]? = some o) : ((List.range ks.length).map fun j => cv ρ (fv ks row j))[j]? = some (cv ρ (fv ks row j)) := by
  have := (List.getElem?_eq_some_iff.mp h).1
  simp [this]
theorem fs_set {ρ : Nat → Nat} {ks : List (Option Nat)} {row : Nat → Int32} {j : Nat} {o : Option Nat} {v : Int32} {w : Value} (h : ks[j]? = some o) (hw : w = cv ρ (fv ks (upd row j v) j)) : ((List.range ks.length).map fun j => cv ρ (fv ks row j)).set j w = (List.range ks.length).map fun i => cv ρ (fv ks (upd row j v) i) := by
  have hl := (List.getElem?_eq_some_iff.mp h).1
  apply List.ext_getElem?
  intro i
  by_cases hi : i = j
  · subst hi
    rw [List.getElem?_set_self (by simpa using hl)]
    simp [hl, hw]
  · rw [List.getElem?_set_ne (Ne.symm hi)]
    by_cases hil : i < ks.length
    · simp [hil, fv, upd, hi]
    · simp [hil]
/-! methods -/
abbrev MI : Type := MethodName × ByteArray × Nat × Option FieldType
def mw (I : MI) : List Cond := Cond.code I.1 I.2.1 I.2.2.1 I.2.2.2 :: lw_g
def rmH (h : Nat) : Room := { frames := h, cells := 0, slots := 0, locals := 40 * h }
def qc (X : SY) (D : va_G) (ρ : Nat → Nat) (τ : Nat → ClassId) (r : Option Int32) (S : St) : Array Value → State → Outcome → State → Prop := fun _ st oc t => (oc = .returned (r.map Value.int) ∧ va_P D clA (sw X ρ τ S) t.heap ∧ va_K D clA (sty τ) t) ∧ va_F (sA X ρ) st t
def pcw (X : SY) (D : va_G) (ρ : Nat → Nat) (τ : Nat → ClassId) (av : List Value) (S : St) : Array Value → State → Prop := va_Pc (av.map (cv ρ)) (fun U => va_P D clA (sw X ρ τ S) U.heap ∧ va_K D clA (sty τ) U)
/-- a method's contract: with the cells as S says it answers r and leaves them as S' says -/
def Ct (X : SY) (I : MI) (h : Nat) (av : List Value) (S : St) (r : Option Int32) (S' : St) : Prop := ∀ (l : Launch) (D : va_G) (ρ : Nat → Nat) (τ : Nat → ClassId), inj X ρ → Met l I.1 (mw I) (rmH h) (pcw X D ρ τ av S) (qc X D ρ τ r S') 0 0 (sA X ρ)
def gc (p : Program) (s : State) (m : MethodId) (args : Array Value) (meth : Method) (c : Code) (I : MI) : Prop := p.tables.exec = Jvm.exec ∧ c.code = I.2.1 ∧ meth.sig.returnType = I.2.2.2 ∧ c.maxLocals = I.2.2.1 ∧ s.vm.findClass I.1.cls = some m.cls ∧ (∀ w ∈ lw_g, w.before args s = true) ∧ meth.locks = false
def lc (ρ : Nat → Nat) (ls : List (Nat × Value)) : List (Nat × Value) := ls.map fun q => (q.1, cv ρ q.2)
/-- within a method: from here it comes to its end with r and S' -/
def G (X : SY) (I : MI) (h : Nat) (r : Option Int32) (S' : St) (pc : Nat) (ls : List (Nat × Value)) (stk : List Value) (S : St) : Prop := ∀ (p : Program) (l : Launch) (e : Env) (s : State) (m : MethodId) (args : Array Value) (below : List Frame) (meth : Method) (c : Code) (H : Heap) (locs : List Loc) (D : va_G) (ρ : Nat → Nat) (τ : Nat → ClassId) (lr : Array Slot),
  gc p s m args meth c I → inj X ρ → va_K D clA (sty τ) s → va_P D clA (sw X ρ τ S) H → va_S (sA X ρ) s.heap H locs → lv_has lr I.2.2.1 (lc ρ ls) → W p l e (rmH h) s m args below meth c H locs 0 0 (MQ below (qc X D ρ τ r S') args s 0 0 (sA X ρ)) (F0 m pc lr (stk.map (cv ρ)))
theorem lc_at {ρ : Nat → Nat} {ls : List (Nat × Value)} {j i : Nat} {v : Value} (h : ls[j]? = some (i, v)) : (lc ρ ls)[j]? = some (i, cv ρ v) := by
  simp [lc, h]
theorem lc_args (ρ : Nat → Nat) : ∀ (vs : List Value) (i : Nat), lc ρ (lv_args i vs) = lv_args i (vs.map (cv ρ))
  | [], _ => rfl
  | v :: vs, i => by
    simp only [lv_args, List.map_cons, cv_cat]
    rw [← lc_args ρ vs]
    rfl
theorem lg_len (ρ : Nat → Nat) : ∀ vs : List Value, (lg_sl (vs.map (cv ρ))).length = (lg_sl vs).length
  | [] => rfl
  | v :: vs => by
    have ih := lg_len ρ vs
    simp only [lg_sl, List.map_cons, List.flatMap_cons, List.length_append, cv_cat] at ih ⊢
    rw [ih]
    by_cases h : v.category = 2 <;> simp [h]
theorem Ct.of {X : SY} {I : MI} {h : Nat} {av : List Value} {S S' : St} {r : Option Int32} (hpl : plainName I.1.cls = true) (hlen : (lg_sl av).length ≤ I.2.2.1) (body : G X I h r S' 0 (lv_args 0 av) [] S) : Ct X I h av S r S' := by
  intro l D ρ τ hi
  refine Met.ofW (cc := I.2.1) (maxL := I.2.2.1) (ret := I.2.2.2) (ws' := lw_g) hpl rfl ?_
  intro p e s m args below meth c s₁ B hml hv
  obtain ⟨rfl, hP, hK⟩ := hv
  have hts := atoms_spec (ws := mw I) B.pre
  have hl := lv_entry (av.map (cv ρ)) (n := I.2.2.1) (by rw [lg_len]; exact hlen)
  rw [lg_entry_eq]
  exact body p l e s m _ below meth c s.heap [] D ρ τ _ ⟨B.exec, B.bytes, B.returns, hml, findClass_of_methodNamed B.named, fun w hw => hts w (List.mem_cons_of_mem _ hw), B.notSynchronized⟩ hi hK hP va_S.rf (by rw [lc_args]; exact hl)
end
section
/-! ONE ROW AN INSTRUCTION, over G -/
def sL (S : St) (k i : Nat) (v : Int64) : St := sR S k (upd (upd (S k) (2 * i) (h64 v)) (2 * i + 1) (l64 v))
def FL (own : String) (idx ci j : Nat) : Prop := ∃ (C : String) (T : u_T) (N : Nat), clA[ci]? = some (C, T, N) ∧ j < N ∧ Cond.fieldLink own idx (T j).1 (T j).2.1 (T j).2.2.1 ∈ lw_g ∧ ∀ w ∈ u_ws C T N, w ∈ lw_g
def FP (own : String) (idx ci j : Nat) (ty : FieldType) : Prop := ∃ (C : String) (T : u_T) (N : Nat) (tf : Nat → FieldType), clA[ci]? = some (C, T, N) ∧ j < N ∧ Cond.fieldLink own idx (T j).1 (T j).2.1 (T j).2.2.1 ∈ lw_g ∧ (∀ w ∈ u_ws C T N, w ∈ lw_g) ∧ (∀ k, k < N → parseFieldDescriptor (T k).2.2.1 = some (tf k)) ∧ (∀ a, a < N → ∀ b, b < N → a ≠ b → (T a).2.1 ≠ (T b).2.1) ∧ (T j).2.2.2 = false ∧ parseFieldDescriptor (T j).2.2.1 = some ty
def MS (own : String) (idx : Nat) (y : MethodName) (code : ByteArray) (n : Nat) : Prop := Cond.methodLink own idx y ∈ lw_g ∧ Cond.static y ∈ lw_g ∧ Cond.initialized "java/lang/Math" ∈ lw_g ∧ Cond.code y code n (some .int) ∈ lw_g
theorem us_ {f : Nat → Int32} {k : Nat} {x : Int32} : upd f k x k = x := by simp [upd]
theorem fv_i {ks : List (Option Nat)} {row : Nat → Int32} {j : Nat} (h : ks[j]? = some none) : fv ks row j = .int (row j) := by simp [fv, h]
theorem fv_r {ks : List (Option Nat)} {row : Nat → Int32} {j q : Nat} (h : ks[j]? = some (some q)) (hq : (q == 1000) = false) : fv ks row j = .ref q := by
  have : ¬ q = 1000 := by simpa using hq
  simp [fv, h, this]
theorem fv_m {ks : List (Option Nat)} {row : Nat → Int32} {j : Nat} (h : ks[j]? = some (some 1000)) : fv ks row j = .ref (row j).toNatClampNeg := by simp [fv, h]
theorem sw_obj {X : SY} {ρ : Nat → Nat} {τ : Nat → ClassId} {S : St} {k ci : Nat} {ks : List (Option Nat)} (hk : k < X.1) (hs : X.2 k = .inl (ci, ks)) : (sw X ρ τ S)[k]? = some (ρ k, .inr (ci, (List.range ks.length).map fun j => cv ρ (fv ks (S k) j))) := by
  rw [sw_at hk, hs]; rfl
theorem sw_arr {X : SY} {ρ : Nat → Nat} {τ : Nat → ClassId} {S : St} {k n : Nat} (hk : k < X.1) (hs : X.2 k = .inr (0, n)) : (sw X ρ τ S)[k]? = some (ρ k, .inl (τ 0, n, .inl (S k))) := by
  rw [sw_at hk, hs]; rfl
theorem sw_arrB {X : SY} {ρ : Nat → Nat} {τ : Nat → ClassId} {S : St} {k n : Nat} (hk : k < X.1) (hs : X.2 k = .inr (2, n)) : (sw X ρ τ S)[k]? = some (ρ k, .inl (τ 2, n, .inl (S k))) := by
  rw [sw_at hk, hs]; rfl
theorem sw_arrL {X : SY} {ρ : Nat → Nat} {τ : Nat → ClassId} {S : St} {k n : Nat} (hk : k < X.1) (hs : X.2 k = .inr (1, n)) : (sw X ρ τ S)[k]? = some (ρ k, .inl (τ 1, n, .inr (.inl (lrow (S k))))) := by
  rw [sw_at hk, hs]; rfl
theorem sw_arrX {X : SY} {ρ : Nat → Nat} {τ : Nat → ClassId} {S : St} {k t n : Nat} (hk : k < X.1) (hs : X.2 k = .inr (t, n)) : (sw X ρ τ S)[k]? = some (ρ k, .inl (τ t, n, if t = 1 then .inr (.inl (lrow (S k))) else .inl (S k))) := by
  rw [sw_at hk, hs]; rfl
theorem ce_last {ρ : Nat → Nat} {τ : Nat → ClassId} {X : SY} {k n i : Nat} {row : Nat → Int32} {v : Int64} (hs : X.2 k = .inr (1, n)) : (.inl (τ 1, n, .inr (.inl (vp_updL (lrow row) i v))) : va_E) = ce ρ τ (X.2 k) (upd (upd row (2 * i) (h64 v)) (2 * i + 1) (l64 v)) := by
  have e : vp_updL (lrow row) i v = lrow (upd (upd row (2 * i) (h64 v)) (2 * i + 1) (l64 v)) := by
    funext j
    by_cases hj : j = i
    · subst hj
      have h1 : ¬ 2 * j = 2 * j + 1 := by omega
      simp [vp_updL, lrow, upd, m64_hl]
    · have h1 : ¬ 2 * j = 2 * i + 1 := by omega
      have h2 : ¬ 2 * j = 2 * i := by omega
      have h3 : ¬ 2 * j + 1 = 2 * i := by omega
      have h4 : ¬ 2 * j + 1 = 2 * i + 1 := by omega
      simp [vp_updL, lrow, upd, hj, h1, h2, h3]
  rw [hs, e]
  rfl
theorem ce_put {ρ : Nat → Nat} {τ : Nat → ClassId} {X : SY} {k ci j : Nat} {ks : List (Option Nat)} {o : Option Nat} {row : Nat → Int32} {v : Int32} {w : Value} (hs : X.2 k = .inl (ci, ks)) (hj : ks[j]? = some o) (hw : w = cv ρ (fv ks (upd row j v) j)) : (.inr (ci, ((List.range ks.length).map fun j => cv ρ (fv ks row j)).set j w) : va_E) = ce ρ τ (X.2 k) (upd row j v) := by
  rw [hs, fs_set hj hw]
  rfl
theorem sty_at {τ : Nat → ClassId} {t : Nat} (h : t < 3) : ∃ ty, (sty τ)[t]? = some (τ t, ty) := by
  rcases (show t = 0 ∨ t = 1 ∨ t = 2 by omega) with rfl | rfl | rfl
  · exact ⟨_, rfl⟩
  · exact ⟨_, rfl⟩
  · exact ⟨_, rfl⟩
theorem lc_pick {ρ : Nat → Nat} {ls ls' : List (Nat × Value)} {js : List Nat} (h : lv_pick ls js = ls') : lv_pick (lc ρ ls) js = lc ρ ls' := by
  subst h
  induction js with
  | nil => rfl
  | cons a t ih =>
    simp only [lv_pick, lc, List.filterMap_cons, List.getElem?_map] at ih ⊢
    cases ls[a]? with
    | none => simpa using ih
    | some q => simp [ih]
theorem lc_f1 {ρ : Nat → Nat} {ls ls' : List (Nat × Value)} {i : Nat} {v : Value} (h : (i, v) :: ls.filter (fun q => !(q.1 == i) && !(q.1 + 1 == i && q.2.category == 2)) = ls') : (i, cv ρ v) :: (lc ρ ls).filter (fun q => !(q.1 == i) && !(q.1 + 1 == i && q.2.category == 2)) = lc ρ ls' := by
  subst h
  simp only [lc, List.map_cons, List.filter_map]
  congr 2
  apply List.filter_congr
  intro q _
  simp [cv_cat]
theorem lc_f2 {ρ : Nat → Nat} {ls ls' : List (Nat × Value)} {i : Nat} {v : Value} (h : (i, v) :: ls.filter (fun q => !(q.1 == i) && (!(q.1 == i + 1) && !(q.1 + 1 == i && q.2.category == 2))) = ls') : (i, cv ρ v) :: (lc ρ ls).filter (fun q => !(q.1 == i) && (!(q.1 == i + 1) && !(q.1 + 1 == i && q.2.category == 2))) = lc ρ ls' := by
  subst h
  simp only [lc, List.map_cons, List.filter_map]
  congr 2
  apply List.filter_congr
  intro q _
  simp [cv_cat]
theorem cat_sum {ρ : Nat → Nat} (st : List Value) : ((st.map (cv ρ)).map fun v => v.category).sum = (st.map fun v => v.category).sum := by
  induction st with
  | nil => rfl
  | cons a t ih => simp only [List.map_cons, List.sum_cons, cv_cat]; rw [ih]
theorem rm_m {ρ : Nat → Nat} {h : Nat} {st : List Value} (hh : 0 < h) (hrm : (st.map fun v => v.category).sum ≤ 8) : ((st.map (cv ρ)).map fun v => v.category).sum + 13 ≤ (rmH h).locals := by
  rw [cat_sum]
  show _ ≤ 40 * h
  omega
section GR
variable {X : SY} {I : MI} {h : Nat} {r : Option Int32} {S' : St} {pc : Nat} {ls : List (Nat × Value)} {stk : List Value} {S : St}
theorem G_iconst  {n : Int} (v : Int32) (hv : Int32.ofInt n = v) (hd : decode I.2.1 pc = .ok (.iconst n, 1)) (kk : G X I h r S' (pc + 1) ls (.int v :: stk) S) : G X I h r S' pc ls stk S := fun p l e s m args below meth c H locs D ρ τ lr hc hi hK hP hS hl => lv_iconst hc.1 hc.2.1 hd hv (kk p l e s m args below meth c H locs D ρ τ lr hc hi hK hP hS hl)
theorem G_bipush  {n : Int} (v : Int32) (hv : (Int8.ofInt n).toInt32 = v) (hd : decode I.2.1 pc = .ok (.bipush n, 2)) (kk : G X I h r S' (pc + 2) ls (.int v :: stk) S) : G X I h r S' pc ls stk S := fun p l e s m args below meth c H locs D ρ τ lr hc hi hK hP hS hl => lv_bipush hc.1 hc.2.1 hd hv (kk p l e s m args below meth c H locs D ρ τ lr hc hi hK hP hS hl)
theorem G_sipush  {n : Int} (v : Int32) (hv : (Int16.ofInt n).toInt32 = v) (hd : decode I.2.1 pc = .ok (.sipush n, 3)) (kk : G X I h r S' (pc + 3) ls (.int v :: stk) S) : G X I h r S' pc ls stk S := fun p l e s m args below meth c H locs D ρ τ lr hc hi hK hP hS hl => lv_sipush hc.1 hc.2.1 hd hv (kk p l e s m args below meth c H locs D ρ τ lr hc hi hK hP hS hl)
theorem G_lconst  {n : Fin 2} (v : Int64) (hv : Int64.ofNat (n : Nat) = v) (hd : decode I.2.1 pc = .ok (.lconst n, 1)) (kk : G X I h r S' (pc + 1) ls (.long v :: stk) S) : G X I h r S' pc ls stk S := fun p l e s m args below meth c H locs D ρ τ lr hc hi hK hP hS hl => lv_lconst hc.1 hc.2.1 hd hv (kk p l e s m args below meth c H locs D ρ τ lr hc hi hK hP hS hl)
theorem G_ldc  {n : Nat} {v : Int32} (hw : Cond.constant I.1.cls n v ∈ lw_g) (hd : decode I.2.1 pc = .ok (.ldc n, 2)) (kk : G X I h r S' (pc + 2) ls (.int v :: stk) S) : G X I h r S' pc ls stk S := fun p l e s m args below meth c H locs D ρ τ lr hc hi hK hP hS hl => lv_ldc hc.1 hc.2.1 hc.2.2.2.2.1 (hc.2.2.2.2.2.1 _ hw) hd (kk p l e s m args below meth c H locs D ρ τ lr hc hi hK hP hS hl)
theorem G_ldcw  {n : Nat} {v : Int32} (hw : Cond.constant I.1.cls n v ∈ lw_g) (hd : decode I.2.1 pc = .ok (.ldc_w n, 3)) (kk : G X I h r S' (pc + 3) ls (.int v :: stk) S) : G X I h r S' pc ls stk S := fun p l e s m args below meth c H locs D ρ τ lr hc hi hK hP hS hl => lv_ldcw hc.1 hc.2.1 hc.2.2.2.2.1 (hc.2.2.2.2.2.1 _ hw) hd (kk p l e s m args below meth c H locs D ρ τ lr hc hi hK hP hS hl)
theorem G_ldc2  {n : Nat} {v : Int64} (hw : Cond.constantLong I.1.cls n v ∈ lw_g) (hd : decode I.2.1 pc = .ok (.ldc2_w n, 3)) (kk : G X I h r S' (pc + 3) ls (.long v :: stk) S) : G X I h r S' pc ls stk S := fun p l e s m args below meth c H locs D ρ τ lr hc hi hK hP hS hl => lv_ldc2 hc.1 hc.2.1 hc.2.2.2.2.1 (hc.2.2.2.2.2.1 _ hw) hd (kk p l e s m args below meth c H locs D ρ τ lr hc hi hK hP hS hl)
theorem G_iload_n  {k : Fin 4} {x : Int32} (j : Nat) (hj : ls[j]? = some ((k : Nat), Value.int x)) (hd : decode I.2.1 pc = .ok (.iload_n k, 1)) (kk : G X I h r S' (pc + 1) ls (.int x :: stk) S) : G X I h r S' pc ls stk S := fun p l e s m args below meth c H locs D ρ τ lr hc hi hK hP hS hl => lv_iload_n hc.1 hc.2.1 hd rfl (lv_at hl j (lc_at hj)) (kk p l e s m args below meth c H locs D ρ τ lr hc hi hK hP hS hl)
theorem G_iload  {k : Nat} {x : Int32} (j : Nat) (hj : ls[j]? = some (k, Value.int x)) (hd : decode I.2.1 pc = .ok (.iload k, 2)) (kk : G X I h r S' (pc + 2) ls (.int x :: stk) S) : G X I h r S' pc ls stk S := fun p l e s m args below meth c H locs D ρ τ lr hc hi hK hP hS hl => lv_iload hc.1 hc.2.1 hd (lv_at hl j (lc_at hj)) (kk p l e s m args below meth c H locs D ρ τ lr hc hi hK hP hS hl)
theorem G_lload_n  {k : Fin 4} {x : Int64} (j : Nat) (hj : ls[j]? = some ((k : Nat), Value.long x)) (hd : decode I.2.1 pc = .ok (.lload_n k, 1)) (kk : G X I h r S' (pc + 1) ls (.long x :: stk) S) : G X I h r S' pc ls stk S := fun p l e s m args below meth c H locs D ρ τ lr hc hi hK hP hS hl => lv_lload_n hc.1 hc.2.1 hd rfl (lv_at hl j (lc_at hj)) (kk p l e s m args below meth c H locs D ρ τ lr hc hi hK hP hS hl)
theorem G_lload  {k : Nat} {x : Int64} (j : Nat) (hj : ls[j]? = some (k, Value.long x)) (hd : decode I.2.1 pc = .ok (.lload k, 2)) (kk : G X I h r S' (pc + 2) ls (.long x :: stk) S) : G X I h r S' pc ls stk S := fun p l e s m args below meth c H locs D ρ τ lr hc hi hK hP hS hl => lv_lload hc.1 hc.2.1 hd (lv_at hl j (lc_at hj)) (kk p l e s m args below meth c H locs D ρ τ lr hc hi hK hP hS hl)
theorem G_aload_n  {k : Fin 4} {x : Nat} (j : Nat) (hj : ls[j]? = some ((k : Nat), Value.ref x)) (hd : decode I.2.1 pc = .ok (.aload_n k, 1)) (kk : G X I h r S' (pc + 1) ls (.ref x :: stk) S) : G X I h r S' pc ls stk S := fun p l e s m args below meth c H locs D ρ τ lr hc hi hK hP hS hl => lv_aload_n hc.1 hc.2.1 hd rfl (lv_at hl j (lc_at hj)) (kk p l e s m args below meth c H locs D ρ τ lr hc hi hK hP hS hl)
theorem G_aload  {k : Nat} {x : Nat} (j : Nat) (hj : ls[j]? = some (k, Value.ref x)) (hd : decode I.2.1 pc = .ok (.aload k, 2)) (kk : G X I h r S' (pc + 2) ls (.ref x :: stk) S) : G X I h r S' pc ls stk S := fun p l e s m args below meth c H locs D ρ τ lr hc hi hK hP hS hl => lv_aload hc.1 hc.2.1 hd (lv_at hl j (lc_at hj)) (kk p l e s m args below meth c H locs D ρ τ lr hc hi hK hP hS hl)
theorem G_istore_n  {k : Fin 4} {x : Int32} (ls' : List (Nat × Value)) (hs : ((k : Nat), Value.int x) :: ls.filter (fun q => !(q.1 == (k : Nat)) && !(q.1 + 1 == (k : Nat) && q.2.category == 2)) = ls') (hn : (k : Nat) < I.2.2.1) (hd : decode I.2.1 pc = .ok (.istore_n k, 1)) (kk : G X I h r S' (pc + 1) ls' (stk) S) : G X I h r S' pc ls (.int x :: stk) S := fun p l e s m args below meth c H locs D ρ τ lr hc hi hK hP hS hl => lv_istore_n hc.1 hc.2.1 hd rfl hl hn (lc_f1 hs) (fun lr hl => kk p l e s m args below meth c H locs D ρ τ lr hc hi hK hP hS hl)
theorem G_istore  {k : Nat} {x : Int32} (ls' : List (Nat × Value)) (hs : (k, Value.int x) :: ls.filter (fun q => !(q.1 == k) && !(q.1 + 1 == k && q.2.category == 2)) = ls') (hn : k < I.2.2.1) (hd : decode I.2.1 pc = .ok (.istore k, 2)) (kk : G X I h r S' (pc + 2) ls' (stk) S) : G X I h r S' pc ls (.int x :: stk) S := fun p l e s m args below meth c H locs D ρ τ lr hc hi hK hP hS hl => lv_istore hc.1 hc.2.1 hd hl hn (lc_f1 hs) (fun lr hl => kk p l e s m args below meth c H locs D ρ τ lr hc hi hK hP hS hl)
theorem G_astore_n  {k : Fin 4} {x : Nat} (ls' : List (Nat × Value)) (hs : ((k : Nat), Value.ref x) :: ls.filter (fun q => !(q.1 == (k : Nat)) && !(q.1 + 1 == (k : Nat) && q.2.category == 2)) = ls') (hn : (k : Nat) < I.2.2.1) (hd : decode I.2.1 pc = .ok (.astore_n k, 1)) (kk : G X I h r S' (pc + 1) ls' (stk) S) : G X I h r S' pc ls (.ref x :: stk) S := fun p l e s m args below meth c H locs D ρ τ lr hc hi hK hP hS hl => lv_astore_n hc.1 hc.2.1 hd rfl hl hn (lc_f1 hs) (fun lr hl => kk p l e s m args below meth c H locs D ρ τ lr hc hi hK hP hS hl)
theorem G_astore  {k : Nat} {x : Nat} (ls' : List (Nat × Value)) (hs : (k, Value.ref x) :: ls.filter (fun q => !(q.1 == k) && !(q.1 + 1 == k && q.2.category == 2)) = ls') (hn : k < I.2.2.1) (hd : decode I.2.1 pc = .ok (.astore k, 2)) (kk : G X I h r S' (pc + 2) ls' (stk) S) : G X I h r S' pc ls (.ref x :: stk) S := fun p l e s m args below meth c H locs D ρ τ lr hc hi hK hP hS hl => lv_astore hc.1 hc.2.1 hd hl hn (lc_f1 hs) (fun lr hl => kk p l e s m args below meth c H locs D ρ τ lr hc hi hK hP hS hl)
theorem G_lstore_n  {k : Fin 4} {x : Int64} (ls' : List (Nat × Value)) (hs : ((k : Nat), Value.long x) :: ls.filter (fun q => !(q.1 == (k : Nat)) && (!(q.1 == (k : Nat) + 1) && !(q.1 + 1 == (k : Nat) && q.2.category == 2))) = ls') (hn : (k : Nat) + 1 < I.2.2.1) (hd : decode I.2.1 pc = .ok (.lstore_n k, 1)) (kk : G X I h r S' (pc + 1) ls' (stk) S) : G X I h r S' pc ls (.long x :: stk) S := fun p l e s m args below meth c H locs D ρ τ lr hc hi hK hP hS hl => lv_lstore_n hc.1 hc.2.1 hd rfl hl hn (lc_f2 hs) (fun lr hl => kk p l e s m args below meth c H locs D ρ τ lr hc hi hK hP hS hl)
theorem G_lstore  {k : Nat} {x : Int64} (ls' : List (Nat × Value)) (hs : (k, Value.long x) :: ls.filter (fun q => !(q.1 == k) && (!(q.1 == k + 1) && !(q.1 + 1 == k && q.2.category == 2))) = ls') (hn : k + 1 < I.2.2.1) (hd : decode I.2.1 pc = .ok (.lstore k, 2)) (kk : G X I h r S' (pc + 2) ls' (stk) S) : G X I h r S' pc ls (.long x :: stk) S := fun p l e s m args below meth c H locs D ρ τ lr hc hi hK hP hS hl => lv_lstore hc.1 hc.2.1 hd hl hn (lc_f2 hs) (fun lr hl => kk p l e s m args below meth c H locs D ρ τ lr hc hi hK hP hS hl)
theorem G_iinc  {k : Nat} {n : Int} {x v : Int32} (j : Nat) (ls' : List (Nat × Value)) (hj : ls[j]? = some (k, Value.int x)) (hv : x + Int32.ofInt n = v) (hs : (k, Value.int v) :: ls.filter (fun q => !(q.1 == k) && !(q.1 + 1 == k && q.2.category == 2)) = ls') (hn : k < I.2.2.1) (hd : decode I.2.1 pc = .ok (.iinc k n, 3)) (kk : G X I h r S' (pc + 3) ls' (stk) S) : G X I h r S' pc ls stk S := fun p l e s m args below meth c H locs D ρ τ lr hc hi hK hP hS hl => lv_iinc hc.1 hc.2.1 hd hl (lc_at hj) hv hn (lc_f1 hs) (fun lr hl => kk p l e s m args below meth c H locs D ρ τ lr hc hi hK hP hS hl)
theorem G_iadd  {x y : Int32} (hd : decode I.2.1 pc = .ok (.iadd, 1)) (kk : G X I h r S' (pc + 1) ls (.int (x + y) :: stk) S) : G X I h r S' pc ls (.int y :: .int x :: stk) S := fun p l e s m args below meth c H locs D ρ τ lr hc hi hK hP hS hl => lv_iadd hc.1 hc.2.1 hd (kk p l e s m args below meth c H locs D ρ τ lr hc hi hK hP hS hl)
theorem G_isub  {x y : Int32} (hd : decode I.2.1 pc = .ok (.isub, 1)) (kk : G X I h r S' (pc + 1) ls (.int (x - y) :: stk) S) : G X I h r S' pc ls (.int y :: .int x :: stk) S := fun p l e s m args below meth c H locs D ρ τ lr hc hi hK hP hS hl => lv_isub hc.1 hc.2.1 hd (kk p l e s m args below meth c H locs D ρ τ lr hc hi hK hP hS hl)
theorem G_imul  {x y : Int32} (hd : decode I.2.1 pc = .ok (.imul, 1)) (kk : G X I h r S' (pc + 1) ls (.int (x * y) :: stk) S) : G X I h r S' pc ls (.int y :: .int x :: stk) S := fun p l e s m args below meth c H locs D ρ τ lr hc hi hK hP hS hl => lv_imul hc.1 hc.2.1 hd (kk p l e s m args below meth c H locs D ρ τ lr hc hi hK hP hS hl)
theorem G_iand  {x y : Int32} (hd : decode I.2.1 pc = .ok (.iand, 1)) (kk : G X I h r S' (pc + 1) ls (.int (x &&& y) :: stk) S) : G X I h r S' pc ls (.int y :: .int x :: stk) S := fun p l e s m args below meth c H locs D ρ τ lr hc hi hK hP hS hl => lv_iand hc.1 hc.2.1 hd (kk p l e s m args below meth c H locs D ρ τ lr hc hi hK hP hS hl)
theorem G_ior  {x y : Int32} (hd : decode I.2.1 pc = .ok (.ior, 1)) (kk : G X I h r S' (pc + 1) ls (.int (x ||| y) :: stk) S) : G X I h r S' pc ls (.int y :: .int x :: stk) S := fun p l e s m args below meth c H locs D ρ τ lr hc hi hK hP hS hl => lv_ior hc.1 hc.2.1 hd (kk p l e s m args below meth c H locs D ρ τ lr hc hi hK hP hS hl)
theorem G_ixor  {x y : Int32} (hd : decode I.2.1 pc = .ok (.ixor, 1)) (kk : G X I h r S' (pc + 1) ls (.int (x ^^^ y) :: stk) S) : G X I h r S' pc ls (.int y :: .int x :: stk) S := fun p l e s m args below meth c H locs D ρ τ lr hc hi hK hP hS hl => lv_ixor hc.1 hc.2.1 hd (kk p l e s m args below meth c H locs D ρ τ lr hc hi hK hP hS hl)
theorem G_ishl  {x y : Int32} (hd : decode I.2.1 pc = .ok (.ishl, 1)) (kk : G X I h r S' (pc + 1) ls (.int (jshl x y) :: stk) S) : G X I h r S' pc ls (.int y :: .int x :: stk) S := fun p l e s m args below meth c H locs D ρ τ lr hc hi hK hP hS hl => lv_ishl hc.1 hc.2.1 hd (kk p l e s m args below meth c H locs D ρ τ lr hc hi hK hP hS hl)
theorem G_ishr  {x y : Int32} (hd : decode I.2.1 pc = .ok (.ishr, 1)) (kk : G X I h r S' (pc + 1) ls (.int (jshr x y) :: stk) S) : G X I h r S' pc ls (.int y :: .int x :: stk) S := fun p l e s m args below meth c H locs D ρ τ lr hc hi hK hP hS hl => lv_ishr hc.1 hc.2.1 hd (kk p l e s m args below meth c H locs D ρ τ lr hc hi hK hP hS hl)
theorem G_iushr  {x y : Int32} (hd : decode I.2.1 pc = .ok (.iushr, 1)) (kk : G X I h r S' (pc + 1) ls (.int (jushr x y) :: stk) S) : G X I h r S' pc ls (.int y :: .int x :: stk) S := fun p l e s m args below meth c H locs D ρ τ lr hc hi hK hP hS hl => lv_iushr hc.1 hc.2.1 hd rfl (kk p l e s m args below meth c H locs D ρ τ lr hc hi hK hP hS hl)
theorem G_idiv  {x y : Int32} (hne : ¬ y = 0) (hd : decode I.2.1 pc = .ok (.idiv, 1)) (kk : G X I h r S' (pc + 1) ls (.int (x / y) :: stk) S) : G X I h r S' pc ls (.int y :: .int x :: stk) S := fun p l e s m args below meth c H locs D ρ τ lr hc hi hK hP hS hl => lv_idiv hc.1 hc.2.1 hd hne (kk p l e s m args below meth c H locs D ρ τ lr hc hi hK hP hS hl)
theorem G_irem  {x y : Int32} (hne : ¬ y = 0) (hd : decode I.2.1 pc = .ok (.irem, 1)) (kk : G X I h r S' (pc + 1) ls (.int (jrem x y) :: stk) S) : G X I h r S' pc ls (.int y :: .int x :: stk) S := fun p l e s m args below meth c H locs D ρ τ lr hc hi hK hP hS hl => lv_irem hc.1 hc.2.1 hd hne (kk p l e s m args below meth c H locs D ρ τ lr hc hi hK hP hS hl)
theorem G_ineg  {x : Int32} (hd : decode I.2.1 pc = .ok (.ineg, 1)) (kk : G X I h r S' (pc + 1) ls (.int (-x) :: stk) S) : G X I h r S' pc ls (.int x :: stk) S := fun p l e s m args below meth c H locs D ρ τ lr hc hi hK hP hS hl => lv_ineg hc.1 hc.2.1 hd (kk p l e s m args below meth c H locs D ρ τ lr hc hi hK hP hS hl)
theorem G_ladd  {x y : Int64} (hd : decode I.2.1 pc = .ok (.ladd, 1)) (kk : G X I h r S' (pc + 1) ls (.long (x + y) :: stk) S) : G X I h r S' pc ls (.long y :: .long x :: stk) S := fun p l e s m args below meth c H locs D ρ τ lr hc hi hK hP hS hl => lv_ladd hc.1 hc.2.1 hd (kk p l e s m args below meth c H locs D ρ τ lr hc hi hK hP hS hl)
theorem G_lsub  {x y : Int64} (hd : decode I.2.1 pc = .ok (.lsub, 1)) (kk : G X I h r S' (pc + 1) ls (.long (x - y) :: stk) S) : G X I h r S' pc ls (.long y :: .long x :: stk) S := fun p l e s m args below meth c H locs D ρ τ lr hc hi hK hP hS hl => lv_lsub hc.1 hc.2.1 hd (kk p l e s m args below meth c H locs D ρ τ lr hc hi hK hP hS hl)
theorem G_lmul  {x y : Int64} (hd : decode I.2.1 pc = .ok (.lmul, 1)) (kk : G X I h r S' (pc + 1) ls (.long (x * y) :: stk) S) : G X I h r S' pc ls (.long y :: .long x :: stk) S := fun p l e s m args below meth c H locs D ρ τ lr hc hi hK hP hS hl => lv_lmul hc.1 hc.2.1 hd (kk p l e s m args below meth c H locs D ρ τ lr hc hi hK hP hS hl)
theorem G_land  {x y : Int64} (hd : decode I.2.1 pc = .ok (.land, 1)) (kk : G X I h r S' (pc + 1) ls (.long (x &&& y) :: stk) S) : G X I h r S' pc ls (.long y :: .long x :: stk) S := fun p l e s m args below meth c H locs D ρ τ lr hc hi hK hP hS hl => lv_land hc.1 hc.2.1 hd (kk p l e s m args below meth c H locs D ρ τ lr hc hi hK hP hS hl)
theorem G_lor  {x y : Int64} (hd : decode I.2.1 pc = .ok (.lor, 1)) (kk : G X I h r S' (pc + 1) ls (.long (x ||| y) :: stk) S) : G X I h r S' pc ls (.long y :: .long x :: stk) S := fun p l e s m args below meth c H locs D ρ τ lr hc hi hK hP hS hl => lv_lor hc.1 hc.2.1 hd (kk p l e s m args below meth c H locs D ρ τ lr hc hi hK hP hS hl)
theorem G_ldiv  {x y : Int64} (hne : ¬ y = 0) (hd : decode I.2.1 pc = .ok (.ldiv, 1)) (kk : G X I h r S' (pc + 1) ls (.long (x / y) :: stk) S) : G X I h r S' pc ls (.long y :: .long x :: stk) S := fun p l e s m args below meth c H locs D ρ τ lr hc hi hK hP hS hl => lv_ldiv hc.1 hc.2.1 hd hne (kk p l e s m args below meth c H locs D ρ τ lr hc hi hK hP hS hl)
theorem G_lshl  {x : Int64} {y : Int32} (hd : decode I.2.1 pc = .ok (.lshl, 1)) (kk : G X I h r S' (pc + 1) ls (.long (lshl x y) :: stk) S) : G X I h r S' pc ls (.int y :: .long x :: stk) S := fun p l e s m args below meth c H locs D ρ τ lr hc hi hK hP hS hl => lv_lshl hc.1 hc.2.1 hd rfl (kk p l e s m args below meth c H locs D ρ τ lr hc hi hK hP hS hl)
theorem G_lushr  {x : Int64} {y : Int32} (hd : decode I.2.1 pc = .ok (.lushr, 1)) (kk : G X I h r S' (pc + 1) ls (.long (lushr x y) :: stk) S) : G X I h r S' pc ls (.int y :: .long x :: stk) S := fun p l e s m args below meth c H locs D ρ τ lr hc hi hK hP hS hl => lv_lushr hc.1 hc.2.1 hd rfl (kk p l e s m args below meth c H locs D ρ τ lr hc hi hK hP hS hl)
theorem G_lcmp  {x y : Int64} (hd : decode I.2.1 pc = .ok (.lcmp, 1)) (kk : G X I h r S' (pc + 1) ls (.int (lg_cmp x y) :: stk) S) : G X I h r S' pc ls (.long y :: .long x :: stk) S := fun p l e s m args below meth c H locs D ρ τ lr hc hi hK hP hS hl => W.lcmp hc.1 hc.2.1 hd (kk p l e s m args below meth c H locs D ρ τ lr hc hi hK hP hS hl)
theorem G_i2l  {x : Int32} (hd : decode I.2.1 pc = .ok (.i2l, 1)) (kk : G X I h r S' (pc + 1) ls (.long x.toInt64 :: stk) S) : G X I h r S' pc ls (.int x :: stk) S := fun p l e s m args below meth c H locs D ρ τ lr hc hi hK hP hS hl => lv_i2l hc.1 hc.2.1 hd rfl (kk p l e s m args below meth c H locs D ρ τ lr hc hi hK hP hS hl)
theorem G_l2i  {x : Int64} (hd : decode I.2.1 pc = .ok (.l2i, 1)) (kk : G X I h r S' (pc + 1) ls (.int x.toInt32 :: stk) S) : G X I h r S' pc ls (.long x :: stk) S := fun p l e s m args below meth c H locs D ρ τ lr hc hi hK hP hS hl => lv_l2i hc.1 hc.2.1 hd rfl (kk p l e s m args below meth c H locs D ρ τ lr hc hi hK hP hS hl)
theorem G_i2b  {x : Int32} (hd : decode I.2.1 pc = .ok (.i2b, 1)) (kk : G X I h r S' (pc + 1) ls (.int x.toInt8.toInt32 :: stk) S) : G X I h r S' pc ls (.int x :: stk) S := fun p l e s m args below meth c H locs D ρ τ lr hc hi hK hP hS hl => lv_i2b hc.1 hc.2.1 hd rfl (kk p l e s m args below meth c H locs D ρ τ lr hc hi hK hP hS hl)
theorem G_dup  {va : Value} (hva : va.category = 1) (hd : decode I.2.1 pc = .ok (.dup, 1)) (kk : G X I h r S' (pc + 1) ls (va :: va :: stk) S) : G X I h r S' pc ls (va :: stk) S := fun p l e s m args below meth c H locs D ρ τ lr hc hi hK hP hS hl => lv_dup hc.1 hc.2.1 hd ((cv_cat ρ va).trans hva) (kk p l e s m args below meth c H locs D ρ τ lr hc hi hK hP hS hl)
theorem G_pop  {va : Value} (hva : va.category = 1) (hd : decode I.2.1 pc = .ok (.pop, 1)) (kk : G X I h r S' (pc + 1) ls (stk) S) : G X I h r S' pc ls (va :: stk) S := fun p l e s m args below meth c H locs D ρ τ lr hc hi hK hP hS hl => lv_pop hc.1 hc.2.1 hd ((cv_cat ρ va).trans hva) (kk p l e s m args below meth c H locs D ρ τ lr hc hi hK hP hS hl)
theorem G_dup2  {va vb : Value} (hva : va.category = 1) (hvb : vb.category = 1) (hd : decode I.2.1 pc = .ok (.dup2, 1)) (kk : G X I h r S' (pc + 1) ls (va :: vb :: va :: vb :: stk) S) : G X I h r S' pc ls (va :: vb :: stk) S := fun p l e s m args below meth c H locs D ρ τ lr hc hi hK hP hS hl => lv_dup2_11 hc.1 hc.2.1 hd ((cv_cat ρ va).trans hva) ((cv_cat ρ vb).trans hvb) (kk p l e s m args below meth c H locs D ρ τ lr hc hi hK hP hS hl)
theorem G_if_eq  {x : Int32} {off : Int} (tgt : Nat) (ht : (pc : Int) + off = (tgt : Int)) (hd : decode I.2.1 pc = .ok (.ifCond .eq off, 3)) (kt : x = 0 → G X I h r S' tgt ls stk S) (kf : ¬ x = 0 → G X I h r S' (pc + 3) ls stk S) : G X I h r S' pc ls (.int x :: stk) S := fun p l e s m args below meth c H locs D ρ τ lr hc hi hK hP hS hl => lv_if_eq hc.1 hc.2.1 hd ht (fun q => kt q p l e s m args below meth c H locs D ρ τ lr hc hi hK hP hS hl) (fun q => kf q p l e s m args below meth c H locs D ρ τ lr hc hi hK hP hS hl)
theorem G_icmp_eq  {x y : Int32} {off : Int} (tgt : Nat) (ht : (pc : Int) + off = (tgt : Int)) (hd : decode I.2.1 pc = .ok (.if_icmp .eq off, 3)) (kt : x = y → G X I h r S' tgt ls stk S) (kf : ¬ x = y → G X I h r S' (pc + 3) ls stk S) : G X I h r S' pc ls (.int y :: .int x :: stk) S := fun p l e s m args below meth c H locs D ρ τ lr hc hi hK hP hS hl => lv_icmp_eq hc.1 hc.2.1 hd ht (fun q => kt q p l e s m args below meth c H locs D ρ τ lr hc hi hK hP hS hl) (fun q => kf q p l e s m args below meth c H locs D ρ τ lr hc hi hK hP hS hl)
theorem G_if_ne  {x : Int32} {off : Int} (tgt : Nat) (ht : (pc : Int) + off = (tgt : Int)) (hd : decode I.2.1 pc = .ok (.ifCond .ne off, 3)) (kt : ¬ x = 0 → G X I h r S' tgt ls stk S) (kf : x = 0 → G X I h r S' (pc + 3) ls stk S) : G X I h r S' pc ls (.int x :: stk) S := fun p l e s m args below meth c H locs D ρ τ lr hc hi hK hP hS hl => lv_if_ne hc.1 hc.2.1 hd ht (fun q => kt q p l e s m args below meth c H locs D ρ τ lr hc hi hK hP hS hl) (fun q => kf q p l e s m args below meth c H locs D ρ τ lr hc hi hK hP hS hl)
theorem G_icmp_ne  {x y : Int32} {off : Int} (tgt : Nat) (ht : (pc : Int) + off = (tgt : Int)) (hd : decode I.2.1 pc = .ok (.if_icmp .ne off, 3)) (kt : ¬ x = y → G X I h r S' tgt ls stk S) (kf : x = y → G X I h r S' (pc + 3) ls stk S) : G X I h r S' pc ls (.int y :: .int x :: stk) S := fun p l e s m args below meth c H locs D ρ τ lr hc hi hK hP hS hl => lv_icmp_ne hc.1 hc.2.1 hd ht (fun q => kt q p l e s m args below meth c H locs D ρ τ lr hc hi hK hP hS hl) (fun q => kf q p l e s m args below meth c H locs D ρ τ lr hc hi hK hP hS hl)
theorem G_if_lt  {x : Int32} {off : Int} (tgt : Nat) (ht : (pc : Int) + off = (tgt : Int)) (hd : decode I.2.1 pc = .ok (.ifCond .lt off, 3)) (kt : x < 0 → G X I h r S' tgt ls stk S) (kf : ¬ x < 0 → G X I h r S' (pc + 3) ls stk S) : G X I h r S' pc ls (.int x :: stk) S := fun p l e s m args below meth c H locs D ρ τ lr hc hi hK hP hS hl => lv_if_lt hc.1 hc.2.1 hd ht (fun q => kt q p l e s m args below meth c H locs D ρ τ lr hc hi hK hP hS hl) (fun q => kf q p l e s m args below meth c H locs D ρ τ lr hc hi hK hP hS hl)
theorem G_icmp_lt  {x y : Int32} {off : Int} (tgt : Nat) (ht : (pc : Int) + off = (tgt : Int)) (hd : decode I.2.1 pc = .ok (.if_icmp .lt off, 3)) (kt : x < y → G X I h r S' tgt ls stk S) (kf : ¬ x < y → G X I h r S' (pc + 3) ls stk S) : G X I h r S' pc ls (.int y :: .int x :: stk) S := fun p l e s m args below meth c H locs D ρ τ lr hc hi hK hP hS hl => lv_icmp_lt hc.1 hc.2.1 hd ht (fun q => kt q p l e s m args below meth c H locs D ρ τ lr hc hi hK hP hS hl) (fun q => kf q p l e s m args below meth c H locs D ρ τ lr hc hi hK hP hS hl)
theorem G_if_ge  {x : Int32} {off : Int} (tgt : Nat) (ht : (pc : Int) + off = (tgt : Int)) (hd : decode I.2.1 pc = .ok (.ifCond .ge off, 3)) (kt : 0 ≤ x → G X I h r S' tgt ls stk S) (kf : ¬ 0 ≤ x → G X I h r S' (pc + 3) ls stk S) : G X I h r S' pc ls (.int x :: stk) S := fun p l e s m args below meth c H locs D ρ τ lr hc hi hK hP hS hl => lv_if_ge hc.1 hc.2.1 hd ht (fun q => kt q p l e s m args below meth c H locs D ρ τ lr hc hi hK hP hS hl) (fun q => kf q p l e s m args below meth c H locs D ρ τ lr hc hi hK hP hS hl)
theorem G_icmp_ge  {x y : Int32} {off : Int} (tgt : Nat) (ht : (pc : Int) + off = (tgt : Int)) (hd : decode I.2.1 pc = .ok (.if_icmp .ge off, 3)) (kt : y ≤ x → G X I h r S' tgt ls stk S) (kf : ¬ y ≤ x → G X I h r S' (pc + 3) ls stk S) : G X I h r S' pc ls (.int y :: .int x :: stk) S := fun p l e s m args below meth c H locs D ρ τ lr hc hi hK hP hS hl => lv_icmp_ge hc.1 hc.2.1 hd ht (fun q => kt q p l e s m args below meth c H locs D ρ τ lr hc hi hK hP hS hl) (fun q => kf q p l e s m args below meth c H locs D ρ τ lr hc hi hK hP hS hl)
theorem G_if_gt  {x : Int32} {off : Int} (tgt : Nat) (ht : (pc : Int) + off = (tgt : Int)) (hd : decode I.2.1 pc = .ok (.ifCond .gt off, 3)) (kt : 0 < x → G X I h r S' tgt ls stk S) (kf : ¬ 0 < x → G X I h r S' (pc + 3) ls stk S) : G X I h r S' pc ls (.int x :: stk) S := fun p l e s m args below meth c H locs D ρ τ lr hc hi hK hP hS hl => lv_if_gt hc.1 hc.2.1 hd ht (fun q => kt q p l e s m args below meth c H locs D ρ τ lr hc hi hK hP hS hl) (fun q => kf q p l e s m args below meth c H locs D ρ τ lr hc hi hK hP hS hl)
theorem G_icmp_gt  {x y : Int32} {off : Int} (tgt : Nat) (ht : (pc : Int) + off = (tgt : Int)) (hd : decode I.2.1 pc = .ok (.if_icmp .gt off, 3)) (kt : y < x → G X I h r S' tgt ls stk S) (kf : ¬ y < x → G X I h r S' (pc + 3) ls stk S) : G X I h r S' pc ls (.int y :: .int x :: stk) S := fun p l e s m args below meth c H locs D ρ τ lr hc hi hK hP hS hl => lv_icmp_gt hc.1 hc.2.1 hd ht (fun q => kt q p l e s m args below meth c H locs D ρ τ lr hc hi hK hP hS hl) (fun q => kf q p l e s m args below meth c H locs D ρ τ lr hc hi hK hP hS hl)
theorem G_if_le  {x : Int32} {off : Int} (tgt : Nat) (ht : (pc : Int) + off = (tgt : Int)) (hd : decode I.2.1 pc = .ok (.ifCond .le off, 3)) (kt : x ≤ 0 → G X I h r S' tgt ls stk S) (kf : ¬ x ≤ 0 → G X I h r S' (pc + 3) ls stk S) : G X I h r S' pc ls (.int x :: stk) S := fun p l e s m args below meth c H locs D ρ τ lr hc hi hK hP hS hl => lv_if_le hc.1 hc.2.1 hd ht (fun q => kt q p l e s m args below meth c H locs D ρ τ lr hc hi hK hP hS hl) (fun q => kf q p l e s m args below meth c H locs D ρ τ lr hc hi hK hP hS hl)
theorem G_icmp_le  {x y : Int32} {off : Int} (tgt : Nat) (ht : (pc : Int) + off = (tgt : Int)) (hd : decode I.2.1 pc = .ok (.if_icmp .le off, 3)) (kt : x ≤ y → G X I h r S' tgt ls stk S) (kf : ¬ x ≤ y → G X I h r S' (pc + 3) ls stk S) : G X I h r S' pc ls (.int y :: .int x :: stk) S := fun p l e s m args below meth c H locs D ρ τ lr hc hi hK hP hS hl => lv_icmp_le hc.1 hc.2.1 hd ht (fun q => kt q p l e s m args below meth c H locs D ρ τ lr hc hi hK hP hS hl) (fun q => kf q p l e s m args below meth c H locs D ρ τ lr hc hi hK hP hS hl)
theorem G_goto  {off : Int} (tgt : Nat) (ht : (pc : Int) + off = (tgt : Int)) (hd : decode I.2.1 pc = .ok (.goto off, 3)) (kk : G X I h r S' (tgt) ls (stk) S) : G X I h r S' pc ls stk S := fun p l e s m args below meth c H locs D ρ τ lr hc hi hK hP hS hl => lv_goto hc.1 hc.2.1 hd ht (kk p l e s m args below meth c H locs D ρ τ lr hc hi hK hP hS hl)
theorem G_tin  {dflt lo hi' : Int} {offs : Array Int} {len : Nat} {x : Int32} {off : Int} (z : Int) (hx : x.toInt = z) (tgt : Nat) (h1 : ¬ z < lo) (h2 : ¬ hi' < z) (ho : offs[(z - lo).toNat]? = some off) (ht : (pc : Int) + off = (tgt : Int)) (hd : decode I.2.1 pc = .ok (.tableswitch dflt lo hi' offs, len)) (kk : G X I h r S' (tgt) ls (stk) S) : G X I h r S' pc ls (.int x :: stk) S := fun p l e s m args below meth c H locs D ρ τ lr hc hi hK hP hS hl => lv_tableIn hc.1 hc.2.1 hd (by rw [hx]; exact h1) (by rw [hx]; exact h2) (by rw [hx]; exact ho) ht (kk p l e s m args below meth c H locs D ρ τ lr hc hi hK hP hS hl)
theorem G_tout  {dflt lo hi' : Int} {offs : Array Int} {len : Nat} {x : Int32} (hx : x.toInt < lo ∨ hi' < x.toInt) (tgt : Nat) (ht : (pc : Int) + dflt = (tgt : Int)) (hd : decode I.2.1 pc = .ok (.tableswitch dflt lo hi' offs, len)) (kk : G X I h r S' (tgt) ls (stk) S) : G X I h r S' pc ls (.int x :: stk) S := fun p l e s m args below meth c H locs D ρ τ lr hc hi hK hP hS hl => lv_tableOut hc.1 hc.2.1 hd hx ht (kk p l e s m args below meth c H locs D ρ τ lr hc hi hK hP hS hl)
theorem G_look  {dflt : Int} {ps : Array (Int × Int)} {len : Nat} {x : Int32} {off : Int} (tgt : Nat) (hp : (ps.toList.zip (ps.toList.drop 1)).all (fun (a, next) => a.1 < next.1) = true) (ho : Op.lookupswitch.offset ps.toList dflt x.toInt = off) (ht : (pc : Int) + off = (tgt : Int)) (hd : decode I.2.1 pc = .ok (.lookupswitch dflt ps, len)) (kk : G X I h r S' (tgt) ls (stk) S) : G X I h r S' pc ls (.int x :: stk) S := fun p l e s m args below meth c H locs D ρ τ lr hc hi hK hP hS hl => lv_lookup hc.1 hc.2.1 hd hp ho ht (kk p l e s m args below meth c H locs D ρ τ lr hc hi hK hP hS hl)
theorem G_sub  (ls' : List (Nat × Value)) (js : List Nat) (hj : lv_pick ls js = ls') (kk : G X I h r S' (pc) ls' (stk) S) : G X I h r S' pc ls stk S := fun p l e s m args below meth c H locs D ρ τ lr hc hi hK hP hS hl => kk p l e s m args below meth c H locs D ρ τ lr hc hi hK hP hS (lv_sub hl js (lc_pick hj))
theorem G_iaload  {k n : Nat} {i : Int32} (hk : k < X.1) (hsh : X.2 k = .inr (0, n)) (hg : ig i n = true) (hd : decode I.2.1 pc = .ok (.iaload, 1)) (kk : G X I h r S' (pc + 1) ls (.int (S k i.toNatClampNeg) :: stk) S) : G X I h r S' pc ls (.int i :: .ref k :: stk) S := fun p l e s m args below meth c H locs D ρ τ lr hc hi hK hP hS hl => va_iald hc.1 hc.2.1 hK hP k 0 (sw_arr hk hsh) rfl (ig_in hg) hd (kk p l e s m args below meth c H locs D ρ τ lr hc hi hK hP hS hl)
theorem G_baload  {k n : Nat} {i : Int32} (hk : k < X.1) (hsh : X.2 k = .inr (2, n)) (hg : ig i n = true) (hd : decode I.2.1 pc = .ok (.baload, 1)) (kk : G X I h r S' (pc + 1) ls (.int (S k i.toNatClampNeg) :: stk) S) : G X I h r S' pc ls (.int i :: .ref k :: stk) S := fun p l e s m args below meth c H locs D ρ τ lr hc hi hK hP hS hl => va_bald hc.1 hc.2.1 hK hP k 2 (sw_arrB hk hsh) rfl (ig_in hg) hd (kk p l e s m args below meth c H locs D ρ τ lr hc hi hK hP hS hl)
theorem G_laload  {k n : Nat} {i : Int32} (hk : k < X.1) (hsh : X.2 k = .inr (1, n)) (hg : ig i n = true) (hd : decode I.2.1 pc = .ok (.laload, 1)) (kk : G X I h r S' (pc + 1) ls (.long (lrow (S k) i.toNatClampNeg) :: stk) S) : G X I h r S' pc ls (.int i :: .ref k :: stk) S := fun p l e s m args below meth c H locs D ρ τ lr hc hi hK hP hS hl => va_lald hc.1 hc.2.1 hK hP k 1 (sw_arrL hk hsh) rfl (ig_in hg) hd (kk p l e s m args below meth c H locs D ρ τ lr hc hi hK hP hS hl)
theorem G_iastore  {k n : Nat} {i x : Int32} {S1 : St} (hst : sF S k i.toNatClampNeg x = S1) (hk : k < X.1) (hsh : X.2 k = .inr (0, n)) (hg : ig i n = true) (hd : decode I.2.1 pc = .ok (.iastore, 1)) (kk : G X I h r S' (pc + 1) ls (stk) S1) : G X I h r S' pc ls (.int x :: .int i :: .ref k :: stk) S := fun p l e s m args below meth c H locs D ρ τ lr hc hi hK hP hS hl => va_iast hc.1 hc.2.1 hK hP (sw_D hi) hS k 0 (sw_arr hk hsh) rfl (ig_in hg) hd (fun H1 locs1 hP1 _ hS1 => kk p l e s m args below meth c H1 locs1 D ρ τ lr hc hi hK (by rw [sw_set hk (by rw [hsh]; rfl)] at hP1; rw [← hst]; exact hP1) hS1 hl)
theorem G_bastore  {k n : Nat} {i x : Int32} {S1 : St} (hst : sF S k i.toNatClampNeg (vp_nar .byte x) = S1) (hk : k < X.1) (hsh : X.2 k = .inr (2, n)) (hg : ig i n = true) (hd : decode I.2.1 pc = .ok (.bastore, 1)) (kk : G X I h r S' (pc + 1) ls (stk) S1) : G X I h r S' pc ls (.int x :: .int i :: .ref k :: stk) S := fun p l e s m args below meth c H locs D ρ τ lr hc hi hK hP hS hl => va_bast hc.1 hc.2.1 hK hP (sw_D hi) hS k 2 (sw_arrB hk hsh) rfl (ig_in hg) hd (fun H1 locs1 hP1 _ hS1 => kk p l e s m args below meth c H1 locs1 D ρ τ lr hc hi hK (by rw [sw_set hk (by rw [hsh]; rfl)] at hP1; rw [← hst]; exact hP1) hS1 hl)
theorem G_lastore  {k n : Nat} {i : Int32} {x : Int64} {S1 : St} (hst : sL S k i.toNatClampNeg x = S1) (hk : k < X.1) (hsh : X.2 k = .inr (1, n)) (hg : ig i n = true) (hd : decode I.2.1 pc = .ok (.lastore, 1)) (kk : G X I h r S' (pc + 1) ls (stk) S1) : G X I h r S' pc ls (.long x :: .int i :: .ref k :: stk) S := fun p l e s m args below meth c H locs D ρ τ lr hc hi hK hP hS hl => va_last hc.1 hc.2.1 hK hP (sw_D hi) hS k 1 (sw_arrL hk hsh) rfl (ig_in hg) hd (fun H1 locs1 hP1 _ hS1 => kk p l e s m args below meth c H1 locs1 D ρ τ lr hc hi hK (by rw [sw_set hk (ce_last hsh)] at hP1; rw [← hst]; exact hP1) hS1 hl)
theorem G_alen  {k t n : Nat} (hk : k < X.1) (hsh : X.2 k = .inr (t, n)) (htt : t < 3) (hd : decode I.2.1 pc = .ok (.arraylength, 1)) (kk : G X I h r S' (pc + 1) ls (.int (Int32.ofNat n) :: stk) S) : G X I h r S' pc ls (.ref k :: stk) S := fun p l e s m args below meth c H locs D ρ τ lr hc hi hK hP hS hl => by obtain ⟨ty, hty⟩ := sty_at (τ := τ) htt; exact va_alen hc.1 hc.2.1 hK hP k t (sw_arrX hk hsh) hty rfl hd (kk p l e s m args below meth c H locs D ρ τ lr hc hi hK hP hS hl)
theorem G_getI  {k ci j idx : Nat} {ks : List (Option Nat)} (hf : FL I.1.cls idx ci j) (hk : k < X.1) (hsh : X.2 k = .inl (ci, ks)) (hj : ks[j]? = some none) (hd : decode I.2.1 pc = .ok (.getfield idx, 3)) (kk : G X I h r S' (pc + 3) ls (.int (S k j) :: stk) S) : G X I h r S' pc ls (.ref k :: stk) S := fun p l e s m args below meth c H locs D ρ τ lr hc hi hK hP hS hl => by
  obtain ⟨C, T, N, h1, h2, h3, h4⟩ := hf
  exact va_get hc.1 hc.2.1 hc.2.2.2.2.2.1 h4 hc.2.2.2.2.1 hK hP k (sw_obj hk hsh) h1 j h2 (hc.2.2.2.2.2.1 _ h3) (fun _ q => q) (fs_at hj) hd (by rw [fv_i hj]; exact (kk p l e s m args below meth c H locs D ρ τ lr hc hi hK hP hS hl))
theorem G_getR  {k ci j idx q0 : Nat} {ks : List (Option Nat)} (hf : FL I.1.cls idx ci j) (hk : k < X.1) (hsh : X.2 k = .inl (ci, ks)) (hj : ks[j]? = some (some q0)) (hq : (q0 == 1000) = false) (hd : decode I.2.1 pc = .ok (.getfield idx, 3)) (kk : G X I h r S' (pc + 3) ls (.ref q0 :: stk) S) : G X I h r S' pc ls (.ref k :: stk) S := fun p l e s m args below meth c H locs D ρ τ lr hc hi hK hP hS hl => by
  obtain ⟨C, T, N, h1, h2, h3, h4⟩ := hf
  exact va_get hc.1 hc.2.1 hc.2.2.2.2.2.1 h4 hc.2.2.2.2.1 hK hP k (sw_obj hk hsh) h1 j h2 (hc.2.2.2.2.2.1 _ h3) (fun _ q => q) (fs_at hj) hd (by rw [fv_r hj hq]; exact (kk p l e s m args below meth c H locs D ρ τ lr hc hi hK hP hS hl))
theorem G_getM  {k ci j idx : Nat} {ks : List (Option Nat)} (hf : FL I.1.cls idx ci j) (hk : k < X.1) (hsh : X.2 k = .inl (ci, ks)) (hj : ks[j]? = some (some 1000)) (hd : decode I.2.1 pc = .ok (.getfield idx, 3)) (kk : G X I h r S' (pc + 3) ls (.ref (S k j).toNatClampNeg :: stk) S) : G X I h r S' pc ls (.ref k :: stk) S := fun p l e s m args below meth c H locs D ρ τ lr hc hi hK hP hS hl => by
  obtain ⟨C, T, N, h1, h2, h3, h4⟩ := hf
  exact va_get hc.1 hc.2.1 hc.2.2.2.2.2.1 h4 hc.2.2.2.2.1 hK hP k (sw_obj hk hsh) h1 j h2 (hc.2.2.2.2.2.1 _ h3) (fun _ q => q) (fs_at hj) hd (by rw [fv_m hj]; exact (kk p l e s m args below meth c H locs D ρ τ lr hc hi hK hP hS hl))
theorem G_putI  {k ci j idx : Nat} {ks : List (Option Nat)} {v : Int32} {S1 : St} (hst : sF S k j v = S1) (hf : FP I.1.cls idx ci j .int) (hk : k < X.1) (hsh : X.2 k = .inl (ci, ks)) (hj : ks[j]? = some none) (hd : decode I.2.1 pc = .ok (.putfield idx, 3)) (kk : G X I h r S' (pc + 3) ls (stk) S1) : G X I h r S' pc ls (.int v :: .ref k :: stk) S := fun p l e s m args below meth c H locs D ρ τ lr hc hi hK hP hS hl => by
  obtain ⟨C, T, N, tf, h1, h2, h3, h4, h5, h6, h7, h8⟩ := hf
  exact va_put hc.1 hc.2.1 hc.2.2.2.2.2.1 h4 tf h5 h6 hc.2.2.2.2.1 hK hP (sw_D hi) hS k (sw_obj hk hsh) h1 j h2 (hc.2.2.2.2.2.1 _ h3) (fun _ q => q) h7 h8 rfl rfl (by simpa using (List.getElem?_eq_some_iff.mp hj).1) hd (fun H1 locs1 hP1 _ hS1 => kk p l e s m args below meth c H1 locs1 D ρ τ lr hc hi hK (by rw [sw_set hk (ce_put hsh hj (by rw [fv_i hj, us_]))] at hP1; rw [← hst]; exact hP1) hS1 hl)
theorem G_putZ  {k ci j idx : Nat} {ks : List (Option Nat)} {v : Int32} {S1 : St} (hst : sF S k j v = S1) (hz : v = 0 ∨ v = 1) (hf : FP I.1.cls idx ci j .boolean) (hk : k < X.1) (hsh : X.2 k = .inl (ci, ks)) (hj : ks[j]? = some none) (hd : decode I.2.1 pc = .ok (.putfield idx, 3)) (kk : G X I h r S' (pc + 3) ls (stk) S1) : G X I h r S' pc ls (.int v :: .ref k :: stk) S := fun p l e s m args below meth c H locs D ρ τ lr hc hi hK hP hS hl => by
  obtain ⟨C, T, N, tf, h1, h2, h3, h4, h5, h6, h7, h8⟩ := hf
  exact va_put hc.1 hc.2.1 hc.2.2.2.2.2.1 h4 tf h5 h6 hc.2.2.2.2.1 hK hP (sw_D hi) hS k (sw_obj hk hsh) h1 j h2 (hc.2.2.2.2.2.1 _ h3) (fun _ q => q) h7 h8 (by rcases hz with rfl | rfl <;> rfl) (by rcases hz with rfl | rfl <;> rfl) (by simpa using (List.getElem?_eq_some_iff.mp hj).1) hd (fun H1 locs1 hP1 _ hS1 => kk p l e s m args below meth c H1 locs1 D ρ τ lr hc hi hK (by rw [sw_set hk (ce_put hsh hj (by rw [fv_i hj, us_]))] at hP1; rw [← hst]; exact hP1) hS1 hl)
theorem G_putM  {k ci j idx q0 : Nat} {ks : List (Option Nat)} {C0 : String} {S1 : St} (hst : sF S k j (nI q0) = S1) (hq : q0 < 2 ^ 31) (hf : FP I.1.cls idx ci j (.object C0)) (hk : k < X.1) (hsh : X.2 k = .inl (ci, ks)) (hj : ks[j]? = some (some 1000)) (hd : decode I.2.1 pc = .ok (.putfield idx, 3)) (kk : G X I h r S' (pc + 3) ls (stk) S1) : G X I h r S' pc ls (.ref q0 :: .ref k :: stk) S := fun p l e s m args below meth c H locs D ρ τ lr hc hi hK hP hS hl => by
  obtain ⟨C, T, N, tf, h1, h2, h3, h4, h5, h6, h7, h8⟩ := hf
  exact va_put hc.1 hc.2.1 hc.2.2.2.2.2.1 h4 tf h5 h6 hc.2.2.2.2.1 hK hP (sw_D hi) hS k (sw_obj hk hsh) h1 j h2 (hc.2.2.2.2.2.1 _ h3) (fun _ q => q) h7 h8 rfl rfl (by simpa using (List.getElem?_eq_some_iff.mp hj).1) hd (fun H1 locs1 hP1 _ hS1 => kk p l e s m args below meth c H1 locs1 D ρ τ lr hc hi hK (by rw [sw_set hk (ce_put hsh hj (by rw [fv_m hj, us_, nI_clamp hq]))] at hP1; rw [← hst]; exact hP1) hS1 hl)
theorem G_iret  {v : Int32} (hr : I.2.2.2 = some .int) (hd : decode I.2.1 pc = .ok (.ireturn, 1)) : G X I h (some v) S pc ls [.int v] S := fun p l e s m args below meth c H locs D ρ τ lr hc hi hK hP hS hl => W.iret hc.1 hc.2.1 (hc.2.2.1.trans hr) (fun t ht hW => ⟨⟨rfl, by rw [ht]; exact hP, va_K.moved hW.alike hK⟩, hS.F ht⟩) hS.2.2 hd hc.2.2.2.2.2.2
theorem G_zret  {v : Int32} (hz : v = 0 ∨ v = 1) (hr : I.2.2.2 = some .boolean) (hd : decode I.2.1 pc = .ok (.ireturn, 1)) : G X I h (some v) S pc ls [.int v] S := fun p l e s m args below meth c H locs D ρ τ lr hc hi hK hP hS hl => W.zret hc.1 hc.2.1 (hc.2.2.1.trans hr) (by rcases hz with rfl | rfl <;> rfl) (fun t ht hW => ⟨⟨rfl, by rw [ht]; exact hP, va_K.moved hW.alike hK⟩, hS.F ht⟩) hS.2.2 hd hc.2.2.2.2.2.2
theorem G_vret  (hr : I.2.2.2 = none) (hd : decode I.2.1 pc = .ok (.return_, 1)) : G X I h none S pc ls [] S := fun p l e s m args below meth c H locs D ρ τ lr hc hi hK hP hS hl => W.vret hc.1 hc.2.1 (hc.2.2.1.trans hr) (fun t ht hW => ⟨⟨rfl, by rw [ht]; exact hP, va_K.moved hW.alike hK⟩, hS.F ht⟩) hS.2.2 hd hc.2.2.2.2.2.2
theorem G_mmax  {x y : Int32} {idx : Nat} (hw : MS I.1.cls idx Lib.Math.max.name Lib.Math.max.code 2) (hh : 0 < h) (hrm : (stk.map fun v => v.category).sum ≤ 8) (hd : decode I.2.1 pc = .ok (.invokestatic idx, 3)) (kk : G X I h r S' (pc + 3) ls (.int (jmax x y) :: stk) S) : G X I h r S' pc ls (.int y :: .int x :: stk) S := fun p l e s m args below meth c H locs D ρ τ lr hc hi hK hP hS hl => va_mmax hc.1 hc.2.1 (hc.2.2.2.1.trans hl.1.symm) hc.2.2.2.2.1 (hc.2.2.2.2.2.1 _ hw.1) (hc.2.2.2.2.2.1 _ hw.2.1) (hc.2.2.2.2.2.1 _ hw.2.2.1) (hc.2.2.2.2.2.1 _ hw.2.2.2) (Nat.succ_le_of_lt hh) (rm_m hh hrm) (Nat.zero_le _) (Nat.zero_le _) hd (kk p l e s m args below meth c H locs D ρ τ lr hc hi hK hP hS hl)
theorem G_mmin  {x y : Int32} {idx : Nat} (hw : MS I.1.cls idx Lib.Math.min.name Lib.Math.min.code 2) (hh : 0 < h) (hrm : (stk.map fun v => v.category).sum ≤ 8) (hd : decode I.2.1 pc = .ok (.invokestatic idx, 3)) (kk : G X I h r S' (pc + 3) ls (.int (jmin x y) :: stk) S) : G X I h r S' pc ls (.int y :: .int x :: stk) S := fun p l e s m args below meth c H locs D ρ τ lr hc hi hK hP hS hl => va_mmin hc.1 hc.2.1 (hc.2.2.2.1.trans hl.1.symm) hc.2.2.2.2.1 (hc.2.2.2.2.2.1 _ hw.1) (hc.2.2.2.2.2.1 _ hw.2.1) (hc.2.2.2.2.2.1 _ hw.2.2.1) (hc.2.2.2.2.2.1 _ hw.2.2.2) (Nat.succ_le_of_lt hh) (rm_m hh hrm) (Nat.zero_le _) (Nat.zero_le _) hd (kk p l e s m args below meth c H locs D ρ τ lr hc hi hK hP hS hl)
theorem G_mabs  {x : Int32} {idx : Nat} (hw : MS I.1.cls idx Lib.Math.abs.name Lib.Math.abs.code 1) (hh : 0 < h) (hrm : (stk.map fun v => v.category).sum ≤ 8) (hd : decode I.2.1 pc = .ok (.invokestatic idx, 3)) (kk : G X I h r S' (pc + 3) ls (.int (jabs x) :: stk) S) : G X I h r S' pc ls (.int x :: stk) S := fun p l e s m args below meth c H locs D ρ τ lr hc hi hK hP hS hl => va_mabs hc.1 hc.2.1 (hc.2.2.2.1.trans hl.1.symm) hc.2.2.2.2.1 (hc.2.2.2.2.2.1 _ hw.1) (hc.2.2.2.2.2.1 _ hw.2.1) (hc.2.2.2.2.2.1 _ hw.2.2.1) (hc.2.2.2.2.2.1 _ hw.2.2.2) (Nat.succ_le_of_lt hh) (rm_m hh hrm) (Nat.zero_le _) (Nat.zero_le _) hd (kk p l e s m args below meth c H locs D ρ τ lr hc hi hK hP hS hl)
end GR
end
section
/-! CALLS, over G -/
def MV (J : MI) (n : Nat) : Prop := Cond.instanceMethod J.1 ∈ lw_g ∧ Cond.selects J.1.cls J.1 J.1 ∈ lw_g ∧ Cond.initialized J.1.cls ∈ lw_g ∧ Cond.code J.1 J.2.1 J.2.2.1 J.2.2.2 ∈ lw_g ∧ J.1.cls ≠ "java/lang/invoke/MethodHandle" ∧ J.1.cls ≠ "java/lang/invoke/VarHandle" ∧ (parseMethodDescriptor J.1.desc).map (fun d => d.parameters.length) = some n
def MT (J : MI) (n : Nat) : Prop := Cond.static J.1 ∈ lw_g ∧ Cond.initialized J.1.cls ∈ lw_g ∧ Cond.code J.1 J.2.1 J.2.2.1 J.2.2.2 ∈ lw_g ∧ J.1.cls ≠ "java/lang/invoke/MethodHandle" ∧ J.1.cls ≠ "java/lang/invoke/VarHandle" ∧ (parseMethodDescriptor J.1.desc).map (fun d => d.parameters.length) = some n
theorem mw_good {J : MI} (hc : Cond.code J.1 J.2.1 J.2.2.1 J.2.2.2 ∈ lw_g) : GoodIn lw_g (mw J) := fun w hw => (List.mem_cons.mp hw).elim (fun e => e ▸ lg_good _ hc) (lg_good w)
theorem pcw_blind (X : SY) (D : va_G) (ρ : Nat → Nat) (τ : Nat → ClassId) (av : List Value) (S : St) : FrameBlind (pcw X D ρ τ av S) := fun a U g mk q => ⟨q.1, q.2.1, va_K.moved (u := U) (U := U.calling g mk a) (Vm.Alike.refl U.vm) q.2.2⟩
theorem rm_c {J : MI} {h h' : Nat} (hh : h' < h) (hm : J.2.2.1 ≤ 21) : (rmH h').frames + 1 ≤ (rmH h).frames ∧ 8 + (J.2.2.1 + 11) + (rmH h').locals ≤ (rmH h).locals := by
  refine ⟨hh, ?_⟩
  show 8 + (J.2.2.1 + 11) + 40 * h' ≤ 40 * h
  omega
theorem g_after {p : Program} {l : Launch} {e : Env} {R : Room} {s : State} {m : MethodId} {args : Array Value} {below : List Frame} {meth : Method} {c : Code} {H : Heap} {locs : List Loc} {Q : State → Prop} {X : SY} {D : va_G} {ρ : Nat → Nat} {τ : Nat → ClassId} {r1 : Option Int32} {S1 : St} {a : Array Value} {pc : Nat} {lr : Array Slot} {st0 rest : List Value}
    (hr : va_Run p l e R s m args below meth c H locs 0 0 0 0 (F0 m pc lr st0) rest (qc X D ρ τ r1 S1 a) (sA X ρ)) (hS : va_S (sA X ρ) s.heap H locs)
    (kk : ∀ (H1 : Heap) (locs1 : List Loc), va_P D clA (sw X ρ τ S1) H1 → va_S (sA X ρ) s.heap H1 locs1 → W p l e R s m args below meth c H1 locs1 0 0 Q (F0 m (pc + 3) lr ((r1.map Value.int).toList ++ rest))) : W p l e R s m args below meth c H locs 0 0 Q (F0 m pc lr st0) := by
  intro T hT X'
  obtain ⟨v, st₀, t, T', L, h0, X', hL, e1, e2, ⟨⟨hv, hb, -⟩, hz, hk⟩, st⟩ := hr T hT X'
  cases hv
  rw [h0] at hz hk
  obtain ⟨t2, a1, b1⟩ := kk T'.heap (locs ++ L) (by rw [e1]; exact hb)
    ⟨Nat.le_trans hS.1 (by rw [e1]; exact hz), fun q h1 h2 => by rw [e1, hk q (Nat.lt_of_lt_of_le h1 hS.1) h2]; exact hS.2.1 q h1 h2, fun q hq => by
      rcases List.mem_append.mp hq with h | h
      · exact hS.2.2 q h
      · exact hL q h⟩ T' rfl X'
  exact ⟨t2, st t2 a1, b1⟩
section GC
variable {X : SY} {I : MI} {h : Nat} {r : Option Int32} {S' : St} {pc : Nat} {ls : List (Nat × Value)} {stk : List Value} {S : St}
theorem G_callV {k ci idx n h' : Nat} {J : MI} {ks : List (Option Nat)} {r1 : Option Int32} {S1 : St} (av rest : List Value) (hM : Ct X J h' (.ref k :: av) S r1 S1) (hh : h' < h) (hm : J.2.2.1 ≤ 21) (hJ : MV J n) (hn : av.length = n) (hw : Cond.methodLink I.1.cls idx J.1 ∈ lw_g) (hk : k < X.1) (hsh : X.2 k = .inl (ci, ks)) (hcl : ∃ T N, clA[ci]? = some (J.1.cls, T, N)) (hst : stk = av.reverse ++ .ref k :: rest) (hrm : (rest.map fun v => v.category).sum ≤ 8) (hd : decode I.2.1 pc = .ok (.invokevirtual idx, 3))
    (kk : G X I h r S' (pc + 3) ls ((r1.map Value.int).toList ++ rest) S1) : G X I h r S' pc ls stk S := by
  intro p l e s m args below meth c H locs D ρ τ lr hc hi hK hP hS hl
  obtain ⟨T, N, hcl⟩ := hcl
  obtain ⟨j1, j2, j3, j4, j5⟩ := hJ
  have ht := hc.2.2.2.2.2.1
  refine g_after (X := X) (D := D) (ρ := ρ) (τ := τ) (r1 := r1) (S1 := S1) (rest := rest.map (cv ρ)) (va_runV (As := av.map (cv ρ)) (rest := rest.map (cv ρ)) (b := ρ k) (nL := I.2.2.1) (C := J.1.cls) (n := n) ⟨hc.1, hc.2.1, hc.2.2.2.1, hc.2.2.2.2.1, ht⟩ (hM l D ρ τ hi)
    ⟨callB_of n ht (mw_good j4) rfl rfl rfl (ht _ j3) (ht _ hw) j5 (rm_c hh hm), ht _ j1, ht _ j2⟩
    ⟨pcw_blind X D ρ τ _ S, va_recv hK hP hcl (sw_obj hk hsh), fun U hU hW => ⟨rfl, by rw [hU]; exact hP, va_K.moved hW.alike hK⟩⟩ rfl (by simpa using hn) hl.1 (by rw [hst]; simp [cv]) (lv_room (by rw [cat_sum]; exact hrm)) hd ⟨Nat.zero_le _, Nat.zero_le _⟩) hS (fun H1 locs1 hP1 hS1 => ?_)
  have := kk p l e s m args below meth c H1 locs1 D ρ τ lr hc hi hK hP1 hS1 hl
  rw [List.map_append] at this
  cases r1 <;> exact this
theorem G_callS {idx n h' : Nat} {J : MI} {r1 : Option Int32} {S1 : St} (av rest : List Value) (hM : Ct X J h' av S r1 S1) (hh : h' < h) (hm : J.2.2.1 ≤ 21) (hJ : MT J n) (hn : av.length = n) (hw : Cond.methodLink I.1.cls idx J.1 ∈ lw_g) (hst : stk = av.reverse ++ rest) (hrm : (rest.map fun v => v.category).sum ≤ 8) (hd : decode I.2.1 pc = .ok (.invokestatic idx, 3))
    (kk : G X I h r S' (pc + 3) ls ((r1.map Value.int).toList ++ rest) S1) : G X I h r S' pc ls stk S := by
  intro p l e s m args below meth c H locs D ρ τ lr hc hi hK hP hS hl
  obtain ⟨j1, j3, j4, j5⟩ := hJ
  have ht := hc.2.2.2.2.2.1
  refine g_after (X := X) (D := D) (ρ := ρ) (τ := τ) (r1 := r1) (S1 := S1) (rest := rest.map (cv ρ)) (va_runS (As := av.map (cv ρ)) (rest := rest.map (cv ρ)) (nL := I.2.2.1) (n := n) ⟨hc.1, hc.2.1, hc.2.2.2.1, hc.2.2.2.2.1, ht⟩ (hM l D ρ τ hi)
    ⟨callB_of n ht (mw_good j4) rfl rfl rfl (ht _ j3) (ht _ hw) j5 (rm_c hh hm), ht _ j1⟩
    ⟨pcw_blind X D ρ τ _ S, fun U hU hW => ⟨rfl, by rw [hU]; exact hP, va_K.moved hW.alike hK⟩⟩ rfl (by simpa using hn) hl.1 (by rw [hst]; simp [cv]) (lv_room (by rw [cat_sum]; exact hrm)) hd ⟨Nat.zero_le _, Nat.zero_le _⟩) hS (fun H1 locs1 hP1 hS1 => ?_)
  have := kk p l e s m args below meth c H1 locs1 D ρ τ lr hc hi hK hP1 hS1 hl
  rw [List.map_append] at this
  cases r1 <;> exact this
theorem G_callSN {idx n h' : Nat} {J : MI} {host : String} {r1 : Option Int32} {S1 : St} (av rest : List Value) (hM : Ct X J h' av S r1 S1) (hh : h' < h) (hm : J.2.2.1 ≤ 21) (hJ : MT J n) (hn : av.length = n) (hw : Cond.methodLinkNest I.1.cls idx J.1 host ∈ lw_g) (hst : stk = av.reverse ++ rest) (hrm : (rest.map fun v => v.category).sum ≤ 8) (hd : decode I.2.1 pc = .ok (.invokestatic idx, 3))
    (kk : G X I h r S' (pc + 3) ls ((r1.map Value.int).toList ++ rest) S1) : G X I h r S' pc ls stk S := by
  intro p l e s m args below meth c H locs D ρ τ lr hc hi hK hP hS hl
  obtain ⟨j1, j3, j4, j5⟩ := hJ
  have ht := hc.2.2.2.2.2.1
  have hcb : ∀ w ∈ mw J, ∀ (a' : Array Value) (U : State), s.WarmedH U.vm → w.before a' U = true := pay_in ht (mw_good j4)
  refine g_after (X := X) (D := D) (ρ := ρ) (τ := τ) (r1 := r1) (S1 := S1) (rest := rest.map (cv ρ)) (va_runSN (As := av.map (cv ρ)) (rest := rest.map (cv ρ)) (nL := I.2.2.1) (n := n) (host := host) ⟨hc.1, hc.2.1, hc.2.2.2.1, hc.2.2.2.2.1, ht⟩ (hM l D ρ τ hi)
    ⟨⟨⟨rfl, rfl, (rm_c hh hm).1, (rm_c hh hm).2, hcb, List.mem_cons_self⟩, ht _ j4, ht _ j3, ⟨j5.1, j5.2.1⟩, fun sig hsig => by
      have h2 := j5.2.2
      rw [hsig] at h2
      exact (Option.some.inj h2).symm, ht _ hw⟩, ht _ j1, trivial⟩
    ⟨pcw_blind X D ρ τ _ S, fun U hU hW => ⟨rfl, by rw [hU]; exact hP, va_K.moved hW.alike hK⟩⟩ rfl (by simpa using hn) hl.1 (by rw [hst]; simp [cv]) (lv_room (by rw [cat_sum]; exact hrm)) hd ⟨Nat.zero_le _, Nat.zero_le _⟩) hS (fun H1 locs1 hP1 hS1 => ?_)
  have := kk p l e s m args below meth c H1 locs1 D ρ τ lr hc hi hK hP1 hS1 hl
  rw [List.map_append] at this
  cases r1 <;> exact this
def sC (S : St) (k0 k1 sp dp n : Nat) : St := sR S k1 (va_cpy (S k0) (S k1) sp dp n)
def AC (own : String) (idx : Nat) : Prop := Cond.methodLink own idx arraycopyName ∈ lw_g ∧ Cond.native arraycopyName ∈ lw_g ∧ Cond.static arraycopyName ∈ lw_g ∧ Cond.initialized "java/lang/System" ∈ lw_g
theorem G_copy {idx k0 k1 n0 n1 : Nat} {sp dp n : Int32} {S1 : St} (hst : sC S k0 k1 sp.toNatClampNeg dp.toNatClampNeg n.toNatClampNeg = S1) (hw : AC I.1.cls idx) (hh : 0 < h) (hk0 : k0 < X.1) (hk1 : k1 < X.1) (hs0 : X.2 k0 = .inr (0, n0)) (hs1 : X.2 k1 = .inr (0, n1)) (h1 : ¬ sp < 0) (h2 : ¬ dp < 0) (h3 : ¬ n < 0) (h4 : sp.toNatClampNeg + n.toNatClampNeg ≤ n0) (h5 : dp.toNatClampNeg + n.toNatClampNeg ≤ n1) (hrm : (stk.map fun v => v.category).sum ≤ 8) (hd : decode I.2.1 pc = .ok (.invokestatic idx, 3))
    (kk : G X I h r S' (pc + 3) ls stk S1) : G X I h r S' pc ls (.int n :: .int dp :: .ref k1 :: .int sp :: .ref k0 :: stk) S := by
  intro p l e s m args below meth c H locs D ρ τ lr hc hi hK hP hS hl
  have ht := hc.2.2.2.2.2.1
  exact va_copyi hc.1 hc.2.1 (hc.2.2.2.1.trans hl.1.symm) hc.2.2.2.2.1 (ht _ hw.1) (ht _ hw.2.1) (ht _ hw.2.2.1) (ht _ hw.2.2.2) hK hP (sw_D hi) hS k0 k1 0 0 (sw_arr hk0 hs0) (sw_arr hk1 hs1) rfl rfl rfl h1 h2 h3 h4 h5 (fun _ _ => rfl) (Nat.succ_le_of_lt hh) (by
    rw [cat_sum]
    have : nativeFrameWords "java/lang/System" "arraycopy" 5 + 11 ≤ 32 := by decide
    show _ ≤ 40 * h
    omega) hd (fun H1 locs1 hP1 _ hS1 => kk p l e s m args below meth c H1 locs1 D ρ τ lr hc hi hK (by rw [sw_set hk1 (by rw [hs1]; rfl)] at hP1; rw [← hst]; exact hP1) hS1 hl)
end GC
/-! what the printed functions of methods are opened with -/
theorem ob_g {α : Type} {c : Prop} [Decidable c] {a : Option α} {x : α} (h : (if c then a else none) = some x) : c ∧ a = some x := by
  by_cases hc : c
  · rw [if_pos hc] at h; exact ⟨hc, h⟩
  · rw [if_neg hc] at h; cases h
theorem ob_b {α β : Type} {a : Option α} {k : α → Option β} {x : β} (h : a.bind k = some x) : ∃ y, a = some y ∧ k y = some x := Option.bind_eq_some_iff.mp h
theorem ob_s {α β : Type} {a : α} {k : α → Option β} {x : β} (h : (some a).bind k = some x) : ∃ y, a = y ∧ k y = some x := ⟨a, rfl, h⟩
theorem ob_t {α : Type} {c : Prop} [Decidable c] {a b : Option α} {x : α} (h : (if c then a else b) = some x) (hc : c) : a = some x := by rw [if_pos hc] at h; exact h
theorem ob_f {α : Type} {c : Prop} [Decidable c] {a b : Option α} {x : α} (h : (if c then a else b) = some x) (hc : ¬ c) : b = some x := by rw [if_neg hc] at h; exact h
theorem ob_n {α : Type} {c : Prop} [Decidable c] {a b : Option α} {x : α} (h : (if ¬ c then a else b) = some x) (hc : c) : b = some x := by rw [if_neg (fun q => q hc)] at h; exact h
end
