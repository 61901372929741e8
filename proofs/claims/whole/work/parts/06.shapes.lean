theorem ch_of {l : List (Nat × Cond)} (h : l.all (fun q => decide (lw_tbl[q.1]? = some q.2) && goodWord q.2) = true) (j : Nat) {i : Nat} {w : Cond} (hj : l[j]? = some (i, w)) : w ∈ lw_g := by
  have h1 := List.all_eq_true.mp h _ (List.mem_of_getElem? hj)
  simp only [Bool.and_eq_true, decide_eq_true_eq] at h1
  exact lg_of i h1.1 h1.2
set_option maxRecDepth 100000 in
theorem cd_0 : Cond.code ⟨"PutOffWicks$Almanac","pass","(LPutOffWicks$Parish;I)I"⟩ prog_2_method_2_code 6 (Option.some Jvm.ClassFile.FieldType.int) ∈ lw_g := lg_of 608 rfl rfl
set_option maxRecDepth 100000 in
theorem cd_1 : Cond.code ⟨"PutOffWicks$Almanac","passOver","(LPutOffWicks$Parish;I)V"⟩ prog_2_method_3_code 7 (Option.none : Option Jvm.ClassFile.FieldType) ∈ lw_g := lg_of 619 rfl rfl
set_option maxRecDepth 100000 in
theorem cd_2 : Cond.code ⟨"java/util/Arrays","fill","([II)V"⟩ prog_19_method_103_code 4 (Option.none : Option Jvm.ClassFile.FieldType) ∈ lw_g := lg_of 850 rfl rfl
set_option maxRecDepth 100000 in
theorem cd_3 : Cond.code ⟨"java/util/Arrays","fill","([JJ)V"⟩ prog_19_method_101_code 5 (Option.none : Option Jvm.ClassFile.FieldType) ∈ lw_g := lg_of 989 rfl rfl
set_option maxRecDepth 100000 in
theorem cd_4 : Cond.code ⟨"java/lang/Integer","bitCount","(I)I"⟩ prog_15_method_49_code 1 (Option.some Jvm.ClassFile.FieldType.int) ∈ lw_g := lg_of 611 rfl rfl
set_option maxRecDepth 100000 in
theorem cd_5 : Cond.code ⟨"java/lang/Long","bitCount","(J)I"⟩ prog_16_method_50_code 2 (Option.some Jvm.ClassFile.FieldType.int) ∈ lw_g := lg_of 997 rfl rfl
set_option maxRecDepth 100000 in
theorem cd_6 : Cond.code ⟨"java/lang/Math","abs","(I)I"⟩ prog_17_method_59_code 1 (Option.some Jvm.ClassFile.FieldType.int) ∈ lw_g := lg_of 838 rfl rfl
set_option maxRecDepth 100000 in
theorem cd_7 : Cond.code ⟨"java/lang/Math","max","(II)I"⟩ prog_17_method_65_code 2 (Option.some Jvm.ClassFile.FieldType.int) ∈ lw_g := lg_of 672 rfl rfl
set_option maxRecDepth 100000 in
theorem cd_8 : Cond.code ⟨"java/lang/Math","min","(II)I"⟩ prog_17_method_69_code 2 (Option.some Jvm.ClassFile.FieldType.int) ∈ lw_g := lg_of 669 rfl rfl
set_option maxRecDepth 100000 in
theorem cd_9 : Cond.code ⟨"PutOffWicks$Law","add","(II)I"⟩ prog_3_method_10_code 3 (Option.some Jvm.ClassFile.FieldType.int) ∈ lw_g := lg_of 512 rfl rfl
set_option maxRecDepth 100000 in
theorem cd_10 : Cond.code ⟨"PutOffWicks$Law","copyFrom","(LPutOffWicks$Law;)V"⟩ prog_3_method_2_code 2 (Option.none : Option Jvm.ClassFile.FieldType) ∈ lw_g := lg_of 565 rfl rfl
set_option maxRecDepth 100000 in
theorem cd_11 : Cond.code ⟨"PutOffWicks$Law","isFact","(I)Z"⟩ prog_3_method_9_code 1 (Option.some Jvm.ClassFile.FieldType.boolean) ∈ lw_g := lg_of 540 rfl rfl
set_option maxRecDepth 100000 in
theorem cd_12 : Cond.code ⟨"PutOffWicks$Law","land","(I)V"⟩ prog_3_method_11_code 2 (Option.none : Option Jvm.ClassFile.FieldType) ∈ lw_g := lg_of 556 rfl rfl
set_option maxRecDepth 100000 in
theorem cd_13 : Cond.code ⟨"PutOffWicks$Law","opens","(I)Z"⟩ prog_3_method_8_code 2 (Option.some Jvm.ClassFile.FieldType.boolean) ∈ lw_g := lg_of 524 rfl rfl
set_option maxRecDepth 100000 in
theorem cd_14 : Cond.code ⟨"PutOffWicks$Law","read","()I"⟩ prog_3_method_3_code 4 (Option.some Jvm.ClassFile.FieldType.int) ∈ lw_g := lg_of 492 rfl rfl
set_option maxRecDepth 100000 in
theorem cd_15 : Cond.code ⟨"PutOffWicks$Law","readCondition","(I)V"⟩ prog_3_method_4_code 6 (Option.none : Option Jvm.ClassFile.FieldType) ∈ lw_g := lg_of 548 rfl rfl
set_option maxRecDepth 100000 in
theorem cd_16 : Cond.code ⟨"PutOffWicks$Law","readFactor","(I)V"⟩ prog_3_method_7_code 3 (Option.none : Option Jvm.ClassFile.FieldType) ∈ lw_g := lg_of 520 rfl rfl
set_option maxRecDepth 100000 in
theorem cd_17 : Cond.code ⟨"PutOffWicks$Law","readTest","(I)V"⟩ prog_3_method_5_code 4 (Option.none : Option Jvm.ClassFile.FieldType) ∈ lw_g := lg_of 552 rfl rfl
set_option maxRecDepth 100000 in
theorem cd_18 : Cond.code ⟨"PutOffWicks$Law","readValue","(I)V"⟩ prog_3_method_6_code 9 (Option.none : Option Jvm.ClassFile.FieldType) ∈ lw_g := lg_of 516 rfl rfl
set_option maxRecDepth 100000 in
theorem cd_19 : Cond.code ⟨"PutOffWicksModel","areHome","(I)Z"⟩ prog_14_method_78_code 3 (Option.some Jvm.ClassFile.FieldType.boolean) ∈ lw_g := lg_of 1527 rfl rfl
set_option maxRecDepth 100000 in
theorem cd_20 : Cond.code ⟨"PutOffWicksModel","beginsText","(I)V"⟩ prog_14_method_35_code 2 (Option.none : Option Jvm.ClassFile.FieldType) ∈ lw_g := lg_of 1258 rfl rfl
set_option maxRecDepth 100000 in
theorem cd_21 : Cond.code ⟨"PutOffWicksModel","bits","(I)I"⟩ prog_14_method_7_code 3 (Option.some Jvm.ClassFile.FieldType.int) ∈ lw_g := lg_of 1548 rfl rfl
set_option maxRecDepth 100000 in
theorem cd_22 : Cond.code ⟨"PutOffWicksModel","brightOf","(I)I"⟩ prog_14_method_97_code 4 (Option.some Jvm.ClassFile.FieldType.int) ∈ lw_g := lg_of 1608 rfl rfl
set_option maxRecDepth 100000 in
theorem cd_23 : Cond.code ⟨"PutOffWicksModel","brightest","(III)I"⟩ prog_14_method_98_code 7 (Option.some Jvm.ClassFile.FieldType.int) ∈ lw_g := lg_of 1604 rfl rfl
set_option maxRecDepth 100000 in
theorem cd_24 : Cond.code ⟨"PutOffWicksModel","burns","(II)V"⟩ prog_14_method_48_code 3 (Option.none : Option Jvm.ClassFile.FieldType) ∈ lw_g := lg_of 1400 rfl rfl
set_option maxRecDepth 100000 in
theorem cd_25 : Cond.code ⟨"PutOffWicksModel","byLaw","(III)I"⟩ prog_14_method_39_code 6 (Option.some Jvm.ClassFile.FieldType.int) ∈ lw_g := lg_of 1396 rfl rfl
set_option maxRecDepth 100000 in
theorem cd_26 : Cond.code ⟨"PutOffWicksModel","byWhen","(II)I"⟩ prog_14_method_58_code 5 (Option.some Jvm.ClassFile.FieldType.int) ∈ lw_g := lg_of 1433 rfl rfl
set_option maxRecDepth 100000 in
theorem cd_27 : Cond.code ⟨"PutOffWicksModel","chain","(I)I"⟩ prog_14_method_63_code 4 (Option.some Jvm.ClassFile.FieldType.int) ∈ lw_g := lg_of 1453 rfl rfl
set_option maxRecDepth 100000 in
theorem cd_28 : Cond.code ⟨"PutOffWicksModel","changesRow","(II)V"⟩ prog_14_method_84_code 4 (Option.none : Option Jvm.ClassFile.FieldType) ∈ lw_g := lg_of 1564 rfl rfl
set_option maxRecDepth 100000 in
theorem cd_29 : Cond.code ⟨"PutOffWicksModel","check","(I)I"⟩ prog_14_method_105_code 3 (Option.some Jvm.ClassFile.FieldType.int) ∈ lw_g := lg_of 1636 rfl rfl
set_option maxRecDepth 100000 in
theorem cd_30 : Cond.code ⟨"PutOffWicksModel","closesSums","(Z)V"⟩ prog_14_method_25_code 2 (Option.none : Option Jvm.ClassFile.FieldType) ∈ lw_g := lg_of 1305 rfl rfl
set_option maxRecDepth 100000 in
theorem cd_31 : Cond.code ⟨"PutOffWicksModel","comesOut","(I)I"⟩ prog_14_method_75_code 3 (Option.some Jvm.ClassFile.FieldType.int) ∈ lw_g := lg_of 1523 rfl rfl
set_option maxRecDepth 100000 in
theorem cd_32 : Cond.code ⟨"PutOffWicksModel","copies","([I[I)V"⟩ prog_14_method_8_code 3 (Option.none : Option Jvm.ClassFile.FieldType) ∈ lw_g := lg_of 1421 rfl rfl
set_option maxRecDepth 100000 in
theorem cd_33 : Cond.code ⟨"PutOffWicksModel","cord","(II)I"⟩ prog_14_method_93_code 7 (Option.some Jvm.ClassFile.FieldType.int) ∈ lw_g := lg_of 1588 rfl rfl
set_option maxRecDepth 100000 in
theorem cd_34 : Cond.code ⟨"PutOffWicksModel","count","(I)I"⟩ prog_14_method_107_code 2 (Option.some Jvm.ClassFile.FieldType.int) ∈ lw_g := lg_of 1640 rfl rfl
set_option maxRecDepth 100000 in
theorem cd_35 : Cond.code ⟨"PutOffWicksModel","dark","(I)I"⟩ prog_14_method_59_code 4 (Option.some Jvm.ClassFile.FieldType.int) ∈ lw_g := lg_of 1437 rfl rfl
set_option maxRecDepth 100000 in
theorem cd_36 : Cond.code ⟨"PutOffWicksModel","dayGoes","()V"⟩ prog_14_method_52_code 2 (Option.none : Option Jvm.ClassFile.FieldType) ∈ lw_g := lg_of 1361 rfl rfl
set_option maxRecDepth 100000 in
theorem cd_37 : Cond.code ⟨"PutOffWicksModel","days","(I)I"⟩ prog_14_method_54_code 2 (Option.some Jvm.ClassFile.FieldType.int) ∈ lw_g := lg_of 1353 rfl rfl
set_option maxRecDepth 100000 in
theorem cd_38 : Cond.code ⟨"PutOffWicksModel","daysGo","(I)V"⟩ prog_14_method_53_code 3 (Option.none : Option Jvm.ClassFile.FieldType) ∈ lw_g := lg_of 1357 rfl rfl
set_option maxRecDepth 100000 in
theorem cd_39 : Cond.code ⟨"PutOffWicksModel","daysOf","(I)I"⟩ prog_14_method_60_code 4 (Option.some Jvm.ClassFile.FieldType.int) ∈ lw_g := lg_of 1445 rfl rfl
set_option maxRecDepth 100000 in
theorem cd_40 : Cond.code ⟨"PutOffWicksModel","draws","()I"⟩ prog_14_method_44_code 1 (Option.some Jvm.ClassFile.FieldType.int) ∈ lw_g := lg_of 1381 rfl rfl
set_option maxRecDepth 100000 in
theorem cd_41 : Cond.code ⟨"PutOffWicksModel","endsPiece","()V"⟩ prog_14_method_29_code 1 (Option.none : Option Jvm.ClassFile.FieldType) ∈ lw_g := lg_of 1325 rfl rfl
set_option maxRecDepth 100000 in
theorem cd_42 : Cond.code ⟨"PutOffWicksModel","factOf","(I)I"⟩ prog_14_method_23_code 1 (Option.some Jvm.ClassFile.FieldType.int) ∈ lw_g := lg_of 1298 rfl rfl
set_option maxRecDepth 100000 in
theorem cd_43 : Cond.code ⟨"PutOffWicksModel","feed","(IIIII)I"⟩ prog_14_method_13_code 6 (Option.some Jvm.ClassFile.FieldType.int) ∈ lw_g := lg_of 1246 rfl rfl
set_option maxRecDepth 100000 in
theorem cd_44 : Cond.code ⟨"PutOffWicksModel","feels","(I)V"⟩ prog_14_method_47_code 2 (Option.none : Option Jvm.ClassFile.FieldType) ∈ lw_g := lg_of 1369 rfl rfl
set_option maxRecDepth 100000 in
theorem cd_45 : Cond.code ⟨"PutOffWicksModel","forEver","()I"⟩ prog_14_method_81_code 4 (Option.some Jvm.ClassFile.FieldType.int) ∈ lw_g := lg_of 1539 rfl rfl
set_option maxRecDepth 100000 in
theorem cd_46 : Cond.code ⟨"PutOffWicksModel","forgiven","(I)I"⟩ prog_14_method_101_code 6 (Option.some Jvm.ClassFile.FieldType.int) ∈ lw_g := lg_of 1616 rfl rfl
set_option maxRecDepth 100000 in
theorem cd_47 : Cond.code ⟨"PutOffWicksModel","goesOn","(I)V"⟩ prog_14_method_51_code 7 (Option.none : Option Jvm.ClassFile.FieldType) ∈ lw_g := lg_of 1365 rfl rfl
set_option maxRecDepth 100000 in
theorem cd_48 : Cond.code ⟨"PutOffWicksModel","halves","(II)I"⟩ prog_14_method_99_code 8 (Option.some Jvm.ClassFile.FieldType.int) ∈ lw_g := lg_of 1612 rfl rfl
set_option maxRecDepth 100000 in
theorem cd_49 : Cond.code ⟨"PutOffWicksModel","has","(II)Z"⟩ prog_14_method_6_code 2 (Option.some Jvm.ClassFile.FieldType.boolean) ∈ lw_g := lg_of 1464 rfl rfl
set_option maxRecDepth 100000 in
theorem cd_50 : Cond.code ⟨"PutOffWicksModel","hasOpenSum","(I)Z"⟩ prog_14_method_27_code 3 (Option.some Jvm.ClassFile.FieldType.boolean) ∈ lw_g := lg_of 1313 rfl rfl
set_option maxRecDepth 100000 in
theorem cd_51 : Cond.code ⟨"PutOffWicksModel","here","()I"⟩ prog_14_method_15_code 1 (Option.some Jvm.ClassFile.FieldType.int) ∈ lw_g := lg_of 1266 rfl rfl
set_option maxRecDepth 100000 in
theorem cd_52 : Cond.code ⟨"PutOffWicksModel","holdsAny","(I)Z"⟩ prog_14_method_40_code 3 (Option.some Jvm.ClassFile.FieldType.boolean) ∈ lw_g := lg_of 1385 rfl rfl
set_option maxRecDepth 100000 in
theorem cd_53 : Cond.code ⟨"PutOffWicksModel","hoursOfRow","(I)I"⟩ prog_14_method_86_code 5 (Option.some Jvm.ClassFile.FieldType.int) ∈ lw_g := lg_of 1556 rfl rfl
set_option maxRecDepth 100000 in
theorem cd_54 : Cond.code ⟨"PutOffWicksModel","in","(III)Z"⟩ prog_14_method_2_code 3 (Option.some Jvm.ClassFile.FieldType.boolean) ∈ lw_g := lg_of 1242 rfl rfl
set_option maxRecDepth 100000 in
theorem cd_55 : Cond.code ⟨"PutOffWicksModel","isBetter","(II)Z"⟩ prog_14_method_100_code 5 (Option.some Jvm.ClassFile.FieldType.boolean) ∈ lw_g := lg_of 1620 rfl rfl
set_option maxRecDepth 100000 in
theorem cd_56 : Cond.code ⟨"PutOffWicksModel","isDigit","()Z"⟩ prog_14_method_16_code 1 (Option.some Jvm.ClassFile.FieldType.boolean) ∈ lw_g := lg_of 1287 rfl rfl
set_option maxRecDepth 100000 in
theorem cd_57 : Cond.code ⟨"PutOffWicksModel","isDone","(I)V"⟩ prog_14_method_49_code 2 (Option.none : Option Jvm.ClassFile.FieldType) ∈ lw_g := lg_of 1407 rfl rfl
set_option maxRecDepth 100000 in
theorem cd_58 : Cond.code ⟨"PutOffWicksModel","isLeft","(I)Z"⟩ prog_14_method_10_code 2 (Option.some Jvm.ClassFile.FieldType.boolean) ∈ lw_g := lg_of 1235 rfl rfl
set_option maxRecDepth 100000 in
theorem cd_59 : Cond.code ⟨"PutOffWicksModel","isPutOff","(I)V"⟩ prog_14_method_50_code 2 (Option.none : Option Jvm.ClassFile.FieldType) ∈ lw_g := lg_of 1411 rfl rfl
set_option maxRecDepth 100000 in
theorem cd_60 : Cond.code ⟨"PutOffWicksModel","isSeen","(II)Z"⟩ prog_14_method_94_code 3 (Option.some Jvm.ClassFile.FieldType.boolean) ∈ lw_g := lg_of 1600 rfl rfl
set_option maxRecDepth 100000 in
theorem cd_61 : Cond.code ⟨"PutOffWicksModel","isThing","(I)Z"⟩ prog_14_method_9_code 2 (Option.some Jvm.ClassFile.FieldType.boolean) ∈ lw_g := lg_of 1239 rfl rfl
set_option maxRecDepth 100000 in
theorem cd_62 : Cond.code ⟨"PutOffWicksModel","jumps","(I)V"⟩ prog_14_method_31_code 2 (Option.none : Option Jvm.ClassFile.FieldType) ∈ lw_g := lg_of 1333 rfl rfl
set_option maxRecDepth 100000 in
theorem cd_63 : Cond.code ⟨"PutOffWicksModel","keep","()I"⟩ prog_14_method_103_code 1 (Option.some Jvm.ClassFile.FieldType.int) ∈ lw_g := lg_of 1628 rfl rfl
set_option maxRecDepth 100000 in
theorem cd_64 : Cond.code ⟨"PutOffWicksModel","knowing","(II)I"⟩ prog_14_method_91_code 5 (Option.some Jvm.ClassFile.FieldType.int) ∈ lw_g := lg_of 1576 rfl rfl
set_option maxRecDepth 100000 in
theorem cd_65 : Cond.code ⟨"PutOffWicksModel","lands","(Z)V"⟩ prog_14_method_30_code 3 (Option.none : Option Jvm.ClassFile.FieldType) ∈ lw_g := lg_of 1329 rfl rfl
set_option maxRecDepth 100000 in
theorem cd_66 : Cond.code ⟨"PutOffWicksModel","law","(I)I"⟩ prog_14_method_36_code 4 (Option.some Jvm.ClassFile.FieldType.int) ∈ lw_g := lg_of 1254 rfl rfl
set_option maxRecDepth 100000 in
theorem cd_67 : Cond.code ⟨"PutOffWicksModel","leastLater","(II)I"⟩ prog_14_method_89_code 5 (Option.some Jvm.ClassFile.FieldType.int) ∈ lw_g := lg_of 1584 rfl rfl
set_option maxRecDepth 100000 in
theorem cd_68 : Cond.code ⟨"PutOffWicksModel","leftOf","(I)I"⟩ prog_14_method_45_code 4 (Option.some Jvm.ClassFile.FieldType.int) ∈ lw_g := lg_of 1373 rfl rfl
set_option maxRecDepth 100000 in
theorem cd_69 : Cond.code ⟨"PutOffWicksModel","light","(I)I"⟩ prog_14_method_68_code 2 (Option.some Jvm.ClassFile.FieldType.int) ∈ lw_g := lg_of 1472 rfl rfl
set_option maxRecDepth 100000 in
theorem cd_70 : Cond.code ⟨"PutOffWicksModel","lightOf","(I)I"⟩ prog_14_method_67_code 4 (Option.some Jvm.ClassFile.FieldType.int) ∈ lw_g := lg_of 1476 rfl rfl
set_option maxRecDepth 100000 in
theorem cd_71 : Cond.code ⟨"PutOffWicksModel","lit","(IZ)Z"⟩ prog_14_method_11_code 3 (Option.some Jvm.ClassFile.FieldType.boolean) ∈ lw_g := lg_of 1231 rfl rfl
set_option maxRecDepth 100000 in
theorem cd_72 : Cond.code ⟨"PutOffWicksModel","max","(II)I"⟩ prog_14_method_4_code 2 (Option.some Jvm.ClassFile.FieldType.int) ∈ lw_g := lg_of 1403 rfl rfl
set_option maxRecDepth 100000 in
theorem cd_73 : Cond.code ⟨"PutOffWicksModel","median","()I"⟩ prog_14_method_70_code 6 (Option.some Jvm.ClassFile.FieldType.int) ∈ lw_g := lg_of 1484 rfl rfl
set_option maxRecDepth 100000 in
theorem cd_74 : Cond.code ⟨"PutOffWicksModel","min","(II)I"⟩ prog_14_method_3_code 2 (Option.some Jvm.ClassFile.FieldType.int) ∈ lw_g := lg_of 1414 rfl rfl
set_option maxRecDepth 100000 in
theorem cd_75 : Cond.code ⟨"PutOffWicksModel","mustEnd","()I"⟩ prog_14_method_82_code 4 (Option.some Jvm.ClassFile.FieldType.int) ∈ lw_g := lg_of 1544 rfl rfl
set_option maxRecDepth 100000 in
theorem cd_76 : Cond.code ⟨"PutOffWicksModel","nextRow","(I)Z"⟩ prog_14_method_85_code 6 (Option.some Jvm.ClassFile.FieldType.boolean) ∈ lw_g := lg_of 1560 rfl rfl
set_option maxRecDepth 100000 in
theorem cd_77 : Cond.code ⟨"PutOffWicksModel","night","(II)I"⟩ prog_14_method_88_code 7 (Option.some Jvm.ClassFile.FieldType.int) ∈ lw_g := lg_of 1568 rfl rfl
set_option maxRecDepth 100000 in
theorem cd_78 : Cond.code ⟨"PutOffWicksModel","notes","(II)V"⟩ prog_14_method_20_code 3 (Option.none : Option Jvm.ClassFile.FieldType) ∈ lw_g := lg_of 1295 rfl rfl
set_option maxRecDepth 100000 in
theorem cd_79 : Cond.code ⟨"PutOffWicksModel","octet","(I)I"⟩ prog_14_method_14_code 2 (Option.some Jvm.ClassFile.FieldType.int) ∈ lw_g := lg_of 1535 rfl rfl
set_option maxRecDepth 100000 in
theorem cd_80 : Cond.code ⟨"PutOffWicksModel","oftenTill","(I)I"⟩ prog_14_method_79_code 4 (Option.some Jvm.ClassFile.FieldType.int) ∈ lw_g := lg_of 1519 rfl rfl
set_option maxRecDepth 100000 in
theorem cd_81 : Cond.code ⟨"PutOffWicksModel","oldest","()I"⟩ prog_14_method_62_code 3 (Option.some Jvm.ClassFile.FieldType.int) ∈ lw_g := lg_of 1449 rfl rfl
set_option maxRecDepth 100000 in
theorem cd_82 : Cond.code ⟨"PutOffWicksModel","opens","(I)Z"⟩ prog_14_method_21_code 2 (Option.some Jvm.ClassFile.FieldType.boolean) ∈ lw_g := lg_of 1282 rfl rfl
set_option maxRecDepth 100000 in
theorem cd_83 : Cond.code ⟨"PutOffWicksModel","orders","()I"⟩ prog_14_method_65_code 5 (Option.some Jvm.ClassFile.FieldType.int) ∈ lw_g := lg_of 1457 rfl rfl
set_option maxRecDepth 100000 in
theorem cd_84 : Cond.code ⟨"PutOffWicksModel","overs","()I"⟩ prog_14_method_76_code 3 (Option.some Jvm.ClassFile.FieldType.int) ∈ lw_g := lg_of 1508 rfl rfl
set_option maxRecDepth 100000 in
theorem cd_85 : Cond.code ⟨"PutOffWicksModel","parish","(I)I"⟩ prog_14_method_43_code 4 (Option.some Jvm.ClassFile.FieldType.int) ∈ lw_g := lg_of 1341 rfl rfl
set_option maxRecDepth 100000 in
theorem cd_86 : Cond.code ⟨"PutOffWicksModel","placeOf","(II)I"⟩ prog_14_method_64_code 4 (Option.some Jvm.ClassFile.FieldType.int) ∈ lw_g := lg_of 1461 rfl rfl
set_option maxRecDepth 100000 in
theorem cd_87 : Cond.code ⟨"PutOffWicksModel","pride","(I)I"⟩ prog_14_method_61_code 4 (Option.some Jvm.ClassFile.FieldType.int) ∈ lw_g := lg_of 1441 rfl rfl
set_option maxRecDepth 100000 in
theorem cd_88 : Cond.code ⟨"PutOffWicksModel","putsOff","(IIZI)I"⟩ prog_14_method_92_code 6 (Option.some Jvm.ClassFile.FieldType.int) ∈ lw_g := lg_of 1572 rfl rfl
set_option maxRecDepth 100000 in
theorem cd_89 : Cond.code ⟨"PutOffWicksModel","readsAmount","(I)Z"⟩ prog_14_method_41_code 3 (Option.some Jvm.ClassFile.FieldType.boolean) ∈ lw_g := lg_of 1349 rfl rfl
set_option maxRecDepth 100000 in
theorem cd_90 : Cond.code ⟨"PutOffWicksModel","readsCompared","()Z"⟩ prog_14_method_32_code 2 (Option.some Jvm.ClassFile.FieldType.boolean) ∈ lw_g := lg_of 1321 rfl rfl
set_option maxRecDepth 100000 in
theorem cd_91 : Cond.code ⟨"PutOffWicksModel","readsCondition","()Z"⟩ prog_14_method_33_code 1 (Option.some Jvm.ClassFile.FieldType.boolean) ∈ lw_g := lg_of 1317 rfl rfl
set_option maxRecDepth 100000 in
theorem cd_92 : Cond.code ⟨"PutOffWicksModel","readsFactor","()Z"⟩ prog_14_method_26_code 2 (Option.some Jvm.ClassFile.FieldType.boolean) ∈ lw_g := lg_of 1278 rfl rfl
set_option maxRecDepth 100000 in
theorem cd_93 : Cond.code ⟨"PutOffWicksModel","readsNumber","()Z"⟩ prog_14_method_19_code 2 (Option.some Jvm.ClassFile.FieldType.boolean) ∈ lw_g := lg_of 1291 rfl rfl
set_option maxRecDepth 100000 in
theorem cd_94 : Cond.code ⟨"PutOffWicksModel","readsRule","()Z"⟩ prog_14_method_34_code 2 (Option.some Jvm.ClassFile.FieldType.boolean) ∈ lw_g := lg_of 1262 rfl rfl
set_option maxRecDepth 100000 in
theorem cd_95 : Cond.code ⟨"PutOffWicksModel","readsSum","()Z"⟩ prog_14_method_28_code 3 (Option.some Jvm.ClassFile.FieldType.boolean) ∈ lw_g := lg_of 1274 rfl rfl
set_option maxRecDepth 100000 in
theorem cd_96 : Cond.code ⟨"PutOffWicksModel","readsThing","()Z"⟩ prog_14_method_42_code 2 (Option.some Jvm.ClassFile.FieldType.boolean) ∈ lw_g := lg_of 1345 rfl rfl
set_option maxRecDepth 100000 in
theorem cd_97 : Cond.code ⟨"PutOffWicksModel","readsTimes","()V"⟩ prog_14_method_71_code 1 (Option.none : Option Jvm.ClassFile.FieldType) ∈ lw_g := lg_of 1496 rfl rfl
set_option maxRecDepth 100000 in
theorem cd_98 : Cond.code ⟨"PutOffWicksModel","readsTurn","(I)Z"⟩ prog_14_method_73_code 6 (Option.some Jvm.ClassFile.FieldType.boolean) ∈ lw_g := lg_of 1492 rfl rfl
set_option maxRecDepth 100000 in
theorem cd_99 : Cond.code ⟨"PutOffWicksModel","reckon","(III)I"⟩ prog_14_method_37_code 3 (Option.some Jvm.ClassFile.FieldType.int) ∈ lw_g := lg_of 1392 rfl rfl
set_option maxRecDepth 100000 in
theorem cd_100 : Cond.code ⟨"PutOffWicksModel","reckonsTo","(II)I"⟩ prog_14_method_38_code 8 (Option.some Jvm.ClassFile.FieldType.int) ∈ lw_g := lg_of 1389 rfl rfl
set_option maxRecDepth 100000 in
theorem cd_101 : Cond.code ⟨"PutOffWicksModel","repeats","(III)Z"⟩ prog_14_method_72_code 6 (Option.some Jvm.ClassFile.FieldType.boolean) ∈ lw_g := lg_of 1500 rfl rfl
set_option maxRecDepth 100000 in
theorem cd_102 : Cond.code ⟨"PutOffWicksModel","seed","(I)Z"⟩ prog_14_method_102_code 2 (Option.some Jvm.ClassFile.FieldType.boolean) ∈ lw_g := lg_of 1624 rfl rfl
set_option maxRecDepth 100000 in
theorem cd_103 : Cond.code ⟨"PutOffWicksModel","seen","(III)I"⟩ prog_14_method_96_code 9 (Option.some Jvm.ClassFile.FieldType.int) ∈ lw_g := lg_of 1592 rfl rfl
set_option maxRecDepth 100000 in
theorem cd_104 : Cond.code ⟨"PutOffWicksModel","seenAt","(II)I"⟩ prog_14_method_95_code 5 (Option.some Jvm.ClassFile.FieldType.int) ∈ lw_g := lg_of 1596 rfl rfl
set_option maxRecDepth 100000 in
theorem cd_105 : Cond.code ⟨"PutOffWicksModel","setOf","(I)I"⟩ prog_14_method_55_code 4 (Option.some Jvm.ClassFile.FieldType.int) ∈ lw_g := lg_of 1425 rfl rfl
set_option maxRecDepth 100000 in
theorem cd_106 : Cond.code ⟨"PutOffWicksModel","shortened","()I"⟩ prog_14_method_77_code 4 (Option.some Jvm.ClassFile.FieldType.int) ∈ lw_g := lg_of 1512 rfl rfl
set_option maxRecDepth 100000 in
theorem cd_107 : Cond.code ⟨"PutOffWicksModel","size","(I)I"⟩ prog_14_method_5_code 1 (Option.some Jvm.ClassFile.FieldType.int) ∈ lw_g := lg_of 1515 rfl rfl
set_option maxRecDepth 100000 in
theorem cd_108 : Cond.code ⟨"PutOffWicksModel","spun","(II)I"⟩ prog_14_method_87_code 7 (Option.some Jvm.ClassFile.FieldType.int) ∈ lw_g := lg_of 1552 rfl rfl
set_option maxRecDepth 100000 in
theorem cd_109 : Cond.code ⟨"PutOffWicksModel","sumSign","(I)I"⟩ prog_14_method_24_code 1 (Option.some Jvm.ClassFile.FieldType.int) ∈ lw_g := lg_of 1301 rfl rfl
set_option maxRecDepth 100000 in
theorem cd_110 : Cond.code ⟨"PutOffWicksModel","takes","(I)Z"⟩ prog_14_method_18_code 2 (Option.some Jvm.ClassFile.FieldType.boolean) ∈ lw_g := lg_of 1337 rfl rfl
set_option maxRecDepth 100000 in
theorem cd_111 : Cond.code ⟨"PutOffWicksModel","thingIs","(II)I"⟩ prog_14_method_57_code 3 (Option.some Jvm.ClassFile.FieldType.int) ∈ lw_g := lg_of 1429 rfl rfl
set_option maxRecDepth 100000 in
theorem cd_112 : Cond.code ⟨"PutOffWicksModel","tried","(II)I"⟩ prog_14_method_56_code 4 (Option.some Jvm.ClassFile.FieldType.int) ∈ lw_g := lg_of 1418 rfl rfl
set_option maxRecDepth 100000 in
theorem cd_113 : Cond.code ⟨"PutOffWicksModel","turnsAll","(I)V"⟩ prog_14_method_74_code 5 (Option.none : Option Jvm.ClassFile.FieldType) ∈ lw_g := lg_of 1504 rfl rfl
set_option maxRecDepth 100000 in
theorem cd_114 : Cond.code ⟨"PutOffWicksModel","twist","(III)I"⟩ prog_14_method_80_code 5 (Option.some Jvm.ClassFile.FieldType.int) ∈ lw_g := lg_of 1488 rfl rfl
set_option maxRecDepth 100000 in
theorem cd_115 : Cond.code ⟨"PutOffWicksModel","types","(I)V"⟩ prog_14_method_12_code 3 (Option.none : Option Jvm.ClassFile.FieldType) ∈ lw_g := lg_of 1250 rfl rfl
set_option maxRecDepth 100000 in
theorem cd_116 : Cond.code ⟨"PutOffWicksModel","undo","()Z"⟩ prog_14_method_104_code 3 (Option.some Jvm.ClassFile.FieldType.boolean) ∈ lw_g := lg_of 1632 rfl rfl
set_option maxRecDepth 100000 in
theorem cd_117 : Cond.code ⟨"PutOffWicksModel","unknowing","(II)I"⟩ prog_14_method_90_code 4 (Option.some Jvm.ClassFile.FieldType.int) ∈ lw_g := lg_of 1580 rfl rfl
set_option maxRecDepth 100000 in
theorem cd_118 : Cond.code ⟨"PutOffWicksModel","waitTop","()I"⟩ prog_14_method_22_code 1 (Option.some Jvm.ClassFile.FieldType.int) ∈ lw_g := lg_of 1309 rfl rfl
set_option maxRecDepth 100000 in
theorem cd_119 : Cond.code ⟨"PutOffWicksModel","waitersOf","(I)I"⟩ prog_14_method_46_code 4 (Option.some Jvm.ClassFile.FieldType.int) ∈ lw_g := lg_of 1377 rfl rfl
set_option maxRecDepth 100000 in
theorem cd_120 : Cond.code ⟨"PutOffWicksModel","waiting","(II)I"⟩ prog_14_method_83_code 6 (Option.some Jvm.ClassFile.FieldType.int) ∈ lw_g := lg_of 1531 rfl rfl
set_option maxRecDepth 100000 in
theorem cd_121 : Cond.code ⟨"PutOffWicksModel","waysTo","(III)I"⟩ prog_14_method_66_code 5 (Option.some Jvm.ClassFile.FieldType.int) ∈ lw_g := lg_of 1468 rfl rfl
set_option maxRecDepth 100000 in
theorem cd_122 : Cond.code ⟨"PutOffWicksModel","whoHasLeft","()I"⟩ prog_14_method_106_code 3 (Option.some Jvm.ClassFile.FieldType.int) ∈ lw_g := lg_of 1644 rfl rfl
set_option maxRecDepth 100000 in
theorem cd_123 : Cond.code ⟨"PutOffWicksModel","worstNews","(I)I"⟩ prog_14_method_69_code 4 (Option.some Jvm.ClassFile.FieldType.int) ∈ lw_g := lg_of 1480 rfl rfl
set_option maxRecDepth 100000 in
theorem cd_124 : Cond.code ⟨"PutOffWicksModel","wrongAt","(II)Z"⟩ prog_14_method_17_code 3 (Option.some Jvm.ClassFile.FieldType.boolean) ∈ lw_g := lg_of 1270 rfl rfl
set_option maxRecDepth 100000 in
theorem cd_125 : Cond.code ⟨"PutOffWicks$ParishReader","read","()I"⟩ prog_5_method_2_code 3 (Option.some Jvm.ClassFile.FieldType.int) ∈ lw_g := lg_of 576 rfl rfl
set_option maxRecDepth 100000 in
theorem cd_126 : Cond.code ⟨"PutOffWicks$ParishReader","readLine","(I)V"⟩ prog_5_method_3_code 6 (Option.none : Option Jvm.ClassFile.FieldType) ∈ lw_g := lg_of 581 rfl rfl
set_option maxRecDepth 100000 in
theorem cd_127 : Cond.code ⟨"PutOffWicks$ParishReader","readOther","(I)I"⟩ prog_5_method_4_code 4 (Option.some Jvm.ClassFile.FieldType.int) ∈ lw_g := lg_of 589 rfl rfl
set_option maxRecDepth 100000 in
theorem cd_128 : Cond.code ⟨"PutOffWicks$Parish","beginAs","(LPutOffWicks$Parish;)V"⟩ prog_4_method_7_code 4 (Option.none : Option Jvm.ClassFile.FieldType) ∈ lw_g := lg_of 595 rfl rfl
set_option maxRecDepth 100000 in
theorem cd_129 : Cond.code ⟨"PutOffWicks$Parish","brightestOwner","()I"⟩ prog_4_method_20_code 5 (Option.some Jvm.ClassFile.FieldType.int) ∈ lw_g := lg_of 767 rfl rfl
set_option maxRecDepth 100000 in
theorem cd_130 : Cond.code ⟨"PutOffWicks$Parish","burn","(II)V"⟩ prog_4_method_11_code 3 (Option.none : Option Jvm.ClassFile.FieldType) ∈ lw_g := lg_of 678 rfl rfl
set_option maxRecDepth 100000 in
theorem cd_131 : Cond.code ⟨"PutOffWicks$Parish","comeBackTo","(LPutOffWicks$Parish;)V"⟩ prog_4_method_8_code 4 (Option.none : Option Jvm.ClassFile.FieldType) ∈ lw_g := lg_of 1044 rfl rfl
set_option maxRecDepth 100000 in
theorem cd_132 : Cond.code ⟨"PutOffWicks$Parish","copyFrom","(LPutOffWicks$Parish;)V"⟩ prog_4_method_6_code 2 (Option.none : Option Jvm.ClassFile.FieldType) ∈ lw_g := lg_of 599 rfl rfl
set_option maxRecDepth 100000 in
theorem cd_133 : Cond.code ⟨"PutOffWicks$Parish","draw","()I"⟩ prog_4_method_9_code 1 (Option.some Jvm.ClassFile.FieldType.int) ∈ lw_g := lg_of 623 rfl rfl
set_option maxRecDepth 100000 in
theorem cd_134 : Cond.code ⟨"PutOffWicks$Parish","finish","(I)V"⟩ prog_4_method_12_code 2 (Option.none : Option Jvm.ClassFile.FieldType) ∈ lw_g := lg_of 689 rfl rfl
set_option maxRecDepth 100000 in
theorem cd_135 : Cond.code ⟨"PutOffWicks$Parish","has","(I)Z"⟩ prog_4_method_2_code 2 (Option.some Jvm.ClassFile.FieldType.boolean) ∈ lw_g := lg_of 457 rfl rfl
set_option maxRecDepth 100000 in
theorem cd_136 : Cond.code ⟨"PutOffWicks$Parish","isDone","(I)Z"⟩ prog_4_method_4_code 2 (Option.some Jvm.ClassFile.FieldType.boolean) ∈ lw_g := lg_of 461 rfl rfl
set_option maxRecDepth 100000 in
theorem cd_137 : Cond.code ⟨"PutOffWicks$Parish","isFree","(I)Z"⟩ prog_4_method_10_code 2 (Option.some Jvm.ClassFile.FieldType.boolean) ∈ lw_g := lg_of 684 rfl rfl
set_option maxRecDepth 100000 in
theorem cd_138 : Cond.code ⟨"PutOffWicks$Parish","isLit","(I)Z"⟩ prog_4_method_3_code 2 (Option.some Jvm.ClassFile.FieldType.boolean) ∈ lw_g := lg_of 649 rfl rfl
set_option maxRecDepth 100000 in
theorem cd_139 : Cond.code ⟨"PutOffWicks$Parish","leftOf","(I)I"⟩ prog_4_method_14_code 4 (Option.some Jvm.ClassFile.FieldType.int) ∈ lw_g := lg_of 653 rfl rfl
set_option maxRecDepth 100000 in
theorem cd_140 : Cond.code ⟨"PutOffWicks$Parish","leftPutOffUnder","(I)I"⟩ prog_4_method_22_code 4 (Option.some Jvm.ClassFile.FieldType.int) ∈ lw_g := lg_of 780 rfl rfl
set_option maxRecDepth 100000 in
theorem cd_141 : Cond.code ⟨"PutOffWicks$Parish","leftThatNeed","(I)I"⟩ prog_4_method_24_code 5 (Option.some Jvm.ClassFile.FieldType.int) ∈ lw_g := lg_of 751 rfl rfl
set_option maxRecDepth 100000 in
theorem cd_142 : Cond.code ⟨"PutOffWicks$Parish","lightOf","(I)I"⟩ prog_4_method_19_code 4 (Option.some Jvm.ClassFile.FieldType.int) ∈ lw_g := lg_of 759 rfl rfl
set_option maxRecDepth 100000 in
theorem cd_143 : Cond.code ⟨"PutOffWicks$Parish","middlePutOff","()I"⟩ prog_4_method_21_code 5 (Option.some Jvm.ClassFile.FieldType.int) ∈ lw_g := lg_of 776 rfl rfl
set_option maxRecDepth 100000 in
theorem cd_144 : Cond.code ⟨"PutOffWicks$Parish","ordersLeft","()I"⟩ prog_4_method_23_code 7 (Option.some Jvm.ClassFile.FieldType.int) ∈ lw_g := lg_of 746 rfl rfl
set_option maxRecDepth 100000 in
theorem cd_145 : Cond.code ⟨"PutOffWicks$Parish","ownersLeft","()I"⟩ prog_4_method_16_code 3 (Option.some Jvm.ClassFile.FieldType.int) ∈ lw_g := lg_of 725 rfl rfl
set_option maxRecDepth 100000 in
theorem cd_146 : Cond.code ⟨"PutOffWicks$Parish","proudest","()I"⟩ prog_4_method_18_code 6 (Option.some Jvm.ClassFile.FieldType.int) ∈ lw_g := lg_of 721 rfl rfl
set_option maxRecDepth 100000 in
theorem cd_147 : Cond.code ⟨"PutOffWicks$Parish","putItOff","(I)V"⟩ prog_4_method_13_code 2 (Option.none : Option Jvm.ClassFile.FieldType) ∈ lw_g := lg_of 694 rfl rfl
set_option maxRecDepth 100000 in
theorem cd_148 : Cond.code ⟨"PutOffWicks$Parish","putLight","(IZ)V"⟩ prog_4_method_5_code 3 (Option.none : Option Jvm.ClassFile.FieldType) ∈ lw_g := lg_of 465 rfl rfl
set_option maxRecDepth 100000 in
theorem cd_149 : Cond.code ⟨"PutOffWicks$Parish","putOffBy","(I)I"⟩ prog_4_method_17_code 4 (Option.some Jvm.ClassFile.FieldType.int) ∈ lw_g := lg_of 729 rfl rfl
set_option maxRecDepth 100000 in
theorem cd_150 : Cond.code ⟨"PutOffWicks$Parish","waitersFor","(I)I"⟩ prog_4_method_15_code 4 (Option.some Jvm.ClassFile.FieldType.int) ∈ lw_g := lg_of 658 rfl rfl
set_option maxRecDepth 100000 in
theorem cd_151 : Cond.code ⟨"PutOffWicks$Reading","begin","()V"⟩ prog_6_method_2_code 1 (Option.none : Option Jvm.ClassFile.FieldType) ∈ lw_g := lg_of 496 rfl rfl
set_option maxRecDepth 100000 in
theorem cd_152 : Cond.code ⟨"PutOffWicks$Reading","fail","(II)V"⟩ prog_6_method_5_code 3 (Option.none : Option Jvm.ClassFile.FieldType) ∈ lw_g := lg_of 508 rfl rfl
set_option maxRecDepth 100000 in
theorem cd_153 : Cond.code ⟨"PutOffWicks$Reading","failed","()Z"⟩ prog_6_method_4_code 1 (Option.some Jvm.ClassFile.FieldType.boolean) ∈ lw_g := lg_of 797 rfl rfl
set_option maxRecDepth 100000 in
theorem cd_154 : Cond.code ⟨"PutOffWicks$Reading","goesOn","()Z"⟩ prog_6_method_8_code 1 (Option.some Jvm.ClassFile.FieldType.boolean) ∈ lw_g := lg_of 560 rfl rfl
set_option maxRecDepth 100000 in
theorem cd_155 : Cond.code ⟨"PutOffWicks$Reading","isDigit","(I)Z"⟩ prog_6_method_10_code 1 (Option.some Jvm.ClassFile.FieldType.boolean) ∈ lw_g := lg_of 532 rfl rfl
set_option maxRecDepth 100000 in
theorem cd_156 : Cond.code ⟨"PutOffWicks$Reading","needs","(I)V"⟩ prog_6_method_7_code 2 (Option.none : Option Jvm.ClassFile.FieldType) ∈ lw_g := lg_of 528 rfl rfl
set_option maxRecDepth 100000 in
theorem cd_157 : Cond.code ⟨"PutOffWicks$Reading","number","(I)I"⟩ prog_6_method_9_code 4 (Option.some Jvm.ClassFile.FieldType.int) ∈ lw_g := lg_of 536 rfl rfl
set_option maxRecDepth 100000 in
theorem cd_158 : Cond.code ⟨"PutOffWicks$Reading","sign","()I"⟩ prog_6_method_3_code 1 (Option.some Jvm.ClassFile.FieldType.int) ∈ lw_g := lg_of 500 rfl rfl
set_option maxRecDepth 100000 in
theorem cd_159 : Cond.code ⟨"PutOffWicks$Reading","takes","(I)Z"⟩ prog_6_method_6_code 2 (Option.some Jvm.ClassFile.FieldType.boolean) ∈ lw_g := lg_of 544 rfl rfl
set_option maxRecDepth 100000 in
theorem cd_160 : Cond.code ⟨"PutOffWicks$Reckoner","ask","(III)I"⟩ prog_7_method_3_code 5 (Option.some Jvm.ClassFile.FieldType.int) ∈ lw_g := lg_of 632 rfl rfl
set_option maxRecDepth 100000 in
theorem cd_161 : Cond.code ⟨"PutOffWicks$Reckoner","face","(LPutOffWicks$Parish;II)V"⟩ prog_7_method_2_code 4 (Option.none : Option Jvm.ClassFile.FieldType) ∈ lw_g := lg_of 628 rfl rfl
set_option maxRecDepth 100000 in
theorem cd_162 : Cond.code ⟨"PutOffWicks$Reckoner","fact","(I)I"⟩ prog_7_method_6_code 2 (Option.some Jvm.ClassFile.FieldType.int) ∈ lw_g := lg_of 644 rfl rfl
set_option maxRecDepth 100000 in
theorem cd_163 : Cond.code ⟨"PutOffWicks$Reckoner","joined","(III)I"⟩ prog_7_method_5_code 4 (Option.some Jvm.ClassFile.FieldType.int) ∈ lw_g := lg_of 666 rfl rfl
set_option maxRecDepth 100000 in
theorem cd_164 : Cond.code ⟨"PutOffWicks$Reckoner","pop","()I"⟩ prog_7_method_8_code 1 (Option.some Jvm.ClassFile.FieldType.int) ∈ lw_g := lg_of 662 rfl rfl
set_option maxRecDepth 100000 in
theorem cd_165 : Cond.code ⟨"PutOffWicks$Reckoner","push","(I)V"⟩ prog_7_method_7_code 2 (Option.none : Option Jvm.ClassFile.FieldType) ∈ lw_g := lg_of 640 rfl rfl
set_option maxRecDepth 100000 in
theorem cd_166 : Cond.code ⟨"PutOffWicks$Reckoner","reckon","(II)I"⟩ prog_7_method_4_code 8 (Option.some Jvm.ClassFile.FieldType.int) ∈ lw_g := lg_of 636 rfl rfl
set_option maxRecDepth 100000 in
theorem cd_167 : Cond.code ⟨"PutOffWicks$Rows","beats","(II)Z"⟩ prog_8_method_15_code 5 (Option.some Jvm.ClassFile.FieldType.boolean) ∈ lw_g := lg_of 1027 rfl rfl
set_option maxRecDepth 100000 in
theorem cd_168 : Cond.code ⟨"PutOffWicks$Rows","bestFirst","(I)I"⟩ prog_8_method_2_code 6 (Option.some Jvm.ClassFile.FieldType.int) ∈ lw_g := lg_of 898 rfl rfl
set_option maxRecDepth 100000 in
theorem cd_169 : Cond.code ⟨"PutOffWicks$Rows","dayIfKnowing","(II)I"⟩ prog_8_method_8_code 5 (Option.some Jvm.ClassFile.FieldType.int) ∈ lw_g := lg_of 933 rfl rfl
set_option maxRecDepth 100000 in
theorem cd_170 : Cond.code ⟨"PutOffWicks$Rows","dayIfNotKnowing","(II)I"⟩ prog_8_method_9_code 6 (Option.some Jvm.ClassFile.FieldType.int) ∈ lw_g := lg_of 937 rfl rfl
set_option maxRecDepth 100000 in
theorem cd_171 : Cond.code ⟨"PutOffWicks$Rows","difference","(II)I"⟩ prog_8_method_13_code 5 (Option.some Jvm.ClassFile.FieldType.int) ∈ lw_g := lg_of 1013 rfl rfl
set_option maxRecDepth 100000 in
theorem cd_172 : Cond.code ⟨"PutOffWicks$Rows","evenestCut","(I)I"⟩ prog_8_method_12_code 4 (Option.some Jvm.ClassFile.FieldType.int) ∈ lw_g := lg_of 1009 rfl rfl
set_option maxRecDepth 100000 in
theorem cd_173 : Cond.code ⟨"PutOffWicks$Rows","farthestFrom","(II)I"⟩ prog_8_method_7_code 5 (Option.some Jvm.ClassFile.FieldType.int) ∈ lw_g := lg_of 925 rfl rfl
set_option maxRecDepth 100000 in
theorem cd_174 : Cond.code ⟨"PutOffWicks$Rows","fewestWicks","(II)I"⟩ prog_8_method_6_code 5 (Option.some Jvm.ClassFile.FieldType.int) ∈ lw_g := lg_of 921 rfl rfl
set_option maxRecDepth 100000 in
theorem cd_175 : Cond.code ⟨"PutOffWicks$Rows","hoursBehind","(II)I"⟩ prog_8_method_3_code 8 (Option.some Jvm.ClassFile.FieldType.int) ∈ lw_g := lg_of 902 rfl rfl
set_option maxRecDepth 100000 in
theorem cd_176 : Cond.code ⟨"PutOffWicks$Rows","longestCord","(II)I"⟩ prog_8_method_10_code 5 (Option.some Jvm.ClassFile.FieldType.int) ∈ lw_g := lg_of 947 rfl rfl
set_option maxRecDepth 100000 in
theorem cd_177 : Cond.code ⟨"PutOffWicks$Rows","nextToSpin","(II)I"⟩ prog_8_method_4_code 5 (Option.some Jvm.ClassFile.FieldType.int) ∈ lw_g := lg_of 907 rfl rfl
set_option maxRecDepth 100000 in
theorem cd_178 : Cond.code ⟨"PutOffWicks$Rows","spinsAhead","(II)Z"⟩ prog_8_method_5_code 5 (Option.some Jvm.ClassFile.FieldType.boolean) ∈ lw_g := lg_of 911 rfl rfl
set_option maxRecDepth 100000 in
theorem cd_179 : Cond.code ⟨"PutOffWicks$Rows","sufficesFor","(III)Z"⟩ prog_8_method_11_code 6 (Option.some Jvm.ClassFile.FieldType.boolean) ∈ lw_g := lg_of 951 rfl rfl
set_option maxRecDepth 100000 in
theorem cd_180 : Cond.code ⟨"PutOffWicks$Rows","unbeaten","(I)I"⟩ prog_8_method_14_code 6 (Option.some Jvm.ClassFile.FieldType.int) ∈ lw_g := lg_of 1023 rfl rfl
set_option maxRecDepth 100000 in
theorem cd_181 : Cond.code ⟨"PutOffWicks$Shore","bestLights","(II)I"⟩ prog_9_method_6_code 7 (Option.some Jvm.ClassFile.FieldType.int) ∈ lw_g := lg_of 982 rfl rfl
set_option maxRecDepth 100000 in
theorem cd_182 : Cond.code ⟨"PutOffWicks$Shore","fillView","(I)V"⟩ prog_9_method_8_code 4 (Option.none : Option Jvm.ClassFile.FieldType) ∈ lw_g := lg_of 986 rfl rfl
set_option maxRecDepth 100000 in
theorem cd_183 : Cond.code ⟨"PutOffWicks$Shore","isSeen","(II)Z"⟩ prog_9_method_2_code 3 (Option.some Jvm.ClassFile.FieldType.boolean) ∈ lw_g := lg_of 967 rfl rfl
set_option maxRecDepth 100000 in
theorem cd_184 : Cond.code ⟨"PutOffWicks$Shore","longestRow","(II)I"⟩ prog_9_method_5_code 6 (Option.some Jvm.ClassFile.FieldType.int) ∈ lw_g := lg_of 973 rfl rfl
set_option maxRecDepth 100000 in
theorem cd_185 : Cond.code ⟨"PutOffWicks$Shore","placesOf","(II)I"⟩ prog_9_method_7_code 8 (Option.some Jvm.ClassFile.FieldType.int) ∈ lw_g := lg_of 994 rfl rfl
set_option maxRecDepth 100000 in
theorem cd_186 : Cond.code ⟨"PutOffWicks$Shore","placesSeeing","(II)I"⟩ prog_9_method_4_code 5 (Option.some Jvm.ClassFile.FieldType.int) ∈ lw_g := lg_of 959 rfl rfl
set_option maxRecDepth 100000 in
theorem cd_187 : Cond.code ⟨"PutOffWicks$Shore","sees","(III)Z"⟩ prog_9_method_3_code 6 (Option.some Jvm.ClassFile.FieldType.boolean) ∈ lw_g := lg_of 963 rfl rfl
set_option maxRecDepth 100000 in
theorem cd_188 : Cond.code ⟨"PutOffWicks$Tape","at","(I)I"⟩ prog_10_method_5_code 2 (Option.some Jvm.ClassFile.FieldType.int) ∈ lw_g := lg_of 504 rfl rfl
set_option maxRecDepth 100000 in
theorem cd_189 : Cond.code ⟨"PutOffWicks$Tape","hasRoom","()Z"⟩ prog_10_method_2_code 1 (Option.some Jvm.ClassFile.FieldType.boolean) ∈ lw_g := lg_of 473 rfl rfl
set_option maxRecDepth 100000 in
theorem cd_190 : Cond.code ⟨"PutOffWicks$Tape","put","(I)V"⟩ prog_10_method_3_code 3 (Option.none : Option Jvm.ClassFile.FieldType) ∈ lw_g := lg_of 477 rfl rfl
set_option maxRecDepth 100000 in
theorem cd_191 : Cond.code ⟨"PutOffWicks$Tape","take","(I)Z"⟩ prog_10_method_4_code 2 (Option.some Jvm.ClassFile.FieldType.boolean) ∈ lw_g := lg_of 488 rfl rfl
set_option maxRecDepth 100000 in
theorem cd_192 : Cond.code ⟨"PutOffWicks$Twist","closeGroup","()V"⟩ prog_11_method_7_code 2 (Option.none : Option Jvm.ClassFile.FieldType) ∈ lw_g := lg_of 819 rfl rfl
set_option maxRecDepth 100000 in
theorem cd_193 : Cond.code ⟨"PutOffWicks$Twist","comesOut","(I)I"⟩ prog_11_method_11_code 5 (Option.some Jvm.ClassFile.FieldType.int) ∈ lw_g := lg_of 835 rfl rfl
set_option maxRecDepth 100000 in
theorem cd_194 : Cond.code ⟨"PutOffWicks$Twist","ends","()Z"⟩ prog_11_method_3_code 1 (Option.some Jvm.ClassFile.FieldType.boolean) ∈ lw_g := lg_of 793 rfl rfl
set_option maxRecDepth 100000 in
theorem cd_195 : Cond.code ⟨"PutOffWicks$Twist","openGroup","(II)V"⟩ prog_11_method_6_code 3 (Option.none : Option Jvm.ClassFile.FieldType) ∈ lw_g := lg_of 815 rfl rfl
set_option maxRecDepth 100000 in
theorem cd_196 : Cond.code ⟨"PutOffWicks$Twist","oversLessUnders","()I"⟩ prog_11_method_9_code 3 (Option.some Jvm.ClassFile.FieldType.int) ∈ lw_g := lg_of 823 rfl rfl
set_option maxRecDepth 100000 in
theorem cd_197 : Cond.code ⟨"PutOffWicks$Twist","read","(I)I"⟩ prog_11_method_2_code 8 (Option.some Jvm.ClassFile.FieldType.int) ∈ lw_g := lg_of 788 rfl rfl
set_option maxRecDepth 100000 in
theorem cd_198 : Cond.code ⟨"PutOffWicks$Twist","readTimes","()I"⟩ prog_11_method_4_code 2 (Option.some Jvm.ClassFile.FieldType.int) ∈ lw_g := lg_of 802 rfl rfl
set_option maxRecDepth 100000 in
theorem cd_199 : Cond.code ⟨"PutOffWicks$Twist","readTurn","(IZI)V"⟩ prog_11_method_5_code 4 (Option.none : Option Jvm.ClassFile.FieldType) ∈ lw_g := lg_of 806 rfl rfl
set_option maxRecDepth 100000 in
theorem cd_200 : Cond.code ⟨"PutOffWicks$Twist","repeat","(III)V"⟩ prog_11_method_8_code 7 (Option.none : Option Jvm.ClassFile.FieldType) ∈ lw_g := lg_of 811 rfl rfl
set_option maxRecDepth 100000 in
theorem cd_201 : Cond.code ⟨"PutOffWicks$Twist","timesTillHome","(I)I"⟩ prog_11_method_12_code 5 (Option.some Jvm.ClassFile.FieldType.int) ∈ lw_g := lg_of 831 rfl rfl
set_option maxRecDepth 100000 in
theorem cd_202 : Cond.code ⟨"PutOffWicks$Twist","turnsLeft","()I"⟩ prog_11_method_10_code 3 (Option.some Jvm.ClassFile.FieldType.int) ∈ lw_g := lg_of 827 rfl rfl
set_option maxRecDepth 100000 in
theorem cd_203 : Cond.code ⟨"PutOffWicks","brightest","(III)I"⟩ prog_1_method_25_code 5 (Option.some Jvm.ClassFile.FieldType.int) ∈ lw_g := lg_of 978 rfl rfl
set_option maxRecDepth 100000 in
theorem cd_204 : Cond.code ⟨"PutOffWicks","byWhen","(II)I"⟩ prog_1_method_9_code 4 (Option.some Jvm.ClassFile.FieldType.int) ∈ lw_g := lg_of 709 rfl rfl
set_option maxRecDepth 100000 in
theorem cd_205 : Cond.code ⟨"PutOffWicks","chain","(I)I"⟩ prog_1_method_13_code 5 (Option.some Jvm.ClassFile.FieldType.int) ∈ lw_g := lg_of 738 rfl rfl
set_option maxRecDepth 100000 in
theorem cd_206 : Cond.code ⟨"PutOffWicks","check","(I)I"⟩ prog_1_method_31_code 4 (Option.some Jvm.ClassFile.FieldType.int) ∈ lw_g := lg_of 1048 rfl rfl
set_option maxRecDepth 100000 in
theorem cd_207 : Cond.code ⟨"PutOffWicks","cord","(II)I"⟩ prog_1_method_23_code 3 (Option.some Jvm.ClassFile.FieldType.int) ∈ lw_g := lg_of 943 rfl rfl
set_option maxRecDepth 100000 in
theorem cd_208 : Cond.code ⟨"PutOffWicks","count","(I)I"⟩ prog_1_method_32_code 2 (Option.some Jvm.ClassFile.FieldType.int) ∈ lw_g := lg_of 1052 rfl rfl
set_option maxRecDepth 100000 in
theorem cd_209 : Cond.code ⟨"PutOffWicks","dark","(I)I"⟩ prog_1_method_10_code 3 (Option.some Jvm.ClassFile.FieldType.int) ∈ lw_g := lg_of 713 rfl rfl
set_option maxRecDepth 100000 in
theorem cd_210 : Cond.code ⟨"PutOffWicks","days","(I)I"⟩ prog_1_method_6_code 2 (Option.some Jvm.ClassFile.FieldType.int) ∈ lw_g := lg_of 604 rfl rfl
set_option maxRecDepth 100000 in
theorem cd_211 : Cond.code ⟨"PutOffWicks","feed","(IIIII)I"⟩ prog_1_method_3_code 6 (Option.some Jvm.ClassFile.FieldType.int) ∈ lw_g := lg_of 469 rfl rfl
set_option maxRecDepth 100000 in
theorem cd_212 : Cond.code ⟨"PutOffWicks","forgiven","(I)I"⟩ prog_1_method_27_code 2 (Option.some Jvm.ClassFile.FieldType.int) ∈ lw_g := lg_of 1019 rfl rfl
set_option maxRecDepth 100000 in
theorem cd_213 : Cond.code ⟨"PutOffWicks","halves","(II)I"⟩ prog_1_method_26_code 4 (Option.some Jvm.ClassFile.FieldType.int) ∈ lw_g := lg_of 1005 rfl rfl
set_option maxRecDepth 100000 in
theorem cd_214 : Cond.code ⟨"PutOffWicks","keep","()I"⟩ prog_1_method_29_code 1 (Option.some Jvm.ClassFile.FieldType.int) ∈ lw_g := lg_of 1036 rfl rfl
set_option maxRecDepth 100000 in
theorem cd_215 : Cond.code ⟨"PutOffWicks","law","(I)I"⟩ prog_1_method_4_code 3 (Option.some Jvm.ClassFile.FieldType.int) ∈ lw_g := lg_of 481 rfl rfl
set_option maxRecDepth 100000 in
theorem cd_216 : Cond.code ⟨"PutOffWicks","light","(I)I"⟩ prog_1_method_15_code 2 (Option.some Jvm.ClassFile.FieldType.int) ∈ lw_g := lg_of 755 rfl rfl
set_option maxRecDepth 100000 in
theorem cd_217 : Cond.code ⟨"PutOffWicks","lit","(IZ)Z"⟩ prog_1_method_2_code 3 (Option.some Jvm.ClassFile.FieldType.boolean) ∈ lw_g := lg_of 453 rfl rfl
set_option maxRecDepth 100000 in
theorem cd_218 : Cond.code ⟨"PutOffWicks","median","()I"⟩ prog_1_method_17_code 1 (Option.some Jvm.ClassFile.FieldType.int) ∈ lw_g := lg_of 772 rfl rfl
set_option maxRecDepth 100000 in
theorem cd_219 : Cond.code ⟨"PutOffWicks","night","(II)I"⟩ prog_1_method_21_code 3 (Option.some Jvm.ClassFile.FieldType.int) ∈ lw_g := lg_of 917 rfl rfl
set_option maxRecDepth 100000 in
theorem cd_220 : Cond.code ⟨"PutOffWicks","oldest","()I"⟩ prog_1_method_12_code 3 (Option.some Jvm.ClassFile.FieldType.int) ∈ lw_g := lg_of 734 rfl rfl
set_option maxRecDepth 100000 in
theorem cd_221 : Cond.code ⟨"PutOffWicks","orders","()I"⟩ prog_1_method_14_code 1 (Option.some Jvm.ClassFile.FieldType.int) ∈ lw_g := lg_of 742 rfl rfl
set_option maxRecDepth 100000 in
theorem cd_222 : Cond.code ⟨"PutOffWicks","parish","(I)I"⟩ prog_1_method_5_code 3 (Option.some Jvm.ClassFile.FieldType.int) ∈ lw_g := lg_of 572 rfl rfl
set_option maxRecDepth 100000 in
theorem cd_223 : Cond.code ⟨"PutOffWicks","pride","(I)I"⟩ prog_1_method_11_code 3 (Option.some Jvm.ClassFile.FieldType.int) ∈ lw_g := lg_of 717 rfl rfl
set_option maxRecDepth 100000 in
theorem cd_224 : Cond.code ⟨"PutOffWicks","putsOff","(IIZI)I"⟩ prog_1_method_22_code 6 (Option.some Jvm.ClassFile.FieldType.int) ∈ lw_g := lg_of 929 rfl rfl
set_option maxRecDepth 100000 in
theorem cd_225 : Cond.code ⟨"PutOffWicks","seed","(I)Z"⟩ prog_1_method_28_code 2 (Option.some Jvm.ClassFile.FieldType.boolean) ∈ lw_g := lg_of 1031 rfl rfl
set_option maxRecDepth 100000 in
theorem cd_226 : Cond.code ⟨"PutOffWicks","seen","(III)I"⟩ prog_1_method_24_code 4 (Option.some Jvm.ClassFile.FieldType.int) ∈ lw_g := lg_of 955 rfl rfl
set_option maxRecDepth 100000 in
theorem cd_227 : Cond.code ⟨"PutOffWicks","spun","(II)I"⟩ prog_1_method_20_code 4 (Option.some Jvm.ClassFile.FieldType.int) ∈ lw_g := lg_of 894 rfl rfl
set_option maxRecDepth 100000 in
theorem cd_228 : Cond.code ⟨"PutOffWicks","thingIs","(II)I"⟩ prog_1_method_8_code 3 (Option.some Jvm.ClassFile.FieldType.int) ∈ lw_g := lg_of 704 rfl rfl
set_option maxRecDepth 100000 in
theorem cd_229 : Cond.code ⟨"PutOffWicks","tried","(II)I"⟩ prog_1_method_7_code 7 (Option.some Jvm.ClassFile.FieldType.int) ∈ lw_g := lg_of 699 rfl rfl
set_option maxRecDepth 100000 in
theorem cd_230 : Cond.code ⟨"PutOffWicks","twist","(III)I"⟩ prog_1_method_18_code 5 (Option.some Jvm.ClassFile.FieldType.int) ∈ lw_g := lg_of 784 rfl rfl
set_option maxRecDepth 100000 in
theorem cd_231 : Cond.code ⟨"PutOffWicks","undo","()Z"⟩ prog_1_method_30_code 1 (Option.some Jvm.ClassFile.FieldType.boolean) ∈ lw_g := lg_of 1040 rfl rfl
set_option maxRecDepth 100000 in
theorem cd_232 : Cond.code ⟨"PutOffWicks","waiting","(II)I"⟩ prog_1_method_19_code 3 (Option.some Jvm.ClassFile.FieldType.int) ∈ lw_g := lg_of 843 rfl rfl
set_option maxRecDepth 100000 in
theorem cd_233 : Cond.code ⟨"PutOffWicks","within","(III)Z"⟩ prog_1_method_33_code 3 (Option.some Jvm.ClassFile.FieldType.boolean) ∈ lw_g := lg_of 484 rfl rfl
set_option maxRecDepth 100000 in
theorem cd_234 : Cond.code ⟨"PutOffWicks","worstNews","(I)I"⟩ prog_1_method_16_code 3 (Option.some Jvm.ClassFile.FieldType.int) ∈ lw_g := lg_of 763 rfl rfl
set_option maxRecDepth 100000 in
theorem cd_235 : Cond.code ⟨"PutOffWicks$Waits","canEnd","(II)Z"⟩ prog_12_method_5_code 9 (Option.some Jvm.ClassFile.FieldType.boolean) ∈ lw_g := lg_of 869 rfl rfl
set_option maxRecDepth 100000 in
theorem cd_236 : Cond.code ⟨"PutOffWicks$Waits","fewestToEnd","()I"⟩ prog_12_method_4_code 2 (Option.some Jvm.ClassFile.FieldType.int) ∈ lw_g := lg_of 861 rfl rfl
set_option maxRecDepth 100000 in
theorem cd_237 : Cond.code ⟨"PutOffWicks$Waits","findRingOf","(III)I"⟩ prog_12_method_9_code 10 (Option.some Jvm.ClassFile.FieldType.int) ∈ lw_g := lg_of 878 rfl rfl
set_option maxRecDepth 100000 in
theorem cd_238 : Cond.code ⟨"PutOffWicks$Waits","findShortestRing","(I)I"⟩ prog_12_method_8_code 6 (Option.some Jvm.ClassFile.FieldType.int) ∈ lw_g := lg_of 873 rfl rfl
set_option maxRecDepth 100000 in
theorem cd_239 : Cond.code ⟨"PutOffWicks$Waits","forEver","()I"⟩ prog_12_method_3_code 4 (Option.some Jvm.ClassFile.FieldType.int) ∈ lw_g := lg_of 856 rfl rfl
set_option maxRecDepth 100000 in
theorem cd_240 : Cond.code ⟨"PutOffWicks$Waits","markFrom","(II)V"⟩ prog_12_method_10_code 4 (Option.none : Option Jvm.ClassFile.FieldType) ∈ lw_g := lg_of 886 rfl rfl
set_option maxRecDepth 100000 in
theorem cd_241 : Cond.code ⟨"PutOffWicks$Waits","read","(I)Z"⟩ prog_12_method_2_code 5 (Option.some Jvm.ClassFile.FieldType.boolean) ∈ lw_g := lg_of 847 rfl rfl
set_option maxRecDepth 100000 in
theorem cd_242 : Cond.code ⟨"PutOffWicks$Waits","ringAt","(II)I"⟩ prog_12_method_7_code 4 (Option.some Jvm.ClassFile.FieldType.int) ∈ lw_g := lg_of 890 rfl rfl
set_option maxRecDepth 100000 in
theorem cd_243 : Cond.code ⟨"PutOffWicks$Waits","ringsOfTwo","()I"⟩ prog_12_method_6_code 4 (Option.some Jvm.ClassFile.FieldType.int) ∈ lw_g := lg_of 865 rfl rfl
set_option maxRecDepth 100000 in
theorem cd_244 : Cond.code ⟨"PutOffWicks$Waits","writeRing","(III)V"⟩ prog_12_method_11_code 7 (Option.none : Option Jvm.ClassFile.FieldType) ∈ lw_g := lg_of 882 rfl rfl
def ch0 : List (Nat × Cond) := [(606, Cond.instanceMethod ⟨"PutOffWicks$Almanac","pass","(LPutOffWicks$Parish;I)I"⟩), (607, Cond.selects "PutOffWicks$Almanac" ⟨"PutOffWicks$Almanac","pass","(LPutOffWicks$Parish;I)I"⟩ ⟨"PutOffWicks$Almanac","pass","(LPutOffWicks$Parish;I)I"⟩), (110, Cond.initialized "PutOffWicks$Almanac"), (618, Cond.instanceMethod ⟨"PutOffWicks$Almanac","passOver","(LPutOffWicks$Parish;I)V"⟩), (9, Cond.selects "PutOffWicks$Almanac" ⟨"PutOffWicks$Almanac","passOver","(LPutOffWicks$Parish;I)V"⟩ ⟨"PutOffWicks$Almanac","passOver","(LPutOffWicks$Parish;I)V"⟩), (849, Cond.static ⟨"java/util/Arrays","fill","([II)V"⟩), (120, Cond.initialized "java/util/Arrays"), (988, Cond.static ⟨"java/util/Arrays","fill","([JJ)V"⟩), (610, Cond.static ⟨"java/lang/Integer","bitCount","(I)I"⟩), (118, Cond.initialized "java/lang/Integer"), (996, Cond.static ⟨"java/lang/Long","bitCount","(J)I"⟩), (121, Cond.initialized "java/lang/Long"), (837, Cond.static ⟨"java/lang/Math","abs","(I)I"⟩), (119, Cond.initialized "java/lang/Math"), (671, Cond.static ⟨"java/lang/Math","max","(II)I"⟩), (668, Cond.static ⟨"java/lang/Math","min","(II)I"⟩), (511, Cond.instanceMethod ⟨"PutOffWicks$Law","add","(II)I"⟩), (0, Cond.selects "PutOffWicks$Law" ⟨"PutOffWicks$Law","add","(II)I"⟩ ⟨"PutOffWicks$Law","add","(II)I"⟩), (109, Cond.initialized "PutOffWicks$Law"), (563, Cond.instanceMethod ⟨"PutOffWicks$Law","copyFrom","(LPutOffWicks$Law;)V"⟩), (564, Cond.selects "PutOffWicks$Law" ⟨"PutOffWicks$Law","copyFrom","(LPutOffWicks$Law;)V"⟩ ⟨"PutOffWicks$Law","copyFrom","(LPutOffWicks$Law;)V"⟩), (539, Cond.static ⟨"PutOffWicks$Law","isFact","(I)Z"⟩), (555, Cond.instanceMethod ⟨"PutOffWicks$Law","land","(I)V"⟩), (6, Cond.selects "PutOffWicks$Law" ⟨"PutOffWicks$Law","land","(I)V"⟩ ⟨"PutOffWicks$Law","land","(I)V"⟩), (523, Cond.instanceMethod ⟨"PutOffWicks$Law","opens","(I)Z"⟩), (3, Cond.selects "PutOffWicks$Law" ⟨"PutOffWicks$Law","opens","(I)Z"⟩ ⟨"PutOffWicks$Law","opens","(I)Z"⟩), (490, Cond.instanceMethod ⟨"PutOffWicks$Law","read","()I"⟩), (491, Cond.selects "PutOffWicks$Law" ⟨"PutOffWicks$Law","read","()I"⟩ ⟨"PutOffWicks$Law","read","()I"⟩), (547, Cond.instanceMethod ⟨"PutOffWicks$Law","readCondition","(I)V"⟩), (4, Cond.selects "PutOffWicks$Law" ⟨"PutOffWicks$Law","readCondition","(I)V"⟩ ⟨"PutOffWicks$Law","readCondition","(I)V"⟩), (519, Cond.instanceMethod ⟨"PutOffWicks$Law","readFactor","(I)V"⟩), (2, Cond.selects "PutOffWicks$Law" ⟨"PutOffWicks$Law","readFactor","(I)V"⟩ ⟨"PutOffWicks$Law","readFactor","(I)V"⟩), (551, Cond.instanceMethod ⟨"PutOffWicks$Law","readTest","(I)V"⟩), (5, Cond.selects "PutOffWicks$Law" ⟨"PutOffWicks$Law","readTest","(I)V"⟩ ⟨"PutOffWicks$Law","readTest","(I)V"⟩), (515, Cond.instanceMethod ⟨"PutOffWicks$Law","readValue","(I)V"⟩), (1, Cond.selects "PutOffWicks$Law" ⟨"PutOffWicks$Law","readValue","(I)V"⟩ ⟨"PutOffWicks$Law","readValue","(I)V"⟩), (1526, Cond.instanceMethod ⟨"PutOffWicksModel","areHome","(I)Z"⟩), (88, Cond.selects "PutOffWicksModel" ⟨"PutOffWicksModel","areHome","(I)Z"⟩ ⟨"PutOffWicksModel","areHome","(I)Z"⟩), (116, Cond.initialized "PutOffWicksModel"), (1257, Cond.instanceMethod ⟨"PutOffWicksModel","beginsText","(I)V"⟩), (41, Cond.selects "PutOffWicksModel" ⟨"PutOffWicksModel","beginsText","(I)V"⟩ ⟨"PutOffWicksModel","beginsText","(I)V"⟩), (1547, Cond.static ⟨"PutOffWicksModel","bits","(I)I"⟩), (1607, Cond.instanceMethod ⟨"PutOffWicksModel","brightOf","(I)I"⟩), (100, Cond.selects "PutOffWicksModel" ⟨"PutOffWicksModel","brightOf","(I)I"⟩ ⟨"PutOffWicksModel","brightOf","(I)I"⟩), (1602, Cond.instanceMethod ⟨"PutOffWicksModel","brightest","(III)I"⟩), (1603, Cond.selects "PutOffWicksModel" ⟨"PutOffWicksModel","brightest","(III)I"⟩ ⟨"PutOffWicksModel","brightest","(III)I"⟩), (1399, Cond.instanceMethod ⟨"PutOffWicksModel","burns","(II)V"⟩), (72, Cond.selects "PutOffWicksModel" ⟨"PutOffWicksModel","burns","(II)V"⟩ ⟨"PutOffWicksModel","burns","(II)V"⟩), (1395, Cond.instanceMethod ⟨"PutOffWicksModel","byLaw","(III)I"⟩), (71, Cond.selects "PutOffWicksModel" ⟨"PutOffWicksModel","byLaw","(III)I"⟩ ⟨"PutOffWicksModel","byLaw","(III)I"⟩)]
theorem ch0_ok : ch0.all (fun q => decide (lw_tbl[q.1]? = some q.2) && goodWord q.2) = true := by decide +kernel
def ch1 : List (Nat × Cond) := [(1431, Cond.instanceMethod ⟨"PutOffWicksModel","byWhen","(II)I"⟩), (1432, Cond.selects "PutOffWicksModel" ⟨"PutOffWicksModel","byWhen","(II)I"⟩ ⟨"PutOffWicksModel","byWhen","(II)I"⟩), (1451, Cond.instanceMethod ⟨"PutOffWicksModel","chain","(I)I"⟩), (1452, Cond.selects "PutOffWicksModel" ⟨"PutOffWicksModel","chain","(I)I"⟩ ⟨"PutOffWicksModel","chain","(I)I"⟩), (1563, Cond.instanceMethod ⟨"PutOffWicksModel","changesRow","(II)V"⟩), (94, Cond.selects "PutOffWicksModel" ⟨"PutOffWicksModel","changesRow","(II)V"⟩ ⟨"PutOffWicksModel","changesRow","(II)V"⟩), (1634, Cond.instanceMethod ⟨"PutOffWicksModel","check","(I)I"⟩), (1635, Cond.selects "PutOffWicksModel" ⟨"PutOffWicksModel","check","(I)I"⟩ ⟨"PutOffWicksModel","check","(I)I"⟩), (1304, Cond.instanceMethod ⟨"PutOffWicksModel","closesSums","(Z)V"⟩), (51, Cond.selects "PutOffWicksModel" ⟨"PutOffWicksModel","closesSums","(Z)V"⟩ ⟨"PutOffWicksModel","closesSums","(Z)V"⟩), (1522, Cond.instanceMethod ⟨"PutOffWicksModel","comesOut","(I)I"⟩), (87, Cond.selects "PutOffWicksModel" ⟨"PutOffWicksModel","comesOut","(I)I"⟩ ⟨"PutOffWicksModel","comesOut","(I)I"⟩), (1420, Cond.static ⟨"PutOffWicksModel","copies","([I[I)V"⟩), (1586, Cond.instanceMethod ⟨"PutOffWicksModel","cord","(II)I"⟩), (1587, Cond.selects "PutOffWicksModel" ⟨"PutOffWicksModel","cord","(II)I"⟩ ⟨"PutOffWicksModel","cord","(II)I"⟩), (1638, Cond.instanceMethod ⟨"PutOffWicksModel","count","(I)I"⟩), (1639, Cond.selects "PutOffWicksModel" ⟨"PutOffWicksModel","count","(I)I"⟩ ⟨"PutOffWicksModel","count","(I)I"⟩), (1435, Cond.instanceMethod ⟨"PutOffWicksModel","dark","(I)I"⟩), (1436, Cond.selects "PutOffWicksModel" ⟨"PutOffWicksModel","dark","(I)I"⟩ ⟨"PutOffWicksModel","dark","(I)I"⟩), (1360, Cond.instanceMethod ⟨"PutOffWicksModel","dayGoes","()V"⟩), (63, Cond.selects "PutOffWicksModel" ⟨"PutOffWicksModel","dayGoes","()V"⟩ ⟨"PutOffWicksModel","dayGoes","()V"⟩), (1351, Cond.instanceMethod ⟨"PutOffWicksModel","days","(I)I"⟩), (1352, Cond.selects "PutOffWicksModel" ⟨"PutOffWicksModel","days","(I)I"⟩ ⟨"PutOffWicksModel","days","(I)I"⟩), (1356, Cond.instanceMethod ⟨"PutOffWicksModel","daysGo","(I)V"⟩), (62, Cond.selects "PutOffWicksModel" ⟨"PutOffWicksModel","daysGo","(I)V"⟩ ⟨"PutOffWicksModel","daysGo","(I)V"⟩), (1444, Cond.instanceMethod ⟨"PutOffWicksModel","daysOf","(I)I"⟩), (76, Cond.selects "PutOffWicksModel" ⟨"PutOffWicksModel","daysOf","(I)I"⟩ ⟨"PutOffWicksModel","daysOf","(I)I"⟩), (1380, Cond.instanceMethod ⟨"PutOffWicksModel","draws","()I"⟩), (68, Cond.selects "PutOffWicksModel" ⟨"PutOffWicksModel","draws","()I"⟩ ⟨"PutOffWicksModel","draws","()I"⟩), (1324, Cond.instanceMethod ⟨"PutOffWicksModel","endsPiece","()V"⟩), (56, Cond.selects "PutOffWicksModel" ⟨"PutOffWicksModel","endsPiece","()V"⟩ ⟨"PutOffWicksModel","endsPiece","()V"⟩), (1297, Cond.static ⟨"PutOffWicksModel","factOf","(I)I"⟩), (1244, Cond.instanceMethod ⟨"PutOffWicksModel","feed","(IIIII)I"⟩), (1245, Cond.selects "PutOffWicksModel" ⟨"PutOffWicksModel","feed","(IIIII)I"⟩ ⟨"PutOffWicksModel","feed","(IIIII)I"⟩), (1368, Cond.instanceMethod ⟨"PutOffWicksModel","feels","(I)V"⟩), (65, Cond.selects "PutOffWicksModel" ⟨"PutOffWicksModel","feels","(I)V"⟩ ⟨"PutOffWicksModel","feels","(I)V"⟩), (1538, Cond.instanceMethod ⟨"PutOffWicksModel","forEver","()I"⟩), (90, Cond.selects "PutOffWicksModel" ⟨"PutOffWicksModel","forEver","()I"⟩ ⟨"PutOffWicksModel","forEver","()I"⟩), (1614, Cond.instanceMethod ⟨"PutOffWicksModel","forgiven","(I)I"⟩), (1615, Cond.selects "PutOffWicksModel" ⟨"PutOffWicksModel","forgiven","(I)I"⟩ ⟨"PutOffWicksModel","forgiven","(I)I"⟩), (1364, Cond.instanceMethod ⟨"PutOffWicksModel","goesOn","(I)V"⟩), (64, Cond.selects "PutOffWicksModel" ⟨"PutOffWicksModel","goesOn","(I)V"⟩ ⟨"PutOffWicksModel","goesOn","(I)V"⟩), (1610, Cond.instanceMethod ⟨"PutOffWicksModel","halves","(II)I"⟩), (1611, Cond.selects "PutOffWicksModel" ⟨"PutOffWicksModel","halves","(II)I"⟩ ⟨"PutOffWicksModel","halves","(II)I"⟩), (1463, Cond.static ⟨"PutOffWicksModel","has","(II)Z"⟩), (1312, Cond.instanceMethod ⟨"PutOffWicksModel","hasOpenSum","(I)Z"⟩), (53, Cond.selects "PutOffWicksModel" ⟨"PutOffWicksModel","hasOpenSum","(I)Z"⟩ ⟨"PutOffWicksModel","hasOpenSum","(I)Z"⟩), (1265, Cond.instanceMethod ⟨"PutOffWicksModel","here","()I"⟩), (43, Cond.selects "PutOffWicksModel" ⟨"PutOffWicksModel","here","()I"⟩ ⟨"PutOffWicksModel","here","()I"⟩), (1384, Cond.instanceMethod ⟨"PutOffWicksModel","holdsAny","(I)Z"⟩)]
theorem ch1_ok : ch1.all (fun q => decide (lw_tbl[q.1]? = some q.2) && goodWord q.2) = true := by decide +kernel
def ch2 : List (Nat × Cond) := [(69, Cond.selects "PutOffWicksModel" ⟨"PutOffWicksModel","holdsAny","(I)Z"⟩ ⟨"PutOffWicksModel","holdsAny","(I)Z"⟩), (1555, Cond.instanceMethod ⟨"PutOffWicksModel","hoursOfRow","(I)I"⟩), (92, Cond.selects "PutOffWicksModel" ⟨"PutOffWicksModel","hoursOfRow","(I)I"⟩ ⟨"PutOffWicksModel","hoursOfRow","(I)I"⟩), (1241, Cond.static ⟨"PutOffWicksModel","in","(III)Z"⟩), (1619, Cond.instanceMethod ⟨"PutOffWicksModel","isBetter","(II)Z"⟩), (101, Cond.selects "PutOffWicksModel" ⟨"PutOffWicksModel","isBetter","(II)Z"⟩ ⟨"PutOffWicksModel","isBetter","(II)Z"⟩), (1286, Cond.instanceMethod ⟨"PutOffWicksModel","isDigit","()Z"⟩), (48, Cond.selects "PutOffWicksModel" ⟨"PutOffWicksModel","isDigit","()Z"⟩ ⟨"PutOffWicksModel","isDigit","()Z"⟩), (1406, Cond.instanceMethod ⟨"PutOffWicksModel","isDone","(I)V"⟩), (73, Cond.selects "PutOffWicksModel" ⟨"PutOffWicksModel","isDone","(I)V"⟩ ⟨"PutOffWicksModel","isDone","(I)V"⟩), (1234, Cond.instanceMethod ⟨"PutOffWicksModel","isLeft","(I)Z"⟩), (38, Cond.selects "PutOffWicksModel" ⟨"PutOffWicksModel","isLeft","(I)Z"⟩ ⟨"PutOffWicksModel","isLeft","(I)Z"⟩), (1410, Cond.instanceMethod ⟨"PutOffWicksModel","isPutOff","(I)V"⟩), (74, Cond.selects "PutOffWicksModel" ⟨"PutOffWicksModel","isPutOff","(I)V"⟩ ⟨"PutOffWicksModel","isPutOff","(I)V"⟩), (1599, Cond.instanceMethod ⟨"PutOffWicksModel","isSeen","(II)Z"⟩), (99, Cond.selects "PutOffWicksModel" ⟨"PutOffWicksModel","isSeen","(II)Z"⟩ ⟨"PutOffWicksModel","isSeen","(II)Z"⟩), (1238, Cond.instanceMethod ⟨"PutOffWicksModel","isThing","(I)Z"⟩), (39, Cond.selects "PutOffWicksModel" ⟨"PutOffWicksModel","isThing","(I)Z"⟩ ⟨"PutOffWicksModel","isThing","(I)Z"⟩), (1332, Cond.instanceMethod ⟨"PutOffWicksModel","jumps","(I)V"⟩), (58, Cond.selects "PutOffWicksModel" ⟨"PutOffWicksModel","jumps","(I)V"⟩ ⟨"PutOffWicksModel","jumps","(I)V"⟩), (1626, Cond.instanceMethod ⟨"PutOffWicksModel","keep","()I"⟩), (1627, Cond.selects "PutOffWicksModel" ⟨"PutOffWicksModel","keep","()I"⟩ ⟨"PutOffWicksModel","keep","()I"⟩), (1575, Cond.instanceMethod ⟨"PutOffWicksModel","knowing","(II)I"⟩), (95, Cond.selects "PutOffWicksModel" ⟨"PutOffWicksModel","knowing","(II)I"⟩ ⟨"PutOffWicksModel","knowing","(II)I"⟩), (1328, Cond.instanceMethod ⟨"PutOffWicksModel","lands","(Z)V"⟩), (57, Cond.selects "PutOffWicksModel" ⟨"PutOffWicksModel","lands","(Z)V"⟩ ⟨"PutOffWicksModel","lands","(Z)V"⟩), (1252, Cond.instanceMethod ⟨"PutOffWicksModel","law","(I)I"⟩), (1253, Cond.selects "PutOffWicksModel" ⟨"PutOffWicksModel","law","(I)I"⟩ ⟨"PutOffWicksModel","law","(I)I"⟩), (1583, Cond.instanceMethod ⟨"PutOffWicksModel","leastLater","(II)I"⟩), (97, Cond.selects "PutOffWicksModel" ⟨"PutOffWicksModel","leastLater","(II)I"⟩ ⟨"PutOffWicksModel","leastLater","(II)I"⟩), (1372, Cond.instanceMethod ⟨"PutOffWicksModel","leftOf","(I)I"⟩), (66, Cond.selects "PutOffWicksModel" ⟨"PutOffWicksModel","leftOf","(I)I"⟩ ⟨"PutOffWicksModel","leftOf","(I)I"⟩), (1470, Cond.instanceMethod ⟨"PutOffWicksModel","light","(I)I"⟩), (1471, Cond.selects "PutOffWicksModel" ⟨"PutOffWicksModel","light","(I)I"⟩ ⟨"PutOffWicksModel","light","(I)I"⟩), (1475, Cond.instanceMethod ⟨"PutOffWicksModel","lightOf","(I)I"⟩), (79, Cond.selects "PutOffWicksModel" ⟨"PutOffWicksModel","lightOf","(I)I"⟩ ⟨"PutOffWicksModel","lightOf","(I)I"⟩), (1229, Cond.instanceMethod ⟨"PutOffWicksModel","lit","(IZ)Z"⟩), (1230, Cond.selects "PutOffWicksModel" ⟨"PutOffWicksModel","lit","(IZ)Z"⟩ ⟨"PutOffWicksModel","lit","(IZ)Z"⟩), (1402, Cond.static ⟨"PutOffWicksModel","max","(II)I"⟩), (1482, Cond.instanceMethod ⟨"PutOffWicksModel","median","()I"⟩), (1483, Cond.selects "PutOffWicksModel" ⟨"PutOffWicksModel","median","()I"⟩ ⟨"PutOffWicksModel","median","()I"⟩), (1413, Cond.static ⟨"PutOffWicksModel","min","(II)I"⟩), (1543, Cond.instanceMethod ⟨"PutOffWicksModel","mustEnd","()I"⟩), (91, Cond.selects "PutOffWicksModel" ⟨"PutOffWicksModel","mustEnd","()I"⟩ ⟨"PutOffWicksModel","mustEnd","()I"⟩), (1559, Cond.instanceMethod ⟨"PutOffWicksModel","nextRow","(I)Z"⟩), (93, Cond.selects "PutOffWicksModel" ⟨"PutOffWicksModel","nextRow","(I)Z"⟩ ⟨"PutOffWicksModel","nextRow","(I)Z"⟩), (1566, Cond.instanceMethod ⟨"PutOffWicksModel","night","(II)I"⟩), (1567, Cond.selects "PutOffWicksModel" ⟨"PutOffWicksModel","night","(II)I"⟩ ⟨"PutOffWicksModel","night","(II)I"⟩), (1294, Cond.instanceMethod ⟨"PutOffWicksModel","notes","(II)V"⟩), (50, Cond.selects "PutOffWicksModel" ⟨"PutOffWicksModel","notes","(II)V"⟩ ⟨"PutOffWicksModel","notes","(II)V"⟩)]
theorem ch2_ok : ch2.all (fun q => decide (lw_tbl[q.1]? = some q.2) && goodWord q.2) = true := by decide +kernel
def ch3 : List (Nat × Cond) := [(1534, Cond.instanceMethod ⟨"PutOffWicksModel","octet","(I)I"⟩), (89, Cond.selects "PutOffWicksModel" ⟨"PutOffWicksModel","octet","(I)I"⟩ ⟨"PutOffWicksModel","octet","(I)I"⟩), (1518, Cond.instanceMethod ⟨"PutOffWicksModel","oftenTill","(I)I"⟩), (86, Cond.selects "PutOffWicksModel" ⟨"PutOffWicksModel","oftenTill","(I)I"⟩ ⟨"PutOffWicksModel","oftenTill","(I)I"⟩), (1447, Cond.instanceMethod ⟨"PutOffWicksModel","oldest","()I"⟩), (1448, Cond.selects "PutOffWicksModel" ⟨"PutOffWicksModel","oldest","()I"⟩ ⟨"PutOffWicksModel","oldest","()I"⟩), (1281, Cond.instanceMethod ⟨"PutOffWicksModel","opens","(I)Z"⟩), (47, Cond.selects "PutOffWicksModel" ⟨"PutOffWicksModel","opens","(I)Z"⟩ ⟨"PutOffWicksModel","opens","(I)Z"⟩), (1455, Cond.instanceMethod ⟨"PutOffWicksModel","orders","()I"⟩), (1456, Cond.selects "PutOffWicksModel" ⟨"PutOffWicksModel","orders","()I"⟩ ⟨"PutOffWicksModel","orders","()I"⟩), (1507, Cond.instanceMethod ⟨"PutOffWicksModel","overs","()I"⟩), (84, Cond.selects "PutOffWicksModel" ⟨"PutOffWicksModel","overs","()I"⟩ ⟨"PutOffWicksModel","overs","()I"⟩), (1339, Cond.instanceMethod ⟨"PutOffWicksModel","parish","(I)I"⟩), (1340, Cond.selects "PutOffWicksModel" ⟨"PutOffWicksModel","parish","(I)I"⟩ ⟨"PutOffWicksModel","parish","(I)I"⟩), (1460, Cond.instanceMethod ⟨"PutOffWicksModel","placeOf","(II)I"⟩), (77, Cond.selects "PutOffWicksModel" ⟨"PutOffWicksModel","placeOf","(II)I"⟩ ⟨"PutOffWicksModel","placeOf","(II)I"⟩), (1439, Cond.instanceMethod ⟨"PutOffWicksModel","pride","(I)I"⟩), (1440, Cond.selects "PutOffWicksModel" ⟨"PutOffWicksModel","pride","(I)I"⟩ ⟨"PutOffWicksModel","pride","(I)I"⟩), (1570, Cond.instanceMethod ⟨"PutOffWicksModel","putsOff","(IIZI)I"⟩), (1571, Cond.selects "PutOffWicksModel" ⟨"PutOffWicksModel","putsOff","(IIZI)I"⟩ ⟨"PutOffWicksModel","putsOff","(IIZI)I"⟩), (1348, Cond.instanceMethod ⟨"PutOffWicksModel","readsAmount","(I)Z"⟩), (61, Cond.selects "PutOffWicksModel" ⟨"PutOffWicksModel","readsAmount","(I)Z"⟩ ⟨"PutOffWicksModel","readsAmount","(I)Z"⟩), (1320, Cond.instanceMethod ⟨"PutOffWicksModel","readsCompared","()Z"⟩), (55, Cond.selects "PutOffWicksModel" ⟨"PutOffWicksModel","readsCompared","()Z"⟩ ⟨"PutOffWicksModel","readsCompared","()Z"⟩), (1316, Cond.instanceMethod ⟨"PutOffWicksModel","readsCondition","()Z"⟩), (54, Cond.selects "PutOffWicksModel" ⟨"PutOffWicksModel","readsCondition","()Z"⟩ ⟨"PutOffWicksModel","readsCondition","()Z"⟩), (1277, Cond.instanceMethod ⟨"PutOffWicksModel","readsFactor","()Z"⟩), (46, Cond.selects "PutOffWicksModel" ⟨"PutOffWicksModel","readsFactor","()Z"⟩ ⟨"PutOffWicksModel","readsFactor","()Z"⟩), (1290, Cond.instanceMethod ⟨"PutOffWicksModel","readsNumber","()Z"⟩), (49, Cond.selects "PutOffWicksModel" ⟨"PutOffWicksModel","readsNumber","()Z"⟩ ⟨"PutOffWicksModel","readsNumber","()Z"⟩), (1261, Cond.instanceMethod ⟨"PutOffWicksModel","readsRule","()Z"⟩), (42, Cond.selects "PutOffWicksModel" ⟨"PutOffWicksModel","readsRule","()Z"⟩ ⟨"PutOffWicksModel","readsRule","()Z"⟩), (1273, Cond.instanceMethod ⟨"PutOffWicksModel","readsSum","()Z"⟩), (45, Cond.selects "PutOffWicksModel" ⟨"PutOffWicksModel","readsSum","()Z"⟩ ⟨"PutOffWicksModel","readsSum","()Z"⟩), (1344, Cond.instanceMethod ⟨"PutOffWicksModel","readsThing","()Z"⟩), (60, Cond.selects "PutOffWicksModel" ⟨"PutOffWicksModel","readsThing","()Z"⟩ ⟨"PutOffWicksModel","readsThing","()Z"⟩), (1495, Cond.instanceMethod ⟨"PutOffWicksModel","readsTimes","()V"⟩), (81, Cond.selects "PutOffWicksModel" ⟨"PutOffWicksModel","readsTimes","()V"⟩ ⟨"PutOffWicksModel","readsTimes","()V"⟩), (1491, Cond.instanceMethod ⟨"PutOffWicksModel","readsTurn","(I)Z"⟩), (80, Cond.selects "PutOffWicksModel" ⟨"PutOffWicksModel","readsTurn","(I)Z"⟩ ⟨"PutOffWicksModel","readsTurn","(I)Z"⟩), (1391, Cond.static ⟨"PutOffWicksModel","reckon","(III)I"⟩), (1388, Cond.instanceMethod ⟨"PutOffWicksModel","reckonsTo","(II)I"⟩), (70, Cond.selects "PutOffWicksModel" ⟨"PutOffWicksModel","reckonsTo","(II)I"⟩ ⟨"PutOffWicksModel","reckonsTo","(II)I"⟩), (1499, Cond.instanceMethod ⟨"PutOffWicksModel","repeats","(III)Z"⟩), (82, Cond.selects "PutOffWicksModel" ⟨"PutOffWicksModel","repeats","(III)Z"⟩ ⟨"PutOffWicksModel","repeats","(III)Z"⟩), (1622, Cond.instanceMethod ⟨"PutOffWicksModel","seed","(I)Z"⟩), (1623, Cond.selects "PutOffWicksModel" ⟨"PutOffWicksModel","seed","(I)Z"⟩ ⟨"PutOffWicksModel","seed","(I)Z"⟩), (1590, Cond.instanceMethod ⟨"PutOffWicksModel","seen","(III)I"⟩), (1591, Cond.selects "PutOffWicksModel" ⟨"PutOffWicksModel","seen","(III)I"⟩ ⟨"PutOffWicksModel","seen","(III)I"⟩), (1595, Cond.instanceMethod ⟨"PutOffWicksModel","seenAt","(II)I"⟩)]
theorem ch3_ok : ch3.all (fun q => decide (lw_tbl[q.1]? = some q.2) && goodWord q.2) = true := by decide +kernel
def ch4 : List (Nat × Cond) := [(98, Cond.selects "PutOffWicksModel" ⟨"PutOffWicksModel","seenAt","(II)I"⟩ ⟨"PutOffWicksModel","seenAt","(II)I"⟩), (1424, Cond.instanceMethod ⟨"PutOffWicksModel","setOf","(I)I"⟩), (75, Cond.selects "PutOffWicksModel" ⟨"PutOffWicksModel","setOf","(I)I"⟩ ⟨"PutOffWicksModel","setOf","(I)I"⟩), (1511, Cond.instanceMethod ⟨"PutOffWicksModel","shortened","()I"⟩), (85, Cond.selects "PutOffWicksModel" ⟨"PutOffWicksModel","shortened","()I"⟩ ⟨"PutOffWicksModel","shortened","()I"⟩), (1514, Cond.static ⟨"PutOffWicksModel","size","(I)I"⟩), (1550, Cond.instanceMethod ⟨"PutOffWicksModel","spun","(II)I"⟩), (1551, Cond.selects "PutOffWicksModel" ⟨"PutOffWicksModel","spun","(II)I"⟩ ⟨"PutOffWicksModel","spun","(II)I"⟩), (1300, Cond.static ⟨"PutOffWicksModel","sumSign","(I)I"⟩), (1336, Cond.instanceMethod ⟨"PutOffWicksModel","takes","(I)Z"⟩), (59, Cond.selects "PutOffWicksModel" ⟨"PutOffWicksModel","takes","(I)Z"⟩ ⟨"PutOffWicksModel","takes","(I)Z"⟩), (1427, Cond.instanceMethod ⟨"PutOffWicksModel","thingIs","(II)I"⟩), (1428, Cond.selects "PutOffWicksModel" ⟨"PutOffWicksModel","thingIs","(II)I"⟩ ⟨"PutOffWicksModel","thingIs","(II)I"⟩), (1416, Cond.instanceMethod ⟨"PutOffWicksModel","tried","(II)I"⟩), (1417, Cond.selects "PutOffWicksModel" ⟨"PutOffWicksModel","tried","(II)I"⟩ ⟨"PutOffWicksModel","tried","(II)I"⟩), (1503, Cond.instanceMethod ⟨"PutOffWicksModel","turnsAll","(I)V"⟩), (83, Cond.selects "PutOffWicksModel" ⟨"PutOffWicksModel","turnsAll","(I)V"⟩ ⟨"PutOffWicksModel","turnsAll","(I)V"⟩), (1486, Cond.instanceMethod ⟨"PutOffWicksModel","twist","(III)I"⟩), (1487, Cond.selects "PutOffWicksModel" ⟨"PutOffWicksModel","twist","(III)I"⟩ ⟨"PutOffWicksModel","twist","(III)I"⟩), (1249, Cond.instanceMethod ⟨"PutOffWicksModel","types","(I)V"⟩), (40, Cond.selects "PutOffWicksModel" ⟨"PutOffWicksModel","types","(I)V"⟩ ⟨"PutOffWicksModel","types","(I)V"⟩), (1630, Cond.instanceMethod ⟨"PutOffWicksModel","undo","()Z"⟩), (1631, Cond.selects "PutOffWicksModel" ⟨"PutOffWicksModel","undo","()Z"⟩ ⟨"PutOffWicksModel","undo","()Z"⟩), (1579, Cond.instanceMethod ⟨"PutOffWicksModel","unknowing","(II)I"⟩), (96, Cond.selects "PutOffWicksModel" ⟨"PutOffWicksModel","unknowing","(II)I"⟩ ⟨"PutOffWicksModel","unknowing","(II)I"⟩), (1308, Cond.instanceMethod ⟨"PutOffWicksModel","waitTop","()I"⟩), (52, Cond.selects "PutOffWicksModel" ⟨"PutOffWicksModel","waitTop","()I"⟩ ⟨"PutOffWicksModel","waitTop","()I"⟩), (1376, Cond.instanceMethod ⟨"PutOffWicksModel","waitersOf","(I)I"⟩), (67, Cond.selects "PutOffWicksModel" ⟨"PutOffWicksModel","waitersOf","(I)I"⟩ ⟨"PutOffWicksModel","waitersOf","(I)I"⟩), (1529, Cond.instanceMethod ⟨"PutOffWicksModel","waiting","(II)I"⟩), (1530, Cond.selects "PutOffWicksModel" ⟨"PutOffWicksModel","waiting","(II)I"⟩ ⟨"PutOffWicksModel","waiting","(II)I"⟩), (1467, Cond.instanceMethod ⟨"PutOffWicksModel","waysTo","(III)I"⟩), (78, Cond.selects "PutOffWicksModel" ⟨"PutOffWicksModel","waysTo","(III)I"⟩ ⟨"PutOffWicksModel","waysTo","(III)I"⟩), (1643, Cond.instanceMethod ⟨"PutOffWicksModel","whoHasLeft","()I"⟩), (102, Cond.selects "PutOffWicksModel" ⟨"PutOffWicksModel","whoHasLeft","()I"⟩ ⟨"PutOffWicksModel","whoHasLeft","()I"⟩), (1478, Cond.instanceMethod ⟨"PutOffWicksModel","worstNews","(I)I"⟩), (1479, Cond.selects "PutOffWicksModel" ⟨"PutOffWicksModel","worstNews","(I)I"⟩ ⟨"PutOffWicksModel","worstNews","(I)I"⟩), (1269, Cond.instanceMethod ⟨"PutOffWicksModel","wrongAt","(II)Z"⟩), (44, Cond.selects "PutOffWicksModel" ⟨"PutOffWicksModel","wrongAt","(II)Z"⟩ ⟨"PutOffWicksModel","wrongAt","(II)Z"⟩), (574, Cond.instanceMethod ⟨"PutOffWicks$ParishReader","read","()I"⟩), (575, Cond.selects "PutOffWicks$ParishReader" ⟨"PutOffWicks$ParishReader","read","()I"⟩ ⟨"PutOffWicks$ParishReader","read","()I"⟩), (108, Cond.initialized "PutOffWicks$ParishReader"), (580, Cond.instanceMethod ⟨"PutOffWicks$ParishReader","readLine","(I)V"⟩), (7, Cond.selects "PutOffWicks$ParishReader" ⟨"PutOffWicks$ParishReader","readLine","(I)V"⟩ ⟨"PutOffWicks$ParishReader","readLine","(I)V"⟩), (588, Cond.instanceMethod ⟨"PutOffWicks$ParishReader","readOther","(I)I"⟩), (8, Cond.selects "PutOffWicks$ParishReader" ⟨"PutOffWicks$ParishReader","readOther","(I)I"⟩ ⟨"PutOffWicks$ParishReader","readOther","(I)I"⟩), (593, Cond.instanceMethod ⟨"PutOffWicks$Parish","beginAs","(LPutOffWicks$Parish;)V"⟩), (594, Cond.selects "PutOffWicks$Parish" ⟨"PutOffWicks$Parish","beginAs","(LPutOffWicks$Parish;)V"⟩ ⟨"PutOffWicks$Parish","beginAs","(LPutOffWicks$Parish;)V"⟩), (107, Cond.initialized "PutOffWicks$Parish"), (765, Cond.instanceMethod ⟨"PutOffWicks$Parish","brightestOwner","()I"⟩)]
theorem ch4_ok : ch4.all (fun q => decide (lw_tbl[q.1]? = some q.2) && goodWord q.2) = true := by decide +kernel
def ch5 : List (Nat × Cond) := [(766, Cond.selects "PutOffWicks$Parish" ⟨"PutOffWicks$Parish","brightestOwner","()I"⟩ ⟨"PutOffWicks$Parish","brightestOwner","()I"⟩), (676, Cond.instanceMethod ⟨"PutOffWicks$Parish","burn","(II)V"⟩), (677, Cond.selects "PutOffWicks$Parish" ⟨"PutOffWicks$Parish","burn","(II)V"⟩ ⟨"PutOffWicks$Parish","burn","(II)V"⟩), (1042, Cond.instanceMethod ⟨"PutOffWicks$Parish","comeBackTo","(LPutOffWicks$Parish;)V"⟩), (1043, Cond.selects "PutOffWicks$Parish" ⟨"PutOffWicks$Parish","comeBackTo","(LPutOffWicks$Parish;)V"⟩ ⟨"PutOffWicks$Parish","comeBackTo","(LPutOffWicks$Parish;)V"⟩), (597, Cond.instanceMethod ⟨"PutOffWicks$Parish","copyFrom","(LPutOffWicks$Parish;)V"⟩), (598, Cond.selects "PutOffWicks$Parish" ⟨"PutOffWicks$Parish","copyFrom","(LPutOffWicks$Parish;)V"⟩ ⟨"PutOffWicks$Parish","copyFrom","(LPutOffWicks$Parish;)V"⟩), (621, Cond.instanceMethod ⟨"PutOffWicks$Parish","draw","()I"⟩), (622, Cond.selects "PutOffWicks$Parish" ⟨"PutOffWicks$Parish","draw","()I"⟩ ⟨"PutOffWicks$Parish","draw","()I"⟩), (687, Cond.instanceMethod ⟨"PutOffWicks$Parish","finish","(I)V"⟩), (688, Cond.selects "PutOffWicks$Parish" ⟨"PutOffWicks$Parish","finish","(I)V"⟩ ⟨"PutOffWicks$Parish","finish","(I)V"⟩), (455, Cond.instanceMethod ⟨"PutOffWicks$Parish","has","(I)Z"⟩), (456, Cond.selects "PutOffWicks$Parish" ⟨"PutOffWicks$Parish","has","(I)Z"⟩ ⟨"PutOffWicks$Parish","has","(I)Z"⟩), (459, Cond.instanceMethod ⟨"PutOffWicks$Parish","isDone","(I)Z"⟩), (460, Cond.selects "PutOffWicks$Parish" ⟨"PutOffWicks$Parish","isDone","(I)Z"⟩ ⟨"PutOffWicks$Parish","isDone","(I)Z"⟩), (682, Cond.instanceMethod ⟨"PutOffWicks$Parish","isFree","(I)Z"⟩), (683, Cond.selects "PutOffWicks$Parish" ⟨"PutOffWicks$Parish","isFree","(I)Z"⟩ ⟨"PutOffWicks$Parish","isFree","(I)Z"⟩), (647, Cond.instanceMethod ⟨"PutOffWicks$Parish","isLit","(I)Z"⟩), (648, Cond.selects "PutOffWicks$Parish" ⟨"PutOffWicks$Parish","isLit","(I)Z"⟩ ⟨"PutOffWicks$Parish","isLit","(I)Z"⟩), (651, Cond.instanceMethod ⟨"PutOffWicks$Parish","leftOf","(I)I"⟩), (652, Cond.selects "PutOffWicks$Parish" ⟨"PutOffWicks$Parish","leftOf","(I)I"⟩ ⟨"PutOffWicks$Parish","leftOf","(I)I"⟩), (779, Cond.instanceMethod ⟨"PutOffWicks$Parish","leftPutOffUnder","(I)I"⟩), (16, Cond.selects "PutOffWicks$Parish" ⟨"PutOffWicks$Parish","leftPutOffUnder","(I)I"⟩ ⟨"PutOffWicks$Parish","leftPutOffUnder","(I)I"⟩), (750, Cond.instanceMethod ⟨"PutOffWicks$Parish","leftThatNeed","(I)I"⟩), (15, Cond.selects "PutOffWicks$Parish" ⟨"PutOffWicks$Parish","leftThatNeed","(I)I"⟩ ⟨"PutOffWicks$Parish","leftThatNeed","(I)I"⟩), (757, Cond.instanceMethod ⟨"PutOffWicks$Parish","lightOf","(I)I"⟩), (758, Cond.selects "PutOffWicks$Parish" ⟨"PutOffWicks$Parish","lightOf","(I)I"⟩ ⟨"PutOffWicks$Parish","lightOf","(I)I"⟩), (774, Cond.instanceMethod ⟨"PutOffWicks$Parish","middlePutOff","()I"⟩), (775, Cond.selects "PutOffWicks$Parish" ⟨"PutOffWicks$Parish","middlePutOff","()I"⟩ ⟨"PutOffWicks$Parish","middlePutOff","()I"⟩), (744, Cond.instanceMethod ⟨"PutOffWicks$Parish","ordersLeft","()I"⟩), (745, Cond.selects "PutOffWicks$Parish" ⟨"PutOffWicks$Parish","ordersLeft","()I"⟩ ⟨"PutOffWicks$Parish","ordersLeft","()I"⟩), (723, Cond.instanceMethod ⟨"PutOffWicks$Parish","ownersLeft","()I"⟩), (724, Cond.selects "PutOffWicks$Parish" ⟨"PutOffWicks$Parish","ownersLeft","()I"⟩ ⟨"PutOffWicks$Parish","ownersLeft","()I"⟩), (719, Cond.instanceMethod ⟨"PutOffWicks$Parish","proudest","()I"⟩), (720, Cond.selects "PutOffWicks$Parish" ⟨"PutOffWicks$Parish","proudest","()I"⟩ ⟨"PutOffWicks$Parish","proudest","()I"⟩), (692, Cond.instanceMethod ⟨"PutOffWicks$Parish","putItOff","(I)V"⟩), (693, Cond.selects "PutOffWicks$Parish" ⟨"PutOffWicks$Parish","putItOff","(I)V"⟩ ⟨"PutOffWicks$Parish","putItOff","(I)V"⟩), (463, Cond.instanceMethod ⟨"PutOffWicks$Parish","putLight","(IZ)V"⟩), (464, Cond.selects "PutOffWicks$Parish" ⟨"PutOffWicks$Parish","putLight","(IZ)V"⟩ ⟨"PutOffWicks$Parish","putLight","(IZ)V"⟩), (727, Cond.instanceMethod ⟨"PutOffWicks$Parish","putOffBy","(I)I"⟩), (728, Cond.selects "PutOffWicks$Parish" ⟨"PutOffWicks$Parish","putOffBy","(I)I"⟩ ⟨"PutOffWicks$Parish","putOffBy","(I)I"⟩), (656, Cond.instanceMethod ⟨"PutOffWicks$Parish","waitersFor","(I)I"⟩), (657, Cond.selects "PutOffWicks$Parish" ⟨"PutOffWicks$Parish","waitersFor","(I)I"⟩ ⟨"PutOffWicks$Parish","waitersFor","(I)I"⟩), (494, Cond.instanceMethod ⟨"PutOffWicks$Reading","begin","()V"⟩), (495, Cond.selects "PutOffWicks$Reading" ⟨"PutOffWicks$Reading","begin","()V"⟩ ⟨"PutOffWicks$Reading","begin","()V"⟩), (106, Cond.initialized "PutOffWicks$Reading"), (506, Cond.instanceMethod ⟨"PutOffWicks$Reading","fail","(II)V"⟩), (507, Cond.selects "PutOffWicks$Reading" ⟨"PutOffWicks$Reading","fail","(II)V"⟩ ⟨"PutOffWicks$Reading","fail","(II)V"⟩), (795, Cond.instanceMethod ⟨"PutOffWicks$Reading","failed","()Z"⟩), (796, Cond.selects "PutOffWicks$Reading" ⟨"PutOffWicks$Reading","failed","()Z"⟩ ⟨"PutOffWicks$Reading","failed","()Z"⟩)]
theorem ch5_ok : ch5.all (fun q => decide (lw_tbl[q.1]? = some q.2) && goodWord q.2) = true := by decide +kernel
def ch6 : List (Nat × Cond) := [(558, Cond.instanceMethod ⟨"PutOffWicks$Reading","goesOn","()Z"⟩), (559, Cond.selects "PutOffWicks$Reading" ⟨"PutOffWicks$Reading","goesOn","()Z"⟩ ⟨"PutOffWicks$Reading","goesOn","()Z"⟩), (531, Cond.static ⟨"PutOffWicks$Reading","isDigit","(I)Z"⟩), (526, Cond.instanceMethod ⟨"PutOffWicks$Reading","needs","(I)V"⟩), (527, Cond.selects "PutOffWicks$Reading" ⟨"PutOffWicks$Reading","needs","(I)V"⟩ ⟨"PutOffWicks$Reading","needs","(I)V"⟩), (534, Cond.instanceMethod ⟨"PutOffWicks$Reading","number","(I)I"⟩), (535, Cond.selects "PutOffWicks$Reading" ⟨"PutOffWicks$Reading","number","(I)I"⟩ ⟨"PutOffWicks$Reading","number","(I)I"⟩), (498, Cond.instanceMethod ⟨"PutOffWicks$Reading","sign","()I"⟩), (499, Cond.selects "PutOffWicks$Reading" ⟨"PutOffWicks$Reading","sign","()I"⟩ ⟨"PutOffWicks$Reading","sign","()I"⟩), (542, Cond.instanceMethod ⟨"PutOffWicks$Reading","takes","(I)Z"⟩), (543, Cond.selects "PutOffWicks$Reading" ⟨"PutOffWicks$Reading","takes","(I)Z"⟩ ⟨"PutOffWicks$Reading","takes","(I)Z"⟩), (630, Cond.instanceMethod ⟨"PutOffWicks$Reckoner","ask","(III)I"⟩), (631, Cond.selects "PutOffWicks$Reckoner" ⟨"PutOffWicks$Reckoner","ask","(III)I"⟩ ⟨"PutOffWicks$Reckoner","ask","(III)I"⟩), (111, Cond.initialized "PutOffWicks$Reckoner"), (626, Cond.instanceMethod ⟨"PutOffWicks$Reckoner","face","(LPutOffWicks$Parish;II)V"⟩), (627, Cond.selects "PutOffWicks$Reckoner" ⟨"PutOffWicks$Reckoner","face","(LPutOffWicks$Parish;II)V"⟩ ⟨"PutOffWicks$Reckoner","face","(LPutOffWicks$Parish;II)V"⟩), (643, Cond.instanceMethod ⟨"PutOffWicks$Reckoner","fact","(I)I"⟩), (12, Cond.selects "PutOffWicks$Reckoner" ⟨"PutOffWicks$Reckoner","fact","(I)I"⟩ ⟨"PutOffWicks$Reckoner","fact","(I)I"⟩), (665, Cond.instanceMethod ⟨"PutOffWicks$Reckoner","joined","(III)I"⟩), (14, Cond.selects "PutOffWicks$Reckoner" ⟨"PutOffWicks$Reckoner","joined","(III)I"⟩ ⟨"PutOffWicks$Reckoner","joined","(III)I"⟩), (661, Cond.instanceMethod ⟨"PutOffWicks$Reckoner","pop","()I"⟩), (13, Cond.selects "PutOffWicks$Reckoner" ⟨"PutOffWicks$Reckoner","pop","()I"⟩ ⟨"PutOffWicks$Reckoner","pop","()I"⟩), (639, Cond.instanceMethod ⟨"PutOffWicks$Reckoner","push","(I)V"⟩), (11, Cond.selects "PutOffWicks$Reckoner" ⟨"PutOffWicks$Reckoner","push","(I)V"⟩ ⟨"PutOffWicks$Reckoner","push","(I)V"⟩), (635, Cond.instanceMethod ⟨"PutOffWicks$Reckoner","reckon","(II)I"⟩), (10, Cond.selects "PutOffWicks$Reckoner" ⟨"PutOffWicks$Reckoner","reckon","(II)I"⟩ ⟨"PutOffWicks$Reckoner","reckon","(II)I"⟩), (1026, Cond.instanceMethod ⟨"PutOffWicks$Rows","beats","(II)Z"⟩), (37, Cond.selects "PutOffWicks$Rows" ⟨"PutOffWicks$Rows","beats","(II)Z"⟩ ⟨"PutOffWicks$Rows","beats","(II)Z"⟩), (115, Cond.initialized "PutOffWicks$Rows"), (896, Cond.instanceMethod ⟨"PutOffWicks$Rows","bestFirst","(I)I"⟩), (897, Cond.selects "PutOffWicks$Rows" ⟨"PutOffWicks$Rows","bestFirst","(I)I"⟩ ⟨"PutOffWicks$Rows","bestFirst","(I)I"⟩), (931, Cond.instanceMethod ⟨"PutOffWicks$Rows","dayIfKnowing","(II)I"⟩), (932, Cond.selects "PutOffWicks$Rows" ⟨"PutOffWicks$Rows","dayIfKnowing","(II)I"⟩ ⟨"PutOffWicks$Rows","dayIfKnowing","(II)I"⟩), (935, Cond.instanceMethod ⟨"PutOffWicks$Rows","dayIfNotKnowing","(II)I"⟩), (936, Cond.selects "PutOffWicks$Rows" ⟨"PutOffWicks$Rows","dayIfNotKnowing","(II)I"⟩ ⟨"PutOffWicks$Rows","dayIfNotKnowing","(II)I"⟩), (1011, Cond.instanceMethod ⟨"PutOffWicks$Rows","difference","(II)I"⟩), (1012, Cond.selects "PutOffWicks$Rows" ⟨"PutOffWicks$Rows","difference","(II)I"⟩ ⟨"PutOffWicks$Rows","difference","(II)I"⟩), (1007, Cond.instanceMethod ⟨"PutOffWicks$Rows","evenestCut","(I)I"⟩), (1008, Cond.selects "PutOffWicks$Rows" ⟨"PutOffWicks$Rows","evenestCut","(I)I"⟩ ⟨"PutOffWicks$Rows","evenestCut","(I)I"⟩), (924, Cond.instanceMethod ⟨"PutOffWicks$Rows","farthestFrom","(II)I"⟩), (32, Cond.selects "PutOffWicks$Rows" ⟨"PutOffWicks$Rows","farthestFrom","(II)I"⟩ ⟨"PutOffWicks$Rows","farthestFrom","(II)I"⟩), (919, Cond.instanceMethod ⟨"PutOffWicks$Rows","fewestWicks","(II)I"⟩), (920, Cond.selects "PutOffWicks$Rows" ⟨"PutOffWicks$Rows","fewestWicks","(II)I"⟩ ⟨"PutOffWicks$Rows","fewestWicks","(II)I"⟩), (900, Cond.instanceMethod ⟨"PutOffWicks$Rows","hoursBehind","(II)I"⟩), (901, Cond.selects "PutOffWicks$Rows" ⟨"PutOffWicks$Rows","hoursBehind","(II)I"⟩ ⟨"PutOffWicks$Rows","hoursBehind","(II)I"⟩), (945, Cond.instanceMethod ⟨"PutOffWicks$Rows","longestCord","(II)I"⟩), (946, Cond.selects "PutOffWicks$Rows" ⟨"PutOffWicks$Rows","longestCord","(II)I"⟩ ⟨"PutOffWicks$Rows","longestCord","(II)I"⟩), (906, Cond.instanceMethod ⟨"PutOffWicks$Rows","nextToSpin","(II)I"⟩), (30, Cond.selects "PutOffWicks$Rows" ⟨"PutOffWicks$Rows","nextToSpin","(II)I"⟩ ⟨"PutOffWicks$Rows","nextToSpin","(II)I"⟩), (910, Cond.instanceMethod ⟨"PutOffWicks$Rows","spinsAhead","(II)Z"⟩)]
theorem ch6_ok : ch6.all (fun q => decide (lw_tbl[q.1]? = some q.2) && goodWord q.2) = true := by decide +kernel
def ch7 : List (Nat × Cond) := [(31, Cond.selects "PutOffWicks$Rows" ⟨"PutOffWicks$Rows","spinsAhead","(II)Z"⟩ ⟨"PutOffWicks$Rows","spinsAhead","(II)Z"⟩), (950, Cond.instanceMethod ⟨"PutOffWicks$Rows","sufficesFor","(III)Z"⟩), (33, Cond.selects "PutOffWicks$Rows" ⟨"PutOffWicks$Rows","sufficesFor","(III)Z"⟩ ⟨"PutOffWicks$Rows","sufficesFor","(III)Z"⟩), (1021, Cond.instanceMethod ⟨"PutOffWicks$Rows","unbeaten","(I)I"⟩), (1022, Cond.selects "PutOffWicks$Rows" ⟨"PutOffWicks$Rows","unbeaten","(I)I"⟩ ⟨"PutOffWicks$Rows","unbeaten","(I)I"⟩), (980, Cond.instanceMethod ⟨"PutOffWicks$Shore","bestLights","(II)I"⟩), (981, Cond.selects "PutOffWicks$Shore" ⟨"PutOffWicks$Shore","bestLights","(II)I"⟩ ⟨"PutOffWicks$Shore","bestLights","(II)I"⟩), (114, Cond.initialized "PutOffWicks$Shore"), (985, Cond.instanceMethod ⟨"PutOffWicks$Shore","fillView","(I)V"⟩), (36, Cond.selects "PutOffWicks$Shore" ⟨"PutOffWicks$Shore","fillView","(I)V"⟩ ⟨"PutOffWicks$Shore","fillView","(I)V"⟩), (966, Cond.instanceMethod ⟨"PutOffWicks$Shore","isSeen","(II)Z"⟩), (35, Cond.selects "PutOffWicks$Shore" ⟨"PutOffWicks$Shore","isSeen","(II)Z"⟩ ⟨"PutOffWicks$Shore","isSeen","(II)Z"⟩), (971, Cond.instanceMethod ⟨"PutOffWicks$Shore","longestRow","(II)I"⟩), (972, Cond.selects "PutOffWicks$Shore" ⟨"PutOffWicks$Shore","longestRow","(II)I"⟩ ⟨"PutOffWicks$Shore","longestRow","(II)I"⟩), (992, Cond.instanceMethod ⟨"PutOffWicks$Shore","placesOf","(II)I"⟩), (993, Cond.selects "PutOffWicks$Shore" ⟨"PutOffWicks$Shore","placesOf","(II)I"⟩ ⟨"PutOffWicks$Shore","placesOf","(II)I"⟩), (957, Cond.instanceMethod ⟨"PutOffWicks$Shore","placesSeeing","(II)I"⟩), (958, Cond.selects "PutOffWicks$Shore" ⟨"PutOffWicks$Shore","placesSeeing","(II)I"⟩ ⟨"PutOffWicks$Shore","placesSeeing","(II)I"⟩), (962, Cond.instanceMethod ⟨"PutOffWicks$Shore","sees","(III)Z"⟩), (34, Cond.selects "PutOffWicks$Shore" ⟨"PutOffWicks$Shore","sees","(III)Z"⟩ ⟨"PutOffWicks$Shore","sees","(III)Z"⟩), (502, Cond.instanceMethod ⟨"PutOffWicks$Tape","at","(I)I"⟩), (503, Cond.selects "PutOffWicks$Tape" ⟨"PutOffWicks$Tape","at","(I)I"⟩ ⟨"PutOffWicks$Tape","at","(I)I"⟩), (105, Cond.initialized "PutOffWicks$Tape"), (471, Cond.instanceMethod ⟨"PutOffWicks$Tape","hasRoom","()Z"⟩), (472, Cond.selects "PutOffWicks$Tape" ⟨"PutOffWicks$Tape","hasRoom","()Z"⟩ ⟨"PutOffWicks$Tape","hasRoom","()Z"⟩), (475, Cond.instanceMethod ⟨"PutOffWicks$Tape","put","(I)V"⟩), (476, Cond.selects "PutOffWicks$Tape" ⟨"PutOffWicks$Tape","put","(I)V"⟩ ⟨"PutOffWicks$Tape","put","(I)V"⟩), (486, Cond.instanceMethod ⟨"PutOffWicks$Tape","take","(I)Z"⟩), (487, Cond.selects "PutOffWicks$Tape" ⟨"PutOffWicks$Tape","take","(I)Z"⟩ ⟨"PutOffWicks$Tape","take","(I)Z"⟩), (818, Cond.instanceMethod ⟨"PutOffWicks$Twist","closeGroup","()V"⟩), (22, Cond.selects "PutOffWicks$Twist" ⟨"PutOffWicks$Twist","closeGroup","()V"⟩ ⟨"PutOffWicks$Twist","closeGroup","()V"⟩), (112, Cond.initialized "PutOffWicks$Twist"), (833, Cond.instanceMethod ⟨"PutOffWicks$Twist","comesOut","(I)I"⟩), (834, Cond.selects "PutOffWicks$Twist" ⟨"PutOffWicks$Twist","comesOut","(I)I"⟩ ⟨"PutOffWicks$Twist","comesOut","(I)I"⟩), (792, Cond.instanceMethod ⟨"PutOffWicks$Twist","ends","()Z"⟩), (17, Cond.selects "PutOffWicks$Twist" ⟨"PutOffWicks$Twist","ends","()Z"⟩ ⟨"PutOffWicks$Twist","ends","()Z"⟩), (814, Cond.instanceMethod ⟨"PutOffWicks$Twist","openGroup","(II)V"⟩), (21, Cond.selects "PutOffWicks$Twist" ⟨"PutOffWicks$Twist","openGroup","(II)V"⟩ ⟨"PutOffWicks$Twist","openGroup","(II)V"⟩), (821, Cond.instanceMethod ⟨"PutOffWicks$Twist","oversLessUnders","()I"⟩), (822, Cond.selects "PutOffWicks$Twist" ⟨"PutOffWicks$Twist","oversLessUnders","()I"⟩ ⟨"PutOffWicks$Twist","oversLessUnders","()I"⟩), (786, Cond.instanceMethod ⟨"PutOffWicks$Twist","read","(I)I"⟩), (787, Cond.selects "PutOffWicks$Twist" ⟨"PutOffWicks$Twist","read","(I)I"⟩ ⟨"PutOffWicks$Twist","read","(I)I"⟩), (801, Cond.instanceMethod ⟨"PutOffWicks$Twist","readTimes","()I"⟩), (18, Cond.selects "PutOffWicks$Twist" ⟨"PutOffWicks$Twist","readTimes","()I"⟩ ⟨"PutOffWicks$Twist","readTimes","()I"⟩), (805, Cond.instanceMethod ⟨"PutOffWicks$Twist","readTurn","(IZI)V"⟩), (19, Cond.selects "PutOffWicks$Twist" ⟨"PutOffWicks$Twist","readTurn","(IZI)V"⟩ ⟨"PutOffWicks$Twist","readTurn","(IZI)V"⟩), (810, Cond.instanceMethod ⟨"PutOffWicks$Twist","repeat","(III)V"⟩), (20, Cond.selects "PutOffWicks$Twist" ⟨"PutOffWicks$Twist","repeat","(III)V"⟩ ⟨"PutOffWicks$Twist","repeat","(III)V"⟩), (829, Cond.instanceMethod ⟨"PutOffWicks$Twist","timesTillHome","(I)I"⟩), (830, Cond.selects "PutOffWicks$Twist" ⟨"PutOffWicks$Twist","timesTillHome","(I)I"⟩ ⟨"PutOffWicks$Twist","timesTillHome","(I)I"⟩)]
theorem ch7_ok : ch7.all (fun q => decide (lw_tbl[q.1]? = some q.2) && goodWord q.2) = true := by decide +kernel
def ch8 : List (Nat × Cond) := [(825, Cond.instanceMethod ⟨"PutOffWicks$Twist","turnsLeft","()I"⟩), (826, Cond.selects "PutOffWicks$Twist" ⟨"PutOffWicks$Twist","turnsLeft","()I"⟩ ⟨"PutOffWicks$Twist","turnsLeft","()I"⟩), (976, Cond.instanceMethod ⟨"PutOffWicks","brightest","(III)I"⟩), (977, Cond.selects "PutOffWicks" ⟨"PutOffWicks","brightest","(III)I"⟩ ⟨"PutOffWicks","brightest","(III)I"⟩), (104, Cond.initialized "PutOffWicks"), (707, Cond.instanceMethod ⟨"PutOffWicks","byWhen","(II)I"⟩), (708, Cond.selects "PutOffWicks" ⟨"PutOffWicks","byWhen","(II)I"⟩ ⟨"PutOffWicks","byWhen","(II)I"⟩), (736, Cond.instanceMethod ⟨"PutOffWicks","chain","(I)I"⟩), (737, Cond.selects "PutOffWicks" ⟨"PutOffWicks","chain","(I)I"⟩ ⟨"PutOffWicks","chain","(I)I"⟩), (1046, Cond.instanceMethod ⟨"PutOffWicks","check","(I)I"⟩), (1047, Cond.selects "PutOffWicks" ⟨"PutOffWicks","check","(I)I"⟩ ⟨"PutOffWicks","check","(I)I"⟩), (941, Cond.instanceMethod ⟨"PutOffWicks","cord","(II)I"⟩), (942, Cond.selects "PutOffWicks" ⟨"PutOffWicks","cord","(II)I"⟩ ⟨"PutOffWicks","cord","(II)I"⟩), (1050, Cond.instanceMethod ⟨"PutOffWicks","count","(I)I"⟩), (1051, Cond.selects "PutOffWicks" ⟨"PutOffWicks","count","(I)I"⟩ ⟨"PutOffWicks","count","(I)I"⟩), (711, Cond.instanceMethod ⟨"PutOffWicks","dark","(I)I"⟩), (712, Cond.selects "PutOffWicks" ⟨"PutOffWicks","dark","(I)I"⟩ ⟨"PutOffWicks","dark","(I)I"⟩), (602, Cond.instanceMethod ⟨"PutOffWicks","days","(I)I"⟩), (603, Cond.selects "PutOffWicks" ⟨"PutOffWicks","days","(I)I"⟩ ⟨"PutOffWicks","days","(I)I"⟩), (467, Cond.instanceMethod ⟨"PutOffWicks","feed","(IIIII)I"⟩), (468, Cond.selects "PutOffWicks" ⟨"PutOffWicks","feed","(IIIII)I"⟩ ⟨"PutOffWicks","feed","(IIIII)I"⟩), (1017, Cond.instanceMethod ⟨"PutOffWicks","forgiven","(I)I"⟩), (1018, Cond.selects "PutOffWicks" ⟨"PutOffWicks","forgiven","(I)I"⟩ ⟨"PutOffWicks","forgiven","(I)I"⟩), (1003, Cond.instanceMethod ⟨"PutOffWicks","halves","(II)I"⟩), (1004, Cond.selects "PutOffWicks" ⟨"PutOffWicks","halves","(II)I"⟩ ⟨"PutOffWicks","halves","(II)I"⟩), (1034, Cond.instanceMethod ⟨"PutOffWicks","keep","()I"⟩), (1035, Cond.selects "PutOffWicks" ⟨"PutOffWicks","keep","()I"⟩ ⟨"PutOffWicks","keep","()I"⟩), (479, Cond.instanceMethod ⟨"PutOffWicks","law","(I)I"⟩), (480, Cond.selects "PutOffWicks" ⟨"PutOffWicks","law","(I)I"⟩ ⟨"PutOffWicks","law","(I)I"⟩), (753, Cond.instanceMethod ⟨"PutOffWicks","light","(I)I"⟩), (754, Cond.selects "PutOffWicks" ⟨"PutOffWicks","light","(I)I"⟩ ⟨"PutOffWicks","light","(I)I"⟩), (451, Cond.instanceMethod ⟨"PutOffWicks","lit","(IZ)Z"⟩), (452, Cond.selects "PutOffWicks" ⟨"PutOffWicks","lit","(IZ)Z"⟩ ⟨"PutOffWicks","lit","(IZ)Z"⟩), (770, Cond.instanceMethod ⟨"PutOffWicks","median","()I"⟩), (771, Cond.selects "PutOffWicks" ⟨"PutOffWicks","median","()I"⟩ ⟨"PutOffWicks","median","()I"⟩), (915, Cond.instanceMethod ⟨"PutOffWicks","night","(II)I"⟩), (916, Cond.selects "PutOffWicks" ⟨"PutOffWicks","night","(II)I"⟩ ⟨"PutOffWicks","night","(II)I"⟩), (732, Cond.instanceMethod ⟨"PutOffWicks","oldest","()I"⟩), (733, Cond.selects "PutOffWicks" ⟨"PutOffWicks","oldest","()I"⟩ ⟨"PutOffWicks","oldest","()I"⟩), (740, Cond.instanceMethod ⟨"PutOffWicks","orders","()I"⟩), (741, Cond.selects "PutOffWicks" ⟨"PutOffWicks","orders","()I"⟩ ⟨"PutOffWicks","orders","()I"⟩), (570, Cond.instanceMethod ⟨"PutOffWicks","parish","(I)I"⟩), (571, Cond.selects "PutOffWicks" ⟨"PutOffWicks","parish","(I)I"⟩ ⟨"PutOffWicks","parish","(I)I"⟩), (715, Cond.instanceMethod ⟨"PutOffWicks","pride","(I)I"⟩), (716, Cond.selects "PutOffWicks" ⟨"PutOffWicks","pride","(I)I"⟩ ⟨"PutOffWicks","pride","(I)I"⟩), (927, Cond.instanceMethod ⟨"PutOffWicks","putsOff","(IIZI)I"⟩), (928, Cond.selects "PutOffWicks" ⟨"PutOffWicks","putsOff","(IIZI)I"⟩ ⟨"PutOffWicks","putsOff","(IIZI)I"⟩), (1029, Cond.instanceMethod ⟨"PutOffWicks","seed","(I)Z"⟩), (1030, Cond.selects "PutOffWicks" ⟨"PutOffWicks","seed","(I)Z"⟩ ⟨"PutOffWicks","seed","(I)Z"⟩), (953, Cond.instanceMethod ⟨"PutOffWicks","seen","(III)I"⟩)]
theorem ch8_ok : ch8.all (fun q => decide (lw_tbl[q.1]? = some q.2) && goodWord q.2) = true := by decide +kernel
def ch9 : List (Nat × Cond) := [(954, Cond.selects "PutOffWicks" ⟨"PutOffWicks","seen","(III)I"⟩ ⟨"PutOffWicks","seen","(III)I"⟩), (892, Cond.instanceMethod ⟨"PutOffWicks","spun","(II)I"⟩), (893, Cond.selects "PutOffWicks" ⟨"PutOffWicks","spun","(II)I"⟩ ⟨"PutOffWicks","spun","(II)I"⟩), (702, Cond.instanceMethod ⟨"PutOffWicks","thingIs","(II)I"⟩), (703, Cond.selects "PutOffWicks" ⟨"PutOffWicks","thingIs","(II)I"⟩ ⟨"PutOffWicks","thingIs","(II)I"⟩), (697, Cond.instanceMethod ⟨"PutOffWicks","tried","(II)I"⟩), (698, Cond.selects "PutOffWicks" ⟨"PutOffWicks","tried","(II)I"⟩ ⟨"PutOffWicks","tried","(II)I"⟩), (782, Cond.instanceMethod ⟨"PutOffWicks","twist","(III)I"⟩), (783, Cond.selects "PutOffWicks" ⟨"PutOffWicks","twist","(III)I"⟩ ⟨"PutOffWicks","twist","(III)I"⟩), (1038, Cond.instanceMethod ⟨"PutOffWicks","undo","()Z"⟩), (1039, Cond.selects "PutOffWicks" ⟨"PutOffWicks","undo","()Z"⟩ ⟨"PutOffWicks","undo","()Z"⟩), (841, Cond.instanceMethod ⟨"PutOffWicks","waiting","(II)I"⟩), (842, Cond.selects "PutOffWicks" ⟨"PutOffWicks","waiting","(II)I"⟩ ⟨"PutOffWicks","waiting","(II)I"⟩), (483, Cond.static ⟨"PutOffWicks","within","(III)Z"⟩), (761, Cond.instanceMethod ⟨"PutOffWicks","worstNews","(I)I"⟩), (762, Cond.selects "PutOffWicks" ⟨"PutOffWicks","worstNews","(I)I"⟩ ⟨"PutOffWicks","worstNews","(I)I"⟩), (868, Cond.instanceMethod ⟨"PutOffWicks$Waits","canEnd","(II)Z"⟩), (24, Cond.selects "PutOffWicks$Waits" ⟨"PutOffWicks$Waits","canEnd","(II)Z"⟩ ⟨"PutOffWicks$Waits","canEnd","(II)Z"⟩), (113, Cond.initialized "PutOffWicks$Waits"), (859, Cond.instanceMethod ⟨"PutOffWicks$Waits","fewestToEnd","()I"⟩), (860, Cond.selects "PutOffWicks$Waits" ⟨"PutOffWicks$Waits","fewestToEnd","()I"⟩ ⟨"PutOffWicks$Waits","fewestToEnd","()I"⟩), (877, Cond.instanceMethod ⟨"PutOffWicks$Waits","findRingOf","(III)I"⟩), (26, Cond.selects "PutOffWicks$Waits" ⟨"PutOffWicks$Waits","findRingOf","(III)I"⟩ ⟨"PutOffWicks$Waits","findRingOf","(III)I"⟩), (872, Cond.instanceMethod ⟨"PutOffWicks$Waits","findShortestRing","(I)I"⟩), (25, Cond.selects "PutOffWicks$Waits" ⟨"PutOffWicks$Waits","findShortestRing","(I)I"⟩ ⟨"PutOffWicks$Waits","findShortestRing","(I)I"⟩), (854, Cond.instanceMethod ⟨"PutOffWicks$Waits","forEver","()I"⟩), (855, Cond.selects "PutOffWicks$Waits" ⟨"PutOffWicks$Waits","forEver","()I"⟩ ⟨"PutOffWicks$Waits","forEver","()I"⟩), (885, Cond.instanceMethod ⟨"PutOffWicks$Waits","markFrom","(II)V"⟩), (28, Cond.selects "PutOffWicks$Waits" ⟨"PutOffWicks$Waits","markFrom","(II)V"⟩ ⟨"PutOffWicks$Waits","markFrom","(II)V"⟩), (845, Cond.instanceMethod ⟨"PutOffWicks$Waits","read","(I)Z"⟩), (846, Cond.selects "PutOffWicks$Waits" ⟨"PutOffWicks$Waits","read","(I)Z"⟩ ⟨"PutOffWicks$Waits","read","(I)Z"⟩), (889, Cond.instanceMethod ⟨"PutOffWicks$Waits","ringAt","(II)I"⟩), (29, Cond.selects "PutOffWicks$Waits" ⟨"PutOffWicks$Waits","ringAt","(II)I"⟩ ⟨"PutOffWicks$Waits","ringAt","(II)I"⟩), (864, Cond.instanceMethod ⟨"PutOffWicks$Waits","ringsOfTwo","()I"⟩), (23, Cond.selects "PutOffWicks$Waits" ⟨"PutOffWicks$Waits","ringsOfTwo","()I"⟩ ⟨"PutOffWicks$Waits","ringsOfTwo","()I"⟩), (881, Cond.instanceMethod ⟨"PutOffWicks$Waits","writeRing","(III)V"⟩), (27, Cond.selects "PutOffWicks$Waits" ⟨"PutOffWicks$Waits","writeRing","(III)V"⟩ ⟨"PutOffWicks$Waits","writeRing","(III)V"⟩), (454, Cond.methodLink "PutOffWicks" 107 ⟨"PutOffWicks$Parish","has","(I)Z"⟩), (458, Cond.methodLink "PutOffWicks" 111 ⟨"PutOffWicks$Parish","isDone","(I)Z"⟩), (462, Cond.methodLink "PutOffWicks" 118 ⟨"PutOffWicks$Parish","putLight","(IZ)V"⟩), (470, Cond.methodLink "PutOffWicks" 122 ⟨"PutOffWicks$Tape","hasRoom","()Z"⟩), (474, Cond.methodLink "PutOffWicks" 126 ⟨"PutOffWicks$Tape","put","(I)V"⟩), (482, Cond.methodLink "PutOffWicks" 133 ⟨"PutOffWicks","within","(III)Z"⟩), (485, Cond.methodLink "PutOffWicks" 137 ⟨"PutOffWicks$Tape","take","(I)Z"⟩), (489, Cond.methodLink "PutOffWicks" 140 ⟨"PutOffWicks$Law","read","()I"⟩), (562, Cond.methodLink "PutOffWicks" 144 ⟨"PutOffWicks$Law","copyFrom","(LPutOffWicks$Law;)V"⟩), (573, Cond.methodLink "PutOffWicks" 151 ⟨"PutOffWicks$ParishReader","read","()I"⟩), (592, Cond.methodLink "PutOffWicks" 155 ⟨"PutOffWicks$Parish","beginAs","(LPutOffWicks$Parish;)V"⟩), (605, Cond.methodLink "PutOffWicks" 162 ⟨"PutOffWicks$Almanac","pass","(LPutOffWicks$Parish;I)I"⟩), (700, Cond.methodLink "PutOffWicks" 166 ⟨"PutOffWicks$Parish","copyFrom","(LPutOffWicks$Parish;)V"⟩)]
theorem ch9_ok : ch9.all (fun q => decide (lw_tbl[q.1]? = some q.2) && goodWord q.2) = true := by decide +kernel
def ch10 : List (Nat × Cond) := [(705, Cond.methodLink "PutOffWicks" 183 ⟨"PutOffWicks$Parish","isLit","(I)Z"⟩), (718, Cond.methodLink "PutOffWicks" 189 ⟨"PutOffWicks$Parish","proudest","()I"⟩), (730, Cond.methodLink "PutOffWicks" 192 ⟨"PutOffWicks$Parish","putOffBy","(I)I"⟩), (743, Cond.methodLink "PutOffWicks" 196 ⟨"PutOffWicks$Parish","ordersLeft","()I"⟩), (756, Cond.methodLink "PutOffWicks" 199 ⟨"PutOffWicks$Parish","lightOf","(I)I"⟩), (764, Cond.methodLink "PutOffWicks" 202 ⟨"PutOffWicks$Parish","brightestOwner","()I"⟩), (773, Cond.methodLink "PutOffWicks" 205 ⟨"PutOffWicks$Parish","middlePutOff","()I"⟩), (785, Cond.methodLink "PutOffWicks" 208 ⟨"PutOffWicks$Twist","read","(I)I"⟩), (820, Cond.methodLink "PutOffWicks" 213 ⟨"PutOffWicks$Twist","oversLessUnders","()I"⟩), (824, Cond.methodLink "PutOffWicks" 216 ⟨"PutOffWicks$Twist","turnsLeft","()I"⟩), (828, Cond.methodLink "PutOffWicks" 219 ⟨"PutOffWicks$Twist","timesTillHome","(I)I"⟩), (839, Cond.methodLink "PutOffWicks" 222 ⟨"PutOffWicks$Twist","comesOut","(I)I"⟩), (844, Cond.methodLink "PutOffWicks" 225 ⟨"PutOffWicks$Waits","read","(I)Z"⟩), (853, Cond.methodLink "PutOffWicks" 227 ⟨"PutOffWicks$Waits","forEver","()I"⟩), (858, Cond.methodLink "PutOffWicks" 230 ⟨"PutOffWicks$Waits","fewestToEnd","()I"⟩), (895, Cond.methodLink "PutOffWicks" 233 ⟨"PutOffWicks$Rows","bestFirst","(I)I"⟩), (913, Cond.methodLink "PutOffWicks" 236 ⟨"PutOffWicks$Rows","hoursBehind","(II)I"⟩), (918, Cond.methodLink "PutOffWicks" 240 ⟨"PutOffWicks$Rows","fewestWicks","(II)I"⟩), (930, Cond.methodLink "PutOffWicks" 243 ⟨"PutOffWicks$Rows","dayIfKnowing","(II)I"⟩), (934, Cond.methodLink "PutOffWicks" 246 ⟨"PutOffWicks$Rows","dayIfNotKnowing","(II)I"⟩), (939, Cond.methodLink "PutOffWicks" 249 ⟨"PutOffWicks$Tape","at","(I)I"⟩), (944, Cond.methodLink "PutOffWicks" 252 ⟨"PutOffWicks$Rows","longestCord","(II)I"⟩), (956, Cond.methodLink "PutOffWicks" 255 ⟨"PutOffWicks$Shore","placesSeeing","(II)I"⟩), (970, Cond.methodLink "PutOffWicks" 258 ⟨"PutOffWicks$Shore","longestRow","(II)I"⟩), (979, Cond.methodLink "PutOffWicks" 261 ⟨"PutOffWicks$Shore","bestLights","(II)I"⟩), (1001, Cond.methodLink "PutOffWicks" 264 ⟨"PutOffWicks$Shore","placesOf","(II)I"⟩), (1006, Cond.methodLink "PutOffWicks" 267 ⟨"PutOffWicks$Rows","evenestCut","(I)I"⟩), (1015, Cond.methodLink "PutOffWicks" 270 ⟨"PutOffWicks$Rows","difference","(II)I"⟩), (1020, Cond.methodLink "PutOffWicks" 273 ⟨"PutOffWicks$Rows","unbeaten","(I)I"⟩), (1041, Cond.methodLink "PutOffWicks" 280 ⟨"PutOffWicks$Parish","comeBackTo","(LPutOffWicks$Parish;)V"⟩), (1053, Cond.methodLink "PutOffWicks" 283 ⟨"PutOffWicks$Parish","ownersLeft","()I"⟩), (609, Cond.methodLink "PutOffWicks$Almanac" 21 ⟨"java/lang/Integer","bitCount","(I)I"⟩), (615, Cond.methodLink "PutOffWicks$Almanac" 33 ⟨"PutOffWicks$Parish","isDone","(I)Z"⟩), (616, Cond.methodLink "PutOffWicks$Almanac" 37 ⟨"PutOffWicks$Almanac","passOver","(LPutOffWicks$Parish;I)V"⟩), (620, Cond.methodLink "PutOffWicks$Almanac" 41 ⟨"PutOffWicks$Parish","draw","()I"⟩), (625, Cond.methodLink "PutOffWicks$Almanac" 45 ⟨"PutOffWicks$Reckoner","face","(LPutOffWicks$Parish;II)V"⟩), (629, Cond.methodLink "PutOffWicks$Almanac" 51 ⟨"PutOffWicks$Reckoner","ask","(III)I"⟩), (673, Cond.methodLink "PutOffWicks$Almanac" 59 ⟨"PutOffWicks$Parish","putLight","(IZ)V"⟩), (674, Cond.methodLink "PutOffWicks$Almanac" 63 ⟨"PutOffWicks$Parish","isLit","(I)Z"⟩), (675, Cond.methodLink "PutOffWicks$Almanac" 66 ⟨"PutOffWicks$Parish","burn","(II)V"⟩), (681, Cond.methodLink "PutOffWicks$Almanac" 70 ⟨"PutOffWicks$Parish","isFree","(I)Z"⟩), (686, Cond.methodLink "PutOffWicks$Almanac" 73 ⟨"PutOffWicks$Parish","finish","(I)V"⟩), (691, Cond.methodLink "PutOffWicks$Almanac" 77 ⟨"PutOffWicks$Parish","putItOff","(I)V"⟩), (566, Cond.methodLink "PutOffWicks$Law" 41 ⟨"java/lang/System","arraycopy","(Ljava/lang/Object;ILjava/lang/Object;II)V"⟩), (568, Cond.native ⟨"java/lang/System","arraycopy","(Ljava/lang/Object;ILjava/lang/Object;II)V"⟩), (567, Cond.static ⟨"java/lang/System","arraycopy","(Ljava/lang/Object;ILjava/lang/Object;II)V"⟩), (117, Cond.initialized "java/lang/System"), (493, Cond.methodLink "PutOffWicks$Law" 47 ⟨"PutOffWicks$Reading","begin","()V"⟩), (497, Cond.methodLink "PutOffWicks$Law" 52 ⟨"PutOffWicks$Reading","sign","()I"⟩), (505, Cond.methodLink "PutOffWicks$Law" 59 ⟨"PutOffWicks$Reading","fail","(II)V"⟩)]
theorem ch10_ok : ch10.all (fun q => decide (lw_tbl[q.1]? = some q.2) && goodWord q.2) = true := by decide +kernel
def ch11 : List (Nat × Cond) := [(509, Cond.methodLink "PutOffWicks$Law" 63 ⟨"PutOffWicks$Law","add","(II)I"⟩), (513, Cond.methodLink "PutOffWicks$Law" 67 ⟨"PutOffWicks$Law","readValue","(I)V"⟩), (525, Cond.methodLink "PutOffWicks$Law" 71 ⟨"PutOffWicks$Reading","needs","(I)V"⟩), (545, Cond.methodLink "PutOffWicks$Law" 74 ⟨"PutOffWicks$Law","readCondition","(I)V"⟩), (557, Cond.methodLink "PutOffWicks$Law" 77 ⟨"PutOffWicks$Reading","goesOn","()Z"⟩), (549, Cond.methodLink "PutOffWicks$Law" 84 ⟨"PutOffWicks$Law","readTest","(I)V"⟩), (553, Cond.methodLink "PutOffWicks$Law" 87 ⟨"PutOffWicks$Law","land","(I)V"⟩), (541, Cond.methodLink "PutOffWicks$Law" 90 ⟨"PutOffWicks$Reading","takes","(I)Z"⟩), (521, Cond.methodLink "PutOffWicks$Law" 94 ⟨"PutOffWicks$Law","opens","(I)Z"⟩), (517, Cond.methodLink "PutOffWicks$Law" 97 ⟨"PutOffWicks$Law","readFactor","(I)V"⟩), (530, Cond.methodLink "PutOffWicks$Law" 100 ⟨"PutOffWicks$Reading","isDigit","(I)Z"⟩), (533, Cond.methodLink "PutOffWicks$Law" 103 ⟨"PutOffWicks$Reading","number","(I)I"⟩), (538, Cond.methodLink "PutOffWicks$Law" 107 ⟨"PutOffWicks$Law","isFact","(I)Z"⟩), (600, Cond.methodLink "PutOffWicks$Parish" 43 ⟨"java/lang/System","arraycopy","(Ljava/lang/Object;ILjava/lang/Object;II)V"⟩), (596, Cond.methodLink "PutOffWicks$Parish" 49 ⟨"PutOffWicks$Parish","copyFrom","(LPutOffWicks$Parish;)V"⟩), (695, Cond.methodLink "PutOffWicks$Parish" 53 ⟨"java/lang/Math","min","(II)I"⟩), (685, Cond.methodLink "PutOffWicks$Parish" 60 ⟨"PutOffWicks$Parish","has","(I)Z"⟩), (654, Cond.methodLink "PutOffWicks$Parish" 64 ⟨"PutOffWicks$Parish","isDone","(I)Z"⟩), (679, Cond.methodLink "PutOffWicks$Parish" 67 ⟨"java/lang/Math","max","(II)I"⟩), (680, Cond.methodLink "PutOffWicks$Parish" 70 ⟨"PutOffWicks$Parish","putLight","(IZ)V"⟩), (690, Cond.methodLink "PutOffWicks$Parish" 74 ⟨"PutOffWicks$Parish","isLit","(I)Z"⟩), (722, Cond.methodLink "PutOffWicks$Parish" 77 ⟨"PutOffWicks$Parish","ownersLeft","()I"⟩), (726, Cond.methodLink "PutOffWicks$Parish" 81 ⟨"PutOffWicks$Parish","putOffBy","(I)I"⟩), (768, Cond.methodLink "PutOffWicks$Parish" 85 ⟨"PutOffWicks$Parish","lightOf","(I)I"⟩), (747, Cond.methodLink "PutOffWicks$Parish" 88 ⟨"java/lang/Integer","bitCount","(I)I"⟩), (777, Cond.methodLink "PutOffWicks$Parish" 93 ⟨"PutOffWicks$Parish","leftPutOffUnder","(I)I"⟩), (748, Cond.methodLink "PutOffWicks$Parish" 96 ⟨"PutOffWicks$Parish","leftThatNeed","(I)I"⟩), (577, Cond.methodLink "PutOffWicks$ParishReader" 22 ⟨"PutOffWicks$Reading","begin","()V"⟩), (578, Cond.methodLink "PutOffWicks$ParishReader" 34 ⟨"PutOffWicks$ParishReader","readLine","(I)V"⟩), (591, Cond.methodLink "PutOffWicks$ParishReader" 38 ⟨"PutOffWicks$Reading","goesOn","()Z"⟩), (582, Cond.methodLink "PutOffWicks$ParishReader" 45 ⟨"PutOffWicks$Reading","sign","()I"⟩), (583, Cond.methodLink "PutOffWicks$ParishReader" 52 ⟨"PutOffWicks$Reading","fail","(II)V"⟩), (584, Cond.methodLink "PutOffWicks$ParishReader" 56 ⟨"PutOffWicks$Reading","number","(I)I"⟩), (585, Cond.methodLink "PutOffWicks$ParishReader" 60 ⟨"PutOffWicks$Reading","takes","(I)Z"⟩), (586, Cond.methodLink "PutOffWicks$ParishReader" 64 ⟨"PutOffWicks$ParishReader","readOther","(I)I"⟩), (590, Cond.methodLink "PutOffWicks$ParishReader" 74 ⟨"PutOffWicks$Parish","putLight","(IZ)V"⟩), (501, Cond.methodLink "PutOffWicks$Reading" 20 ⟨"PutOffWicks$Tape","at","(I)I"⟩), (529, Cond.methodLink "PutOffWicks$Reading" 25 ⟨"PutOffWicks$Reading","fail","(II)V"⟩), (561, Cond.methodLink "PutOffWicks$Reading" 29 ⟨"PutOffWicks$Reading","needs","(I)V"⟩), (537, Cond.methodLink "PutOffWicks$Reading" 33 ⟨"PutOffWicks$Reading","isDigit","(I)Z"⟩), (633, Cond.methodLink "PutOffWicks$Reckoner" 51 ⟨"PutOffWicks$Reckoner","reckon","(II)I"⟩), (667, Cond.methodLink "PutOffWicks$Reckoner" 58 ⟨"java/lang/Math","min","(II)I"⟩), (670, Cond.methodLink "PutOffWicks$Reckoner" 63 ⟨"java/lang/Math","max","(II)I"⟩), (637, Cond.methodLink "PutOffWicks$Reckoner" 72 ⟨"PutOffWicks$Reckoner","push","(I)V"⟩), (641, Cond.methodLink "PutOffWicks$Reckoner" 76 ⟨"PutOffWicks$Reckoner","fact","(I)I"⟩), (659, Cond.methodLink "PutOffWicks$Reckoner" 80 ⟨"PutOffWicks$Reckoner","pop","()I"⟩), (663, Cond.methodLink "PutOffWicks$Reckoner" 84 ⟨"PutOffWicks$Reckoner","joined","(III)I"⟩), (645, Cond.methodLink "PutOffWicks$Reckoner" 88 ⟨"PutOffWicks$Parish","has","(I)Z"⟩), (646, Cond.methodLink "PutOffWicks$Reckoner" 103 ⟨"PutOffWicks$Parish","isLit","(I)Z"⟩), (650, Cond.methodLink "PutOffWicks$Reckoner" 106 ⟨"PutOffWicks$Parish","leftOf","(I)I"⟩)]
theorem ch11_ok : ch11.all (fun q => decide (lw_tbl[q.1]? = some q.2) && goodWord q.2) = true := by decide +kernel
def ch12 : List (Nat × Cond) := [(655, Cond.methodLink "PutOffWicks$Reckoner" 109 ⟨"PutOffWicks$Parish","waitersFor","(I)I"⟩), (899, Cond.methodLink "PutOffWicks$Rows" 15 ⟨"PutOffWicks$Rows","hoursBehind","(II)I"⟩), (903, Cond.methodLink "PutOffWicks$Rows" 19 ⟨"PutOffWicks$Tape","at","(I)I"⟩), (904, Cond.methodLink "PutOffWicks$Rows" 25 ⟨"PutOffWicks$Rows","nextToSpin","(II)I"⟩), (912, Cond.methodLink "PutOffWicks$Rows" 28 ⟨"java/lang/Math","max","(II)I"⟩), (908, Cond.methodLink "PutOffWicks$Rows" 33 ⟨"PutOffWicks$Rows","spinsAhead","(II)Z"⟩), (922, Cond.methodLink "PutOffWicks$Rows" 37 ⟨"PutOffWicks$Rows","farthestFrom","(II)I"⟩), (938, Cond.methodLink "PutOffWicks$Rows" 40 ⟨"java/lang/Math","min","(II)I"⟩), (948, Cond.methodLink "PutOffWicks$Rows" 43 ⟨"PutOffWicks$Rows","sufficesFor","(III)Z"⟩), (1010, Cond.methodLink "PutOffWicks$Rows" 47 ⟨"PutOffWicks$Rows","difference","(II)I"⟩), (1014, Cond.methodLink "PutOffWicks$Rows" 50 ⟨"java/lang/Math","abs","(I)I"⟩), (1024, Cond.methodLink "PutOffWicks$Rows" 53 ⟨"PutOffWicks$Rows","beats","(II)Z"⟩), (968, Cond.methodLink "PutOffWicks$Shore" 17 ⟨"PutOffWicks$Tape","at","(I)I"⟩), (969, Cond.methodLink "PutOffWicks$Shore" 23 ⟨"java/lang/Math","abs","(I)I"⟩), (964, Cond.methodLink "PutOffWicks$Shore" 28 ⟨"PutOffWicks$Shore","isSeen","(II)Z"⟩), (960, Cond.methodLink "PutOffWicks$Shore" 32 ⟨"PutOffWicks$Shore","sees","(III)Z"⟩), (974, Cond.methodLink "PutOffWicks$Shore" 36 ⟨"java/lang/Math","max","(II)I"⟩), (983, Cond.methodLink "PutOffWicks$Shore" 40 ⟨"PutOffWicks$Shore","fillView","(I)V"⟩), (990, Cond.methodLink "PutOffWicks$Shore" 44 ⟨"java/lang/Integer","bitCount","(I)I"⟩), (991, Cond.methodLink "PutOffWicks$Shore" 49 ⟨"PutOffWicks$Shore","placesOf","(II)I"⟩), (995, Cond.methodLink "PutOffWicks$Shore" 52 ⟨"java/lang/Long","bitCount","(J)I"⟩), (987, Cond.methodLink "PutOffWicks$Shore" 57 ⟨"java/util/Arrays","fill","([JJ)V"⟩), (789, Cond.methodLink "PutOffWicks$Twist" 41 ⟨"PutOffWicks$Reading","begin","()V"⟩), (790, Cond.methodLink "PutOffWicks$Twist" 46 ⟨"PutOffWicks$Twist","ends","()Z"⟩), (799, Cond.methodLink "PutOffWicks$Twist" 53 ⟨"PutOffWicks$Twist","readTimes","()I"⟩), (798, Cond.methodLink "PutOffWicks$Twist" 57 ⟨"PutOffWicks$Reading","sign","()I"⟩), (803, Cond.methodLink "PutOffWicks$Twist" 60 ⟨"PutOffWicks$Twist","readTurn","(IZI)V"⟩), (808, Cond.methodLink "PutOffWicks$Twist" 64 ⟨"PutOffWicks$Twist","repeat","(III)V"⟩), (812, Cond.methodLink "PutOffWicks$Twist" 68 ⟨"PutOffWicks$Twist","openGroup","(II)V"⟩), (816, Cond.methodLink "PutOffWicks$Twist" 72 ⟨"PutOffWicks$Twist","closeGroup","()V"⟩), (807, Cond.methodLink "PutOffWicks$Twist" 75 ⟨"PutOffWicks$Reading","fail","(II)V"⟩), (794, Cond.methodLink "PutOffWicks$Twist" 81 ⟨"PutOffWicks$Reading","failed","()Z"⟩), (836, Cond.methodLink "PutOffWicks$Twist" 86 ⟨"java/lang/Math","abs","(I)I"⟩), (832, Cond.methodLink "PutOffWicks$Twist" 92 ⟨"PutOffWicks$Twist","comesOut","(I)I"⟩), (848, Cond.methodLink "PutOffWicks$Waits" 28 ⟨"java/util/Arrays","fill","([II)V"⟩), (851, Cond.methodLink "PutOffWicks$Waits" 34 ⟨"PutOffWicks$Tape","at","(I)I"⟩), (862, Cond.methodLink "PutOffWicks$Waits" 45 ⟨"PutOffWicks$Waits","ringsOfTwo","()I"⟩), (866, Cond.methodLink "PutOffWicks$Waits" 49 ⟨"PutOffWicks$Waits","canEnd","(II)Z"⟩), (870, Cond.methodLink "PutOffWicks$Waits" 53 ⟨"PutOffWicks$Waits","findShortestRing","(I)I"⟩), (887, Cond.methodLink "PutOffWicks$Waits" 56 ⟨"PutOffWicks$Waits","ringAt","(II)I"⟩), (874, Cond.methodLink "PutOffWicks$Waits" 60 ⟨"PutOffWicks$Waits","forEver","()I"⟩), (875, Cond.methodLink "PutOffWicks$Waits" 63 ⟨"PutOffWicks$Waits","findRingOf","(III)I"⟩), (879, Cond.methodLink "PutOffWicks$Waits" 67 ⟨"PutOffWicks$Waits","writeRing","(III)V"⟩), (883, Cond.methodLink "PutOffWicks$Waits" 71 ⟨"PutOffWicks$Waits","markFrom","(II)V"⟩), (1240, Cond.methodLink "PutOffWicksModel" 124 ⟨"PutOffWicksModel","in","(III)Z"⟩), (1236, Cond.methodLink "PutOffWicksModel" 128 ⟨"PutOffWicksModel","isThing","(I)Z"⟩), (1232, Cond.methodLink "PutOffWicksModel" 132 ⟨"PutOffWicksModel","isLeft","(I)Z"⟩), (1247, Cond.methodLink "PutOffWicksModel" 138 ⟨"PutOffWicksModel","types","(I)V"⟩), (1263, Cond.methodLink "PutOffWicksModel" 148 ⟨"PutOffWicksModel","here","()I"⟩), (1267, Cond.methodLink "PutOffWicksModel" 155 ⟨"PutOffWicksModel","wrongAt","(II)Z"⟩)]
theorem ch12_ok : ch12.all (fun q => decide (lw_tbl[q.1]? = some q.2) && goodWord q.2) = true := by decide +kernel
def ch13 : List (Nat × Cond) := [(1284, Cond.methodLink "PutOffWicksModel" 162 ⟨"PutOffWicksModel","isDigit","()Z"⟩), (1306, Cond.methodLink "PutOffWicksModel" 176 ⟨"PutOffWicksModel","waitTop","()I"⟩), (1292, Cond.methodLink "PutOffWicksModel" 179 ⟨"PutOffWicksModel","notes","(II)V"⟩), (1279, Cond.methodLink "PutOffWicksModel" 183 ⟨"PutOffWicksModel","opens","(I)Z"⟩), (1288, Cond.methodLink "PutOffWicksModel" 186 ⟨"PutOffWicksModel","readsNumber","()Z"⟩), (1296, Cond.methodLink "PutOffWicksModel" 189 ⟨"PutOffWicksModel","factOf","(I)I"⟩), (1275, Cond.methodLink "PutOffWicksModel" 193 ⟨"PutOffWicksModel","readsFactor","()Z"⟩), (1299, Cond.methodLink "PutOffWicksModel" 196 ⟨"PutOffWicksModel","sumSign","(I)I"⟩), (1302, Cond.methodLink "PutOffWicksModel" 199 ⟨"PutOffWicksModel","closesSums","(Z)V"⟩), (1310, Cond.methodLink "PutOffWicksModel" 203 ⟨"PutOffWicksModel","hasOpenSum","(I)Z"⟩), (1271, Cond.methodLink "PutOffWicksModel" 206 ⟨"PutOffWicksModel","readsSum","()Z"⟩), (1322, Cond.methodLink "PutOffWicksModel" 209 ⟨"PutOffWicksModel","endsPiece","()V"⟩), (1318, Cond.methodLink "PutOffWicksModel" 212 ⟨"PutOffWicksModel","readsCompared","()Z"⟩), (1326, Cond.methodLink "PutOffWicksModel" 215 ⟨"PutOffWicksModel","lands","(Z)V"⟩), (1330, Cond.methodLink "PutOffWicksModel" 218 ⟨"PutOffWicksModel","jumps","(I)V"⟩), (1314, Cond.methodLink "PutOffWicksModel" 224 ⟨"PutOffWicksModel","readsCondition","()Z"⟩), (1255, Cond.methodLink "PutOffWicksModel" 227 ⟨"PutOffWicksModel","beginsText","(I)V"⟩), (1259, Cond.methodLink "PutOffWicksModel" 230 ⟨"PutOffWicksModel","readsRule","()Z"⟩), (1334, Cond.methodLink "PutOffWicksModel" 233 ⟨"PutOffWicksModel","takes","(I)Z"⟩), (1390, Cond.methodLink "PutOffWicksModel" 239 ⟨"PutOffWicksModel","reckon","(III)I"⟩), (1386, Cond.methodLink "PutOffWicksModel" 243 ⟨"PutOffWicksModel","reckonsTo","(II)I"⟩), (1346, Cond.methodLink "PutOffWicksModel" 250 ⟨"PutOffWicksModel","readsAmount","(I)Z"⟩), (1342, Cond.methodLink "PutOffWicksModel" 253 ⟨"PutOffWicksModel","readsThing","()Z"⟩), (1370, Cond.methodLink "PutOffWicksModel" 256 ⟨"PutOffWicksModel","leftOf","(I)I"⟩), (1374, Cond.methodLink "PutOffWicksModel" 259 ⟨"PutOffWicksModel","waitersOf","(I)I"⟩), (1378, Cond.methodLink "PutOffWicksModel" 262 ⟨"PutOffWicksModel","draws","()I"⟩), (1401, Cond.methodLink "PutOffWicksModel" 265 ⟨"PutOffWicksModel","max","(II)I"⟩), (1412, Cond.methodLink "PutOffWicksModel" 271 ⟨"PutOffWicksModel","min","(II)I"⟩), (1366, Cond.methodLink "PutOffWicksModel" 274 ⟨"PutOffWicksModel","feels","(I)V"⟩), (1382, Cond.methodLink "PutOffWicksModel" 277 ⟨"PutOffWicksModel","holdsAny","(I)Z"⟩), (1393, Cond.methodLink "PutOffWicksModel" 280 ⟨"PutOffWicksModel","byLaw","(III)I"⟩), (1397, Cond.methodLink "PutOffWicksModel" 283 ⟨"PutOffWicksModel","burns","(II)V"⟩), (1404, Cond.methodLink "PutOffWicksModel" 286 ⟨"PutOffWicksModel","isDone","(I)V"⟩), (1408, Cond.methodLink "PutOffWicksModel" 289 ⟨"PutOffWicksModel","isPutOff","(I)V"⟩), (1362, Cond.methodLink "PutOffWicksModel" 292 ⟨"PutOffWicksModel","goesOn","(I)V"⟩), (1358, Cond.methodLink "PutOffWicksModel" 295 ⟨"PutOffWicksModel","dayGoes","()V"⟩), (1354, Cond.methodLink "PutOffWicksModel" 298 ⟨"PutOffWicksModel","daysGo","(I)V"⟩), (1419, Cond.methodLink "PutOffWicksModel" 301 ⟨"PutOffWicksModel","copies","([I[I)V"⟩), (1422, Cond.methodLink "PutOffWicksModel" 305 ⟨"PutOffWicksModel","setOf","(I)I"⟩), (1442, Cond.methodLink "PutOffWicksModel" 308 ⟨"PutOffWicksModel","daysOf","(I)I"⟩), (1458, Cond.methodLink "PutOffWicksModel" 311 ⟨"PutOffWicksModel","placeOf","(II)I"⟩), (1462, Cond.methodLink "PutOffWicksModel" 314 ⟨"PutOffWicksModel","has","(II)Z"⟩), (1465, Cond.methodLink "PutOffWicksModel" 317 ⟨"PutOffWicksModel","waysTo","(III)I"⟩), (1473, Cond.methodLink "PutOffWicksModel" 320 ⟨"PutOffWicksModel","lightOf","(I)I"⟩), (1493, Cond.methodLink "PutOffWicksModel" 332 ⟨"PutOffWicksModel","readsTimes","()V"⟩), (1497, Cond.methodLink "PutOffWicksModel" 338 ⟨"PutOffWicksModel","repeats","(III)Z"⟩), (1513, Cond.methodLink "PutOffWicksModel" 341 ⟨"PutOffWicksModel","size","(I)I"⟩), (1520, Cond.methodLink "PutOffWicksModel" 344 ⟨"PutOffWicksModel","comesOut","(I)I"⟩), (1524, Cond.methodLink "PutOffWicksModel" 347 ⟨"PutOffWicksModel","areHome","(I)Z"⟩), (1489, Cond.methodLink "PutOffWicksModel" 350 ⟨"PutOffWicksModel","readsTurn","(I)Z"⟩)]
theorem ch13_ok : ch13.all (fun q => decide (lw_tbl[q.1]? = some q.2) && goodWord q.2) = true := by decide +kernel
def ch14 : List (Nat × Cond) := [(1501, Cond.methodLink "PutOffWicksModel" 353 ⟨"PutOffWicksModel","turnsAll","(I)V"⟩), (1505, Cond.methodLink "PutOffWicksModel" 356 ⟨"PutOffWicksModel","overs","()I"⟩), (1509, Cond.methodLink "PutOffWicksModel" 359 ⟨"PutOffWicksModel","shortened","()I"⟩), (1516, Cond.methodLink "PutOffWicksModel" 362 ⟨"PutOffWicksModel","oftenTill","(I)I"⟩), (1546, Cond.methodLink "PutOffWicksModel" 367 ⟨"PutOffWicksModel","bits","(I)I"⟩), (1532, Cond.methodLink "PutOffWicksModel" 370 ⟨"PutOffWicksModel","octet","(I)I"⟩), (1536, Cond.methodLink "PutOffWicksModel" 373 ⟨"PutOffWicksModel","forEver","()I"⟩), (1541, Cond.methodLink "PutOffWicksModel" 376 ⟨"PutOffWicksModel","mustEnd","()I"⟩), (1561, Cond.methodLink "PutOffWicksModel" 379 ⟨"PutOffWicksModel","changesRow","(II)V"⟩), (1553, Cond.methodLink "PutOffWicksModel" 382 ⟨"PutOffWicksModel","hoursOfRow","(I)I"⟩), (1557, Cond.methodLink "PutOffWicksModel" 385 ⟨"PutOffWicksModel","nextRow","(I)Z"⟩), (1581, Cond.methodLink "PutOffWicksModel" 388 ⟨"PutOffWicksModel","leastLater","(II)I"⟩), (1573, Cond.methodLink "PutOffWicksModel" 391 ⟨"PutOffWicksModel","knowing","(II)I"⟩), (1577, Cond.methodLink "PutOffWicksModel" 394 ⟨"PutOffWicksModel","unknowing","(II)I"⟩), (1597, Cond.methodLink "PutOffWicksModel" 397 ⟨"PutOffWicksModel","isSeen","(II)Z"⟩), (1593, Cond.methodLink "PutOffWicksModel" 400 ⟨"PutOffWicksModel","seenAt","(II)I"⟩), (1605, Cond.methodLink "PutOffWicksModel" 403 ⟨"PutOffWicksModel","brightOf","(I)I"⟩), (1617, Cond.methodLink "PutOffWicksModel" 406 ⟨"PutOffWicksModel","isBetter","(II)Z"⟩), (1641, Cond.methodLink "PutOffWicksModel" 416 ⟨"PutOffWicksModel","whoHasLeft","()I"⟩), (407, Cond.fieldLink "PutOffWicks" 10 "PutOffWicks" "tape" "LPutOffWicks$Tape;"), (408, Cond.fieldLink "PutOffWicks" 21 "PutOffWicks" "reading" "LPutOffWicks$Reading;"), (409, Cond.fieldLink "PutOffWicks" 28 "PutOffWicks" "now" "LPutOffWicks$Parish;"), (410, Cond.fieldLink "PutOffWicks" 32 "PutOffWicks" "kept" "LPutOffWicks$Parish;"), (411, Cond.fieldLink "PutOffWicks" 35 "PutOffWicks" "trial" "LPutOffWicks$Parish;"), (412, Cond.fieldLink "PutOffWicks" 43 "PutOffWicks" "parishReader" "LPutOffWicks$ParishReader;"), (413, Cond.fieldLink "PutOffWicks" 50 "PutOffWicks" "ruling" "LPutOffWicks$Law;"), (414, Cond.fieldLink "PutOffWicks" 54 "PutOffWicks" "lawDraft" "LPutOffWicks$Law;"), (415, Cond.fieldLink "PutOffWicks" 67 "PutOffWicks" "almanac" "LPutOffWicks$Almanac;"), (416, Cond.fieldLink "PutOffWicks" 74 "PutOffWicks" "twisting" "LPutOffWicks$Twist;"), (417, Cond.fieldLink "PutOffWicks" 81 "PutOffWicks" "waits" "LPutOffWicks$Waits;"), (418, Cond.fieldLink "PutOffWicks" 88 "PutOffWicks" "shore" "LPutOffWicks$Shore;"), (419, Cond.fieldLink "PutOffWicks" 95 "PutOffWicks" "rows" "LPutOffWicks$Rows;"), (420, Cond.fieldLink "PutOffWicks" 99 "PutOffWicks" "wasKept" "Z"), (208, Cond.fieldLink "PutOffWicks" 103 "PutOffWicks$Parish" "x" "I"), (184, Cond.fieldLink "PutOffWicks" 114 "PutOffWicks$Parish" "length" "[I"), (139, Cond.fieldLink "PutOffWicks" 130 "PutOffWicks$Tape" "size" "I"), (268, Cond.fieldLink "PutOffWicks" 148 "PutOffWicks$Law" "rules" "I"), (240, Cond.fieldLink "PutOffWicks" 152 "PutOffWicks$ParishReader" "draft" "LPutOffWicks$Parish;"), (200, Cond.fieldLink "PutOffWicks" 159 "PutOffWicks$Parish" "things" "I"), (190, Cond.fieldLink "PutOffWicks" 168 "PutOffWicks$Parish" "putOff" "[I"), (202, Cond.fieldLink "PutOffWicks" 171 "PutOffWicks$Parish" "guttered" "I"), (193, Cond.fieldLink "PutOffWicks" 174 "PutOffWicks$Parish" "litBits" "I"), (196, Cond.fieldLink "PutOffWicks" 177 "PutOffWicks$Parish" "doneBits" "I"), (179, Cond.fieldLink "PutOffWicks" 180 "PutOffWicks$Parish" "owner" "[I"), (182, Cond.fieldLink "PutOffWicks" 186 "PutOffWicks$Parish" "waitsFor" "[I"), (341, Cond.fieldLink "PutOffWicks" 210 "PutOffWicks$Twist" "turns" "I"), (206, Cond.fieldLink "PutOffWicks" 277 "PutOffWicks$Parish" "day" "I"), (322, Cond.fieldLink "PutOffWicks$Almanac" 9 "PutOffWicks$Almanac" "reckoner" "LPutOffWicks$Reckoner;"), (195, Cond.fieldLink "PutOffWicks$Almanac" 15 "PutOffWicks$Parish" "doneBits" "I"), (204, Cond.fieldLink "PutOffWicks$Almanac" 27 "PutOffWicks$Parish" "day" "I")]
theorem ch14_ok : ch14.all (fun q => decide (lw_tbl[q.1]? = some q.2) && goodWord q.2) = true := by decide +kernel
def ch15 : List (Nat × Cond) := [(199, Cond.fieldLink "PutOffWicks$Almanac" 30 "PutOffWicks$Parish" "things" "I"), (185, Cond.fieldLink "PutOffWicks$Almanac" 55 "PutOffWicks$Parish" "length" "[I"), (253, Cond.fieldLink "PutOffWicks$Law" 11 "PutOffWicks$Law" "steps" "[I"), (255, Cond.fieldLink "PutOffWicks$Law" 15 "PutOffWicks$Law" "details" "[I"), (257, Cond.fieldLink "PutOffWicks$Law" 18 "PutOffWicks$Law" "letter" "[I"), (259, Cond.fieldLink "PutOffWicks$Law" 21 "PutOffWicks$Law" "valueAt" "[I"), (261, Cond.fieldLink "PutOffWicks$Law" 24 "PutOffWicks$Law" "holdsAt" "[I"), (263, Cond.fieldLink "PutOffWicks$Law" 27 "PutOffWicks$Law" "endAt" "[I"), (265, Cond.fieldLink "PutOffWicks$Law" 30 "PutOffWicks$Law" "size" "I"), (266, Cond.fieldLink "PutOffWicks$Law" 34 "PutOffWicks$Law" "rules" "I"), (252, Cond.fieldLink "PutOffWicks$Law" 37 "PutOffWicks$Law" "reading" "LPutOffWicks$Reading;"), (158, Cond.fieldLink "PutOffWicks$Law" 56 "PutOffWicks$Reading" "at" "I"), (162, Cond.fieldLink "PutOffWicks$Law" 81 "PutOffWicks$Reading" "fault" "I"), (176, Cond.fieldLink "PutOffWicks$Parish" 9 "PutOffWicks$Parish" "owner" "[I"), (180, Cond.fieldLink "PutOffWicks$Parish" 15 "PutOffWicks$Parish" "waitsFor" "[I"), (183, Cond.fieldLink "PutOffWicks$Parish" 18 "PutOffWicks$Parish" "length" "[I"), (188, Cond.fieldLink "PutOffWicks$Parish" 21 "PutOffWicks$Parish" "putOff" "[I"), (191, Cond.fieldLink "PutOffWicks$Parish" 24 "PutOffWicks$Parish" "litBits" "I"), (194, Cond.fieldLink "PutOffWicks$Parish" 28 "PutOffWicks$Parish" "doneBits" "I"), (197, Cond.fieldLink "PutOffWicks$Parish" 31 "PutOffWicks$Parish" "things" "I"), (201, Cond.fieldLink "PutOffWicks$Parish" 34 "PutOffWicks$Parish" "guttered" "I"), (203, Cond.fieldLink "PutOffWicks$Parish" 37 "PutOffWicks$Parish" "day" "I"), (207, Cond.fieldLink "PutOffWicks$Parish" 40 "PutOffWicks$Parish" "x" "I"), (239, Cond.fieldLink "PutOffWicks$ParishReader" 12 "PutOffWicks$ParishReader" "draft" "LPutOffWicks$Parish;"), (238, Cond.fieldLink "PutOffWicks$ParishReader" 18 "PutOffWicks$ParishReader" "reading" "LPutOffWicks$Reading;"), (192, Cond.fieldLink "PutOffWicks$ParishReader" 27 "PutOffWicks$Parish" "litBits" "I"), (198, Cond.fieldLink "PutOffWicks$ParishReader" 31 "PutOffWicks$Parish" "things" "I"), (160, Cond.fieldLink "PutOffWicks$ParishReader" 42 "PutOffWicks$Reading" "fault" "I"), (157, Cond.fieldLink "PutOffWicks$ParishReader" 49 "PutOffWicks$Reading" "at" "I"), (177, Cond.fieldLink "PutOffWicks$ParishReader" 67 "PutOffWicks$Parish" "owner" "[I"), (186, Cond.fieldLink "PutOffWicks$ParishReader" 71 "PutOffWicks$Parish" "length" "[I"), (181, Cond.fieldLink "PutOffWicks$ParishReader" 78 "PutOffWicks$Parish" "waitsFor" "[I"), (155, Cond.fieldLink "PutOffWicks$Reading" 7 "PutOffWicks$Reading" "at" "I"), (159, Cond.fieldLink "PutOffWicks$Reading" 13 "PutOffWicks$Reading" "fault" "I"), (154, Cond.fieldLink "PutOffWicks$Reading" 16 "PutOffWicks$Reading" "text" "LPutOffWicks$Tape;"), (297, Cond.fieldLink "PutOffWicks$Reckoner" 11 "PutOffWicks$Reckoner" "stack" "[I"), (298, Cond.fieldLink "PutOffWicks$Reckoner" 15 "PutOffWicks$Reckoner" "top" "I"), (299, Cond.fieldLink "PutOffWicks$Reckoner" 19 "PutOffWicks$Reckoner" "refused" "Z"), (301, Cond.fieldLink "PutOffWicks$Reckoner" 23 "PutOffWicks$Reckoner" "thing" "I"), (302, Cond.fieldLink "PutOffWicks$Reckoner" 26 "PutOffWicks$Reckoner" "drawn" "I"), (296, Cond.fieldLink "PutOffWicks$Reckoner" 29 "PutOffWicks$Reckoner" "law" "LPutOffWicks$Law;"), (300, Cond.fieldLink "PutOffWicks$Reckoner" 33 "PutOffWicks$Reckoner" "parish" "LPutOffWicks$Parish;"), (267, Cond.fieldLink "PutOffWicks$Reckoner" 37 "PutOffWicks$Law" "rules" "I"), (258, Cond.fieldLink "PutOffWicks$Reckoner" 42 "PutOffWicks$Law" "letter" "[I"), (262, Cond.fieldLink "PutOffWicks$Reckoner" 45 "PutOffWicks$Law" "holdsAt" "[I"), (264, Cond.fieldLink "PutOffWicks$Reckoner" 48 "PutOffWicks$Law" "endAt" "[I"), (260, Cond.fieldLink "PutOffWicks$Reckoner" 55 "PutOffWicks$Law" "valueAt" "[I"), (254, Cond.fieldLink "PutOffWicks$Reckoner" 66 "PutOffWicks$Law" "steps" "[I"), (256, Cond.fieldLink "PutOffWicks$Reckoner" 69 "PutOffWicks$Law" "details" "[I"), (178, Cond.fieldLink "PutOffWicks$Reckoner" 94 "PutOffWicks$Parish" "owner" "[I")]
theorem ch15_ok : ch15.all (fun q => decide (lw_tbl[q.1]? = some q.2) && goodWord q.2) = true := by decide +kernel
def ch16 : List (Nat × Cond) := [(189, Cond.fieldLink "PutOffWicks$Reckoner" 97 "PutOffWicks$Parish" "putOff" "[I"), (187, Cond.fieldLink "PutOffWicks$Reckoner" 100 "PutOffWicks$Parish" "length" "[I"), (205, Cond.fieldLink "PutOffWicks$Reckoner" 112 "PutOffWicks$Parish" "day" "I"), (403, Cond.fieldLink "PutOffWicks$Rows" 9 "PutOffWicks$Rows" "tape" "LPutOffWicks$Tape;"), (390, Cond.fieldLink "PutOffWicks$Shore" 9 "PutOffWicks$Shore" "view" "[J"), (389, Cond.fieldLink "PutOffWicks$Shore" 13 "PutOffWicks$Shore" "tape" "LPutOffWicks$Tape;"), (136, Cond.fieldLink "PutOffWicks$Tape" 9 "PutOffWicks$Tape" "bytes" "[I"), (137, Cond.fieldLink "PutOffWicks$Tape" 13 "PutOffWicks$Tape" "taken" "I"), (138, Cond.fieldLink "PutOffWicks$Tape" 17 "PutOffWicks$Tape" "size" "I"), (333, Cond.fieldLink "PutOffWicks$Twist" 11 "PutOffWicks$Twist" "turn" "[I"), (334, Cond.fieldLink "PutOffWicks$Twist" 15 "PutOffWicks$Twist" "left" "[I"), (335, Cond.fieldLink "PutOffWicks$Twist" 18 "PutOffWicks$Twist" "groupPlace" "[I"), (336, Cond.fieldLink "PutOffWicks$Twist" 21 "PutOffWicks$Twist" "groupTimes" "[I"), (337, Cond.fieldLink "PutOffWicks$Twist" 24 "PutOffWicks$Twist" "groupTurns" "[I"), (338, Cond.fieldLink "PutOffWicks$Twist" 27 "PutOffWicks$Twist" "goal" "[I"), (339, Cond.fieldLink "PutOffWicks$Twist" 30 "PutOffWicks$Twist" "groups" "I"), (340, Cond.fieldLink "PutOffWicks$Twist" 34 "PutOffWicks$Twist" "turns" "I"), (332, Cond.fieldLink "PutOffWicks$Twist" 37 "PutOffWicks$Twist" "reading" "LPutOffWicks$Reading;"), (156, Cond.fieldLink "PutOffWicks$Twist" 50 "PutOffWicks$Reading" "at" "I"), (161, Cond.fieldLink "PutOffWicks$Twist" 78 "PutOffWicks$Reading" "fault" "I"), (368, Cond.fieldLink "PutOffWicks$Waits" 9 "PutOffWicks$Waits" "waitsFor" "[I"), (369, Cond.fieldLink "PutOffWicks$Waits" 15 "PutOffWicks$Waits" "stays" "[I"), (370, Cond.fieldLink "PutOffWicks$Waits" 18 "PutOffWicks$Waits" "from" "[I"), (371, Cond.fieldLink "PutOffWicks$Waits" 21 "PutOffWicks$Waits" "rings" "[I"), (367, Cond.fieldLink "PutOffWicks$Waits" 24 "PutOffWicks$Waits" "tape" "LPutOffWicks$Tape;"), (1061, Cond.fieldLink "PutOffWicksModel" 7 "PutOffWicksModel" "now" "[I"), (1062, Cond.fieldLink "PutOffWicksModel" 13 "PutOffWicksModel" "aside" "[I"), (1063, Cond.fieldLink "PutOffWicksModel" 16 "PutOffWicksModel" "kept" "[I"), (1064, Cond.fieldLink "PutOffWicksModel" 19 "PutOffWicksModel" "whoseOf" "[I"), (1065, Cond.fieldLink "PutOffWicksModel" 22 "PutOffWicksModel" "waitsFor" "[I"), (1067, Cond.fieldLink "PutOffWicksModel" 25 "PutOffWicksModel" "tape" "[B"), (1078, Cond.fieldLink "PutOffWicksModel" 29 "PutOffWicksModel" "said" "[I"), (1079, Cond.fieldLink "PutOffWicksModel" 32 "PutOffWicksModel" "waitsAt" "[I"), (1080, Cond.fieldLink "PutOffWicksModel" 35 "PutOffWicksModel" "saidLetter" "[I"), (1081, Cond.fieldLink "PutOffWicksModel" 38 "PutOffWicksModel" "saidFrom" "[I"), (1082, Cond.fieldLink "PutOffWicksModel" 41 "PutOffWicksModel" "saidHalf" "[I"), (1083, Cond.fieldLink "PutOffWicksModel" 44 "PutOffWicksModel" "saidTo" "[I"), (1084, Cond.fieldLink "PutOffWicksModel" 47 "PutOffWicksModel" "codes" "[I"), (1085, Cond.fieldLink "PutOffWicksModel" 50 "PutOffWicksModel" "clauseOf" "[I"), (1086, Cond.fieldLink "PutOffWicksModel" 53 "PutOffWicksModel" "codeFrom" "[I"), (1087, Cond.fieldLink "PutOffWicksModel" 56 "PutOffWicksModel" "codeHalf" "[I"), (1088, Cond.fieldLink "PutOffWicksModel" 59 "PutOffWicksModel" "codeTo" "[I"), (1089, Cond.fieldLink "PutOffWicksModel" 62 "PutOffWicksModel" "stack" "[I"), (1090, Cond.fieldLink "PutOffWicksModel" 65 "PutOffWicksModel" "facts" "[I"), (1091, Cond.fieldLink "PutOffWicksModel" 68 "PutOffWicksModel" "newWhose" "[I"), (1092, Cond.fieldLink "PutOffWicksModel" 71 "PutOffWicksModel" "newLength" "[I"), (1093, Cond.fieldLink "PutOffWicksModel" 74 "PutOffWicksModel" "newLit" "[I"), (1094, Cond.fieldLink "PutOffWicksModel" 77 "PutOffWicksModel" "newWaits" "[I"), (1097, Cond.fieldLink "PutOffWicksModel" 80 "PutOffWicksModel" "leftNow" "[I"), (1098, Cond.fieldLink "PutOffWicksModel" 83 "PutOffWicksModel" "orderWays" "[I")]
theorem ch16_ok : ch16.all (fun q => decide (lw_tbl[q.1]? = some q.2) && goodWord q.2) = true := by decide +kernel
def ch17 : List (Nat × Cond) := [(1099, Cond.fieldLink "PutOffWicksModel" 86 "PutOffWicksModel" "turnNow" "[I"), (1100, Cond.fieldLink "PutOffWicksModel" 89 "PutOffWicksModel" "roundFrom" "[I"), (1101, Cond.fieldLink "PutOffWicksModel" 92 "PutOffWicksModel" "roundAt" "[I"), (1102, Cond.fieldLink "PutOffWicksModel" 95 "PutOffWicksModel" "roundTimes" "[I"), (1103, Cond.fieldLink "PutOffWicksModel" 98 "PutOffWicksModel" "strandAt" "[I"), (1104, Cond.fieldLink "PutOffWicksModel" 101 "PutOffWicksModel" "strandThen" "[I"), (1105, Cond.fieldLink "PutOffWicksModel" 104 "PutOffWicksModel" "turnLeft" "[I"), (1110, Cond.fieldLink "PutOffWicksModel" 107 "PutOffWicksModel" "awaits" "[I"), (1111, Cond.fieldLink "PutOffWicksModel" 111 "PutOffWicksModel" "endsBy" "[I"), (1112, Cond.fieldLink "PutOffWicksModel" 114 "PutOffWicksModel" "rowNow" "[I"), (1113, Cond.fieldLink "PutOffWicksModel" 117 "PutOffWicksModel" "seesAt" "[I"), (1066, Cond.fieldLink "PutOffWicksModel" 120 "PutOffWicksModel" "things" "I"), (1068, Cond.fieldLink "PutOffWicksModel" 135 "PutOffWicksModel" "taped" "I"), (1069, Cond.fieldLink "PutOffWicksModel" 142 "PutOffWicksModel" "place0" "I"), (1070, Cond.fieldLink "PutOffWicksModel" 145 "PutOffWicksModel" "length0" "I"), (1071, Cond.fieldLink "PutOffWicksModel" 152 "PutOffWicksModel" "fault" "I"), (1072, Cond.fieldLink "PutOffWicksModel" 159 "PutOffWicksModel" "number0" "I"), (1074, Cond.fieldLink "PutOffWicksModel" 166 "PutOffWicksModel" "codeMany" "I"), (1073, Cond.fieldLink "PutOffWicksModel" 170 "PutOffWicksModel" "open" "I"), (1075, Cond.fieldLink "PutOffWicksModel" 173 "PutOffWicksModel" "waiting" "I"), (1076, Cond.fieldLink "PutOffWicksModel" 221 "PutOffWicksModel" "saidMany" "I"), (1077, Cond.fieldLink "PutOffWicksModel" 236 "PutOffWicksModel" "clauses" "I"), (1095, Cond.fieldLink "PutOffWicksModel" 247 "PutOffWicksModel" "newThings" "I"), (1096, Cond.fieldLink "PutOffWicksModel" 268 "PutOffWicksModel" "doneNow" "I"), (1108, Cond.fieldLink "PutOffWicksModel" 323 "PutOffWicksModel" "itFrom" "I"), (1109, Cond.fieldLink "PutOffWicksModel" 326 "PutOffWicksModel" "itTimes" "I"), (1106, Cond.fieldLink "PutOffWicksModel" 329 "PutOffWicksModel" "turnMany" "I"), (1107, Cond.fieldLink "PutOffWicksModel" 335 "PutOffWicksModel" "rounds" "I"), (1114, Cond.fieldLink "PutOffWicksModel" 409 "PutOffWicksModel" "isKept" "Z"), (1115, Cond.fieldLink "PutOffWicksModel" 413 "PutOffWicksModel" "keptThings" "I"), (1032, Cond.constant "PutOffWicks" 276 65535), (624, Cond.constant "PutOffWicks$Parish" 59 65535), (857, Cond.constant "PutOffWicks$Waits" 44 65535), (1060, Cond.constant "PutOffWicksModel" 110 65536), (1283, Cond.constant "PutOffWicksModel" 169 1048576), (1540, Cond.constant "PutOffWicksModel" 365 65535), (1545, Cond.constant "PutOffWicksModel" 366 1000000), (612, Cond.constant "java/lang/Integer" 265 1431655765), (613, Cond.constant "java/lang/Integer" 266 858993459), (614, Cond.constant "java/lang/Integer" 267 252645135), (998, Cond.constantLong "java/lang/Long" 314 6148914691236517205), (999, Cond.constantLong "java/lang/Long" 316 3689348814741910323), (1000, Cond.constantLong "java/lang/Long" 318 1085102592571150095)]
theorem ch17_ok : ch17.all (fun q => decide (lw_tbl[q.1]? = some q.2) && goodWord q.2) = true := by decide +kernel
def FU : Nat := 1000000
abbrev isP (P : Nat) : Prop := P = 4 ∨ P = 9 ∨ P = 14 ∨ P = 20
def shX : Nat → Sh := fun k => match k with
  | 0 => .inl (11, [some 1, some 3, some 4, some 9, some 14, some 19, some 25, some 32, some 39, some 42, some 49, some 54, some 56, none])
  | 1 => .inl (8, [some 2, none, none])
  | 2 => .inr (0, 260)
  | 3 => .inl (4, [some 1, none, none])
  | 4 => .inl (2, [some 5, some 6, some 7, some 8, none, none, none, none, none, none])
  | 5 => .inr (0, 24)
  | 6 => .inr (0, 24)
  | 7 => .inr (0, 24)
  | 8 => .inr (0, 24)
  | 9 => .inl (2, [some 10, some 11, some 12, some 13, none, none, none, none, none, none])
  | 10 => .inr (0, 24)
  | 11 => .inr (0, 24)
  | 12 => .inr (0, 24)
  | 13 => .inr (0, 24)
  | 14 => .inl (2, [some 15, some 16, some 17, some 18, none, none, none, none, none, none])
  | 15 => .inr (0, 24)
  | 16 => .inr (0, 24)
  | 17 => .inr (0, 24)
  | 18 => .inr (0, 24)
  | 19 => .inl (3, [some 3, some 20])
  | 20 => .inl (2, [some 21, some 22, some 23, some 24, none, none, none, none, none, none])
  | 21 => .inr (0, 24)
  | 22 => .inr (0, 24)
  | 23 => .inr (0, 24)
  | 24 => .inr (0, 24)
  | 25 => .inl (1, [some 3, some 26, some 27, some 28, some 29, some 30, some 31, none, none])
  | 26 => .inr (0, 240)
  | 27 => .inr (0, 240)
  | 28 => .inr (0, 16)
  | 29 => .inr (0, 16)
  | 30 => .inr (0, 16)
  | 31 => .inr (0, 16)
  | 32 => .inl (1, [some 3, some 33, some 34, some 35, some 36, some 37, some 38, none, none])
  | 33 => .inr (0, 240)
  | 34 => .inr (0, 240)
  | 35 => .inr (0, 16)
  | 36 => .inr (0, 16)
  | 37 => .inr (0, 16)
  | 38 => .inr (0, 16)
  | 39 => .inl (0, [some 40])
  | 40 => .inl (5, [some 25, some 41, none, none, some 1000, none, none])
  | 41 => .inr (0, 64)
  | 42 => .inl (9, [some 3, some 43, some 44, some 45, some 46, some 47, some 48, none, none])
  | 43 => .inr (0, 64)
  | 44 => .inr (0, 64)
  | 45 => .inr (0, 2)
  | 46 => .inr (0, 2)
  | 47 => .inr (0, 2)
  | 48 => .inr (0, 8)
  | 49 => .inl (10, [some 1, some 50, some 51, some 52, some 53])
  | 50 => .inr (0, 16)
  | 51 => .inr (0, 16)
  | 52 => .inr (0, 16)
  | 53 => .inr (0, 176)
  | 54 => .inl (7, [some 1, some 55])
  | 55 => .inr (1, 48)
  | _ => .inl (6, [some 1])
def SX : SY := (57, shX)
theorem kx_0 : 0 < SX.1 := by decide
theorem sx_0 : SX.2 0 = .inl (11, [some 1, some 3, some 4, some 9, some 14, some 19, some 25, some 32, some 39, some 42, some 49, some 54, some 56, none]) := rfl
theorem kx_1 : 1 < SX.1 := by decide
theorem sx_1 : SX.2 1 = .inl (8, [some 2, none, none]) := rfl
theorem kx_2 : 2 < SX.1 := by decide
theorem sx_2 : SX.2 2 = .inr (0, 260) := rfl
theorem kx_3 : 3 < SX.1 := by decide
theorem sx_3 : SX.2 3 = .inl (4, [some 1, none, none]) := rfl
theorem kx_4 : 4 < SX.1 := by decide
theorem sx_4 : SX.2 4 = .inl (2, [some 5, some 6, some 7, some 8, none, none, none, none, none, none]) := rfl
theorem kx_5 : 5 < SX.1 := by decide
theorem sx_5 : SX.2 5 = .inr (0, 24) := rfl
theorem kx_6 : 6 < SX.1 := by decide
theorem sx_6 : SX.2 6 = .inr (0, 24) := rfl
theorem kx_7 : 7 < SX.1 := by decide
theorem sx_7 : SX.2 7 = .inr (0, 24) := rfl
theorem kx_8 : 8 < SX.1 := by decide
theorem sx_8 : SX.2 8 = .inr (0, 24) := rfl
theorem kx_9 : 9 < SX.1 := by decide
theorem sx_9 : SX.2 9 = .inl (2, [some 10, some 11, some 12, some 13, none, none, none, none, none, none]) := rfl
theorem kx_10 : 10 < SX.1 := by decide
theorem sx_10 : SX.2 10 = .inr (0, 24) := rfl
theorem kx_11 : 11 < SX.1 := by decide
theorem sx_11 : SX.2 11 = .inr (0, 24) := rfl
theorem kx_12 : 12 < SX.1 := by decide
theorem sx_12 : SX.2 12 = .inr (0, 24) := rfl
theorem kx_13 : 13 < SX.1 := by decide
theorem sx_13 : SX.2 13 = .inr (0, 24) := rfl
theorem kx_14 : 14 < SX.1 := by decide
theorem sx_14 : SX.2 14 = .inl (2, [some 15, some 16, some 17, some 18, none, none, none, none, none, none]) := rfl
theorem kx_15 : 15 < SX.1 := by decide
theorem sx_15 : SX.2 15 = .inr (0, 24) := rfl
theorem kx_16 : 16 < SX.1 := by decide
theorem sx_16 : SX.2 16 = .inr (0, 24) := rfl
theorem kx_17 : 17 < SX.1 := by decide
theorem sx_17 : SX.2 17 = .inr (0, 24) := rfl
theorem kx_18 : 18 < SX.1 := by decide
theorem sx_18 : SX.2 18 = .inr (0, 24) := rfl
theorem kx_19 : 19 < SX.1 := by decide
theorem sx_19 : SX.2 19 = .inl (3, [some 3, some 20]) := rfl
theorem kx_20 : 20 < SX.1 := by decide
theorem sx_20 : SX.2 20 = .inl (2, [some 21, some 22, some 23, some 24, none, none, none, none, none, none]) := rfl
theorem kx_21 : 21 < SX.1 := by decide
theorem sx_21 : SX.2 21 = .inr (0, 24) := rfl
theorem kx_22 : 22 < SX.1 := by decide
theorem sx_22 : SX.2 22 = .inr (0, 24) := rfl
theorem kx_23 : 23 < SX.1 := by decide
theorem sx_23 : SX.2 23 = .inr (0, 24) := rfl
theorem kx_24 : 24 < SX.1 := by decide
theorem sx_24 : SX.2 24 = .inr (0, 24) := rfl
theorem kx_25 : 25 < SX.1 := by decide
theorem sx_25 : SX.2 25 = .inl (1, [some 3, some 26, some 27, some 28, some 29, some 30, some 31, none, none]) := rfl
theorem kx_26 : 26 < SX.1 := by decide
theorem sx_26 : SX.2 26 = .inr (0, 240) := rfl
theorem kx_27 : 27 < SX.1 := by decide
theorem sx_27 : SX.2 27 = .inr (0, 240) := rfl
theorem kx_28 : 28 < SX.1 := by decide
theorem sx_28 : SX.2 28 = .inr (0, 16) := rfl
theorem kx_29 : 29 < SX.1 := by decide
theorem sx_29 : SX.2 29 = .inr (0, 16) := rfl
theorem kx_30 : 30 < SX.1 := by decide
theorem sx_30 : SX.2 30 = .inr (0, 16) := rfl
theorem kx_31 : 31 < SX.1 := by decide
theorem sx_31 : SX.2 31 = .inr (0, 16) := rfl
theorem kx_32 : 32 < SX.1 := by decide
theorem sx_32 : SX.2 32 = .inl (1, [some 3, some 33, some 34, some 35, some 36, some 37, some 38, none, none]) := rfl
theorem kx_33 : 33 < SX.1 := by decide
theorem sx_33 : SX.2 33 = .inr (0, 240) := rfl
theorem kx_34 : 34 < SX.1 := by decide
theorem sx_34 : SX.2 34 = .inr (0, 240) := rfl
theorem kx_35 : 35 < SX.1 := by decide
theorem sx_35 : SX.2 35 = .inr (0, 16) := rfl
theorem kx_36 : 36 < SX.1 := by decide
theorem sx_36 : SX.2 36 = .inr (0, 16) := rfl
theorem kx_37 : 37 < SX.1 := by decide
theorem sx_37 : SX.2 37 = .inr (0, 16) := rfl
theorem kx_38 : 38 < SX.1 := by decide
theorem sx_38 : SX.2 38 = .inr (0, 16) := rfl
theorem kx_39 : 39 < SX.1 := by decide
theorem sx_39 : SX.2 39 = .inl (0, [some 40]) := rfl
theorem kx_40 : 40 < SX.1 := by decide
theorem sx_40 : SX.2 40 = .inl (5, [some 25, some 41, none, none, some 1000, none, none]) := rfl
theorem kx_41 : 41 < SX.1 := by decide
theorem sx_41 : SX.2 41 = .inr (0, 64) := rfl
theorem kx_42 : 42 < SX.1 := by decide
theorem sx_42 : SX.2 42 = .inl (9, [some 3, some 43, some 44, some 45, some 46, some 47, some 48, none, none]) := rfl
theorem kx_43 : 43 < SX.1 := by decide
theorem sx_43 : SX.2 43 = .inr (0, 64) := rfl
theorem kx_44 : 44 < SX.1 := by decide
theorem sx_44 : SX.2 44 = .inr (0, 64) := rfl
theorem kx_45 : 45 < SX.1 := by decide
theorem sx_45 : SX.2 45 = .inr (0, 2) := rfl
theorem kx_46 : 46 < SX.1 := by decide
theorem sx_46 : SX.2 46 = .inr (0, 2) := rfl
theorem kx_47 : 47 < SX.1 := by decide
theorem sx_47 : SX.2 47 = .inr (0, 2) := rfl
theorem kx_48 : 48 < SX.1 := by decide
theorem sx_48 : SX.2 48 = .inr (0, 8) := rfl
theorem kx_49 : 49 < SX.1 := by decide
theorem sx_49 : SX.2 49 = .inl (10, [some 1, some 50, some 51, some 52, some 53]) := rfl
theorem kx_50 : 50 < SX.1 := by decide
theorem sx_50 : SX.2 50 = .inr (0, 16) := rfl
theorem kx_51 : 51 < SX.1 := by decide
theorem sx_51 : SX.2 51 = .inr (0, 16) := rfl
theorem kx_52 : 52 < SX.1 := by decide
theorem sx_52 : SX.2 52 = .inr (0, 16) := rfl
theorem kx_53 : 53 < SX.1 := by decide
theorem sx_53 : SX.2 53 = .inr (0, 176) := rfl
theorem kx_54 : 54 < SX.1 := by decide
theorem sx_54 : SX.2 54 = .inl (7, [some 1, some 55]) := rfl
theorem kx_55 : 55 < SX.1 := by decide
theorem sx_55 : SX.2 55 = .inr (1, 48) := rfl
theorem kx_56 : 56 < SX.1 := by decide
theorem sx_56 : SX.2 56 = .inl (6, [some 1]) := rfl
def shM : Nat → Sh := fun k => match k with
  | 0 => .inl (12, [some 1, some 2, some 3, some 4, some 5, none, some 6, none, none, none, none, none, none, none, none, none, none, some 7, some 8, some 9, some 10, some 11, some 12, some 13, some 14, some 15, some 16, some 17, some 18, some 19, some 20, some 21, some 22, some 23, none, none, some 24, some 25, some 26, some 27, some 28, some 29, some 30, some 31, some 32, none, none, none, none, some 33, some 34, some 35, some 36, none, none])
  | 1 => .inr (0, 99)
  | 2 => .inr (0, 99)
  | 3 => .inr (0, 99)
  | 4 => .inr (0, 24)
  | 5 => .inr (0, 24)
  | 6 => .inr (2, 260)
  | 7 => .inr (0, 260)
  | 8 => .inr (0, 260)
  | 9 => .inr (0, 16)
  | 10 => .inr (0, 16)
  | 11 => .inr (0, 16)
  | 12 => .inr (0, 16)
  | 13 => .inr (0, 260)
  | 14 => .inr (0, 16)
  | 15 => .inr (0, 16)
  | 16 => .inr (0, 16)
  | 17 => .inr (0, 16)
  | 18 => .inr (0, 260)
  | 19 => .inr (0, 9)
  | 20 => .inr (0, 24)
  | 21 => .inr (0, 24)
  | 22 => .inr (0, 24)
  | 23 => .inr (0, 24)
  | 24 => .inr (0, 12)
  | 25 => .inr (0, 4096)
  | 26 => .inr (0, 64)
  | 27 => .inr (0, 2)
  | 28 => .inr (0, 2)
  | 29 => .inr (0, 2)
  | 30 => .inr (0, 8)
  | 31 => .inr (0, 8)
  | 32 => .inr (0, 64)
  | 33 => .inr (0, 16)
  | 34 => .inr (0, 65536)
  | 35 => .inr (0, 8)
  | _ => .inr (0, 256)
def SM : SY := (37, shM)
theorem km_0 : 0 < SM.1 := by decide
theorem sm_0 : SM.2 0 = .inl (12, [some 1, some 2, some 3, some 4, some 5, none, some 6, none, none, none, none, none, none, none, none, none, none, some 7, some 8, some 9, some 10, some 11, some 12, some 13, some 14, some 15, some 16, some 17, some 18, some 19, some 20, some 21, some 22, some 23, none, none, some 24, some 25, some 26, some 27, some 28, some 29, some 30, some 31, some 32, none, none, none, none, some 33, some 34, some 35, some 36, none, none]) := rfl
theorem km_1 : 1 < SM.1 := by decide
theorem sm_1 : SM.2 1 = .inr (0, 99) := rfl
theorem km_2 : 2 < SM.1 := by decide
theorem sm_2 : SM.2 2 = .inr (0, 99) := rfl
theorem km_3 : 3 < SM.1 := by decide
theorem sm_3 : SM.2 3 = .inr (0, 99) := rfl
theorem km_4 : 4 < SM.1 := by decide
theorem sm_4 : SM.2 4 = .inr (0, 24) := rfl
theorem km_5 : 5 < SM.1 := by decide
theorem sm_5 : SM.2 5 = .inr (0, 24) := rfl
theorem km_6 : 6 < SM.1 := by decide
theorem sm_6 : SM.2 6 = .inr (2, 260) := rfl
theorem km_7 : 7 < SM.1 := by decide
theorem sm_7 : SM.2 7 = .inr (0, 260) := rfl
theorem km_8 : 8 < SM.1 := by decide
theorem sm_8 : SM.2 8 = .inr (0, 260) := rfl
theorem km_9 : 9 < SM.1 := by decide
theorem sm_9 : SM.2 9 = .inr (0, 16) := rfl
theorem km_10 : 10 < SM.1 := by decide
theorem sm_10 : SM.2 10 = .inr (0, 16) := rfl
theorem km_11 : 11 < SM.1 := by decide
theorem sm_11 : SM.2 11 = .inr (0, 16) := rfl
theorem km_12 : 12 < SM.1 := by decide
theorem sm_12 : SM.2 12 = .inr (0, 16) := rfl
theorem km_13 : 13 < SM.1 := by decide
theorem sm_13 : SM.2 13 = .inr (0, 260) := rfl
theorem km_14 : 14 < SM.1 := by decide
theorem sm_14 : SM.2 14 = .inr (0, 16) := rfl
theorem km_15 : 15 < SM.1 := by decide
theorem sm_15 : SM.2 15 = .inr (0, 16) := rfl
theorem km_16 : 16 < SM.1 := by decide
theorem sm_16 : SM.2 16 = .inr (0, 16) := rfl
theorem km_17 : 17 < SM.1 := by decide
theorem sm_17 : SM.2 17 = .inr (0, 16) := rfl
theorem km_18 : 18 < SM.1 := by decide
theorem sm_18 : SM.2 18 = .inr (0, 260) := rfl
theorem km_19 : 19 < SM.1 := by decide
theorem sm_19 : SM.2 19 = .inr (0, 9) := rfl
theorem km_20 : 20 < SM.1 := by decide
theorem sm_20 : SM.2 20 = .inr (0, 24) := rfl
theorem km_21 : 21 < SM.1 := by decide
theorem sm_21 : SM.2 21 = .inr (0, 24) := rfl
theorem km_22 : 22 < SM.1 := by decide
theorem sm_22 : SM.2 22 = .inr (0, 24) := rfl
theorem km_23 : 23 < SM.1 := by decide
theorem sm_23 : SM.2 23 = .inr (0, 24) := rfl
theorem km_24 : 24 < SM.1 := by decide
theorem sm_24 : SM.2 24 = .inr (0, 12) := rfl
theorem km_25 : 25 < SM.1 := by decide
theorem sm_25 : SM.2 25 = .inr (0, 4096) := rfl
theorem km_26 : 26 < SM.1 := by decide
theorem sm_26 : SM.2 26 = .inr (0, 64) := rfl
theorem km_27 : 27 < SM.1 := by decide
theorem sm_27 : SM.2 27 = .inr (0, 2) := rfl
theorem km_28 : 28 < SM.1 := by decide
theorem sm_28 : SM.2 28 = .inr (0, 2) := rfl
theorem km_29 : 29 < SM.1 := by decide
theorem sm_29 : SM.2 29 = .inr (0, 2) := rfl
theorem km_30 : 30 < SM.1 := by decide
theorem sm_30 : SM.2 30 = .inr (0, 8) := rfl
theorem km_31 : 31 < SM.1 := by decide
theorem sm_31 : SM.2 31 = .inr (0, 8) := rfl
theorem km_32 : 32 < SM.1 := by decide
theorem sm_32 : SM.2 32 = .inr (0, 64) := rfl
theorem km_33 : 33 < SM.1 := by decide
theorem sm_33 : SM.2 33 = .inr (0, 16) := rfl
theorem km_34 : 34 < SM.1 := by decide
theorem sm_34 : SM.2 34 = .inr (0, 65536) := rfl
theorem km_35 : 35 < SM.1 := by decide
theorem sm_35 : SM.2 35 = .inr (0, 8) := rfl
theorem km_36 : 36 < SM.1 := by decide
theorem sm_36 : SM.2 36 = .inr (0, 256) := rfl
theorem kP {P : Nat} (h : isP P) : P < SX.1 := by rcases h with rfl | rfl | rfl | rfl <;> decide
theorem sP {P : Nat} (h : isP P) : SX.2 P = .inl (2, [some (P + 1), some (P + 2), some (P + 3), some (P + 4), none, none, none, none, none, none]) := by rcases h with rfl | rfl | rfl | rfl <;> rfl
theorem lP {P : Nat} (h : isP P) : P < 2 ^ 31 := by rcases h with rfl | rfl | rfl | rfl <;> decide
theorem kPa1 {P : Nat} (h : isP P) : P + 1 < SX.1 := by rcases h with rfl | rfl | rfl | rfl <;> decide
theorem sPa1 {P : Nat} (h : isP P) : SX.2 (P + 1) = .inr (0, 24) := by rcases h with rfl | rfl | rfl | rfl <;> rfl
theorem qP1 {P : Nat} (h : isP P) : (P + 1 == 1000) = false := by rcases h with rfl | rfl | rfl | rfl <;> rfl
theorem kPa2 {P : Nat} (h : isP P) : P + 2 < SX.1 := by rcases h with rfl | rfl | rfl | rfl <;> decide
theorem sPa2 {P : Nat} (h : isP P) : SX.2 (P + 2) = .inr (0, 24) := by rcases h with rfl | rfl | rfl | rfl <;> rfl
theorem qP2 {P : Nat} (h : isP P) : (P + 2 == 1000) = false := by rcases h with rfl | rfl | rfl | rfl <;> rfl
theorem kPa3 {P : Nat} (h : isP P) : P + 3 < SX.1 := by rcases h with rfl | rfl | rfl | rfl <;> decide
theorem sPa3 {P : Nat} (h : isP P) : SX.2 (P + 3) = .inr (0, 24) := by rcases h with rfl | rfl | rfl | rfl <;> rfl
theorem qP3 {P : Nat} (h : isP P) : (P + 3 == 1000) = false := by rcases h with rfl | rfl | rfl | rfl <;> rfl
theorem kPa4 {P : Nat} (h : isP P) : P + 4 < SX.1 := by rcases h with rfl | rfl | rfl | rfl <;> decide
theorem sPa4 {P : Nat} (h : isP P) : SX.2 (P + 4) = .inr (0, 24) := by rcases h with rfl | rfl | rfl | rfl <;> rfl
theorem qP4 {P : Nat} (h : isP P) : (P + 4 == 1000) = false := by rcases h with rfl | rfl | rfl | rfl <;> rfl
theorem isP_4 : isP 4 := by decide
theorem isP_9 : isP 9 := by decide
theorem isP_14 : isP 14 := by decide
theorem isP_20 : isP 20 := by decide
theorem cl_0 : ∃ T N, clA[0]? = some ("PutOffWicks$Almanac", T, N) := ⟨_, _, rfl⟩
theorem cl_1 : ∃ T N, clA[1]? = some ("PutOffWicks$Law", T, N) := ⟨_, _, rfl⟩
theorem cl_2 : ∃ T N, clA[2]? = some ("PutOffWicks$Parish", T, N) := ⟨_, _, rfl⟩
theorem cl_3 : ∃ T N, clA[3]? = some ("PutOffWicks$ParishReader", T, N) := ⟨_, _, rfl⟩
theorem cl_4 : ∃ T N, clA[4]? = some ("PutOffWicks$Reading", T, N) := ⟨_, _, rfl⟩
theorem cl_5 : ∃ T N, clA[5]? = some ("PutOffWicks$Reckoner", T, N) := ⟨_, _, rfl⟩
theorem cl_6 : ∃ T N, clA[6]? = some ("PutOffWicks$Rows", T, N) := ⟨_, _, rfl⟩
theorem cl_7 : ∃ T N, clA[7]? = some ("PutOffWicks$Shore", T, N) := ⟨_, _, rfl⟩
theorem cl_8 : ∃ T N, clA[8]? = some ("PutOffWicks$Tape", T, N) := ⟨_, _, rfl⟩
theorem cl_9 : ∃ T N, clA[9]? = some ("PutOffWicks$Twist", T, N) := ⟨_, _, rfl⟩
theorem cl_10 : ∃ T N, clA[10]? = some ("PutOffWicks$Waits", T, N) := ⟨_, _, rfl⟩
theorem cl_11 : ∃ T N, clA[11]? = some ("PutOffWicks", T, N) := ⟨_, _, rfl⟩
theorem cl_12 : ∃ T N, clA[12]? = some ("PutOffWicksModel", T, N) := ⟨_, _, rfl⟩
def m_Almanac_pass : MI := (⟨"PutOffWicks$Almanac", "pass", "(LPutOffWicks$Parish;I)I"⟩, prog_2_method_2_code, 6, (some .int))
theorem mv_Almanac_pass : MV m_Almanac_pass 2 := ⟨ch_of ch0_ok 0 rfl, ch_of ch0_ok 1 rfl, ch_of ch0_ok 2 rfl, cd_0, ⟨by decide +kernel, by decide +kernel, by decide +kernel⟩⟩
def m_Almanac_passOver : MI := (⟨"PutOffWicks$Almanac", "passOver", "(LPutOffWicks$Parish;I)V"⟩, prog_2_method_3_code, 7, none)
theorem mv_Almanac_passOver : MV m_Almanac_passOver 2 := ⟨ch_of ch0_ok 3 rfl, ch_of ch0_ok 4 rfl, ch_of ch0_ok 2 rfl, cd_1, ⟨by decide +kernel, by decide +kernel, by decide +kernel⟩⟩
def m_JA_fillI : MI := (⟨"java/util/Arrays", "fill", "([II)V"⟩, prog_19_method_103_code, 4, none)
theorem mt_JA_fillI : MT m_JA_fillI 2 := ⟨ch_of ch0_ok 5 rfl, ch_of ch0_ok 6 rfl, cd_2, ⟨by decide +kernel, by decide +kernel, by decide +kernel⟩⟩
def m_JA_fillJ : MI := (⟨"java/util/Arrays", "fill", "([JJ)V"⟩, prog_19_method_101_code, 5, none)
theorem mt_JA_fillJ : MT m_JA_fillJ 2 := ⟨ch_of ch0_ok 7 rfl, ch_of ch0_ok 6 rfl, cd_3, ⟨by decide +kernel, by decide +kernel, by decide +kernel⟩⟩
def m_JI_bitCount : MI := (⟨"java/lang/Integer", "bitCount", "(I)I"⟩, prog_15_method_49_code, 1, (some .int))
theorem mt_JI_bitCount : MT m_JI_bitCount 1 := ⟨ch_of ch0_ok 8 rfl, ch_of ch0_ok 9 rfl, cd_4, ⟨by decide +kernel, by decide +kernel, by decide +kernel⟩⟩
def m_JL_bitCount : MI := (⟨"java/lang/Long", "bitCount", "(J)I"⟩, prog_16_method_50_code, 2, (some .int))
theorem mt_JL_bitCount : MT m_JL_bitCount 1 := ⟨ch_of ch0_ok 10 rfl, ch_of ch0_ok 11 rfl, cd_5, ⟨by decide +kernel, by decide +kernel, by decide +kernel⟩⟩
def m_JM_abs : MI := (⟨"java/lang/Math", "abs", "(I)I"⟩, prog_17_method_59_code, 1, (some .int))
theorem mt_JM_abs : MT m_JM_abs 1 := ⟨ch_of ch0_ok 12 rfl, ch_of ch0_ok 13 rfl, cd_6, ⟨by decide +kernel, by decide +kernel, by decide +kernel⟩⟩
def m_JM_max : MI := (⟨"java/lang/Math", "max", "(II)I"⟩, prog_17_method_65_code, 2, (some .int))
theorem mt_JM_max : MT m_JM_max 2 := ⟨ch_of ch0_ok 14 rfl, ch_of ch0_ok 13 rfl, cd_7, ⟨by decide +kernel, by decide +kernel, by decide +kernel⟩⟩
def m_JM_min : MI := (⟨"java/lang/Math", "min", "(II)I"⟩, prog_17_method_69_code, 2, (some .int))
theorem mt_JM_min : MT m_JM_min 2 := ⟨ch_of ch0_ok 15 rfl, ch_of ch0_ok 13 rfl, cd_8, ⟨by decide +kernel, by decide +kernel, by decide +kernel⟩⟩
def m_Law_add : MI := (⟨"PutOffWicks$Law", "add", "(II)I"⟩, prog_3_method_10_code, 3, (some .int))
theorem mv_Law_add : MV m_Law_add 2 := ⟨ch_of ch0_ok 16 rfl, ch_of ch0_ok 17 rfl, ch_of ch0_ok 18 rfl, cd_9, ⟨by decide +kernel, by decide +kernel, by decide +kernel⟩⟩
def m_Law_copyFrom : MI := (⟨"PutOffWicks$Law", "copyFrom", "(LPutOffWicks$Law;)V"⟩, prog_3_method_2_code, 2, none)
theorem mv_Law_copyFrom : MV m_Law_copyFrom 1 := ⟨ch_of ch0_ok 19 rfl, ch_of ch0_ok 20 rfl, ch_of ch0_ok 18 rfl, cd_10, ⟨by decide +kernel, by decide +kernel, by decide +kernel⟩⟩
def m_Law_isFact : MI := (⟨"PutOffWicks$Law", "isFact", "(I)Z"⟩, prog_3_method_9_code, 1, (some .boolean))
theorem mt_Law_isFact : MT m_Law_isFact 1 := ⟨ch_of ch0_ok 21 rfl, ch_of ch0_ok 18 rfl, cd_11, ⟨by decide +kernel, by decide +kernel, by decide +kernel⟩⟩
def m_Law_land : MI := (⟨"PutOffWicks$Law", "land", "(I)V"⟩, prog_3_method_11_code, 2, none)
theorem mv_Law_land : MV m_Law_land 1 := ⟨ch_of ch0_ok 22 rfl, ch_of ch0_ok 23 rfl, ch_of ch0_ok 18 rfl, cd_12, ⟨by decide +kernel, by decide +kernel, by decide +kernel⟩⟩
def m_Law_opens : MI := (⟨"PutOffWicks$Law", "opens", "(I)Z"⟩, prog_3_method_8_code, 2, (some .boolean))
theorem mv_Law_opens : MV m_Law_opens 1 := ⟨ch_of ch0_ok 24 rfl, ch_of ch0_ok 25 rfl, ch_of ch0_ok 18 rfl, cd_13, ⟨by decide +kernel, by decide +kernel, by decide +kernel⟩⟩
def m_Law_read : MI := (⟨"PutOffWicks$Law", "read", "()I"⟩, prog_3_method_3_code, 4, (some .int))
theorem mv_Law_read : MV m_Law_read 0 := ⟨ch_of ch0_ok 26 rfl, ch_of ch0_ok 27 rfl, ch_of ch0_ok 18 rfl, cd_14, ⟨by decide +kernel, by decide +kernel, by decide +kernel⟩⟩
def m_Law_readCondition : MI := (⟨"PutOffWicks$Law", "readCondition", "(I)V"⟩, prog_3_method_4_code, 6, none)
theorem mv_Law_readCondition : MV m_Law_readCondition 1 := ⟨ch_of ch0_ok 28 rfl, ch_of ch0_ok 29 rfl, ch_of ch0_ok 18 rfl, cd_15, ⟨by decide +kernel, by decide +kernel, by decide +kernel⟩⟩
def m_Law_readFactor : MI := (⟨"PutOffWicks$Law", "readFactor", "(I)V"⟩, prog_3_method_7_code, 3, none)
theorem mv_Law_readFactor : MV m_Law_readFactor 1 := ⟨ch_of ch0_ok 30 rfl, ch_of ch0_ok 31 rfl, ch_of ch0_ok 18 rfl, cd_16, ⟨by decide +kernel, by decide +kernel, by decide +kernel⟩⟩
def m_Law_readTest : MI := (⟨"PutOffWicks$Law", "readTest", "(I)V"⟩, prog_3_method_5_code, 4, none)
theorem mv_Law_readTest : MV m_Law_readTest 1 := ⟨ch_of ch0_ok 32 rfl, ch_of ch0_ok 33 rfl, ch_of ch0_ok 18 rfl, cd_17, ⟨by decide +kernel, by decide +kernel, by decide +kernel⟩⟩
def m_Law_readValue : MI := (⟨"PutOffWicks$Law", "readValue", "(I)V"⟩, prog_3_method_6_code, 9, none)
theorem mv_Law_readValue : MV m_Law_readValue 1 := ⟨ch_of ch0_ok 34 rfl, ch_of ch0_ok 35 rfl, ch_of ch0_ok 18 rfl, cd_18, ⟨by decide +kernel, by decide +kernel, by decide +kernel⟩⟩
def m_Mo_areHome : MI := (⟨"PutOffWicksModel", "areHome", "(I)Z"⟩, prog_14_method_78_code, 3, (some .boolean))
theorem mv_Mo_areHome : MV m_Mo_areHome 1 := ⟨ch_of ch0_ok 36 rfl, ch_of ch0_ok 37 rfl, ch_of ch0_ok 38 rfl, cd_19, ⟨by decide +kernel, by decide +kernel, by decide +kernel⟩⟩
def m_Mo_beginsText : MI := (⟨"PutOffWicksModel", "beginsText", "(I)V"⟩, prog_14_method_35_code, 2, none)
theorem mv_Mo_beginsText : MV m_Mo_beginsText 1 := ⟨ch_of ch0_ok 39 rfl, ch_of ch0_ok 40 rfl, ch_of ch0_ok 38 rfl, cd_20, ⟨by decide +kernel, by decide +kernel, by decide +kernel⟩⟩
def m_Mo_bits : MI := (⟨"PutOffWicksModel", "bits", "(I)I"⟩, prog_14_method_7_code, 3, (some .int))
theorem mt_Mo_bits : MT m_Mo_bits 1 := ⟨ch_of ch0_ok 41 rfl, ch_of ch0_ok 38 rfl, cd_21, ⟨by decide +kernel, by decide +kernel, by decide +kernel⟩⟩
def m_Mo_brightOf : MI := (⟨"PutOffWicksModel", "brightOf", "(I)I"⟩, prog_14_method_97_code, 4, (some .int))
theorem mv_Mo_brightOf : MV m_Mo_brightOf 1 := ⟨ch_of ch0_ok 42 rfl, ch_of ch0_ok 43 rfl, ch_of ch0_ok 38 rfl, cd_22, ⟨by decide +kernel, by decide +kernel, by decide +kernel⟩⟩
def m_Mo_brightest : MI := (⟨"PutOffWicksModel", "brightest", "(III)I"⟩, prog_14_method_98_code, 7, (some .int))
theorem mv_Mo_brightest : MV m_Mo_brightest 3 := ⟨ch_of ch0_ok 44 rfl, ch_of ch0_ok 45 rfl, ch_of ch0_ok 38 rfl, cd_23, ⟨by decide +kernel, by decide +kernel, by decide +kernel⟩⟩
def m_Mo_burns : MI := (⟨"PutOffWicksModel", "burns", "(II)V"⟩, prog_14_method_48_code, 3, none)
theorem mv_Mo_burns : MV m_Mo_burns 2 := ⟨ch_of ch0_ok 46 rfl, ch_of ch0_ok 47 rfl, ch_of ch0_ok 38 rfl, cd_24, ⟨by decide +kernel, by decide +kernel, by decide +kernel⟩⟩
def m_Mo_byLaw : MI := (⟨"PutOffWicksModel", "byLaw", "(III)I"⟩, prog_14_method_39_code, 6, (some .int))
theorem mv_Mo_byLaw : MV m_Mo_byLaw 3 := ⟨ch_of ch0_ok 48 rfl, ch_of ch0_ok 49 rfl, ch_of ch0_ok 38 rfl, cd_25, ⟨by decide +kernel, by decide +kernel, by decide +kernel⟩⟩
def m_Mo_byWhen : MI := (⟨"PutOffWicksModel", "byWhen", "(II)I"⟩, prog_14_method_58_code, 5, (some .int))
theorem mv_Mo_byWhen : MV m_Mo_byWhen 2 := ⟨ch_of ch1_ok 0 rfl, ch_of ch1_ok 1 rfl, ch_of ch0_ok 38 rfl, cd_26, ⟨by decide +kernel, by decide +kernel, by decide +kernel⟩⟩
def m_Mo_chain : MI := (⟨"PutOffWicksModel", "chain", "(I)I"⟩, prog_14_method_63_code, 4, (some .int))
theorem mv_Mo_chain : MV m_Mo_chain 1 := ⟨ch_of ch1_ok 2 rfl, ch_of ch1_ok 3 rfl, ch_of ch0_ok 38 rfl, cd_27, ⟨by decide +kernel, by decide +kernel, by decide +kernel⟩⟩
def m_Mo_changesRow : MI := (⟨"PutOffWicksModel", "changesRow", "(II)V"⟩, prog_14_method_84_code, 4, none)
theorem mv_Mo_changesRow : MV m_Mo_changesRow 2 := ⟨ch_of ch1_ok 4 rfl, ch_of ch1_ok 5 rfl, ch_of ch0_ok 38 rfl, cd_28, ⟨by decide +kernel, by decide +kernel, by decide +kernel⟩⟩
def m_Mo_check : MI := (⟨"PutOffWicksModel", "check", "(I)I"⟩, prog_14_method_105_code, 3, (some .int))
theorem mv_Mo_check : MV m_Mo_check 1 := ⟨ch_of ch1_ok 6 rfl, ch_of ch1_ok 7 rfl, ch_of ch0_ok 38 rfl, cd_29, ⟨by decide +kernel, by decide +kernel, by decide +kernel⟩⟩
def m_Mo_closesSums : MI := (⟨"PutOffWicksModel", "closesSums", "(Z)V"⟩, prog_14_method_25_code, 2, none)
theorem mv_Mo_closesSums : MV m_Mo_closesSums 1 := ⟨ch_of ch1_ok 8 rfl, ch_of ch1_ok 9 rfl, ch_of ch0_ok 38 rfl, cd_30, ⟨by decide +kernel, by decide +kernel, by decide +kernel⟩⟩
def m_Mo_comesOut : MI := (⟨"PutOffWicksModel", "comesOut", "(I)I"⟩, prog_14_method_75_code, 3, (some .int))
theorem mv_Mo_comesOut : MV m_Mo_comesOut 1 := ⟨ch_of ch1_ok 10 rfl, ch_of ch1_ok 11 rfl, ch_of ch0_ok 38 rfl, cd_31, ⟨by decide +kernel, by decide +kernel, by decide +kernel⟩⟩
def m_Mo_copies : MI := (⟨"PutOffWicksModel", "copies", "([I[I)V"⟩, prog_14_method_8_code, 3, none)
theorem mt_Mo_copies : MT m_Mo_copies 2 := ⟨ch_of ch1_ok 12 rfl, ch_of ch0_ok 38 rfl, cd_32, ⟨by decide +kernel, by decide +kernel, by decide +kernel⟩⟩
def m_Mo_cord : MI := (⟨"PutOffWicksModel", "cord", "(II)I"⟩, prog_14_method_93_code, 7, (some .int))
theorem mv_Mo_cord : MV m_Mo_cord 2 := ⟨ch_of ch1_ok 13 rfl, ch_of ch1_ok 14 rfl, ch_of ch0_ok 38 rfl, cd_33, ⟨by decide +kernel, by decide +kernel, by decide +kernel⟩⟩
def m_Mo_count : MI := (⟨"PutOffWicksModel", "count", "(I)I"⟩, prog_14_method_107_code, 2, (some .int))
theorem mv_Mo_count : MV m_Mo_count 1 := ⟨ch_of ch1_ok 15 rfl, ch_of ch1_ok 16 rfl, ch_of ch0_ok 38 rfl, cd_34, ⟨by decide +kernel, by decide +kernel, by decide +kernel⟩⟩
def m_Mo_dark : MI := (⟨"PutOffWicksModel", "dark", "(I)I"⟩, prog_14_method_59_code, 4, (some .int))
theorem mv_Mo_dark : MV m_Mo_dark 1 := ⟨ch_of ch1_ok 17 rfl, ch_of ch1_ok 18 rfl, ch_of ch0_ok 38 rfl, cd_35, ⟨by decide +kernel, by decide +kernel, by decide +kernel⟩⟩
def m_Mo_dayGoes : MI := (⟨"PutOffWicksModel", "dayGoes", "()V"⟩, prog_14_method_52_code, 2, none)
theorem mv_Mo_dayGoes : MV m_Mo_dayGoes 0 := ⟨ch_of ch1_ok 19 rfl, ch_of ch1_ok 20 rfl, ch_of ch0_ok 38 rfl, cd_36, ⟨by decide +kernel, by decide +kernel, by decide +kernel⟩⟩
def m_Mo_days : MI := (⟨"PutOffWicksModel", "days", "(I)I"⟩, prog_14_method_54_code, 2, (some .int))
theorem mv_Mo_days : MV m_Mo_days 1 := ⟨ch_of ch1_ok 21 rfl, ch_of ch1_ok 22 rfl, ch_of ch0_ok 38 rfl, cd_37, ⟨by decide +kernel, by decide +kernel, by decide +kernel⟩⟩
def m_Mo_daysGo : MI := (⟨"PutOffWicksModel", "daysGo", "(I)V"⟩, prog_14_method_53_code, 3, none)
theorem mv_Mo_daysGo : MV m_Mo_daysGo 1 := ⟨ch_of ch1_ok 23 rfl, ch_of ch1_ok 24 rfl, ch_of ch0_ok 38 rfl, cd_38, ⟨by decide +kernel, by decide +kernel, by decide +kernel⟩⟩
def m_Mo_daysOf : MI := (⟨"PutOffWicksModel", "daysOf", "(I)I"⟩, prog_14_method_60_code, 4, (some .int))
theorem mv_Mo_daysOf : MV m_Mo_daysOf 1 := ⟨ch_of ch1_ok 25 rfl, ch_of ch1_ok 26 rfl, ch_of ch0_ok 38 rfl, cd_39, ⟨by decide +kernel, by decide +kernel, by decide +kernel⟩⟩
def m_Mo_draws : MI := (⟨"PutOffWicksModel", "draws", "()I"⟩, prog_14_method_44_code, 1, (some .int))
theorem mv_Mo_draws : MV m_Mo_draws 0 := ⟨ch_of ch1_ok 27 rfl, ch_of ch1_ok 28 rfl, ch_of ch0_ok 38 rfl, cd_40, ⟨by decide +kernel, by decide +kernel, by decide +kernel⟩⟩
def m_Mo_endsPiece : MI := (⟨"PutOffWicksModel", "endsPiece", "()V"⟩, prog_14_method_29_code, 1, none)
theorem mv_Mo_endsPiece : MV m_Mo_endsPiece 0 := ⟨ch_of ch1_ok 29 rfl, ch_of ch1_ok 30 rfl, ch_of ch0_ok 38 rfl, cd_41, ⟨by decide +kernel, by decide +kernel, by decide +kernel⟩⟩
def m_Mo_factOf : MI := (⟨"PutOffWicksModel", "factOf", "(I)I"⟩, prog_14_method_23_code, 1, (some .int))
theorem mt_Mo_factOf : MT m_Mo_factOf 1 := ⟨ch_of ch1_ok 31 rfl, ch_of ch0_ok 38 rfl, cd_42, ⟨by decide +kernel, by decide +kernel, by decide +kernel⟩⟩
def m_Mo_feed : MI := (⟨"PutOffWicksModel", "feed", "(IIIII)I"⟩, prog_14_method_13_code, 6, (some .int))
theorem mv_Mo_feed : MV m_Mo_feed 5 := ⟨ch_of ch1_ok 32 rfl, ch_of ch1_ok 33 rfl, ch_of ch0_ok 38 rfl, cd_43, ⟨by decide +kernel, by decide +kernel, by decide +kernel⟩⟩
def m_Mo_feels : MI := (⟨"PutOffWicksModel", "feels", "(I)V"⟩, prog_14_method_47_code, 2, none)
theorem mv_Mo_feels : MV m_Mo_feels 1 := ⟨ch_of ch1_ok 34 rfl, ch_of ch1_ok 35 rfl, ch_of ch0_ok 38 rfl, cd_44, ⟨by decide +kernel, by decide +kernel, by decide +kernel⟩⟩
def m_Mo_forEver : MI := (⟨"PutOffWicksModel", "forEver", "()I"⟩, prog_14_method_81_code, 4, (some .int))
theorem mv_Mo_forEver : MV m_Mo_forEver 0 := ⟨ch_of ch1_ok 36 rfl, ch_of ch1_ok 37 rfl, ch_of ch0_ok 38 rfl, cd_45, ⟨by decide +kernel, by decide +kernel, by decide +kernel⟩⟩
def m_Mo_forgiven : MI := (⟨"PutOffWicksModel", "forgiven", "(I)I"⟩, prog_14_method_101_code, 6, (some .int))
theorem mv_Mo_forgiven : MV m_Mo_forgiven 1 := ⟨ch_of ch1_ok 38 rfl, ch_of ch1_ok 39 rfl, ch_of ch0_ok 38 rfl, cd_46, ⟨by decide +kernel, by decide +kernel, by decide +kernel⟩⟩
def m_Mo_goesOn : MI := (⟨"PutOffWicksModel", "goesOn", "(I)V"⟩, prog_14_method_51_code, 7, none)
theorem mv_Mo_goesOn : MV m_Mo_goesOn 1 := ⟨ch_of ch1_ok 40 rfl, ch_of ch1_ok 41 rfl, ch_of ch0_ok 38 rfl, cd_47, ⟨by decide +kernel, by decide +kernel, by decide +kernel⟩⟩
def m_Mo_halves : MI := (⟨"PutOffWicksModel", "halves", "(II)I"⟩, prog_14_method_99_code, 8, (some .int))
theorem mv_Mo_halves : MV m_Mo_halves 2 := ⟨ch_of ch1_ok 42 rfl, ch_of ch1_ok 43 rfl, ch_of ch0_ok 38 rfl, cd_48, ⟨by decide +kernel, by decide +kernel, by decide +kernel⟩⟩
def m_Mo_has : MI := (⟨"PutOffWicksModel", "has", "(II)Z"⟩, prog_14_method_6_code, 2, (some .boolean))
theorem mt_Mo_has : MT m_Mo_has 2 := ⟨ch_of ch1_ok 44 rfl, ch_of ch0_ok 38 rfl, cd_49, ⟨by decide +kernel, by decide +kernel, by decide +kernel⟩⟩
def m_Mo_hasOpenSum : MI := (⟨"PutOffWicksModel", "hasOpenSum", "(I)Z"⟩, prog_14_method_27_code, 3, (some .boolean))
theorem mv_Mo_hasOpenSum : MV m_Mo_hasOpenSum 1 := ⟨ch_of ch1_ok 45 rfl, ch_of ch1_ok 46 rfl, ch_of ch0_ok 38 rfl, cd_50, ⟨by decide +kernel, by decide +kernel, by decide +kernel⟩⟩
def m_Mo_here : MI := (⟨"PutOffWicksModel", "here", "()I"⟩, prog_14_method_15_code, 1, (some .int))
theorem mv_Mo_here : MV m_Mo_here 0 := ⟨ch_of ch1_ok 47 rfl, ch_of ch1_ok 48 rfl, ch_of ch0_ok 38 rfl, cd_51, ⟨by decide +kernel, by decide +kernel, by decide +kernel⟩⟩
def m_Mo_holdsAny : MI := (⟨"PutOffWicksModel", "holdsAny", "(I)Z"⟩, prog_14_method_40_code, 3, (some .boolean))
theorem mv_Mo_holdsAny : MV m_Mo_holdsAny 1 := ⟨ch_of ch1_ok 49 rfl, ch_of ch2_ok 0 rfl, ch_of ch0_ok 38 rfl, cd_52, ⟨by decide +kernel, by decide +kernel, by decide +kernel⟩⟩
def m_Mo_hoursOfRow : MI := (⟨"PutOffWicksModel", "hoursOfRow", "(I)I"⟩, prog_14_method_86_code, 5, (some .int))
theorem mv_Mo_hoursOfRow : MV m_Mo_hoursOfRow 1 := ⟨ch_of ch2_ok 1 rfl, ch_of ch2_ok 2 rfl, ch_of ch0_ok 38 rfl, cd_53, ⟨by decide +kernel, by decide +kernel, by decide +kernel⟩⟩
def m_Mo_in : MI := (⟨"PutOffWicksModel", "in", "(III)Z"⟩, prog_14_method_2_code, 3, (some .boolean))
theorem mt_Mo_in : MT m_Mo_in 3 := ⟨ch_of ch2_ok 3 rfl, ch_of ch0_ok 38 rfl, cd_54, ⟨by decide +kernel, by decide +kernel, by decide +kernel⟩⟩
def m_Mo_isBetter : MI := (⟨"PutOffWicksModel", "isBetter", "(II)Z"⟩, prog_14_method_100_code, 5, (some .boolean))
theorem mv_Mo_isBetter : MV m_Mo_isBetter 2 := ⟨ch_of ch2_ok 4 rfl, ch_of ch2_ok 5 rfl, ch_of ch0_ok 38 rfl, cd_55, ⟨by decide +kernel, by decide +kernel, by decide +kernel⟩⟩
def m_Mo_isDigit : MI := (⟨"PutOffWicksModel", "isDigit", "()Z"⟩, prog_14_method_16_code, 1, (some .boolean))
theorem mv_Mo_isDigit : MV m_Mo_isDigit 0 := ⟨ch_of ch2_ok 6 rfl, ch_of ch2_ok 7 rfl, ch_of ch0_ok 38 rfl, cd_56, ⟨by decide +kernel, by decide +kernel, by decide +kernel⟩⟩
def m_Mo_isDone : MI := (⟨"PutOffWicksModel", "isDone", "(I)V"⟩, prog_14_method_49_code, 2, none)
theorem mv_Mo_isDone : MV m_Mo_isDone 1 := ⟨ch_of ch2_ok 8 rfl, ch_of ch2_ok 9 rfl, ch_of ch0_ok 38 rfl, cd_57, ⟨by decide +kernel, by decide +kernel, by decide +kernel⟩⟩
def m_Mo_isLeft : MI := (⟨"PutOffWicksModel", "isLeft", "(I)Z"⟩, prog_14_method_10_code, 2, (some .boolean))
theorem mv_Mo_isLeft : MV m_Mo_isLeft 1 := ⟨ch_of ch2_ok 10 rfl, ch_of ch2_ok 11 rfl, ch_of ch0_ok 38 rfl, cd_58, ⟨by decide +kernel, by decide +kernel, by decide +kernel⟩⟩
def m_Mo_isPutOff : MI := (⟨"PutOffWicksModel", "isPutOff", "(I)V"⟩, prog_14_method_50_code, 2, none)
theorem mv_Mo_isPutOff : MV m_Mo_isPutOff 1 := ⟨ch_of ch2_ok 12 rfl, ch_of ch2_ok 13 rfl, ch_of ch0_ok 38 rfl, cd_59, ⟨by decide +kernel, by decide +kernel, by decide +kernel⟩⟩
def m_Mo_isSeen : MI := (⟨"PutOffWicksModel", "isSeen", "(II)Z"⟩, prog_14_method_94_code, 3, (some .boolean))
theorem mv_Mo_isSeen : MV m_Mo_isSeen 2 := ⟨ch_of ch2_ok 14 rfl, ch_of ch2_ok 15 rfl, ch_of ch0_ok 38 rfl, cd_60, ⟨by decide +kernel, by decide +kernel, by decide +kernel⟩⟩
def m_Mo_isThing : MI := (⟨"PutOffWicksModel", "isThing", "(I)Z"⟩, prog_14_method_9_code, 2, (some .boolean))
theorem mv_Mo_isThing : MV m_Mo_isThing 1 := ⟨ch_of ch2_ok 16 rfl, ch_of ch2_ok 17 rfl, ch_of ch0_ok 38 rfl, cd_61, ⟨by decide +kernel, by decide +kernel, by decide +kernel⟩⟩
def m_Mo_jumps : MI := (⟨"PutOffWicksModel", "jumps", "(I)V"⟩, prog_14_method_31_code, 2, none)
theorem mv_Mo_jumps : MV m_Mo_jumps 1 := ⟨ch_of ch2_ok 18 rfl, ch_of ch2_ok 19 rfl, ch_of ch0_ok 38 rfl, cd_62, ⟨by decide +kernel, by decide +kernel, by decide +kernel⟩⟩
def m_Mo_keep : MI := (⟨"PutOffWicksModel", "keep", "()I"⟩, prog_14_method_103_code, 1, (some .int))
theorem mv_Mo_keep : MV m_Mo_keep 0 := ⟨ch_of ch2_ok 20 rfl, ch_of ch2_ok 21 rfl, ch_of ch0_ok 38 rfl, cd_63, ⟨by decide +kernel, by decide +kernel, by decide +kernel⟩⟩
def m_Mo_knowing : MI := (⟨"PutOffWicksModel", "knowing", "(II)I"⟩, prog_14_method_91_code, 5, (some .int))
theorem mv_Mo_knowing : MV m_Mo_knowing 2 := ⟨ch_of ch2_ok 22 rfl, ch_of ch2_ok 23 rfl, ch_of ch0_ok 38 rfl, cd_64, ⟨by decide +kernel, by decide +kernel, by decide +kernel⟩⟩
def m_Mo_lands : MI := (⟨"PutOffWicksModel", "lands", "(Z)V"⟩, prog_14_method_30_code, 3, none)
theorem mv_Mo_lands : MV m_Mo_lands 1 := ⟨ch_of ch2_ok 24 rfl, ch_of ch2_ok 25 rfl, ch_of ch0_ok 38 rfl, cd_65, ⟨by decide +kernel, by decide +kernel, by decide +kernel⟩⟩
def m_Mo_law : MI := (⟨"PutOffWicksModel", "law", "(I)I"⟩, prog_14_method_36_code, 4, (some .int))
theorem mv_Mo_law : MV m_Mo_law 1 := ⟨ch_of ch2_ok 26 rfl, ch_of ch2_ok 27 rfl, ch_of ch0_ok 38 rfl, cd_66, ⟨by decide +kernel, by decide +kernel, by decide +kernel⟩⟩
def m_Mo_leastLater : MI := (⟨"PutOffWicksModel", "leastLater", "(II)I"⟩, prog_14_method_89_code, 5, (some .int))
theorem mv_Mo_leastLater : MV m_Mo_leastLater 2 := ⟨ch_of ch2_ok 28 rfl, ch_of ch2_ok 29 rfl, ch_of ch0_ok 38 rfl, cd_67, ⟨by decide +kernel, by decide +kernel, by decide +kernel⟩⟩
def m_Mo_leftOf : MI := (⟨"PutOffWicksModel", "leftOf", "(I)I"⟩, prog_14_method_45_code, 4, (some .int))
theorem mv_Mo_leftOf : MV m_Mo_leftOf 1 := ⟨ch_of ch2_ok 30 rfl, ch_of ch2_ok 31 rfl, ch_of ch0_ok 38 rfl, cd_68, ⟨by decide +kernel, by decide +kernel, by decide +kernel⟩⟩
def m_Mo_light : MI := (⟨"PutOffWicksModel", "light", "(I)I"⟩, prog_14_method_68_code, 2, (some .int))
theorem mv_Mo_light : MV m_Mo_light 1 := ⟨ch_of ch2_ok 32 rfl, ch_of ch2_ok 33 rfl, ch_of ch0_ok 38 rfl, cd_69, ⟨by decide +kernel, by decide +kernel, by decide +kernel⟩⟩
def m_Mo_lightOf : MI := (⟨"PutOffWicksModel", "lightOf", "(I)I"⟩, prog_14_method_67_code, 4, (some .int))
theorem mv_Mo_lightOf : MV m_Mo_lightOf 1 := ⟨ch_of ch2_ok 34 rfl, ch_of ch2_ok 35 rfl, ch_of ch0_ok 38 rfl, cd_70, ⟨by decide +kernel, by decide +kernel, by decide +kernel⟩⟩
def m_Mo_lit : MI := (⟨"PutOffWicksModel", "lit", "(IZ)Z"⟩, prog_14_method_11_code, 3, (some .boolean))
theorem mv_Mo_lit : MV m_Mo_lit 2 := ⟨ch_of ch2_ok 36 rfl, ch_of ch2_ok 37 rfl, ch_of ch0_ok 38 rfl, cd_71, ⟨by decide +kernel, by decide +kernel, by decide +kernel⟩⟩
def m_Mo_max : MI := (⟨"PutOffWicksModel", "max", "(II)I"⟩, prog_14_method_4_code, 2, (some .int))
theorem mt_Mo_max : MT m_Mo_max 2 := ⟨ch_of ch2_ok 38 rfl, ch_of ch0_ok 38 rfl, cd_72, ⟨by decide +kernel, by decide +kernel, by decide +kernel⟩⟩
def m_Mo_median : MI := (⟨"PutOffWicksModel", "median", "()I"⟩, prog_14_method_70_code, 6, (some .int))
theorem mv_Mo_median : MV m_Mo_median 0 := ⟨ch_of ch2_ok 39 rfl, ch_of ch2_ok 40 rfl, ch_of ch0_ok 38 rfl, cd_73, ⟨by decide +kernel, by decide +kernel, by decide +kernel⟩⟩
def m_Mo_min : MI := (⟨"PutOffWicksModel", "min", "(II)I"⟩, prog_14_method_3_code, 2, (some .int))
theorem mt_Mo_min : MT m_Mo_min 2 := ⟨ch_of ch2_ok 41 rfl, ch_of ch0_ok 38 rfl, cd_74, ⟨by decide +kernel, by decide +kernel, by decide +kernel⟩⟩
def m_Mo_mustEnd : MI := (⟨"PutOffWicksModel", "mustEnd", "()I"⟩, prog_14_method_82_code, 4, (some .int))
theorem mv_Mo_mustEnd : MV m_Mo_mustEnd 0 := ⟨ch_of ch2_ok 42 rfl, ch_of ch2_ok 43 rfl, ch_of ch0_ok 38 rfl, cd_75, ⟨by decide +kernel, by decide +kernel, by decide +kernel⟩⟩
def m_Mo_nextRow : MI := (⟨"PutOffWicksModel", "nextRow", "(I)Z"⟩, prog_14_method_85_code, 6, (some .boolean))
theorem mv_Mo_nextRow : MV m_Mo_nextRow 1 := ⟨ch_of ch2_ok 44 rfl, ch_of ch2_ok 45 rfl, ch_of ch0_ok 38 rfl, cd_76, ⟨by decide +kernel, by decide +kernel, by decide +kernel⟩⟩
def m_Mo_night : MI := (⟨"PutOffWicksModel", "night", "(II)I"⟩, prog_14_method_88_code, 7, (some .int))
theorem mv_Mo_night : MV m_Mo_night 2 := ⟨ch_of ch2_ok 46 rfl, ch_of ch2_ok 47 rfl, ch_of ch0_ok 38 rfl, cd_77, ⟨by decide +kernel, by decide +kernel, by decide +kernel⟩⟩
def m_Mo_notes : MI := (⟨"PutOffWicksModel", "notes", "(II)V"⟩, prog_14_method_20_code, 3, none)
theorem mv_Mo_notes : MV m_Mo_notes 2 := ⟨ch_of ch2_ok 48 rfl, ch_of ch2_ok 49 rfl, ch_of ch0_ok 38 rfl, cd_78, ⟨by decide +kernel, by decide +kernel, by decide +kernel⟩⟩
def m_Mo_octet : MI := (⟨"PutOffWicksModel", "octet", "(I)I"⟩, prog_14_method_14_code, 2, (some .int))
theorem mv_Mo_octet : MV m_Mo_octet 1 := ⟨ch_of ch3_ok 0 rfl, ch_of ch3_ok 1 rfl, ch_of ch0_ok 38 rfl, cd_79, ⟨by decide +kernel, by decide +kernel, by decide +kernel⟩⟩
def m_Mo_oftenTill : MI := (⟨"PutOffWicksModel", "oftenTill", "(I)I"⟩, prog_14_method_79_code, 4, (some .int))
theorem mv_Mo_oftenTill : MV m_Mo_oftenTill 1 := ⟨ch_of ch3_ok 2 rfl, ch_of ch3_ok 3 rfl, ch_of ch0_ok 38 rfl, cd_80, ⟨by decide +kernel, by decide +kernel, by decide +kernel⟩⟩
def m_Mo_oldest : MI := (⟨"PutOffWicksModel", "oldest", "()I"⟩, prog_14_method_62_code, 3, (some .int))
theorem mv_Mo_oldest : MV m_Mo_oldest 0 := ⟨ch_of ch3_ok 4 rfl, ch_of ch3_ok 5 rfl, ch_of ch0_ok 38 rfl, cd_81, ⟨by decide +kernel, by decide +kernel, by decide +kernel⟩⟩
def m_Mo_opens : MI := (⟨"PutOffWicksModel", "opens", "(I)Z"⟩, prog_14_method_21_code, 2, (some .boolean))
theorem mv_Mo_opens : MV m_Mo_opens 1 := ⟨ch_of ch3_ok 6 rfl, ch_of ch3_ok 7 rfl, ch_of ch0_ok 38 rfl, cd_82, ⟨by decide +kernel, by decide +kernel, by decide +kernel⟩⟩
def m_Mo_orders : MI := (⟨"PutOffWicksModel", "orders", "()I"⟩, prog_14_method_65_code, 5, (some .int))
theorem mv_Mo_orders : MV m_Mo_orders 0 := ⟨ch_of ch3_ok 8 rfl, ch_of ch3_ok 9 rfl, ch_of ch0_ok 38 rfl, cd_83, ⟨by decide +kernel, by decide +kernel, by decide +kernel⟩⟩
def m_Mo_overs : MI := (⟨"PutOffWicksModel", "overs", "()I"⟩, prog_14_method_76_code, 3, (some .int))
theorem mv_Mo_overs : MV m_Mo_overs 0 := ⟨ch_of ch3_ok 10 rfl, ch_of ch3_ok 11 rfl, ch_of ch0_ok 38 rfl, cd_84, ⟨by decide +kernel, by decide +kernel, by decide +kernel⟩⟩
def m_Mo_parish : MI := (⟨"PutOffWicksModel", "parish", "(I)I"⟩, prog_14_method_43_code, 4, (some .int))
theorem mv_Mo_parish : MV m_Mo_parish 1 := ⟨ch_of ch3_ok 12 rfl, ch_of ch3_ok 13 rfl, ch_of ch0_ok 38 rfl, cd_85, ⟨by decide +kernel, by decide +kernel, by decide +kernel⟩⟩
def m_Mo_placeOf : MI := (⟨"PutOffWicksModel", "placeOf", "(II)I"⟩, prog_14_method_64_code, 4, (some .int))
theorem mv_Mo_placeOf : MV m_Mo_placeOf 2 := ⟨ch_of ch3_ok 14 rfl, ch_of ch3_ok 15 rfl, ch_of ch0_ok 38 rfl, cd_86, ⟨by decide +kernel, by decide +kernel, by decide +kernel⟩⟩
def m_Mo_pride : MI := (⟨"PutOffWicksModel", "pride", "(I)I"⟩, prog_14_method_61_code, 4, (some .int))
theorem mv_Mo_pride : MV m_Mo_pride 1 := ⟨ch_of ch3_ok 16 rfl, ch_of ch3_ok 17 rfl, ch_of ch0_ok 38 rfl, cd_87, ⟨by decide +kernel, by decide +kernel, by decide +kernel⟩⟩
def m_Mo_putsOff : MI := (⟨"PutOffWicksModel", "putsOff", "(IIZI)I"⟩, prog_14_method_92_code, 6, (some .int))
theorem mv_Mo_putsOff : MV m_Mo_putsOff 4 := ⟨ch_of ch3_ok 18 rfl, ch_of ch3_ok 19 rfl, ch_of ch0_ok 38 rfl, cd_88, ⟨by decide +kernel, by decide +kernel, by decide +kernel⟩⟩
def m_Mo_readsAmount : MI := (⟨"PutOffWicksModel", "readsAmount", "(I)Z"⟩, prog_14_method_41_code, 3, (some .boolean))
theorem mv_Mo_readsAmount : MV m_Mo_readsAmount 1 := ⟨ch_of ch3_ok 20 rfl, ch_of ch3_ok 21 rfl, ch_of ch0_ok 38 rfl, cd_89, ⟨by decide +kernel, by decide +kernel, by decide +kernel⟩⟩
def m_Mo_readsCompared : MI := (⟨"PutOffWicksModel", "readsCompared", "()Z"⟩, prog_14_method_32_code, 2, (some .boolean))
theorem mv_Mo_readsCompared : MV m_Mo_readsCompared 0 := ⟨ch_of ch3_ok 22 rfl, ch_of ch3_ok 23 rfl, ch_of ch0_ok 38 rfl, cd_90, ⟨by decide +kernel, by decide +kernel, by decide +kernel⟩⟩
def m_Mo_readsCondition : MI := (⟨"PutOffWicksModel", "readsCondition", "()Z"⟩, prog_14_method_33_code, 1, (some .boolean))
theorem mv_Mo_readsCondition : MV m_Mo_readsCondition 0 := ⟨ch_of ch3_ok 24 rfl, ch_of ch3_ok 25 rfl, ch_of ch0_ok 38 rfl, cd_91, ⟨by decide +kernel, by decide +kernel, by decide +kernel⟩⟩
def m_Mo_readsFactor : MI := (⟨"PutOffWicksModel", "readsFactor", "()Z"⟩, prog_14_method_26_code, 2, (some .boolean))
theorem mv_Mo_readsFactor : MV m_Mo_readsFactor 0 := ⟨ch_of ch3_ok 26 rfl, ch_of ch3_ok 27 rfl, ch_of ch0_ok 38 rfl, cd_92, ⟨by decide +kernel, by decide +kernel, by decide +kernel⟩⟩
def m_Mo_readsNumber : MI := (⟨"PutOffWicksModel", "readsNumber", "()Z"⟩, prog_14_method_19_code, 2, (some .boolean))
theorem mv_Mo_readsNumber : MV m_Mo_readsNumber 0 := ⟨ch_of ch3_ok 28 rfl, ch_of ch3_ok 29 rfl, ch_of ch0_ok 38 rfl, cd_93, ⟨by decide +kernel, by decide +kernel, by decide +kernel⟩⟩
def m_Mo_readsRule : MI := (⟨"PutOffWicksModel", "readsRule", "()Z"⟩, prog_14_method_34_code, 2, (some .boolean))
theorem mv_Mo_readsRule : MV m_Mo_readsRule 0 := ⟨ch_of ch3_ok 30 rfl, ch_of ch3_ok 31 rfl, ch_of ch0_ok 38 rfl, cd_94, ⟨by decide +kernel, by decide +kernel, by decide +kernel⟩⟩
def m_Mo_readsSum : MI := (⟨"PutOffWicksModel", "readsSum", "()Z"⟩, prog_14_method_28_code, 3, (some .boolean))
theorem mv_Mo_readsSum : MV m_Mo_readsSum 0 := ⟨ch_of ch3_ok 32 rfl, ch_of ch3_ok 33 rfl, ch_of ch0_ok 38 rfl, cd_95, ⟨by decide +kernel, by decide +kernel, by decide +kernel⟩⟩
def m_Mo_readsThing : MI := (⟨"PutOffWicksModel", "readsThing", "()Z"⟩, prog_14_method_42_code, 2, (some .boolean))
theorem mv_Mo_readsThing : MV m_Mo_readsThing 0 := ⟨ch_of ch3_ok 34 rfl, ch_of ch3_ok 35 rfl, ch_of ch0_ok 38 rfl, cd_96, ⟨by decide +kernel, by decide +kernel, by decide +kernel⟩⟩
def m_Mo_readsTimes : MI := (⟨"PutOffWicksModel", "readsTimes", "()V"⟩, prog_14_method_71_code, 1, none)
theorem mv_Mo_readsTimes : MV m_Mo_readsTimes 0 := ⟨ch_of ch3_ok 36 rfl, ch_of ch3_ok 37 rfl, ch_of ch0_ok 38 rfl, cd_97, ⟨by decide +kernel, by decide +kernel, by decide +kernel⟩⟩
def m_Mo_readsTurn : MI := (⟨"PutOffWicksModel", "readsTurn", "(I)Z"⟩, prog_14_method_73_code, 6, (some .boolean))
theorem mv_Mo_readsTurn : MV m_Mo_readsTurn 1 := ⟨ch_of ch3_ok 38 rfl, ch_of ch3_ok 39 rfl, ch_of ch0_ok 38 rfl, cd_98, ⟨by decide +kernel, by decide +kernel, by decide +kernel⟩⟩
def m_Mo_reckon : MI := (⟨"PutOffWicksModel", "reckon", "(III)I"⟩, prog_14_method_37_code, 3, (some .int))
theorem mt_Mo_reckon : MT m_Mo_reckon 3 := ⟨ch_of ch3_ok 40 rfl, ch_of ch0_ok 38 rfl, cd_99, ⟨by decide +kernel, by decide +kernel, by decide +kernel⟩⟩
def m_Mo_reckonsTo : MI := (⟨"PutOffWicksModel", "reckonsTo", "(II)I"⟩, prog_14_method_38_code, 8, (some .int))
theorem mv_Mo_reckonsTo : MV m_Mo_reckonsTo 2 := ⟨ch_of ch3_ok 41 rfl, ch_of ch3_ok 42 rfl, ch_of ch0_ok 38 rfl, cd_100, ⟨by decide +kernel, by decide +kernel, by decide +kernel⟩⟩
def m_Mo_repeats : MI := (⟨"PutOffWicksModel", "repeats", "(III)Z"⟩, prog_14_method_72_code, 6, (some .boolean))
theorem mv_Mo_repeats : MV m_Mo_repeats 3 := ⟨ch_of ch3_ok 43 rfl, ch_of ch3_ok 44 rfl, ch_of ch0_ok 38 rfl, cd_101, ⟨by decide +kernel, by decide +kernel, by decide +kernel⟩⟩
def m_Mo_seed : MI := (⟨"PutOffWicksModel", "seed", "(I)Z"⟩, prog_14_method_102_code, 2, (some .boolean))
theorem mv_Mo_seed : MV m_Mo_seed 1 := ⟨ch_of ch3_ok 45 rfl, ch_of ch3_ok 46 rfl, ch_of ch0_ok 38 rfl, cd_102, ⟨by decide +kernel, by decide +kernel, by decide +kernel⟩⟩
def m_Mo_seen : MI := (⟨"PutOffWicksModel", "seen", "(III)I"⟩, prog_14_method_96_code, 9, (some .int))
theorem mv_Mo_seen : MV m_Mo_seen 3 := ⟨ch_of ch3_ok 47 rfl, ch_of ch3_ok 48 rfl, ch_of ch0_ok 38 rfl, cd_103, ⟨by decide +kernel, by decide +kernel, by decide +kernel⟩⟩
def m_Mo_seenAt : MI := (⟨"PutOffWicksModel", "seenAt", "(II)I"⟩, prog_14_method_95_code, 5, (some .int))
theorem mv_Mo_seenAt : MV m_Mo_seenAt 2 := ⟨ch_of ch3_ok 49 rfl, ch_of ch4_ok 0 rfl, ch_of ch0_ok 38 rfl, cd_104, ⟨by decide +kernel, by decide +kernel, by decide +kernel⟩⟩
def m_Mo_setOf : MI := (⟨"PutOffWicksModel", "setOf", "(I)I"⟩, prog_14_method_55_code, 4, (some .int))
theorem mv_Mo_setOf : MV m_Mo_setOf 1 := ⟨ch_of ch4_ok 1 rfl, ch_of ch4_ok 2 rfl, ch_of ch0_ok 38 rfl, cd_105, ⟨by decide +kernel, by decide +kernel, by decide +kernel⟩⟩
def m_Mo_shortened : MI := (⟨"PutOffWicksModel", "shortened", "()I"⟩, prog_14_method_77_code, 4, (some .int))
theorem mv_Mo_shortened : MV m_Mo_shortened 0 := ⟨ch_of ch4_ok 3 rfl, ch_of ch4_ok 4 rfl, ch_of ch0_ok 38 rfl, cd_106, ⟨by decide +kernel, by decide +kernel, by decide +kernel⟩⟩
def m_Mo_size : MI := (⟨"PutOffWicksModel", "size", "(I)I"⟩, prog_14_method_5_code, 1, (some .int))
theorem mt_Mo_size : MT m_Mo_size 1 := ⟨ch_of ch4_ok 5 rfl, ch_of ch0_ok 38 rfl, cd_107, ⟨by decide +kernel, by decide +kernel, by decide +kernel⟩⟩
def m_Mo_spun : MI := (⟨"PutOffWicksModel", "spun", "(II)I"⟩, prog_14_method_87_code, 7, (some .int))
theorem mv_Mo_spun : MV m_Mo_spun 2 := ⟨ch_of ch4_ok 6 rfl, ch_of ch4_ok 7 rfl, ch_of ch0_ok 38 rfl, cd_108, ⟨by decide +kernel, by decide +kernel, by decide +kernel⟩⟩
def m_Mo_sumSign : MI := (⟨"PutOffWicksModel", "sumSign", "(I)I"⟩, prog_14_method_24_code, 1, (some .int))
theorem mt_Mo_sumSign : MT m_Mo_sumSign 1 := ⟨ch_of ch4_ok 8 rfl, ch_of ch0_ok 38 rfl, cd_109, ⟨by decide +kernel, by decide +kernel, by decide +kernel⟩⟩
def m_Mo_takes : MI := (⟨"PutOffWicksModel", "takes", "(I)Z"⟩, prog_14_method_18_code, 2, (some .boolean))
theorem mv_Mo_takes : MV m_Mo_takes 1 := ⟨ch_of ch4_ok 9 rfl, ch_of ch4_ok 10 rfl, ch_of ch0_ok 38 rfl, cd_110, ⟨by decide +kernel, by decide +kernel, by decide +kernel⟩⟩
def m_Mo_thingIs : MI := (⟨"PutOffWicksModel", "thingIs", "(II)I"⟩, prog_14_method_57_code, 3, (some .int))
theorem mv_Mo_thingIs : MV m_Mo_thingIs 2 := ⟨ch_of ch4_ok 11 rfl, ch_of ch4_ok 12 rfl, ch_of ch0_ok 38 rfl, cd_111, ⟨by decide +kernel, by decide +kernel, by decide +kernel⟩⟩
def m_Mo_tried : MI := (⟨"PutOffWicksModel", "tried", "(II)I"⟩, prog_14_method_56_code, 4, (some .int))
theorem mv_Mo_tried : MV m_Mo_tried 2 := ⟨ch_of ch4_ok 13 rfl, ch_of ch4_ok 14 rfl, ch_of ch0_ok 38 rfl, cd_112, ⟨by decide +kernel, by decide +kernel, by decide +kernel⟩⟩
def m_Mo_turnsAll : MI := (⟨"PutOffWicksModel", "turnsAll", "(I)V"⟩, prog_14_method_74_code, 5, none)
theorem mv_Mo_turnsAll : MV m_Mo_turnsAll 1 := ⟨ch_of ch4_ok 15 rfl, ch_of ch4_ok 16 rfl, ch_of ch0_ok 38 rfl, cd_113, ⟨by decide +kernel, by decide +kernel, by decide +kernel⟩⟩
def m_Mo_twist : MI := (⟨"PutOffWicksModel", "twist", "(III)I"⟩, prog_14_method_80_code, 5, (some .int))
theorem mv_Mo_twist : MV m_Mo_twist 3 := ⟨ch_of ch4_ok 17 rfl, ch_of ch4_ok 18 rfl, ch_of ch0_ok 38 rfl, cd_114, ⟨by decide +kernel, by decide +kernel, by decide +kernel⟩⟩
def m_Mo_types : MI := (⟨"PutOffWicksModel", "types", "(I)V"⟩, prog_14_method_12_code, 3, none)
theorem mv_Mo_types : MV m_Mo_types 1 := ⟨ch_of ch4_ok 19 rfl, ch_of ch4_ok 20 rfl, ch_of ch0_ok 38 rfl, cd_115, ⟨by decide +kernel, by decide +kernel, by decide +kernel⟩⟩
def m_Mo_undo : MI := (⟨"PutOffWicksModel", "undo", "()Z"⟩, prog_14_method_104_code, 3, (some .boolean))
theorem mv_Mo_undo : MV m_Mo_undo 0 := ⟨ch_of ch4_ok 21 rfl, ch_of ch4_ok 22 rfl, ch_of ch0_ok 38 rfl, cd_116, ⟨by decide +kernel, by decide +kernel, by decide +kernel⟩⟩
def m_Mo_unknowing : MI := (⟨"PutOffWicksModel", "unknowing", "(II)I"⟩, prog_14_method_90_code, 4, (some .int))
theorem mv_Mo_unknowing : MV m_Mo_unknowing 2 := ⟨ch_of ch4_ok 23 rfl, ch_of ch4_ok 24 rfl, ch_of ch0_ok 38 rfl, cd_117, ⟨by decide +kernel, by decide +kernel, by decide +kernel⟩⟩
def m_Mo_waitTop : MI := (⟨"PutOffWicksModel", "waitTop", "()I"⟩, prog_14_method_22_code, 1, (some .int))
theorem mv_Mo_waitTop : MV m_Mo_waitTop 0 := ⟨ch_of ch4_ok 25 rfl, ch_of ch4_ok 26 rfl, ch_of ch0_ok 38 rfl, cd_118, ⟨by decide +kernel, by decide +kernel, by decide +kernel⟩⟩
def m_Mo_waitersOf : MI := (⟨"PutOffWicksModel", "waitersOf", "(I)I"⟩, prog_14_method_46_code, 4, (some .int))
theorem mv_Mo_waitersOf : MV m_Mo_waitersOf 1 := ⟨ch_of ch4_ok 27 rfl, ch_of ch4_ok 28 rfl, ch_of ch0_ok 38 rfl, cd_119, ⟨by decide +kernel, by decide +kernel, by decide +kernel⟩⟩
def m_Mo_waiting : MI := (⟨"PutOffWicksModel", "waiting", "(II)I"⟩, prog_14_method_83_code, 6, (some .int))
theorem mv_Mo_waiting : MV m_Mo_waiting 2 := ⟨ch_of ch4_ok 29 rfl, ch_of ch4_ok 30 rfl, ch_of ch0_ok 38 rfl, cd_120, ⟨by decide +kernel, by decide +kernel, by decide +kernel⟩⟩
def m_Mo_waysTo : MI := (⟨"PutOffWicksModel", "waysTo", "(III)I"⟩, prog_14_method_66_code, 5, (some .int))
theorem mv_Mo_waysTo : MV m_Mo_waysTo 3 := ⟨ch_of ch4_ok 31 rfl, ch_of ch4_ok 32 rfl, ch_of ch0_ok 38 rfl, cd_121, ⟨by decide +kernel, by decide +kernel, by decide +kernel⟩⟩
def m_Mo_whoHasLeft : MI := (⟨"PutOffWicksModel", "whoHasLeft", "()I"⟩, prog_14_method_106_code, 3, (some .int))
theorem mv_Mo_whoHasLeft : MV m_Mo_whoHasLeft 0 := ⟨ch_of ch4_ok 33 rfl, ch_of ch4_ok 34 rfl, ch_of ch0_ok 38 rfl, cd_122, ⟨by decide +kernel, by decide +kernel, by decide +kernel⟩⟩
def m_Mo_worstNews : MI := (⟨"PutOffWicksModel", "worstNews", "(I)I"⟩, prog_14_method_69_code, 4, (some .int))
theorem mv_Mo_worstNews : MV m_Mo_worstNews 1 := ⟨ch_of ch4_ok 35 rfl, ch_of ch4_ok 36 rfl, ch_of ch0_ok 38 rfl, cd_123, ⟨by decide +kernel, by decide +kernel, by decide +kernel⟩⟩
def m_Mo_wrongAt : MI := (⟨"PutOffWicksModel", "wrongAt", "(II)Z"⟩, prog_14_method_17_code, 3, (some .boolean))
theorem mv_Mo_wrongAt : MV m_Mo_wrongAt 2 := ⟨ch_of ch4_ok 37 rfl, ch_of ch4_ok 38 rfl, ch_of ch0_ok 38 rfl, cd_124, ⟨by decide +kernel, by decide +kernel, by decide +kernel⟩⟩
def m_ParishReader_read : MI := (⟨"PutOffWicks$ParishReader", "read", "()I"⟩, prog_5_method_2_code, 3, (some .int))
theorem mv_ParishReader_read : MV m_ParishReader_read 0 := ⟨ch_of ch4_ok 39 rfl, ch_of ch4_ok 40 rfl, ch_of ch4_ok 41 rfl, cd_125, ⟨by decide +kernel, by decide +kernel, by decide +kernel⟩⟩
def m_ParishReader_readLine : MI := (⟨"PutOffWicks$ParishReader", "readLine", "(I)V"⟩, prog_5_method_3_code, 6, none)
theorem mv_ParishReader_readLine : MV m_ParishReader_readLine 1 := ⟨ch_of ch4_ok 42 rfl, ch_of ch4_ok 43 rfl, ch_of ch4_ok 41 rfl, cd_126, ⟨by decide +kernel, by decide +kernel, by decide +kernel⟩⟩
def m_ParishReader_readOther : MI := (⟨"PutOffWicks$ParishReader", "readOther", "(I)I"⟩, prog_5_method_4_code, 4, (some .int))
theorem mv_ParishReader_readOther : MV m_ParishReader_readOther 1 := ⟨ch_of ch4_ok 44 rfl, ch_of ch4_ok 45 rfl, ch_of ch4_ok 41 rfl, cd_127, ⟨by decide +kernel, by decide +kernel, by decide +kernel⟩⟩
def m_Parish_beginAs : MI := (⟨"PutOffWicks$Parish", "beginAs", "(LPutOffWicks$Parish;)V"⟩, prog_4_method_7_code, 4, none)
theorem mv_Parish_beginAs : MV m_Parish_beginAs 1 := ⟨ch_of ch4_ok 46 rfl, ch_of ch4_ok 47 rfl, ch_of ch4_ok 48 rfl, cd_128, ⟨by decide +kernel, by decide +kernel, by decide +kernel⟩⟩
def m_Parish_brightestOwner : MI := (⟨"PutOffWicks$Parish", "brightestOwner", "()I"⟩, prog_4_method_20_code, 5, (some .int))
theorem mv_Parish_brightestOwner : MV m_Parish_brightestOwner 0 := ⟨ch_of ch4_ok 49 rfl, ch_of ch5_ok 0 rfl, ch_of ch4_ok 48 rfl, cd_129, ⟨by decide +kernel, by decide +kernel, by decide +kernel⟩⟩
def m_Parish_burn : MI := (⟨"PutOffWicks$Parish", "burn", "(II)V"⟩, prog_4_method_11_code, 3, none)
theorem mv_Parish_burn : MV m_Parish_burn 2 := ⟨ch_of ch5_ok 1 rfl, ch_of ch5_ok 2 rfl, ch_of ch4_ok 48 rfl, cd_130, ⟨by decide +kernel, by decide +kernel, by decide +kernel⟩⟩
def m_Parish_comeBackTo : MI := (⟨"PutOffWicks$Parish", "comeBackTo", "(LPutOffWicks$Parish;)V"⟩, prog_4_method_8_code, 4, none)
theorem mv_Parish_comeBackTo : MV m_Parish_comeBackTo 1 := ⟨ch_of ch5_ok 3 rfl, ch_of ch5_ok 4 rfl, ch_of ch4_ok 48 rfl, cd_131, ⟨by decide +kernel, by decide +kernel, by decide +kernel⟩⟩
def m_Parish_copyFrom : MI := (⟨"PutOffWicks$Parish", "copyFrom", "(LPutOffWicks$Parish;)V"⟩, prog_4_method_6_code, 2, none)
theorem mv_Parish_copyFrom : MV m_Parish_copyFrom 1 := ⟨ch_of ch5_ok 5 rfl, ch_of ch5_ok 6 rfl, ch_of ch4_ok 48 rfl, cd_132, ⟨by decide +kernel, by decide +kernel, by decide +kernel⟩⟩
def m_Parish_draw : MI := (⟨"PutOffWicks$Parish", "draw", "()I"⟩, prog_4_method_9_code, 1, (some .int))
theorem mv_Parish_draw : MV m_Parish_draw 0 := ⟨ch_of ch5_ok 7 rfl, ch_of ch5_ok 8 rfl, ch_of ch4_ok 48 rfl, cd_133, ⟨by decide +kernel, by decide +kernel, by decide +kernel⟩⟩
def m_Parish_finish : MI := (⟨"PutOffWicks$Parish", "finish", "(I)V"⟩, prog_4_method_12_code, 2, none)
theorem mv_Parish_finish : MV m_Parish_finish 1 := ⟨ch_of ch5_ok 9 rfl, ch_of ch5_ok 10 rfl, ch_of ch4_ok 48 rfl, cd_134, ⟨by decide +kernel, by decide +kernel, by decide +kernel⟩⟩
def m_Parish_has : MI := (⟨"PutOffWicks$Parish", "has", "(I)Z"⟩, prog_4_method_2_code, 2, (some .boolean))
theorem mv_Parish_has : MV m_Parish_has 1 := ⟨ch_of ch5_ok 11 rfl, ch_of ch5_ok 12 rfl, ch_of ch4_ok 48 rfl, cd_135, ⟨by decide +kernel, by decide +kernel, by decide +kernel⟩⟩
def m_Parish_isDone : MI := (⟨"PutOffWicks$Parish", "isDone", "(I)Z"⟩, prog_4_method_4_code, 2, (some .boolean))
theorem mv_Parish_isDone : MV m_Parish_isDone 1 := ⟨ch_of ch5_ok 13 rfl, ch_of ch5_ok 14 rfl, ch_of ch4_ok 48 rfl, cd_136, ⟨by decide +kernel, by decide +kernel, by decide +kernel⟩⟩
def m_Parish_isFree : MI := (⟨"PutOffWicks$Parish", "isFree", "(I)Z"⟩, prog_4_method_10_code, 2, (some .boolean))
theorem mv_Parish_isFree : MV m_Parish_isFree 1 := ⟨ch_of ch5_ok 15 rfl, ch_of ch5_ok 16 rfl, ch_of ch4_ok 48 rfl, cd_137, ⟨by decide +kernel, by decide +kernel, by decide +kernel⟩⟩
def m_Parish_isLit : MI := (⟨"PutOffWicks$Parish", "isLit", "(I)Z"⟩, prog_4_method_3_code, 2, (some .boolean))
theorem mv_Parish_isLit : MV m_Parish_isLit 1 := ⟨ch_of ch5_ok 17 rfl, ch_of ch5_ok 18 rfl, ch_of ch4_ok 48 rfl, cd_138, ⟨by decide +kernel, by decide +kernel, by decide +kernel⟩⟩
def m_Parish_leftOf : MI := (⟨"PutOffWicks$Parish", "leftOf", "(I)I"⟩, prog_4_method_14_code, 4, (some .int))
theorem mv_Parish_leftOf : MV m_Parish_leftOf 1 := ⟨ch_of ch5_ok 19 rfl, ch_of ch5_ok 20 rfl, ch_of ch4_ok 48 rfl, cd_139, ⟨by decide +kernel, by decide +kernel, by decide +kernel⟩⟩
def m_Parish_leftPutOffUnder : MI := (⟨"PutOffWicks$Parish", "leftPutOffUnder", "(I)I"⟩, prog_4_method_22_code, 4, (some .int))
theorem mv_Parish_leftPutOffUnder : MV m_Parish_leftPutOffUnder 1 := ⟨ch_of ch5_ok 21 rfl, ch_of ch5_ok 22 rfl, ch_of ch4_ok 48 rfl, cd_140, ⟨by decide +kernel, by decide +kernel, by decide +kernel⟩⟩
def m_Parish_leftThatNeed : MI := (⟨"PutOffWicks$Parish", "leftThatNeed", "(I)I"⟩, prog_4_method_24_code, 5, (some .int))
theorem mv_Parish_leftThatNeed : MV m_Parish_leftThatNeed 1 := ⟨ch_of ch5_ok 23 rfl, ch_of ch5_ok 24 rfl, ch_of ch4_ok 48 rfl, cd_141, ⟨by decide +kernel, by decide +kernel, by decide +kernel⟩⟩
def m_Parish_lightOf : MI := (⟨"PutOffWicks$Parish", "lightOf", "(I)I"⟩, prog_4_method_19_code, 4, (some .int))
theorem mv_Parish_lightOf : MV m_Parish_lightOf 1 := ⟨ch_of ch5_ok 25 rfl, ch_of ch5_ok 26 rfl, ch_of ch4_ok 48 rfl, cd_142, ⟨by decide +kernel, by decide +kernel, by decide +kernel⟩⟩
def m_Parish_middlePutOff : MI := (⟨"PutOffWicks$Parish", "middlePutOff", "()I"⟩, prog_4_method_21_code, 5, (some .int))
theorem mv_Parish_middlePutOff : MV m_Parish_middlePutOff 0 := ⟨ch_of ch5_ok 27 rfl, ch_of ch5_ok 28 rfl, ch_of ch4_ok 48 rfl, cd_143, ⟨by decide +kernel, by decide +kernel, by decide +kernel⟩⟩
def m_Parish_ordersLeft : MI := (⟨"PutOffWicks$Parish", "ordersLeft", "()I"⟩, prog_4_method_23_code, 7, (some .int))
theorem mv_Parish_ordersLeft : MV m_Parish_ordersLeft 0 := ⟨ch_of ch5_ok 29 rfl, ch_of ch5_ok 30 rfl, ch_of ch4_ok 48 rfl, cd_144, ⟨by decide +kernel, by decide +kernel, by decide +kernel⟩⟩
def m_Parish_ownersLeft : MI := (⟨"PutOffWicks$Parish", "ownersLeft", "()I"⟩, prog_4_method_16_code, 3, (some .int))
theorem mv_Parish_ownersLeft : MV m_Parish_ownersLeft 0 := ⟨ch_of ch5_ok 31 rfl, ch_of ch5_ok 32 rfl, ch_of ch4_ok 48 rfl, cd_145, ⟨by decide +kernel, by decide +kernel, by decide +kernel⟩⟩
def m_Parish_proudest : MI := (⟨"PutOffWicks$Parish", "proudest", "()I"⟩, prog_4_method_18_code, 6, (some .int))
theorem mv_Parish_proudest : MV m_Parish_proudest 0 := ⟨ch_of ch5_ok 33 rfl, ch_of ch5_ok 34 rfl, ch_of ch4_ok 48 rfl, cd_146, ⟨by decide +kernel, by decide +kernel, by decide +kernel⟩⟩
def m_Parish_putItOff : MI := (⟨"PutOffWicks$Parish", "putItOff", "(I)V"⟩, prog_4_method_13_code, 2, none)
theorem mv_Parish_putItOff : MV m_Parish_putItOff 1 := ⟨ch_of ch5_ok 35 rfl, ch_of ch5_ok 36 rfl, ch_of ch4_ok 48 rfl, cd_147, ⟨by decide +kernel, by decide +kernel, by decide +kernel⟩⟩
def m_Parish_putLight : MI := (⟨"PutOffWicks$Parish", "putLight", "(IZ)V"⟩, prog_4_method_5_code, 3, none)
theorem mv_Parish_putLight : MV m_Parish_putLight 2 := ⟨ch_of ch5_ok 37 rfl, ch_of ch5_ok 38 rfl, ch_of ch4_ok 48 rfl, cd_148, ⟨by decide +kernel, by decide +kernel, by decide +kernel⟩⟩
def m_Parish_putOffBy : MI := (⟨"PutOffWicks$Parish", "putOffBy", "(I)I"⟩, prog_4_method_17_code, 4, (some .int))
theorem mv_Parish_putOffBy : MV m_Parish_putOffBy 1 := ⟨ch_of ch5_ok 39 rfl, ch_of ch5_ok 40 rfl, ch_of ch4_ok 48 rfl, cd_149, ⟨by decide +kernel, by decide +kernel, by decide +kernel⟩⟩
def m_Parish_waitersFor : MI := (⟨"PutOffWicks$Parish", "waitersFor", "(I)I"⟩, prog_4_method_15_code, 4, (some .int))
theorem mv_Parish_waitersFor : MV m_Parish_waitersFor 1 := ⟨ch_of ch5_ok 41 rfl, ch_of ch5_ok 42 rfl, ch_of ch4_ok 48 rfl, cd_150, ⟨by decide +kernel, by decide +kernel, by decide +kernel⟩⟩
def m_Reading_begin : MI := (⟨"PutOffWicks$Reading", "begin", "()V"⟩, prog_6_method_2_code, 1, none)
theorem mv_Reading_begin : MV m_Reading_begin 0 := ⟨ch_of ch5_ok 43 rfl, ch_of ch5_ok 44 rfl, ch_of ch5_ok 45 rfl, cd_151, ⟨by decide +kernel, by decide +kernel, by decide +kernel⟩⟩
def m_Reading_fail : MI := (⟨"PutOffWicks$Reading", "fail", "(II)V"⟩, prog_6_method_5_code, 3, none)
theorem mv_Reading_fail : MV m_Reading_fail 2 := ⟨ch_of ch5_ok 46 rfl, ch_of ch5_ok 47 rfl, ch_of ch5_ok 45 rfl, cd_152, ⟨by decide +kernel, by decide +kernel, by decide +kernel⟩⟩
def m_Reading_failed : MI := (⟨"PutOffWicks$Reading", "failed", "()Z"⟩, prog_6_method_4_code, 1, (some .boolean))
theorem mv_Reading_failed : MV m_Reading_failed 0 := ⟨ch_of ch5_ok 48 rfl, ch_of ch5_ok 49 rfl, ch_of ch5_ok 45 rfl, cd_153, ⟨by decide +kernel, by decide +kernel, by decide +kernel⟩⟩
def m_Reading_goesOn : MI := (⟨"PutOffWicks$Reading", "goesOn", "()Z"⟩, prog_6_method_8_code, 1, (some .boolean))
theorem mv_Reading_goesOn : MV m_Reading_goesOn 0 := ⟨ch_of ch6_ok 0 rfl, ch_of ch6_ok 1 rfl, ch_of ch5_ok 45 rfl, cd_154, ⟨by decide +kernel, by decide +kernel, by decide +kernel⟩⟩
def m_Reading_isDigit : MI := (⟨"PutOffWicks$Reading", "isDigit", "(I)Z"⟩, prog_6_method_10_code, 1, (some .boolean))
theorem mt_Reading_isDigit : MT m_Reading_isDigit 1 := ⟨ch_of ch6_ok 2 rfl, ch_of ch5_ok 45 rfl, cd_155, ⟨by decide +kernel, by decide +kernel, by decide +kernel⟩⟩
def m_Reading_needs : MI := (⟨"PutOffWicks$Reading", "needs", "(I)V"⟩, prog_6_method_7_code, 2, none)
theorem mv_Reading_needs : MV m_Reading_needs 1 := ⟨ch_of ch6_ok 3 rfl, ch_of ch6_ok 4 rfl, ch_of ch5_ok 45 rfl, cd_156, ⟨by decide +kernel, by decide +kernel, by decide +kernel⟩⟩
def m_Reading_number : MI := (⟨"PutOffWicks$Reading", "number", "(I)I"⟩, prog_6_method_9_code, 4, (some .int))
theorem mv_Reading_number : MV m_Reading_number 1 := ⟨ch_of ch6_ok 5 rfl, ch_of ch6_ok 6 rfl, ch_of ch5_ok 45 rfl, cd_157, ⟨by decide +kernel, by decide +kernel, by decide +kernel⟩⟩
def m_Reading_sign : MI := (⟨"PutOffWicks$Reading", "sign", "()I"⟩, prog_6_method_3_code, 1, (some .int))
theorem mv_Reading_sign : MV m_Reading_sign 0 := ⟨ch_of ch6_ok 7 rfl, ch_of ch6_ok 8 rfl, ch_of ch5_ok 45 rfl, cd_158, ⟨by decide +kernel, by decide +kernel, by decide +kernel⟩⟩
def m_Reading_takes : MI := (⟨"PutOffWicks$Reading", "takes", "(I)Z"⟩, prog_6_method_6_code, 2, (some .boolean))
theorem mv_Reading_takes : MV m_Reading_takes 1 := ⟨ch_of ch6_ok 9 rfl, ch_of ch6_ok 10 rfl, ch_of ch5_ok 45 rfl, cd_159, ⟨by decide +kernel, by decide +kernel, by decide +kernel⟩⟩
def m_Reckoner_ask : MI := (⟨"PutOffWicks$Reckoner", "ask", "(III)I"⟩, prog_7_method_3_code, 5, (some .int))
theorem mv_Reckoner_ask : MV m_Reckoner_ask 3 := ⟨ch_of ch6_ok 11 rfl, ch_of ch6_ok 12 rfl, ch_of ch6_ok 13 rfl, cd_160, ⟨by decide +kernel, by decide +kernel, by decide +kernel⟩⟩
def m_Reckoner_face : MI := (⟨"PutOffWicks$Reckoner", "face", "(LPutOffWicks$Parish;II)V"⟩, prog_7_method_2_code, 4, none)
theorem mv_Reckoner_face : MV m_Reckoner_face 3 := ⟨ch_of ch6_ok 14 rfl, ch_of ch6_ok 15 rfl, ch_of ch6_ok 13 rfl, cd_161, ⟨by decide +kernel, by decide +kernel, by decide +kernel⟩⟩
def m_Reckoner_fact : MI := (⟨"PutOffWicks$Reckoner", "fact", "(I)I"⟩, prog_7_method_6_code, 2, (some .int))
theorem mv_Reckoner_fact : MV m_Reckoner_fact 1 := ⟨ch_of ch6_ok 16 rfl, ch_of ch6_ok 17 rfl, ch_of ch6_ok 13 rfl, cd_162, ⟨by decide +kernel, by decide +kernel, by decide +kernel⟩⟩
def m_Reckoner_joined : MI := (⟨"PutOffWicks$Reckoner", "joined", "(III)I"⟩, prog_7_method_5_code, 4, (some .int))
theorem mv_Reckoner_joined : MV m_Reckoner_joined 3 := ⟨ch_of ch6_ok 18 rfl, ch_of ch6_ok 19 rfl, ch_of ch6_ok 13 rfl, cd_163, ⟨by decide +kernel, by decide +kernel, by decide +kernel⟩⟩
def m_Reckoner_pop : MI := (⟨"PutOffWicks$Reckoner", "pop", "()I"⟩, prog_7_method_8_code, 1, (some .int))
theorem mv_Reckoner_pop : MV m_Reckoner_pop 0 := ⟨ch_of ch6_ok 20 rfl, ch_of ch6_ok 21 rfl, ch_of ch6_ok 13 rfl, cd_164, ⟨by decide +kernel, by decide +kernel, by decide +kernel⟩⟩
def m_Reckoner_push : MI := (⟨"PutOffWicks$Reckoner", "push", "(I)V"⟩, prog_7_method_7_code, 2, none)
theorem mv_Reckoner_push : MV m_Reckoner_push 1 := ⟨ch_of ch6_ok 22 rfl, ch_of ch6_ok 23 rfl, ch_of ch6_ok 13 rfl, cd_165, ⟨by decide +kernel, by decide +kernel, by decide +kernel⟩⟩
def m_Reckoner_reckon : MI := (⟨"PutOffWicks$Reckoner", "reckon", "(II)I"⟩, prog_7_method_4_code, 8, (some .int))
theorem mv_Reckoner_reckon : MV m_Reckoner_reckon 2 := ⟨ch_of ch6_ok 24 rfl, ch_of ch6_ok 25 rfl, ch_of ch6_ok 13 rfl, cd_166, ⟨by decide +kernel, by decide +kernel, by decide +kernel⟩⟩
def m_Rows_beats : MI := (⟨"PutOffWicks$Rows", "beats", "(II)Z"⟩, prog_8_method_15_code, 5, (some .boolean))
theorem mv_Rows_beats : MV m_Rows_beats 2 := ⟨ch_of ch6_ok 26 rfl, ch_of ch6_ok 27 rfl, ch_of ch6_ok 28 rfl, cd_167, ⟨by decide +kernel, by decide +kernel, by decide +kernel⟩⟩
def m_Rows_bestFirst : MI := (⟨"PutOffWicks$Rows", "bestFirst", "(I)I"⟩, prog_8_method_2_code, 6, (some .int))
theorem mv_Rows_bestFirst : MV m_Rows_bestFirst 1 := ⟨ch_of ch6_ok 29 rfl, ch_of ch6_ok 30 rfl, ch_of ch6_ok 28 rfl, cd_168, ⟨by decide +kernel, by decide +kernel, by decide +kernel⟩⟩
def m_Rows_dayIfKnowing : MI := (⟨"PutOffWicks$Rows", "dayIfKnowing", "(II)I"⟩, prog_8_method_8_code, 5, (some .int))
theorem mv_Rows_dayIfKnowing : MV m_Rows_dayIfKnowing 2 := ⟨ch_of ch6_ok 31 rfl, ch_of ch6_ok 32 rfl, ch_of ch6_ok 28 rfl, cd_169, ⟨by decide +kernel, by decide +kernel, by decide +kernel⟩⟩
def m_Rows_dayIfNotKnowing : MI := (⟨"PutOffWicks$Rows", "dayIfNotKnowing", "(II)I"⟩, prog_8_method_9_code, 6, (some .int))
theorem mv_Rows_dayIfNotKnowing : MV m_Rows_dayIfNotKnowing 2 := ⟨ch_of ch6_ok 33 rfl, ch_of ch6_ok 34 rfl, ch_of ch6_ok 28 rfl, cd_170, ⟨by decide +kernel, by decide +kernel, by decide +kernel⟩⟩
def m_Rows_difference : MI := (⟨"PutOffWicks$Rows", "difference", "(II)I"⟩, prog_8_method_13_code, 5, (some .int))
theorem mv_Rows_difference : MV m_Rows_difference 2 := ⟨ch_of ch6_ok 35 rfl, ch_of ch6_ok 36 rfl, ch_of ch6_ok 28 rfl, cd_171, ⟨by decide +kernel, by decide +kernel, by decide +kernel⟩⟩
def m_Rows_evenestCut : MI := (⟨"PutOffWicks$Rows", "evenestCut", "(I)I"⟩, prog_8_method_12_code, 4, (some .int))
theorem mv_Rows_evenestCut : MV m_Rows_evenestCut 1 := ⟨ch_of ch6_ok 37 rfl, ch_of ch6_ok 38 rfl, ch_of ch6_ok 28 rfl, cd_172, ⟨by decide +kernel, by decide +kernel, by decide +kernel⟩⟩
def m_Rows_farthestFrom : MI := (⟨"PutOffWicks$Rows", "farthestFrom", "(II)I"⟩, prog_8_method_7_code, 5, (some .int))
theorem mv_Rows_farthestFrom : MV m_Rows_farthestFrom 2 := ⟨ch_of ch6_ok 39 rfl, ch_of ch6_ok 40 rfl, ch_of ch6_ok 28 rfl, cd_173, ⟨by decide +kernel, by decide +kernel, by decide +kernel⟩⟩
def m_Rows_fewestWicks : MI := (⟨"PutOffWicks$Rows", "fewestWicks", "(II)I"⟩, prog_8_method_6_code, 5, (some .int))
theorem mv_Rows_fewestWicks : MV m_Rows_fewestWicks 2 := ⟨ch_of ch6_ok 41 rfl, ch_of ch6_ok 42 rfl, ch_of ch6_ok 28 rfl, cd_174, ⟨by decide +kernel, by decide +kernel, by decide +kernel⟩⟩
def m_Rows_hoursBehind : MI := (⟨"PutOffWicks$Rows", "hoursBehind", "(II)I"⟩, prog_8_method_3_code, 8, (some .int))
theorem mv_Rows_hoursBehind : MV m_Rows_hoursBehind 2 := ⟨ch_of ch6_ok 43 rfl, ch_of ch6_ok 44 rfl, ch_of ch6_ok 28 rfl, cd_175, ⟨by decide +kernel, by decide +kernel, by decide +kernel⟩⟩
def m_Rows_longestCord : MI := (⟨"PutOffWicks$Rows", "longestCord", "(II)I"⟩, prog_8_method_10_code, 5, (some .int))
theorem mv_Rows_longestCord : MV m_Rows_longestCord 2 := ⟨ch_of ch6_ok 45 rfl, ch_of ch6_ok 46 rfl, ch_of ch6_ok 28 rfl, cd_176, ⟨by decide +kernel, by decide +kernel, by decide +kernel⟩⟩
def m_Rows_nextToSpin : MI := (⟨"PutOffWicks$Rows", "nextToSpin", "(II)I"⟩, prog_8_method_4_code, 5, (some .int))
theorem mv_Rows_nextToSpin : MV m_Rows_nextToSpin 2 := ⟨ch_of ch6_ok 47 rfl, ch_of ch6_ok 48 rfl, ch_of ch6_ok 28 rfl, cd_177, ⟨by decide +kernel, by decide +kernel, by decide +kernel⟩⟩
def m_Rows_spinsAhead : MI := (⟨"PutOffWicks$Rows", "spinsAhead", "(II)Z"⟩, prog_8_method_5_code, 5, (some .boolean))
theorem mv_Rows_spinsAhead : MV m_Rows_spinsAhead 2 := ⟨ch_of ch6_ok 49 rfl, ch_of ch7_ok 0 rfl, ch_of ch6_ok 28 rfl, cd_178, ⟨by decide +kernel, by decide +kernel, by decide +kernel⟩⟩
def m_Rows_sufficesFor : MI := (⟨"PutOffWicks$Rows", "sufficesFor", "(III)Z"⟩, prog_8_method_11_code, 6, (some .boolean))
theorem mv_Rows_sufficesFor : MV m_Rows_sufficesFor 3 := ⟨ch_of ch7_ok 1 rfl, ch_of ch7_ok 2 rfl, ch_of ch6_ok 28 rfl, cd_179, ⟨by decide +kernel, by decide +kernel, by decide +kernel⟩⟩
def m_Rows_unbeaten : MI := (⟨"PutOffWicks$Rows", "unbeaten", "(I)I"⟩, prog_8_method_14_code, 6, (some .int))
theorem mv_Rows_unbeaten : MV m_Rows_unbeaten 1 := ⟨ch_of ch7_ok 3 rfl, ch_of ch7_ok 4 rfl, ch_of ch6_ok 28 rfl, cd_180, ⟨by decide +kernel, by decide +kernel, by decide +kernel⟩⟩
def m_Shore_bestLights : MI := (⟨"PutOffWicks$Shore", "bestLights", "(II)I"⟩, prog_9_method_6_code, 7, (some .int))
theorem mv_Shore_bestLights : MV m_Shore_bestLights 2 := ⟨ch_of ch7_ok 5 rfl, ch_of ch7_ok 6 rfl, ch_of ch7_ok 7 rfl, cd_181, ⟨by decide +kernel, by decide +kernel, by decide +kernel⟩⟩
def m_Shore_fillView : MI := (⟨"PutOffWicks$Shore", "fillView", "(I)V"⟩, prog_9_method_8_code, 4, none)
theorem mv_Shore_fillView : MV m_Shore_fillView 1 := ⟨ch_of ch7_ok 8 rfl, ch_of ch7_ok 9 rfl, ch_of ch7_ok 7 rfl, cd_182, ⟨by decide +kernel, by decide +kernel, by decide +kernel⟩⟩
def m_Shore_isSeen : MI := (⟨"PutOffWicks$Shore", "isSeen", "(II)Z"⟩, prog_9_method_2_code, 3, (some .boolean))
theorem mv_Shore_isSeen : MV m_Shore_isSeen 2 := ⟨ch_of ch7_ok 10 rfl, ch_of ch7_ok 11 rfl, ch_of ch7_ok 7 rfl, cd_183, ⟨by decide +kernel, by decide +kernel, by decide +kernel⟩⟩
def m_Shore_longestRow : MI := (⟨"PutOffWicks$Shore", "longestRow", "(II)I"⟩, prog_9_method_5_code, 6, (some .int))
theorem mv_Shore_longestRow : MV m_Shore_longestRow 2 := ⟨ch_of ch7_ok 12 rfl, ch_of ch7_ok 13 rfl, ch_of ch7_ok 7 rfl, cd_184, ⟨by decide +kernel, by decide +kernel, by decide +kernel⟩⟩
def m_Shore_placesOf : MI := (⟨"PutOffWicks$Shore", "placesOf", "(II)I"⟩, prog_9_method_7_code, 8, (some .int))
theorem mv_Shore_placesOf : MV m_Shore_placesOf 2 := ⟨ch_of ch7_ok 14 rfl, ch_of ch7_ok 15 rfl, ch_of ch7_ok 7 rfl, cd_185, ⟨by decide +kernel, by decide +kernel, by decide +kernel⟩⟩
def m_Shore_placesSeeing : MI := (⟨"PutOffWicks$Shore", "placesSeeing", "(II)I"⟩, prog_9_method_4_code, 5, (some .int))
theorem mv_Shore_placesSeeing : MV m_Shore_placesSeeing 2 := ⟨ch_of ch7_ok 16 rfl, ch_of ch7_ok 17 rfl, ch_of ch7_ok 7 rfl, cd_186, ⟨by decide +kernel, by decide +kernel, by decide +kernel⟩⟩
def m_Shore_sees : MI := (⟨"PutOffWicks$Shore", "sees", "(III)Z"⟩, prog_9_method_3_code, 6, (some .boolean))
theorem mv_Shore_sees : MV m_Shore_sees 3 := ⟨ch_of ch7_ok 18 rfl, ch_of ch7_ok 19 rfl, ch_of ch7_ok 7 rfl, cd_187, ⟨by decide +kernel, by decide +kernel, by decide +kernel⟩⟩
def m_Tape_at : MI := (⟨"PutOffWicks$Tape", "at", "(I)I"⟩, prog_10_method_5_code, 2, (some .int))
theorem mv_Tape_at : MV m_Tape_at 1 := ⟨ch_of ch7_ok 20 rfl, ch_of ch7_ok 21 rfl, ch_of ch7_ok 22 rfl, cd_188, ⟨by decide +kernel, by decide +kernel, by decide +kernel⟩⟩
def m_Tape_hasRoom : MI := (⟨"PutOffWicks$Tape", "hasRoom", "()Z"⟩, prog_10_method_2_code, 1, (some .boolean))
theorem mv_Tape_hasRoom : MV m_Tape_hasRoom 0 := ⟨ch_of ch7_ok 23 rfl, ch_of ch7_ok 24 rfl, ch_of ch7_ok 22 rfl, cd_189, ⟨by decide +kernel, by decide +kernel, by decide +kernel⟩⟩
def m_Tape_put : MI := (⟨"PutOffWicks$Tape", "put", "(I)V"⟩, prog_10_method_3_code, 3, none)
theorem mv_Tape_put : MV m_Tape_put 1 := ⟨ch_of ch7_ok 25 rfl, ch_of ch7_ok 26 rfl, ch_of ch7_ok 22 rfl, cd_190, ⟨by decide +kernel, by decide +kernel, by decide +kernel⟩⟩
def m_Tape_take : MI := (⟨"PutOffWicks$Tape", "take", "(I)Z"⟩, prog_10_method_4_code, 2, (some .boolean))
theorem mv_Tape_take : MV m_Tape_take 1 := ⟨ch_of ch7_ok 27 rfl, ch_of ch7_ok 28 rfl, ch_of ch7_ok 22 rfl, cd_191, ⟨by decide +kernel, by decide +kernel, by decide +kernel⟩⟩
def m_Twist_closeGroup : MI := (⟨"PutOffWicks$Twist", "closeGroup", "()V"⟩, prog_11_method_7_code, 2, none)
theorem mv_Twist_closeGroup : MV m_Twist_closeGroup 0 := ⟨ch_of ch7_ok 29 rfl, ch_of ch7_ok 30 rfl, ch_of ch7_ok 31 rfl, cd_192, ⟨by decide +kernel, by decide +kernel, by decide +kernel⟩⟩
def m_Twist_comesOut : MI := (⟨"PutOffWicks$Twist", "comesOut", "(I)I"⟩, prog_11_method_11_code, 5, (some .int))
theorem mv_Twist_comesOut : MV m_Twist_comesOut 1 := ⟨ch_of ch7_ok 32 rfl, ch_of ch7_ok 33 rfl, ch_of ch7_ok 31 rfl, cd_193, ⟨by decide +kernel, by decide +kernel, by decide +kernel⟩⟩
def m_Twist_ends : MI := (⟨"PutOffWicks$Twist", "ends", "()Z"⟩, prog_11_method_3_code, 1, (some .boolean))
theorem mv_Twist_ends : MV m_Twist_ends 0 := ⟨ch_of ch7_ok 34 rfl, ch_of ch7_ok 35 rfl, ch_of ch7_ok 31 rfl, cd_194, ⟨by decide +kernel, by decide +kernel, by decide +kernel⟩⟩
def m_Twist_openGroup : MI := (⟨"PutOffWicks$Twist", "openGroup", "(II)V"⟩, prog_11_method_6_code, 3, none)
theorem mv_Twist_openGroup : MV m_Twist_openGroup 2 := ⟨ch_of ch7_ok 36 rfl, ch_of ch7_ok 37 rfl, ch_of ch7_ok 31 rfl, cd_195, ⟨by decide +kernel, by decide +kernel, by decide +kernel⟩⟩
def m_Twist_oversLessUnders : MI := (⟨"PutOffWicks$Twist", "oversLessUnders", "()I"⟩, prog_11_method_9_code, 3, (some .int))
theorem mv_Twist_oversLessUnders : MV m_Twist_oversLessUnders 0 := ⟨ch_of ch7_ok 38 rfl, ch_of ch7_ok 39 rfl, ch_of ch7_ok 31 rfl, cd_196, ⟨by decide +kernel, by decide +kernel, by decide +kernel⟩⟩
def m_Twist_read : MI := (⟨"PutOffWicks$Twist", "read", "(I)I"⟩, prog_11_method_2_code, 8, (some .int))
theorem mv_Twist_read : MV m_Twist_read 1 := ⟨ch_of ch7_ok 40 rfl, ch_of ch7_ok 41 rfl, ch_of ch7_ok 31 rfl, cd_197, ⟨by decide +kernel, by decide +kernel, by decide +kernel⟩⟩
def m_Twist_readTimes : MI := (⟨"PutOffWicks$Twist", "readTimes", "()I"⟩, prog_11_method_4_code, 2, (some .int))
theorem mv_Twist_readTimes : MV m_Twist_readTimes 0 := ⟨ch_of ch7_ok 42 rfl, ch_of ch7_ok 43 rfl, ch_of ch7_ok 31 rfl, cd_198, ⟨by decide +kernel, by decide +kernel, by decide +kernel⟩⟩
def m_Twist_readTurn : MI := (⟨"PutOffWicks$Twist", "readTurn", "(IZI)V"⟩, prog_11_method_5_code, 4, none)
theorem mv_Twist_readTurn : MV m_Twist_readTurn 3 := ⟨ch_of ch7_ok 44 rfl, ch_of ch7_ok 45 rfl, ch_of ch7_ok 31 rfl, cd_199, ⟨by decide +kernel, by decide +kernel, by decide +kernel⟩⟩
def m_Twist_repeat : MI := (⟨"PutOffWicks$Twist", "repeat", "(III)V"⟩, prog_11_method_8_code, 7, none)
theorem mv_Twist_repeat : MV m_Twist_repeat 3 := ⟨ch_of ch7_ok 46 rfl, ch_of ch7_ok 47 rfl, ch_of ch7_ok 31 rfl, cd_200, ⟨by decide +kernel, by decide +kernel, by decide +kernel⟩⟩
def m_Twist_timesTillHome : MI := (⟨"PutOffWicks$Twist", "timesTillHome", "(I)I"⟩, prog_11_method_12_code, 5, (some .int))
theorem mv_Twist_timesTillHome : MV m_Twist_timesTillHome 1 := ⟨ch_of ch7_ok 48 rfl, ch_of ch7_ok 49 rfl, ch_of ch7_ok 31 rfl, cd_201, ⟨by decide +kernel, by decide +kernel, by decide +kernel⟩⟩
def m_Twist_turnsLeft : MI := (⟨"PutOffWicks$Twist", "turnsLeft", "()I"⟩, prog_11_method_10_code, 3, (some .int))
theorem mv_Twist_turnsLeft : MV m_Twist_turnsLeft 0 := ⟨ch_of ch8_ok 0 rfl, ch_of ch8_ok 1 rfl, ch_of ch7_ok 31 rfl, cd_202, ⟨by decide +kernel, by decide +kernel, by decide +kernel⟩⟩
def m_W_brightest : MI := (⟨"PutOffWicks", "brightest", "(III)I"⟩, prog_1_method_25_code, 5, (some .int))
theorem mv_W_brightest : MV m_W_brightest 3 := ⟨ch_of ch8_ok 2 rfl, ch_of ch8_ok 3 rfl, ch_of ch8_ok 4 rfl, cd_203, ⟨by decide +kernel, by decide +kernel, by decide +kernel⟩⟩
def m_W_byWhen : MI := (⟨"PutOffWicks", "byWhen", "(II)I"⟩, prog_1_method_9_code, 4, (some .int))
theorem mv_W_byWhen : MV m_W_byWhen 2 := ⟨ch_of ch8_ok 5 rfl, ch_of ch8_ok 6 rfl, ch_of ch8_ok 4 rfl, cd_204, ⟨by decide +kernel, by decide +kernel, by decide +kernel⟩⟩
def m_W_chain : MI := (⟨"PutOffWicks", "chain", "(I)I"⟩, prog_1_method_13_code, 5, (some .int))
theorem mv_W_chain : MV m_W_chain 1 := ⟨ch_of ch8_ok 7 rfl, ch_of ch8_ok 8 rfl, ch_of ch8_ok 4 rfl, cd_205, ⟨by decide +kernel, by decide +kernel, by decide +kernel⟩⟩
def m_W_check : MI := (⟨"PutOffWicks", "check", "(I)I"⟩, prog_1_method_31_code, 4, (some .int))
theorem mv_W_check : MV m_W_check 1 := ⟨ch_of ch8_ok 9 rfl, ch_of ch8_ok 10 rfl, ch_of ch8_ok 4 rfl, cd_206, ⟨by decide +kernel, by decide +kernel, by decide +kernel⟩⟩
def m_W_cord : MI := (⟨"PutOffWicks", "cord", "(II)I"⟩, prog_1_method_23_code, 3, (some .int))
theorem mv_W_cord : MV m_W_cord 2 := ⟨ch_of ch8_ok 11 rfl, ch_of ch8_ok 12 rfl, ch_of ch8_ok 4 rfl, cd_207, ⟨by decide +kernel, by decide +kernel, by decide +kernel⟩⟩
def m_W_count : MI := (⟨"PutOffWicks", "count", "(I)I"⟩, prog_1_method_32_code, 2, (some .int))
theorem mv_W_count : MV m_W_count 1 := ⟨ch_of ch8_ok 13 rfl, ch_of ch8_ok 14 rfl, ch_of ch8_ok 4 rfl, cd_208, ⟨by decide +kernel, by decide +kernel, by decide +kernel⟩⟩
def m_W_dark : MI := (⟨"PutOffWicks", "dark", "(I)I"⟩, prog_1_method_10_code, 3, (some .int))
theorem mv_W_dark : MV m_W_dark 1 := ⟨ch_of ch8_ok 15 rfl, ch_of ch8_ok 16 rfl, ch_of ch8_ok 4 rfl, cd_209, ⟨by decide +kernel, by decide +kernel, by decide +kernel⟩⟩
def m_W_days : MI := (⟨"PutOffWicks", "days", "(I)I"⟩, prog_1_method_6_code, 2, (some .int))
theorem mv_W_days : MV m_W_days 1 := ⟨ch_of ch8_ok 17 rfl, ch_of ch8_ok 18 rfl, ch_of ch8_ok 4 rfl, cd_210, ⟨by decide +kernel, by decide +kernel, by decide +kernel⟩⟩
def m_W_feed : MI := (⟨"PutOffWicks", "feed", "(IIIII)I"⟩, prog_1_method_3_code, 6, (some .int))
theorem mv_W_feed : MV m_W_feed 5 := ⟨ch_of ch8_ok 19 rfl, ch_of ch8_ok 20 rfl, ch_of ch8_ok 4 rfl, cd_211, ⟨by decide +kernel, by decide +kernel, by decide +kernel⟩⟩
def m_W_forgiven : MI := (⟨"PutOffWicks", "forgiven", "(I)I"⟩, prog_1_method_27_code, 2, (some .int))
theorem mv_W_forgiven : MV m_W_forgiven 1 := ⟨ch_of ch8_ok 21 rfl, ch_of ch8_ok 22 rfl, ch_of ch8_ok 4 rfl, cd_212, ⟨by decide +kernel, by decide +kernel, by decide +kernel⟩⟩
def m_W_halves : MI := (⟨"PutOffWicks", "halves", "(II)I"⟩, prog_1_method_26_code, 4, (some .int))
theorem mv_W_halves : MV m_W_halves 2 := ⟨ch_of ch8_ok 23 rfl, ch_of ch8_ok 24 rfl, ch_of ch8_ok 4 rfl, cd_213, ⟨by decide +kernel, by decide +kernel, by decide +kernel⟩⟩
def m_W_keep : MI := (⟨"PutOffWicks", "keep", "()I"⟩, prog_1_method_29_code, 1, (some .int))
theorem mv_W_keep : MV m_W_keep 0 := ⟨ch_of ch8_ok 25 rfl, ch_of ch8_ok 26 rfl, ch_of ch8_ok 4 rfl, cd_214, ⟨by decide +kernel, by decide +kernel, by decide +kernel⟩⟩
def m_W_law : MI := (⟨"PutOffWicks", "law", "(I)I"⟩, prog_1_method_4_code, 3, (some .int))
theorem mv_W_law : MV m_W_law 1 := ⟨ch_of ch8_ok 27 rfl, ch_of ch8_ok 28 rfl, ch_of ch8_ok 4 rfl, cd_215, ⟨by decide +kernel, by decide +kernel, by decide +kernel⟩⟩
def m_W_light : MI := (⟨"PutOffWicks", "light", "(I)I"⟩, prog_1_method_15_code, 2, (some .int))
theorem mv_W_light : MV m_W_light 1 := ⟨ch_of ch8_ok 29 rfl, ch_of ch8_ok 30 rfl, ch_of ch8_ok 4 rfl, cd_216, ⟨by decide +kernel, by decide +kernel, by decide +kernel⟩⟩
def m_W_lit : MI := (⟨"PutOffWicks", "lit", "(IZ)Z"⟩, prog_1_method_2_code, 3, (some .boolean))
theorem mv_W_lit : MV m_W_lit 2 := ⟨ch_of ch8_ok 31 rfl, ch_of ch8_ok 32 rfl, ch_of ch8_ok 4 rfl, cd_217, ⟨by decide +kernel, by decide +kernel, by decide +kernel⟩⟩
def m_W_median : MI := (⟨"PutOffWicks", "median", "()I"⟩, prog_1_method_17_code, 1, (some .int))
theorem mv_W_median : MV m_W_median 0 := ⟨ch_of ch8_ok 33 rfl, ch_of ch8_ok 34 rfl, ch_of ch8_ok 4 rfl, cd_218, ⟨by decide +kernel, by decide +kernel, by decide +kernel⟩⟩
def m_W_night : MI := (⟨"PutOffWicks", "night", "(II)I"⟩, prog_1_method_21_code, 3, (some .int))
theorem mv_W_night : MV m_W_night 2 := ⟨ch_of ch8_ok 35 rfl, ch_of ch8_ok 36 rfl, ch_of ch8_ok 4 rfl, cd_219, ⟨by decide +kernel, by decide +kernel, by decide +kernel⟩⟩
def m_W_oldest : MI := (⟨"PutOffWicks", "oldest", "()I"⟩, prog_1_method_12_code, 3, (some .int))
theorem mv_W_oldest : MV m_W_oldest 0 := ⟨ch_of ch8_ok 37 rfl, ch_of ch8_ok 38 rfl, ch_of ch8_ok 4 rfl, cd_220, ⟨by decide +kernel, by decide +kernel, by decide +kernel⟩⟩
def m_W_orders : MI := (⟨"PutOffWicks", "orders", "()I"⟩, prog_1_method_14_code, 1, (some .int))
theorem mv_W_orders : MV m_W_orders 0 := ⟨ch_of ch8_ok 39 rfl, ch_of ch8_ok 40 rfl, ch_of ch8_ok 4 rfl, cd_221, ⟨by decide +kernel, by decide +kernel, by decide +kernel⟩⟩
def m_W_parish : MI := (⟨"PutOffWicks", "parish", "(I)I"⟩, prog_1_method_5_code, 3, (some .int))
theorem mv_W_parish : MV m_W_parish 1 := ⟨ch_of ch8_ok 41 rfl, ch_of ch8_ok 42 rfl, ch_of ch8_ok 4 rfl, cd_222, ⟨by decide +kernel, by decide +kernel, by decide +kernel⟩⟩
def m_W_pride : MI := (⟨"PutOffWicks", "pride", "(I)I"⟩, prog_1_method_11_code, 3, (some .int))
theorem mv_W_pride : MV m_W_pride 1 := ⟨ch_of ch8_ok 43 rfl, ch_of ch8_ok 44 rfl, ch_of ch8_ok 4 rfl, cd_223, ⟨by decide +kernel, by decide +kernel, by decide +kernel⟩⟩
def m_W_putsOff : MI := (⟨"PutOffWicks", "putsOff", "(IIZI)I"⟩, prog_1_method_22_code, 6, (some .int))
theorem mv_W_putsOff : MV m_W_putsOff 4 := ⟨ch_of ch8_ok 45 rfl, ch_of ch8_ok 46 rfl, ch_of ch8_ok 4 rfl, cd_224, ⟨by decide +kernel, by decide +kernel, by decide +kernel⟩⟩
def m_W_seed : MI := (⟨"PutOffWicks", "seed", "(I)Z"⟩, prog_1_method_28_code, 2, (some .boolean))
theorem mv_W_seed : MV m_W_seed 1 := ⟨ch_of ch8_ok 47 rfl, ch_of ch8_ok 48 rfl, ch_of ch8_ok 4 rfl, cd_225, ⟨by decide +kernel, by decide +kernel, by decide +kernel⟩⟩
def m_W_seen : MI := (⟨"PutOffWicks", "seen", "(III)I"⟩, prog_1_method_24_code, 4, (some .int))
theorem mv_W_seen : MV m_W_seen 3 := ⟨ch_of ch8_ok 49 rfl, ch_of ch9_ok 0 rfl, ch_of ch8_ok 4 rfl, cd_226, ⟨by decide +kernel, by decide +kernel, by decide +kernel⟩⟩
def m_W_spun : MI := (⟨"PutOffWicks", "spun", "(II)I"⟩, prog_1_method_20_code, 4, (some .int))
theorem mv_W_spun : MV m_W_spun 2 := ⟨ch_of ch9_ok 1 rfl, ch_of ch9_ok 2 rfl, ch_of ch8_ok 4 rfl, cd_227, ⟨by decide +kernel, by decide +kernel, by decide +kernel⟩⟩
def m_W_thingIs : MI := (⟨"PutOffWicks", "thingIs", "(II)I"⟩, prog_1_method_8_code, 3, (some .int))
theorem mv_W_thingIs : MV m_W_thingIs 2 := ⟨ch_of ch9_ok 3 rfl, ch_of ch9_ok 4 rfl, ch_of ch8_ok 4 rfl, cd_228, ⟨by decide +kernel, by decide +kernel, by decide +kernel⟩⟩
def m_W_tried : MI := (⟨"PutOffWicks", "tried", "(II)I"⟩, prog_1_method_7_code, 7, (some .int))
theorem mv_W_tried : MV m_W_tried 2 := ⟨ch_of ch9_ok 5 rfl, ch_of ch9_ok 6 rfl, ch_of ch8_ok 4 rfl, cd_229, ⟨by decide +kernel, by decide +kernel, by decide +kernel⟩⟩
def m_W_twist : MI := (⟨"PutOffWicks", "twist", "(III)I"⟩, prog_1_method_18_code, 5, (some .int))
theorem mv_W_twist : MV m_W_twist 3 := ⟨ch_of ch9_ok 7 rfl, ch_of ch9_ok 8 rfl, ch_of ch8_ok 4 rfl, cd_230, ⟨by decide +kernel, by decide +kernel, by decide +kernel⟩⟩
def m_W_undo : MI := (⟨"PutOffWicks", "undo", "()Z"⟩, prog_1_method_30_code, 1, (some .boolean))
theorem mv_W_undo : MV m_W_undo 0 := ⟨ch_of ch9_ok 9 rfl, ch_of ch9_ok 10 rfl, ch_of ch8_ok 4 rfl, cd_231, ⟨by decide +kernel, by decide +kernel, by decide +kernel⟩⟩
def m_W_waiting : MI := (⟨"PutOffWicks", "waiting", "(II)I"⟩, prog_1_method_19_code, 3, (some .int))
theorem mv_W_waiting : MV m_W_waiting 2 := ⟨ch_of ch9_ok 11 rfl, ch_of ch9_ok 12 rfl, ch_of ch8_ok 4 rfl, cd_232, ⟨by decide +kernel, by decide +kernel, by decide +kernel⟩⟩
def m_W_within : MI := (⟨"PutOffWicks", "within", "(III)Z"⟩, prog_1_method_33_code, 3, (some .boolean))
theorem mt_W_within : MT m_W_within 3 := ⟨ch_of ch9_ok 13 rfl, ch_of ch8_ok 4 rfl, cd_233, ⟨by decide +kernel, by decide +kernel, by decide +kernel⟩⟩
def m_W_worstNews : MI := (⟨"PutOffWicks", "worstNews", "(I)I"⟩, prog_1_method_16_code, 3, (some .int))
theorem mv_W_worstNews : MV m_W_worstNews 1 := ⟨ch_of ch9_ok 14 rfl, ch_of ch9_ok 15 rfl, ch_of ch8_ok 4 rfl, cd_234, ⟨by decide +kernel, by decide +kernel, by decide +kernel⟩⟩
def m_Waits_canEnd : MI := (⟨"PutOffWicks$Waits", "canEnd", "(II)Z"⟩, prog_12_method_5_code, 9, (some .boolean))
theorem mv_Waits_canEnd : MV m_Waits_canEnd 2 := ⟨ch_of ch9_ok 16 rfl, ch_of ch9_ok 17 rfl, ch_of ch9_ok 18 rfl, cd_235, ⟨by decide +kernel, by decide +kernel, by decide +kernel⟩⟩
def m_Waits_fewestToEnd : MI := (⟨"PutOffWicks$Waits", "fewestToEnd", "()I"⟩, prog_12_method_4_code, 2, (some .int))
theorem mv_Waits_fewestToEnd : MV m_Waits_fewestToEnd 0 := ⟨ch_of ch9_ok 19 rfl, ch_of ch9_ok 20 rfl, ch_of ch9_ok 18 rfl, cd_236, ⟨by decide +kernel, by decide +kernel, by decide +kernel⟩⟩
def m_Waits_findRingOf : MI := (⟨"PutOffWicks$Waits", "findRingOf", "(III)I"⟩, prog_12_method_9_code, 10, (some .int))
theorem mv_Waits_findRingOf : MV m_Waits_findRingOf 3 := ⟨ch_of ch9_ok 21 rfl, ch_of ch9_ok 22 rfl, ch_of ch9_ok 18 rfl, cd_237, ⟨by decide +kernel, by decide +kernel, by decide +kernel⟩⟩
def m_Waits_findShortestRing : MI := (⟨"PutOffWicks$Waits", "findShortestRing", "(I)I"⟩, prog_12_method_8_code, 6, (some .int))
theorem mv_Waits_findShortestRing : MV m_Waits_findShortestRing 1 := ⟨ch_of ch9_ok 23 rfl, ch_of ch9_ok 24 rfl, ch_of ch9_ok 18 rfl, cd_238, ⟨by decide +kernel, by decide +kernel, by decide +kernel⟩⟩
def m_Waits_forEver : MI := (⟨"PutOffWicks$Waits", "forEver", "()I"⟩, prog_12_method_3_code, 4, (some .int))
theorem mv_Waits_forEver : MV m_Waits_forEver 0 := ⟨ch_of ch9_ok 25 rfl, ch_of ch9_ok 26 rfl, ch_of ch9_ok 18 rfl, cd_239, ⟨by decide +kernel, by decide +kernel, by decide +kernel⟩⟩
def m_Waits_markFrom : MI := (⟨"PutOffWicks$Waits", "markFrom", "(II)V"⟩, prog_12_method_10_code, 4, none)
theorem mv_Waits_markFrom : MV m_Waits_markFrom 2 := ⟨ch_of ch9_ok 27 rfl, ch_of ch9_ok 28 rfl, ch_of ch9_ok 18 rfl, cd_240, ⟨by decide +kernel, by decide +kernel, by decide +kernel⟩⟩
def m_Waits_read : MI := (⟨"PutOffWicks$Waits", "read", "(I)Z"⟩, prog_12_method_2_code, 5, (some .boolean))
theorem mv_Waits_read : MV m_Waits_read 1 := ⟨ch_of ch9_ok 29 rfl, ch_of ch9_ok 30 rfl, ch_of ch9_ok 18 rfl, cd_241, ⟨by decide +kernel, by decide +kernel, by decide +kernel⟩⟩
def m_Waits_ringAt : MI := (⟨"PutOffWicks$Waits", "ringAt", "(II)I"⟩, prog_12_method_7_code, 4, (some .int))
theorem mv_Waits_ringAt : MV m_Waits_ringAt 2 := ⟨ch_of ch9_ok 31 rfl, ch_of ch9_ok 32 rfl, ch_of ch9_ok 18 rfl, cd_242, ⟨by decide +kernel, by decide +kernel, by decide +kernel⟩⟩
def m_Waits_ringsOfTwo : MI := (⟨"PutOffWicks$Waits", "ringsOfTwo", "()I"⟩, prog_12_method_6_code, 4, (some .int))
theorem mv_Waits_ringsOfTwo : MV m_Waits_ringsOfTwo 0 := ⟨ch_of ch9_ok 33 rfl, ch_of ch9_ok 34 rfl, ch_of ch9_ok 18 rfl, cd_243, ⟨by decide +kernel, by decide +kernel, by decide +kernel⟩⟩
def m_Waits_writeRing : MI := (⟨"PutOffWicks$Waits", "writeRing", "(III)V"⟩, prog_12_method_11_code, 7, none)
theorem mv_Waits_writeRing : MV m_Waits_writeRing 3 := ⟨ch_of ch9_ok 35 rfl, ch_of ch9_ok 36 rfl, ch_of ch9_ok 18 rfl, cd_244, ⟨by decide +kernel, by decide +kernel, by decide +kernel⟩⟩
theorem pn_W : plainName "PutOffWicks" = true := by decide
theorem pn_Almanac : plainName "PutOffWicks$Almanac" = true := by decide
theorem pn_Law : plainName "PutOffWicks$Law" = true := by decide
theorem pn_Parish : plainName "PutOffWicks$Parish" = true := by decide
theorem pn_ParishReader : plainName "PutOffWicks$ParishReader" = true := by decide
theorem pn_Reading : plainName "PutOffWicks$Reading" = true := by decide
theorem pn_Reckoner : plainName "PutOffWicks$Reckoner" = true := by decide
theorem pn_Rows : plainName "PutOffWicks$Rows" = true := by decide
theorem pn_Shore : plainName "PutOffWicks$Shore" = true := by decide
theorem pn_Tape : plainName "PutOffWicks$Tape" = true := by decide
theorem pn_Twist : plainName "PutOffWicks$Twist" = true := by decide
theorem pn_Waits : plainName "PutOffWicks$Waits" = true := by decide
theorem pn_Mo : plainName "PutOffWicksModel" = true := by decide
theorem pn_JI : plainName "java/lang/Integer" = true := by decide
theorem pn_JL : plainName "java/lang/Long" = true := by decide
theorem pn_JA : plainName "java/util/Arrays" = true := by decide
theorem ml_W_107 : Cond.methodLink "PutOffWicks" 107 m_Parish_has.1 ∈ lw_g := ch_of ch9_ok 37 rfl
theorem ml_W_111 : Cond.methodLink "PutOffWicks" 111 m_Parish_isDone.1 ∈ lw_g := ch_of ch9_ok 38 rfl
theorem ml_W_118 : Cond.methodLink "PutOffWicks" 118 m_Parish_putLight.1 ∈ lw_g := ch_of ch9_ok 39 rfl
theorem ml_W_122 : Cond.methodLink "PutOffWicks" 122 m_Tape_hasRoom.1 ∈ lw_g := ch_of ch9_ok 40 rfl
theorem ml_W_126 : Cond.methodLink "PutOffWicks" 126 m_Tape_put.1 ∈ lw_g := ch_of ch9_ok 41 rfl
theorem ml_W_133 : Cond.methodLink "PutOffWicks" 133 m_W_within.1 ∈ lw_g := ch_of ch9_ok 42 rfl
theorem ml_W_137 : Cond.methodLink "PutOffWicks" 137 m_Tape_take.1 ∈ lw_g := ch_of ch9_ok 43 rfl
theorem ml_W_140 : Cond.methodLink "PutOffWicks" 140 m_Law_read.1 ∈ lw_g := ch_of ch9_ok 44 rfl
theorem ml_W_144 : Cond.methodLink "PutOffWicks" 144 m_Law_copyFrom.1 ∈ lw_g := ch_of ch9_ok 45 rfl
theorem ml_W_151 : Cond.methodLink "PutOffWicks" 151 m_ParishReader_read.1 ∈ lw_g := ch_of ch9_ok 46 rfl
theorem ml_W_155 : Cond.methodLink "PutOffWicks" 155 m_Parish_beginAs.1 ∈ lw_g := ch_of ch9_ok 47 rfl
theorem ml_W_162 : Cond.methodLink "PutOffWicks" 162 m_Almanac_pass.1 ∈ lw_g := ch_of ch9_ok 48 rfl
theorem ml_W_166 : Cond.methodLink "PutOffWicks" 166 m_Parish_copyFrom.1 ∈ lw_g := ch_of ch9_ok 49 rfl
theorem ml_W_183 : Cond.methodLink "PutOffWicks" 183 m_Parish_isLit.1 ∈ lw_g := ch_of ch10_ok 0 rfl
theorem ml_W_189 : Cond.methodLink "PutOffWicks" 189 m_Parish_proudest.1 ∈ lw_g := ch_of ch10_ok 1 rfl
theorem ml_W_192 : Cond.methodLink "PutOffWicks" 192 m_Parish_putOffBy.1 ∈ lw_g := ch_of ch10_ok 2 rfl
theorem ml_W_196 : Cond.methodLink "PutOffWicks" 196 m_Parish_ordersLeft.1 ∈ lw_g := ch_of ch10_ok 3 rfl
theorem ml_W_199 : Cond.methodLink "PutOffWicks" 199 m_Parish_lightOf.1 ∈ lw_g := ch_of ch10_ok 4 rfl
theorem ml_W_202 : Cond.methodLink "PutOffWicks" 202 m_Parish_brightestOwner.1 ∈ lw_g := ch_of ch10_ok 5 rfl
theorem ml_W_205 : Cond.methodLink "PutOffWicks" 205 m_Parish_middlePutOff.1 ∈ lw_g := ch_of ch10_ok 6 rfl
theorem ml_W_208 : Cond.methodLink "PutOffWicks" 208 m_Twist_read.1 ∈ lw_g := ch_of ch10_ok 7 rfl
theorem ml_W_213 : Cond.methodLink "PutOffWicks" 213 m_Twist_oversLessUnders.1 ∈ lw_g := ch_of ch10_ok 8 rfl
theorem ml_W_216 : Cond.methodLink "PutOffWicks" 216 m_Twist_turnsLeft.1 ∈ lw_g := ch_of ch10_ok 9 rfl
theorem ml_W_219 : Cond.methodLink "PutOffWicks" 219 m_Twist_timesTillHome.1 ∈ lw_g := ch_of ch10_ok 10 rfl
theorem ml_W_222 : Cond.methodLink "PutOffWicks" 222 m_Twist_comesOut.1 ∈ lw_g := ch_of ch10_ok 11 rfl
theorem ml_W_225 : Cond.methodLink "PutOffWicks" 225 m_Waits_read.1 ∈ lw_g := ch_of ch10_ok 12 rfl
theorem ml_W_227 : Cond.methodLink "PutOffWicks" 227 m_Waits_forEver.1 ∈ lw_g := ch_of ch10_ok 13 rfl
theorem ml_W_230 : Cond.methodLink "PutOffWicks" 230 m_Waits_fewestToEnd.1 ∈ lw_g := ch_of ch10_ok 14 rfl
theorem ml_W_233 : Cond.methodLink "PutOffWicks" 233 m_Rows_bestFirst.1 ∈ lw_g := ch_of ch10_ok 15 rfl
theorem ml_W_236 : Cond.methodLink "PutOffWicks" 236 m_Rows_hoursBehind.1 ∈ lw_g := ch_of ch10_ok 16 rfl
theorem ml_W_240 : Cond.methodLink "PutOffWicks" 240 m_Rows_fewestWicks.1 ∈ lw_g := ch_of ch10_ok 17 rfl
theorem ml_W_243 : Cond.methodLink "PutOffWicks" 243 m_Rows_dayIfKnowing.1 ∈ lw_g := ch_of ch10_ok 18 rfl
theorem ml_W_246 : Cond.methodLink "PutOffWicks" 246 m_Rows_dayIfNotKnowing.1 ∈ lw_g := ch_of ch10_ok 19 rfl
theorem ml_W_249 : Cond.methodLink "PutOffWicks" 249 m_Tape_at.1 ∈ lw_g := ch_of ch10_ok 20 rfl
theorem ml_W_252 : Cond.methodLink "PutOffWicks" 252 m_Rows_longestCord.1 ∈ lw_g := ch_of ch10_ok 21 rfl
theorem ml_W_255 : Cond.methodLink "PutOffWicks" 255 m_Shore_placesSeeing.1 ∈ lw_g := ch_of ch10_ok 22 rfl
theorem ml_W_258 : Cond.methodLink "PutOffWicks" 258 m_Shore_longestRow.1 ∈ lw_g := ch_of ch10_ok 23 rfl
theorem ml_W_261 : Cond.methodLink "PutOffWicks" 261 m_Shore_bestLights.1 ∈ lw_g := ch_of ch10_ok 24 rfl
theorem ml_W_264 : Cond.methodLink "PutOffWicks" 264 m_Shore_placesOf.1 ∈ lw_g := ch_of ch10_ok 25 rfl
theorem ml_W_267 : Cond.methodLink "PutOffWicks" 267 m_Rows_evenestCut.1 ∈ lw_g := ch_of ch10_ok 26 rfl
theorem ml_W_270 : Cond.methodLink "PutOffWicks" 270 m_Rows_difference.1 ∈ lw_g := ch_of ch10_ok 27 rfl
theorem ml_W_273 : Cond.methodLink "PutOffWicks" 273 m_Rows_unbeaten.1 ∈ lw_g := ch_of ch10_ok 28 rfl
theorem ml_W_280 : Cond.methodLink "PutOffWicks" 280 m_Parish_comeBackTo.1 ∈ lw_g := ch_of ch10_ok 29 rfl
theorem ml_W_283 : Cond.methodLink "PutOffWicks" 283 m_Parish_ownersLeft.1 ∈ lw_g := ch_of ch10_ok 30 rfl
theorem ml_Almanac_21 : Cond.methodLink "PutOffWicks$Almanac" 21 m_JI_bitCount.1 ∈ lw_g := ch_of ch10_ok 31 rfl
theorem ml_Almanac_33 : Cond.methodLink "PutOffWicks$Almanac" 33 m_Parish_isDone.1 ∈ lw_g := ch_of ch10_ok 32 rfl
theorem ml_Almanac_37 : Cond.methodLink "PutOffWicks$Almanac" 37 m_Almanac_passOver.1 ∈ lw_g := ch_of ch10_ok 33 rfl
theorem ml_Almanac_41 : Cond.methodLink "PutOffWicks$Almanac" 41 m_Parish_draw.1 ∈ lw_g := ch_of ch10_ok 34 rfl
theorem ml_Almanac_45 : Cond.methodLink "PutOffWicks$Almanac" 45 m_Reckoner_face.1 ∈ lw_g := ch_of ch10_ok 35 rfl
theorem ml_Almanac_51 : Cond.methodLink "PutOffWicks$Almanac" 51 m_Reckoner_ask.1 ∈ lw_g := ch_of ch10_ok 36 rfl
theorem ml_Almanac_59 : Cond.methodLink "PutOffWicks$Almanac" 59 m_Parish_putLight.1 ∈ lw_g := ch_of ch10_ok 37 rfl
theorem ml_Almanac_63 : Cond.methodLink "PutOffWicks$Almanac" 63 m_Parish_isLit.1 ∈ lw_g := ch_of ch10_ok 38 rfl
theorem ml_Almanac_66 : Cond.methodLink "PutOffWicks$Almanac" 66 m_Parish_burn.1 ∈ lw_g := ch_of ch10_ok 39 rfl
theorem ml_Almanac_70 : Cond.methodLink "PutOffWicks$Almanac" 70 m_Parish_isFree.1 ∈ lw_g := ch_of ch10_ok 40 rfl
theorem ml_Almanac_73 : Cond.methodLink "PutOffWicks$Almanac" 73 m_Parish_finish.1 ∈ lw_g := ch_of ch10_ok 41 rfl
theorem ml_Almanac_77 : Cond.methodLink "PutOffWicks$Almanac" 77 m_Parish_putItOff.1 ∈ lw_g := ch_of ch10_ok 42 rfl
theorem ac_Law_41 : AC "PutOffWicks$Law" 41 := ⟨ch_of ch10_ok 43 rfl, ch_of ch10_ok 44 rfl, ch_of ch10_ok 45 rfl, ch_of ch10_ok 46 rfl⟩
theorem ml_Law_47 : Cond.methodLink "PutOffWicks$Law" 47 m_Reading_begin.1 ∈ lw_g := ch_of ch10_ok 47 rfl
theorem ml_Law_52 : Cond.methodLink "PutOffWicks$Law" 52 m_Reading_sign.1 ∈ lw_g := ch_of ch10_ok 48 rfl
theorem ml_Law_59 : Cond.methodLink "PutOffWicks$Law" 59 m_Reading_fail.1 ∈ lw_g := ch_of ch10_ok 49 rfl
theorem ml_Law_63 : Cond.methodLink "PutOffWicks$Law" 63 m_Law_add.1 ∈ lw_g := ch_of ch11_ok 0 rfl
theorem ml_Law_67 : Cond.methodLink "PutOffWicks$Law" 67 m_Law_readValue.1 ∈ lw_g := ch_of ch11_ok 1 rfl
theorem ml_Law_71 : Cond.methodLink "PutOffWicks$Law" 71 m_Reading_needs.1 ∈ lw_g := ch_of ch11_ok 2 rfl
theorem ml_Law_74 : Cond.methodLink "PutOffWicks$Law" 74 m_Law_readCondition.1 ∈ lw_g := ch_of ch11_ok 3 rfl
theorem ml_Law_77 : Cond.methodLink "PutOffWicks$Law" 77 m_Reading_goesOn.1 ∈ lw_g := ch_of ch11_ok 4 rfl
theorem ml_Law_84 : Cond.methodLink "PutOffWicks$Law" 84 m_Law_readTest.1 ∈ lw_g := ch_of ch11_ok 5 rfl
theorem ml_Law_87 : Cond.methodLink "PutOffWicks$Law" 87 m_Law_land.1 ∈ lw_g := ch_of ch11_ok 6 rfl
theorem ml_Law_90 : Cond.methodLink "PutOffWicks$Law" 90 m_Reading_takes.1 ∈ lw_g := ch_of ch11_ok 7 rfl
theorem ml_Law_94 : Cond.methodLink "PutOffWicks$Law" 94 m_Law_opens.1 ∈ lw_g := ch_of ch11_ok 8 rfl
theorem ml_Law_97 : Cond.methodLink "PutOffWicks$Law" 97 m_Law_readFactor.1 ∈ lw_g := ch_of ch11_ok 9 rfl
theorem ml_Law_100 : Cond.methodLink "PutOffWicks$Law" 100 m_Reading_isDigit.1 ∈ lw_g := ch_of ch11_ok 10 rfl
theorem ml_Law_103 : Cond.methodLink "PutOffWicks$Law" 103 m_Reading_number.1 ∈ lw_g := ch_of ch11_ok 11 rfl
theorem ml_Law_107 : Cond.methodLink "PutOffWicks$Law" 107 m_Law_isFact.1 ∈ lw_g := ch_of ch11_ok 12 rfl
theorem ac_Parish_43 : AC "PutOffWicks$Parish" 43 := ⟨ch_of ch11_ok 13 rfl, ch_of ch10_ok 44 rfl, ch_of ch10_ok 45 rfl, ch_of ch10_ok 46 rfl⟩
theorem ml_Parish_49 : Cond.methodLink "PutOffWicks$Parish" 49 m_Parish_copyFrom.1 ∈ lw_g := ch_of ch11_ok 14 rfl
theorem ms_Parish_53 : MS "PutOffWicks$Parish" 53 Lib.Math.min.name Lib.Math.min.code 2 := ⟨ch_of ch11_ok 15 rfl, ch_of ch0_ok 15 rfl, ch_of ch0_ok 13 rfl, cd_8⟩
theorem ml_Parish_60 : Cond.methodLink "PutOffWicks$Parish" 60 m_Parish_has.1 ∈ lw_g := ch_of ch11_ok 16 rfl
theorem ml_Parish_64 : Cond.methodLink "PutOffWicks$Parish" 64 m_Parish_isDone.1 ∈ lw_g := ch_of ch11_ok 17 rfl
theorem ms_Parish_67 : MS "PutOffWicks$Parish" 67 Lib.Math.max.name Lib.Math.max.code 2 := ⟨ch_of ch11_ok 18 rfl, ch_of ch0_ok 14 rfl, ch_of ch0_ok 13 rfl, cd_7⟩
theorem ml_Parish_70 : Cond.methodLink "PutOffWicks$Parish" 70 m_Parish_putLight.1 ∈ lw_g := ch_of ch11_ok 19 rfl
theorem ml_Parish_74 : Cond.methodLink "PutOffWicks$Parish" 74 m_Parish_isLit.1 ∈ lw_g := ch_of ch11_ok 20 rfl
theorem ml_Parish_77 : Cond.methodLink "PutOffWicks$Parish" 77 m_Parish_ownersLeft.1 ∈ lw_g := ch_of ch11_ok 21 rfl
theorem ml_Parish_81 : Cond.methodLink "PutOffWicks$Parish" 81 m_Parish_putOffBy.1 ∈ lw_g := ch_of ch11_ok 22 rfl
theorem ml_Parish_85 : Cond.methodLink "PutOffWicks$Parish" 85 m_Parish_lightOf.1 ∈ lw_g := ch_of ch11_ok 23 rfl
theorem ml_Parish_88 : Cond.methodLink "PutOffWicks$Parish" 88 m_JI_bitCount.1 ∈ lw_g := ch_of ch11_ok 24 rfl
theorem ml_Parish_93 : Cond.methodLink "PutOffWicks$Parish" 93 m_Parish_leftPutOffUnder.1 ∈ lw_g := ch_of ch11_ok 25 rfl
theorem ml_Parish_96 : Cond.methodLink "PutOffWicks$Parish" 96 m_Parish_leftThatNeed.1 ∈ lw_g := ch_of ch11_ok 26 rfl
theorem ml_ParishReader_22 : Cond.methodLink "PutOffWicks$ParishReader" 22 m_Reading_begin.1 ∈ lw_g := ch_of ch11_ok 27 rfl
theorem ml_ParishReader_34 : Cond.methodLink "PutOffWicks$ParishReader" 34 m_ParishReader_readLine.1 ∈ lw_g := ch_of ch11_ok 28 rfl
theorem ml_ParishReader_38 : Cond.methodLink "PutOffWicks$ParishReader" 38 m_Reading_goesOn.1 ∈ lw_g := ch_of ch11_ok 29 rfl
theorem ml_ParishReader_45 : Cond.methodLink "PutOffWicks$ParishReader" 45 m_Reading_sign.1 ∈ lw_g := ch_of ch11_ok 30 rfl
theorem ml_ParishReader_52 : Cond.methodLink "PutOffWicks$ParishReader" 52 m_Reading_fail.1 ∈ lw_g := ch_of ch11_ok 31 rfl
theorem ml_ParishReader_56 : Cond.methodLink "PutOffWicks$ParishReader" 56 m_Reading_number.1 ∈ lw_g := ch_of ch11_ok 32 rfl
theorem ml_ParishReader_60 : Cond.methodLink "PutOffWicks$ParishReader" 60 m_Reading_takes.1 ∈ lw_g := ch_of ch11_ok 33 rfl
theorem ml_ParishReader_64 : Cond.methodLink "PutOffWicks$ParishReader" 64 m_ParishReader_readOther.1 ∈ lw_g := ch_of ch11_ok 34 rfl
theorem ml_ParishReader_74 : Cond.methodLink "PutOffWicks$ParishReader" 74 m_Parish_putLight.1 ∈ lw_g := ch_of ch11_ok 35 rfl
theorem ml_Reading_20 : Cond.methodLink "PutOffWicks$Reading" 20 m_Tape_at.1 ∈ lw_g := ch_of ch11_ok 36 rfl
theorem ml_Reading_25 : Cond.methodLink "PutOffWicks$Reading" 25 m_Reading_fail.1 ∈ lw_g := ch_of ch11_ok 37 rfl
theorem ml_Reading_29 : Cond.methodLink "PutOffWicks$Reading" 29 m_Reading_needs.1 ∈ lw_g := ch_of ch11_ok 38 rfl
theorem ml_Reading_33 : Cond.methodLink "PutOffWicks$Reading" 33 m_Reading_isDigit.1 ∈ lw_g := ch_of ch11_ok 39 rfl
theorem ml_Reckoner_51 : Cond.methodLink "PutOffWicks$Reckoner" 51 m_Reckoner_reckon.1 ∈ lw_g := ch_of ch11_ok 40 rfl
theorem ms_Reckoner_58 : MS "PutOffWicks$Reckoner" 58 Lib.Math.min.name Lib.Math.min.code 2 := ⟨ch_of ch11_ok 41 rfl, ch_of ch0_ok 15 rfl, ch_of ch0_ok 13 rfl, cd_8⟩
theorem ms_Reckoner_63 : MS "PutOffWicks$Reckoner" 63 Lib.Math.max.name Lib.Math.max.code 2 := ⟨ch_of ch11_ok 42 rfl, ch_of ch0_ok 14 rfl, ch_of ch0_ok 13 rfl, cd_7⟩
theorem ml_Reckoner_72 : Cond.methodLink "PutOffWicks$Reckoner" 72 m_Reckoner_push.1 ∈ lw_g := ch_of ch11_ok 43 rfl
theorem ml_Reckoner_76 : Cond.methodLink "PutOffWicks$Reckoner" 76 m_Reckoner_fact.1 ∈ lw_g := ch_of ch11_ok 44 rfl
theorem ml_Reckoner_80 : Cond.methodLink "PutOffWicks$Reckoner" 80 m_Reckoner_pop.1 ∈ lw_g := ch_of ch11_ok 45 rfl
theorem ml_Reckoner_84 : Cond.methodLink "PutOffWicks$Reckoner" 84 m_Reckoner_joined.1 ∈ lw_g := ch_of ch11_ok 46 rfl
theorem ml_Reckoner_88 : Cond.methodLink "PutOffWicks$Reckoner" 88 m_Parish_has.1 ∈ lw_g := ch_of ch11_ok 47 rfl
theorem ml_Reckoner_103 : Cond.methodLink "PutOffWicks$Reckoner" 103 m_Parish_isLit.1 ∈ lw_g := ch_of ch11_ok 48 rfl
theorem ml_Reckoner_106 : Cond.methodLink "PutOffWicks$Reckoner" 106 m_Parish_leftOf.1 ∈ lw_g := ch_of ch11_ok 49 rfl
theorem ml_Reckoner_109 : Cond.methodLink "PutOffWicks$Reckoner" 109 m_Parish_waitersFor.1 ∈ lw_g := ch_of ch12_ok 0 rfl
theorem ml_Rows_15 : Cond.methodLink "PutOffWicks$Rows" 15 m_Rows_hoursBehind.1 ∈ lw_g := ch_of ch12_ok 1 rfl
theorem ml_Rows_19 : Cond.methodLink "PutOffWicks$Rows" 19 m_Tape_at.1 ∈ lw_g := ch_of ch12_ok 2 rfl
theorem ml_Rows_25 : Cond.methodLink "PutOffWicks$Rows" 25 m_Rows_nextToSpin.1 ∈ lw_g := ch_of ch12_ok 3 rfl
theorem ms_Rows_28 : MS "PutOffWicks$Rows" 28 Lib.Math.max.name Lib.Math.max.code 2 := ⟨ch_of ch12_ok 4 rfl, ch_of ch0_ok 14 rfl, ch_of ch0_ok 13 rfl, cd_7⟩
theorem ml_Rows_33 : Cond.methodLink "PutOffWicks$Rows" 33 m_Rows_spinsAhead.1 ∈ lw_g := ch_of ch12_ok 5 rfl
theorem ml_Rows_37 : Cond.methodLink "PutOffWicks$Rows" 37 m_Rows_farthestFrom.1 ∈ lw_g := ch_of ch12_ok 6 rfl
theorem ms_Rows_40 : MS "PutOffWicks$Rows" 40 Lib.Math.min.name Lib.Math.min.code 2 := ⟨ch_of ch12_ok 7 rfl, ch_of ch0_ok 15 rfl, ch_of ch0_ok 13 rfl, cd_8⟩
theorem ml_Rows_43 : Cond.methodLink "PutOffWicks$Rows" 43 m_Rows_sufficesFor.1 ∈ lw_g := ch_of ch12_ok 8 rfl
theorem ml_Rows_47 : Cond.methodLink "PutOffWicks$Rows" 47 m_Rows_difference.1 ∈ lw_g := ch_of ch12_ok 9 rfl
theorem ms_Rows_50 : MS "PutOffWicks$Rows" 50 Lib.Math.abs.name Lib.Math.abs.code 1 := ⟨ch_of ch12_ok 10 rfl, ch_of ch0_ok 12 rfl, ch_of ch0_ok 13 rfl, cd_6⟩
theorem ml_Rows_53 : Cond.methodLink "PutOffWicks$Rows" 53 m_Rows_beats.1 ∈ lw_g := ch_of ch12_ok 11 rfl
theorem ml_Shore_17 : Cond.methodLink "PutOffWicks$Shore" 17 m_Tape_at.1 ∈ lw_g := ch_of ch12_ok 12 rfl
theorem ms_Shore_23 : MS "PutOffWicks$Shore" 23 Lib.Math.abs.name Lib.Math.abs.code 1 := ⟨ch_of ch12_ok 13 rfl, ch_of ch0_ok 12 rfl, ch_of ch0_ok 13 rfl, cd_6⟩
theorem ml_Shore_28 : Cond.methodLink "PutOffWicks$Shore" 28 m_Shore_isSeen.1 ∈ lw_g := ch_of ch12_ok 14 rfl
theorem ml_Shore_32 : Cond.methodLink "PutOffWicks$Shore" 32 m_Shore_sees.1 ∈ lw_g := ch_of ch12_ok 15 rfl
theorem ms_Shore_36 : MS "PutOffWicks$Shore" 36 Lib.Math.max.name Lib.Math.max.code 2 := ⟨ch_of ch12_ok 16 rfl, ch_of ch0_ok 14 rfl, ch_of ch0_ok 13 rfl, cd_7⟩
theorem ml_Shore_40 : Cond.methodLink "PutOffWicks$Shore" 40 m_Shore_fillView.1 ∈ lw_g := ch_of ch12_ok 17 rfl
theorem ml_Shore_44 : Cond.methodLink "PutOffWicks$Shore" 44 m_JI_bitCount.1 ∈ lw_g := ch_of ch12_ok 18 rfl
theorem ml_Shore_49 : Cond.methodLink "PutOffWicks$Shore" 49 m_Shore_placesOf.1 ∈ lw_g := ch_of ch12_ok 19 rfl
theorem ml_Shore_52 : Cond.methodLink "PutOffWicks$Shore" 52 m_JL_bitCount.1 ∈ lw_g := ch_of ch12_ok 20 rfl
theorem ml_Shore_57 : Cond.methodLink "PutOffWicks$Shore" 57 m_JA_fillJ.1 ∈ lw_g := ch_of ch12_ok 21 rfl
theorem ml_Twist_41 : Cond.methodLink "PutOffWicks$Twist" 41 m_Reading_begin.1 ∈ lw_g := ch_of ch12_ok 22 rfl
theorem ml_Twist_46 : Cond.methodLink "PutOffWicks$Twist" 46 m_Twist_ends.1 ∈ lw_g := ch_of ch12_ok 23 rfl
theorem ml_Twist_53 : Cond.methodLink "PutOffWicks$Twist" 53 m_Twist_readTimes.1 ∈ lw_g := ch_of ch12_ok 24 rfl
theorem ml_Twist_57 : Cond.methodLink "PutOffWicks$Twist" 57 m_Reading_sign.1 ∈ lw_g := ch_of ch12_ok 25 rfl
theorem ml_Twist_60 : Cond.methodLink "PutOffWicks$Twist" 60 m_Twist_readTurn.1 ∈ lw_g := ch_of ch12_ok 26 rfl
theorem ml_Twist_64 : Cond.methodLink "PutOffWicks$Twist" 64 m_Twist_repeat.1 ∈ lw_g := ch_of ch12_ok 27 rfl
theorem ml_Twist_68 : Cond.methodLink "PutOffWicks$Twist" 68 m_Twist_openGroup.1 ∈ lw_g := ch_of ch12_ok 28 rfl
theorem ml_Twist_72 : Cond.methodLink "PutOffWicks$Twist" 72 m_Twist_closeGroup.1 ∈ lw_g := ch_of ch12_ok 29 rfl
theorem ml_Twist_75 : Cond.methodLink "PutOffWicks$Twist" 75 m_Reading_fail.1 ∈ lw_g := ch_of ch12_ok 30 rfl
theorem ml_Twist_81 : Cond.methodLink "PutOffWicks$Twist" 81 m_Reading_failed.1 ∈ lw_g := ch_of ch12_ok 31 rfl
theorem ms_Twist_86 : MS "PutOffWicks$Twist" 86 Lib.Math.abs.name Lib.Math.abs.code 1 := ⟨ch_of ch12_ok 32 rfl, ch_of ch0_ok 12 rfl, ch_of ch0_ok 13 rfl, cd_6⟩
theorem ml_Twist_92 : Cond.methodLink "PutOffWicks$Twist" 92 m_Twist_comesOut.1 ∈ lw_g := ch_of ch12_ok 33 rfl
theorem ml_Waits_28 : Cond.methodLink "PutOffWicks$Waits" 28 m_JA_fillI.1 ∈ lw_g := ch_of ch12_ok 34 rfl
theorem ml_Waits_34 : Cond.methodLink "PutOffWicks$Waits" 34 m_Tape_at.1 ∈ lw_g := ch_of ch12_ok 35 rfl
theorem ml_Waits_40 : nW = Cond.methodLinkNest "PutOffWicks$Waits" 40 m_W_within.1 "PutOffWicks" := rfl
theorem ml_Waits_45 : Cond.methodLink "PutOffWicks$Waits" 45 m_Waits_ringsOfTwo.1 ∈ lw_g := ch_of ch12_ok 36 rfl
theorem ml_Waits_49 : Cond.methodLink "PutOffWicks$Waits" 49 m_Waits_canEnd.1 ∈ lw_g := ch_of ch12_ok 37 rfl
theorem ml_Waits_53 : Cond.methodLink "PutOffWicks$Waits" 53 m_Waits_findShortestRing.1 ∈ lw_g := ch_of ch12_ok 38 rfl
theorem ml_Waits_56 : Cond.methodLink "PutOffWicks$Waits" 56 m_Waits_ringAt.1 ∈ lw_g := ch_of ch12_ok 39 rfl
theorem ml_Waits_60 : Cond.methodLink "PutOffWicks$Waits" 60 m_Waits_forEver.1 ∈ lw_g := ch_of ch12_ok 40 rfl
theorem ml_Waits_63 : Cond.methodLink "PutOffWicks$Waits" 63 m_Waits_findRingOf.1 ∈ lw_g := ch_of ch12_ok 41 rfl
theorem ml_Waits_67 : Cond.methodLink "PutOffWicks$Waits" 67 m_Waits_writeRing.1 ∈ lw_g := ch_of ch12_ok 42 rfl
theorem ml_Waits_71 : Cond.methodLink "PutOffWicks$Waits" 71 m_Waits_markFrom.1 ∈ lw_g := ch_of ch12_ok 43 rfl
theorem ml_Mo_124 : Cond.methodLink "PutOffWicksModel" 124 m_Mo_in.1 ∈ lw_g := ch_of ch12_ok 44 rfl
theorem ml_Mo_128 : Cond.methodLink "PutOffWicksModel" 128 m_Mo_isThing.1 ∈ lw_g := ch_of ch12_ok 45 rfl
theorem ml_Mo_132 : Cond.methodLink "PutOffWicksModel" 132 m_Mo_isLeft.1 ∈ lw_g := ch_of ch12_ok 46 rfl
theorem ml_Mo_138 : Cond.methodLink "PutOffWicksModel" 138 m_Mo_types.1 ∈ lw_g := ch_of ch12_ok 47 rfl
theorem ml_Mo_148 : Cond.methodLink "PutOffWicksModel" 148 m_Mo_here.1 ∈ lw_g := ch_of ch12_ok 48 rfl
theorem ml_Mo_155 : Cond.methodLink "PutOffWicksModel" 155 m_Mo_wrongAt.1 ∈ lw_g := ch_of ch12_ok 49 rfl
theorem ml_Mo_162 : Cond.methodLink "PutOffWicksModel" 162 m_Mo_isDigit.1 ∈ lw_g := ch_of ch13_ok 0 rfl
theorem ml_Mo_176 : Cond.methodLink "PutOffWicksModel" 176 m_Mo_waitTop.1 ∈ lw_g := ch_of ch13_ok 1 rfl
theorem ml_Mo_179 : Cond.methodLink "PutOffWicksModel" 179 m_Mo_notes.1 ∈ lw_g := ch_of ch13_ok 2 rfl
theorem ml_Mo_183 : Cond.methodLink "PutOffWicksModel" 183 m_Mo_opens.1 ∈ lw_g := ch_of ch13_ok 3 rfl
theorem ml_Mo_186 : Cond.methodLink "PutOffWicksModel" 186 m_Mo_readsNumber.1 ∈ lw_g := ch_of ch13_ok 4 rfl
theorem ml_Mo_189 : Cond.methodLink "PutOffWicksModel" 189 m_Mo_factOf.1 ∈ lw_g := ch_of ch13_ok 5 rfl
theorem ml_Mo_193 : Cond.methodLink "PutOffWicksModel" 193 m_Mo_readsFactor.1 ∈ lw_g := ch_of ch13_ok 6 rfl
theorem ml_Mo_196 : Cond.methodLink "PutOffWicksModel" 196 m_Mo_sumSign.1 ∈ lw_g := ch_of ch13_ok 7 rfl
theorem ml_Mo_199 : Cond.methodLink "PutOffWicksModel" 199 m_Mo_closesSums.1 ∈ lw_g := ch_of ch13_ok 8 rfl
theorem ml_Mo_203 : Cond.methodLink "PutOffWicksModel" 203 m_Mo_hasOpenSum.1 ∈ lw_g := ch_of ch13_ok 9 rfl
theorem ml_Mo_206 : Cond.methodLink "PutOffWicksModel" 206 m_Mo_readsSum.1 ∈ lw_g := ch_of ch13_ok 10 rfl
theorem ml_Mo_209 : Cond.methodLink "PutOffWicksModel" 209 m_Mo_endsPiece.1 ∈ lw_g := ch_of ch13_ok 11 rfl
theorem ml_Mo_212 : Cond.methodLink "PutOffWicksModel" 212 m_Mo_readsCompared.1 ∈ lw_g := ch_of ch13_ok 12 rfl
theorem ml_Mo_215 : Cond.methodLink "PutOffWicksModel" 215 m_Mo_lands.1 ∈ lw_g := ch_of ch13_ok 13 rfl
theorem ml_Mo_218 : Cond.methodLink "PutOffWicksModel" 218 m_Mo_jumps.1 ∈ lw_g := ch_of ch13_ok 14 rfl
theorem ml_Mo_224 : Cond.methodLink "PutOffWicksModel" 224 m_Mo_readsCondition.1 ∈ lw_g := ch_of ch13_ok 15 rfl
theorem ml_Mo_227 : Cond.methodLink "PutOffWicksModel" 227 m_Mo_beginsText.1 ∈ lw_g := ch_of ch13_ok 16 rfl
theorem ml_Mo_230 : Cond.methodLink "PutOffWicksModel" 230 m_Mo_readsRule.1 ∈ lw_g := ch_of ch13_ok 17 rfl
theorem ml_Mo_233 : Cond.methodLink "PutOffWicksModel" 233 m_Mo_takes.1 ∈ lw_g := ch_of ch13_ok 18 rfl
theorem ml_Mo_239 : Cond.methodLink "PutOffWicksModel" 239 m_Mo_reckon.1 ∈ lw_g := ch_of ch13_ok 19 rfl
theorem ml_Mo_243 : Cond.methodLink "PutOffWicksModel" 243 m_Mo_reckonsTo.1 ∈ lw_g := ch_of ch13_ok 20 rfl
theorem ml_Mo_250 : Cond.methodLink "PutOffWicksModel" 250 m_Mo_readsAmount.1 ∈ lw_g := ch_of ch13_ok 21 rfl
theorem ml_Mo_253 : Cond.methodLink "PutOffWicksModel" 253 m_Mo_readsThing.1 ∈ lw_g := ch_of ch13_ok 22 rfl
theorem ml_Mo_256 : Cond.methodLink "PutOffWicksModel" 256 m_Mo_leftOf.1 ∈ lw_g := ch_of ch13_ok 23 rfl
theorem ml_Mo_259 : Cond.methodLink "PutOffWicksModel" 259 m_Mo_waitersOf.1 ∈ lw_g := ch_of ch13_ok 24 rfl
theorem ml_Mo_262 : Cond.methodLink "PutOffWicksModel" 262 m_Mo_draws.1 ∈ lw_g := ch_of ch13_ok 25 rfl
theorem ml_Mo_265 : Cond.methodLink "PutOffWicksModel" 265 m_Mo_max.1 ∈ lw_g := ch_of ch13_ok 26 rfl
theorem ml_Mo_271 : Cond.methodLink "PutOffWicksModel" 271 m_Mo_min.1 ∈ lw_g := ch_of ch13_ok 27 rfl
theorem ml_Mo_274 : Cond.methodLink "PutOffWicksModel" 274 m_Mo_feels.1 ∈ lw_g := ch_of ch13_ok 28 rfl
theorem ml_Mo_277 : Cond.methodLink "PutOffWicksModel" 277 m_Mo_holdsAny.1 ∈ lw_g := ch_of ch13_ok 29 rfl
theorem ml_Mo_280 : Cond.methodLink "PutOffWicksModel" 280 m_Mo_byLaw.1 ∈ lw_g := ch_of ch13_ok 30 rfl
theorem ml_Mo_283 : Cond.methodLink "PutOffWicksModel" 283 m_Mo_burns.1 ∈ lw_g := ch_of ch13_ok 31 rfl
theorem ml_Mo_286 : Cond.methodLink "PutOffWicksModel" 286 m_Mo_isDone.1 ∈ lw_g := ch_of ch13_ok 32 rfl
theorem ml_Mo_289 : Cond.methodLink "PutOffWicksModel" 289 m_Mo_isPutOff.1 ∈ lw_g := ch_of ch13_ok 33 rfl
theorem ml_Mo_292 : Cond.methodLink "PutOffWicksModel" 292 m_Mo_goesOn.1 ∈ lw_g := ch_of ch13_ok 34 rfl
theorem ml_Mo_295 : Cond.methodLink "PutOffWicksModel" 295 m_Mo_dayGoes.1 ∈ lw_g := ch_of ch13_ok 35 rfl
theorem ml_Mo_298 : Cond.methodLink "PutOffWicksModel" 298 m_Mo_daysGo.1 ∈ lw_g := ch_of ch13_ok 36 rfl
theorem ml_Mo_301 : Cond.methodLink "PutOffWicksModel" 301 m_Mo_copies.1 ∈ lw_g := ch_of ch13_ok 37 rfl
theorem ml_Mo_305 : Cond.methodLink "PutOffWicksModel" 305 m_Mo_setOf.1 ∈ lw_g := ch_of ch13_ok 38 rfl
theorem ml_Mo_308 : Cond.methodLink "PutOffWicksModel" 308 m_Mo_daysOf.1 ∈ lw_g := ch_of ch13_ok 39 rfl
theorem ml_Mo_311 : Cond.methodLink "PutOffWicksModel" 311 m_Mo_placeOf.1 ∈ lw_g := ch_of ch13_ok 40 rfl
theorem ml_Mo_314 : Cond.methodLink "PutOffWicksModel" 314 m_Mo_has.1 ∈ lw_g := ch_of ch13_ok 41 rfl
theorem ml_Mo_317 : Cond.methodLink "PutOffWicksModel" 317 m_Mo_waysTo.1 ∈ lw_g := ch_of ch13_ok 42 rfl
theorem ml_Mo_320 : Cond.methodLink "PutOffWicksModel" 320 m_Mo_lightOf.1 ∈ lw_g := ch_of ch13_ok 43 rfl
theorem ml_Mo_332 : Cond.methodLink "PutOffWicksModel" 332 m_Mo_readsTimes.1 ∈ lw_g := ch_of ch13_ok 44 rfl
theorem ml_Mo_338 : Cond.methodLink "PutOffWicksModel" 338 m_Mo_repeats.1 ∈ lw_g := ch_of ch13_ok 45 rfl
theorem ml_Mo_341 : Cond.methodLink "PutOffWicksModel" 341 m_Mo_size.1 ∈ lw_g := ch_of ch13_ok 46 rfl
theorem ml_Mo_344 : Cond.methodLink "PutOffWicksModel" 344 m_Mo_comesOut.1 ∈ lw_g := ch_of ch13_ok 47 rfl
theorem ml_Mo_347 : Cond.methodLink "PutOffWicksModel" 347 m_Mo_areHome.1 ∈ lw_g := ch_of ch13_ok 48 rfl
theorem ml_Mo_350 : Cond.methodLink "PutOffWicksModel" 350 m_Mo_readsTurn.1 ∈ lw_g := ch_of ch13_ok 49 rfl
theorem ml_Mo_353 : Cond.methodLink "PutOffWicksModel" 353 m_Mo_turnsAll.1 ∈ lw_g := ch_of ch14_ok 0 rfl
theorem ml_Mo_356 : Cond.methodLink "PutOffWicksModel" 356 m_Mo_overs.1 ∈ lw_g := ch_of ch14_ok 1 rfl
theorem ml_Mo_359 : Cond.methodLink "PutOffWicksModel" 359 m_Mo_shortened.1 ∈ lw_g := ch_of ch14_ok 2 rfl
theorem ml_Mo_362 : Cond.methodLink "PutOffWicksModel" 362 m_Mo_oftenTill.1 ∈ lw_g := ch_of ch14_ok 3 rfl
theorem ml_Mo_367 : Cond.methodLink "PutOffWicksModel" 367 m_Mo_bits.1 ∈ lw_g := ch_of ch14_ok 4 rfl
theorem ml_Mo_370 : Cond.methodLink "PutOffWicksModel" 370 m_Mo_octet.1 ∈ lw_g := ch_of ch14_ok 5 rfl
theorem ml_Mo_373 : Cond.methodLink "PutOffWicksModel" 373 m_Mo_forEver.1 ∈ lw_g := ch_of ch14_ok 6 rfl
theorem ml_Mo_376 : Cond.methodLink "PutOffWicksModel" 376 m_Mo_mustEnd.1 ∈ lw_g := ch_of ch14_ok 7 rfl
theorem ml_Mo_379 : Cond.methodLink "PutOffWicksModel" 379 m_Mo_changesRow.1 ∈ lw_g := ch_of ch14_ok 8 rfl
theorem ml_Mo_382 : Cond.methodLink "PutOffWicksModel" 382 m_Mo_hoursOfRow.1 ∈ lw_g := ch_of ch14_ok 9 rfl
theorem ml_Mo_385 : Cond.methodLink "PutOffWicksModel" 385 m_Mo_nextRow.1 ∈ lw_g := ch_of ch14_ok 10 rfl
theorem ml_Mo_388 : Cond.methodLink "PutOffWicksModel" 388 m_Mo_leastLater.1 ∈ lw_g := ch_of ch14_ok 11 rfl
theorem ml_Mo_391 : Cond.methodLink "PutOffWicksModel" 391 m_Mo_knowing.1 ∈ lw_g := ch_of ch14_ok 12 rfl
theorem ml_Mo_394 : Cond.methodLink "PutOffWicksModel" 394 m_Mo_unknowing.1 ∈ lw_g := ch_of ch14_ok 13 rfl
theorem ml_Mo_397 : Cond.methodLink "PutOffWicksModel" 397 m_Mo_isSeen.1 ∈ lw_g := ch_of ch14_ok 14 rfl
theorem ml_Mo_400 : Cond.methodLink "PutOffWicksModel" 400 m_Mo_seenAt.1 ∈ lw_g := ch_of ch14_ok 15 rfl
theorem ml_Mo_403 : Cond.methodLink "PutOffWicksModel" 403 m_Mo_brightOf.1 ∈ lw_g := ch_of ch14_ok 16 rfl
theorem ml_Mo_406 : Cond.methodLink "PutOffWicksModel" 406 m_Mo_isBetter.1 ∈ lw_g := ch_of ch14_ok 17 rfl
theorem ml_Mo_416 : Cond.methodLink "PutOffWicksModel" 416 m_Mo_whoHasLeft.1 ∈ lw_g := ch_of ch14_ok 18 rfl
theorem fl_W_10 : FL "PutOffWicks" 10 11 0 := ⟨"PutOffWicks", T_11, 14, rfl, by decide, ch_of ch14_ok 19 rfl, iw_11⟩
theorem fl_W_21 : FL "PutOffWicks" 21 11 1 := ⟨"PutOffWicks", T_11, 14, rfl, by decide, ch_of ch14_ok 20 rfl, iw_11⟩
theorem fl_W_28 : FL "PutOffWicks" 28 11 2 := ⟨"PutOffWicks", T_11, 14, rfl, by decide, ch_of ch14_ok 21 rfl, iw_11⟩
theorem fl_W_32 : FL "PutOffWicks" 32 11 3 := ⟨"PutOffWicks", T_11, 14, rfl, by decide, ch_of ch14_ok 22 rfl, iw_11⟩
theorem fl_W_35 : FL "PutOffWicks" 35 11 4 := ⟨"PutOffWicks", T_11, 14, rfl, by decide, ch_of ch14_ok 23 rfl, iw_11⟩
theorem fl_W_43 : FL "PutOffWicks" 43 11 5 := ⟨"PutOffWicks", T_11, 14, rfl, by decide, ch_of ch14_ok 24 rfl, iw_11⟩
theorem fl_W_50 : FL "PutOffWicks" 50 11 6 := ⟨"PutOffWicks", T_11, 14, rfl, by decide, ch_of ch14_ok 25 rfl, iw_11⟩
theorem fl_W_54 : FL "PutOffWicks" 54 11 7 := ⟨"PutOffWicks", T_11, 14, rfl, by decide, ch_of ch14_ok 26 rfl, iw_11⟩
theorem fl_W_67 : FL "PutOffWicks" 67 11 8 := ⟨"PutOffWicks", T_11, 14, rfl, by decide, ch_of ch14_ok 27 rfl, iw_11⟩
theorem fl_W_74 : FL "PutOffWicks" 74 11 9 := ⟨"PutOffWicks", T_11, 14, rfl, by decide, ch_of ch14_ok 28 rfl, iw_11⟩
theorem fl_W_81 : FL "PutOffWicks" 81 11 10 := ⟨"PutOffWicks", T_11, 14, rfl, by decide, ch_of ch14_ok 29 rfl, iw_11⟩
theorem fl_W_88 : FL "PutOffWicks" 88 11 11 := ⟨"PutOffWicks", T_11, 14, rfl, by decide, ch_of ch14_ok 30 rfl, iw_11⟩
theorem fl_W_95 : FL "PutOffWicks" 95 11 12 := ⟨"PutOffWicks", T_11, 14, rfl, by decide, ch_of ch14_ok 31 rfl, iw_11⟩
theorem fl_W_99 : FL "PutOffWicks" 99 11 13 := ⟨"PutOffWicks", T_11, 14, rfl, by decide, ch_of ch14_ok 32 rfl, iw_11⟩
theorem fp_W_99 : FP "PutOffWicks" 99 11 13 .boolean := ⟨"PutOffWicks", T_11, 14, ty_11, rfl, by decide, ch_of ch14_ok 32 rfl, iw_11, tk_11, nm_11, rfl, by decide +kernel⟩
theorem fl_W_103 : FL "PutOffWicks" 103 2 9 := ⟨"PutOffWicks$Parish", T_2, 10, rfl, by decide, ch_of ch14_ok 33 rfl, iw_2⟩
theorem fp_W_103 : FP "PutOffWicks" 103 2 9 .int := ⟨"PutOffWicks$Parish", T_2, 10, ty_2, rfl, by decide, ch_of ch14_ok 33 rfl, iw_2, tk_2, nm_2, rfl, by decide +kernel⟩
theorem fl_W_114 : FL "PutOffWicks" 114 2 2 := ⟨"PutOffWicks$Parish", T_2, 10, rfl, by decide, ch_of ch14_ok 34 rfl, iw_2⟩
theorem fl_W_130 : FL "PutOffWicks" 130 8 2 := ⟨"PutOffWicks$Tape", T_8, 3, rfl, by decide, ch_of ch14_ok 35 rfl, iw_8⟩
theorem fl_W_148 : FL "PutOffWicks" 148 1 8 := ⟨"PutOffWicks$Law", T_1, 9, rfl, by decide, ch_of ch14_ok 36 rfl, iw_1⟩
theorem fl_W_152 : FL "PutOffWicks" 152 3 1 := ⟨"PutOffWicks$ParishReader", T_3, 2, rfl, by decide, ch_of ch14_ok 37 rfl, iw_3⟩
theorem fl_W_159 : FL "PutOffWicks" 159 2 6 := ⟨"PutOffWicks$Parish", T_2, 10, rfl, by decide, ch_of ch14_ok 38 rfl, iw_2⟩
theorem fl_W_168 : FL "PutOffWicks" 168 2 3 := ⟨"PutOffWicks$Parish", T_2, 10, rfl, by decide, ch_of ch14_ok 39 rfl, iw_2⟩
theorem fl_W_171 : FL "PutOffWicks" 171 2 7 := ⟨"PutOffWicks$Parish", T_2, 10, rfl, by decide, ch_of ch14_ok 40 rfl, iw_2⟩
theorem fl_W_174 : FL "PutOffWicks" 174 2 4 := ⟨"PutOffWicks$Parish", T_2, 10, rfl, by decide, ch_of ch14_ok 41 rfl, iw_2⟩
theorem fl_W_177 : FL "PutOffWicks" 177 2 5 := ⟨"PutOffWicks$Parish", T_2, 10, rfl, by decide, ch_of ch14_ok 42 rfl, iw_2⟩
theorem fl_W_180 : FL "PutOffWicks" 180 2 0 := ⟨"PutOffWicks$Parish", T_2, 10, rfl, by decide, ch_of ch14_ok 43 rfl, iw_2⟩
theorem fl_W_186 : FL "PutOffWicks" 186 2 1 := ⟨"PutOffWicks$Parish", T_2, 10, rfl, by decide, ch_of ch14_ok 44 rfl, iw_2⟩
theorem fl_W_210 : FL "PutOffWicks" 210 9 8 := ⟨"PutOffWicks$Twist", T_9, 9, rfl, by decide, ch_of ch14_ok 45 rfl, iw_9⟩
theorem fl_W_277 : FL "PutOffWicks" 277 2 8 := ⟨"PutOffWicks$Parish", T_2, 10, rfl, by decide, ch_of ch14_ok 46 rfl, iw_2⟩
theorem fl_Almanac_9 : FL "PutOffWicks$Almanac" 9 0 0 := ⟨"PutOffWicks$Almanac", T_0, 1, rfl, by decide, ch_of ch14_ok 47 rfl, iw_0⟩
theorem fl_Almanac_15 : FL "PutOffWicks$Almanac" 15 2 5 := ⟨"PutOffWicks$Parish", T_2, 10, rfl, by decide, ch_of ch14_ok 48 rfl, iw_2⟩
theorem fl_Almanac_27 : FL "PutOffWicks$Almanac" 27 2 8 := ⟨"PutOffWicks$Parish", T_2, 10, rfl, by decide, ch_of ch14_ok 49 rfl, iw_2⟩
theorem fp_Almanac_27 : FP "PutOffWicks$Almanac" 27 2 8 .int := ⟨"PutOffWicks$Parish", T_2, 10, ty_2, rfl, by decide, ch_of ch14_ok 49 rfl, iw_2, tk_2, nm_2, rfl, by decide +kernel⟩
theorem fl_Almanac_30 : FL "PutOffWicks$Almanac" 30 2 6 := ⟨"PutOffWicks$Parish", T_2, 10, rfl, by decide, ch_of ch15_ok 0 rfl, iw_2⟩
theorem fl_Almanac_55 : FL "PutOffWicks$Almanac" 55 2 2 := ⟨"PutOffWicks$Parish", T_2, 10, rfl, by decide, ch_of ch15_ok 1 rfl, iw_2⟩
theorem fl_Law_11 : FL "PutOffWicks$Law" 11 1 1 := ⟨"PutOffWicks$Law", T_1, 9, rfl, by decide, ch_of ch15_ok 2 rfl, iw_1⟩
theorem fl_Law_15 : FL "PutOffWicks$Law" 15 1 2 := ⟨"PutOffWicks$Law", T_1, 9, rfl, by decide, ch_of ch15_ok 3 rfl, iw_1⟩
theorem fl_Law_18 : FL "PutOffWicks$Law" 18 1 3 := ⟨"PutOffWicks$Law", T_1, 9, rfl, by decide, ch_of ch15_ok 4 rfl, iw_1⟩
theorem fl_Law_21 : FL "PutOffWicks$Law" 21 1 4 := ⟨"PutOffWicks$Law", T_1, 9, rfl, by decide, ch_of ch15_ok 5 rfl, iw_1⟩
theorem fl_Law_24 : FL "PutOffWicks$Law" 24 1 5 := ⟨"PutOffWicks$Law", T_1, 9, rfl, by decide, ch_of ch15_ok 6 rfl, iw_1⟩
theorem fl_Law_27 : FL "PutOffWicks$Law" 27 1 6 := ⟨"PutOffWicks$Law", T_1, 9, rfl, by decide, ch_of ch15_ok 7 rfl, iw_1⟩
theorem fl_Law_30 : FL "PutOffWicks$Law" 30 1 7 := ⟨"PutOffWicks$Law", T_1, 9, rfl, by decide, ch_of ch15_ok 8 rfl, iw_1⟩
theorem fp_Law_30 : FP "PutOffWicks$Law" 30 1 7 .int := ⟨"PutOffWicks$Law", T_1, 9, ty_1, rfl, by decide, ch_of ch15_ok 8 rfl, iw_1, tk_1, nm_1, rfl, by decide +kernel⟩
theorem fl_Law_34 : FL "PutOffWicks$Law" 34 1 8 := ⟨"PutOffWicks$Law", T_1, 9, rfl, by decide, ch_of ch15_ok 9 rfl, iw_1⟩
theorem fp_Law_34 : FP "PutOffWicks$Law" 34 1 8 .int := ⟨"PutOffWicks$Law", T_1, 9, ty_1, rfl, by decide, ch_of ch15_ok 9 rfl, iw_1, tk_1, nm_1, rfl, by decide +kernel⟩
theorem fl_Law_37 : FL "PutOffWicks$Law" 37 1 0 := ⟨"PutOffWicks$Law", T_1, 9, rfl, by decide, ch_of ch15_ok 10 rfl, iw_1⟩
theorem fl_Law_56 : FL "PutOffWicks$Law" 56 4 1 := ⟨"PutOffWicks$Reading", T_4, 3, rfl, by decide, ch_of ch15_ok 11 rfl, iw_4⟩
theorem fp_Law_56 : FP "PutOffWicks$Law" 56 4 1 .int := ⟨"PutOffWicks$Reading", T_4, 3, ty_4, rfl, by decide, ch_of ch15_ok 11 rfl, iw_4, tk_4, nm_4, rfl, by decide +kernel⟩
theorem fl_Law_81 : FL "PutOffWicks$Law" 81 4 2 := ⟨"PutOffWicks$Reading", T_4, 3, rfl, by decide, ch_of ch15_ok 12 rfl, iw_4⟩
theorem fl_Parish_9 : FL "PutOffWicks$Parish" 9 2 0 := ⟨"PutOffWicks$Parish", T_2, 10, rfl, by decide, ch_of ch15_ok 13 rfl, iw_2⟩
theorem fl_Parish_15 : FL "PutOffWicks$Parish" 15 2 1 := ⟨"PutOffWicks$Parish", T_2, 10, rfl, by decide, ch_of ch15_ok 14 rfl, iw_2⟩
theorem fl_Parish_18 : FL "PutOffWicks$Parish" 18 2 2 := ⟨"PutOffWicks$Parish", T_2, 10, rfl, by decide, ch_of ch15_ok 15 rfl, iw_2⟩
theorem fl_Parish_21 : FL "PutOffWicks$Parish" 21 2 3 := ⟨"PutOffWicks$Parish", T_2, 10, rfl, by decide, ch_of ch15_ok 16 rfl, iw_2⟩
theorem fl_Parish_24 : FL "PutOffWicks$Parish" 24 2 4 := ⟨"PutOffWicks$Parish", T_2, 10, rfl, by decide, ch_of ch15_ok 17 rfl, iw_2⟩
theorem fp_Parish_24 : FP "PutOffWicks$Parish" 24 2 4 .int := ⟨"PutOffWicks$Parish", T_2, 10, ty_2, rfl, by decide, ch_of ch15_ok 17 rfl, iw_2, tk_2, nm_2, rfl, by decide +kernel⟩
theorem fl_Parish_28 : FL "PutOffWicks$Parish" 28 2 5 := ⟨"PutOffWicks$Parish", T_2, 10, rfl, by decide, ch_of ch15_ok 18 rfl, iw_2⟩
theorem fp_Parish_28 : FP "PutOffWicks$Parish" 28 2 5 .int := ⟨"PutOffWicks$Parish", T_2, 10, ty_2, rfl, by decide, ch_of ch15_ok 18 rfl, iw_2, tk_2, nm_2, rfl, by decide +kernel⟩
theorem fl_Parish_31 : FL "PutOffWicks$Parish" 31 2 6 := ⟨"PutOffWicks$Parish", T_2, 10, rfl, by decide, ch_of ch15_ok 19 rfl, iw_2⟩
theorem fp_Parish_31 : FP "PutOffWicks$Parish" 31 2 6 .int := ⟨"PutOffWicks$Parish", T_2, 10, ty_2, rfl, by decide, ch_of ch15_ok 19 rfl, iw_2, tk_2, nm_2, rfl, by decide +kernel⟩
theorem fl_Parish_34 : FL "PutOffWicks$Parish" 34 2 7 := ⟨"PutOffWicks$Parish", T_2, 10, rfl, by decide, ch_of ch15_ok 20 rfl, iw_2⟩
theorem fp_Parish_34 : FP "PutOffWicks$Parish" 34 2 7 .int := ⟨"PutOffWicks$Parish", T_2, 10, ty_2, rfl, by decide, ch_of ch15_ok 20 rfl, iw_2, tk_2, nm_2, rfl, by decide +kernel⟩
theorem fl_Parish_37 : FL "PutOffWicks$Parish" 37 2 8 := ⟨"PutOffWicks$Parish", T_2, 10, rfl, by decide, ch_of ch15_ok 21 rfl, iw_2⟩
theorem fp_Parish_37 : FP "PutOffWicks$Parish" 37 2 8 .int := ⟨"PutOffWicks$Parish", T_2, 10, ty_2, rfl, by decide, ch_of ch15_ok 21 rfl, iw_2, tk_2, nm_2, rfl, by decide +kernel⟩
theorem fl_Parish_40 : FL "PutOffWicks$Parish" 40 2 9 := ⟨"PutOffWicks$Parish", T_2, 10, rfl, by decide, ch_of ch15_ok 22 rfl, iw_2⟩
theorem fp_Parish_40 : FP "PutOffWicks$Parish" 40 2 9 .int := ⟨"PutOffWicks$Parish", T_2, 10, ty_2, rfl, by decide, ch_of ch15_ok 22 rfl, iw_2, tk_2, nm_2, rfl, by decide +kernel⟩
theorem fl_ParishReader_12 : FL "PutOffWicks$ParishReader" 12 3 1 := ⟨"PutOffWicks$ParishReader", T_3, 2, rfl, by decide, ch_of ch15_ok 23 rfl, iw_3⟩
theorem fl_ParishReader_18 : FL "PutOffWicks$ParishReader" 18 3 0 := ⟨"PutOffWicks$ParishReader", T_3, 2, rfl, by decide, ch_of ch15_ok 24 rfl, iw_3⟩
theorem fl_ParishReader_27 : FL "PutOffWicks$ParishReader" 27 2 4 := ⟨"PutOffWicks$Parish", T_2, 10, rfl, by decide, ch_of ch15_ok 25 rfl, iw_2⟩
theorem fp_ParishReader_27 : FP "PutOffWicks$ParishReader" 27 2 4 .int := ⟨"PutOffWicks$Parish", T_2, 10, ty_2, rfl, by decide, ch_of ch15_ok 25 rfl, iw_2, tk_2, nm_2, rfl, by decide +kernel⟩
theorem fl_ParishReader_31 : FL "PutOffWicks$ParishReader" 31 2 6 := ⟨"PutOffWicks$Parish", T_2, 10, rfl, by decide, ch_of ch15_ok 26 rfl, iw_2⟩
theorem fp_ParishReader_31 : FP "PutOffWicks$ParishReader" 31 2 6 .int := ⟨"PutOffWicks$Parish", T_2, 10, ty_2, rfl, by decide, ch_of ch15_ok 26 rfl, iw_2, tk_2, nm_2, rfl, by decide +kernel⟩
theorem fl_ParishReader_42 : FL "PutOffWicks$ParishReader" 42 4 2 := ⟨"PutOffWicks$Reading", T_4, 3, rfl, by decide, ch_of ch15_ok 27 rfl, iw_4⟩
theorem fl_ParishReader_49 : FL "PutOffWicks$ParishReader" 49 4 1 := ⟨"PutOffWicks$Reading", T_4, 3, rfl, by decide, ch_of ch15_ok 28 rfl, iw_4⟩
theorem fp_ParishReader_49 : FP "PutOffWicks$ParishReader" 49 4 1 .int := ⟨"PutOffWicks$Reading", T_4, 3, ty_4, rfl, by decide, ch_of ch15_ok 28 rfl, iw_4, tk_4, nm_4, rfl, by decide +kernel⟩
theorem fl_ParishReader_67 : FL "PutOffWicks$ParishReader" 67 2 0 := ⟨"PutOffWicks$Parish", T_2, 10, rfl, by decide, ch_of ch15_ok 29 rfl, iw_2⟩
theorem fl_ParishReader_71 : FL "PutOffWicks$ParishReader" 71 2 2 := ⟨"PutOffWicks$Parish", T_2, 10, rfl, by decide, ch_of ch15_ok 30 rfl, iw_2⟩
theorem fl_ParishReader_78 : FL "PutOffWicks$ParishReader" 78 2 1 := ⟨"PutOffWicks$Parish", T_2, 10, rfl, by decide, ch_of ch15_ok 31 rfl, iw_2⟩
theorem fl_Reading_7 : FL "PutOffWicks$Reading" 7 4 1 := ⟨"PutOffWicks$Reading", T_4, 3, rfl, by decide, ch_of ch15_ok 32 rfl, iw_4⟩
theorem fp_Reading_7 : FP "PutOffWicks$Reading" 7 4 1 .int := ⟨"PutOffWicks$Reading", T_4, 3, ty_4, rfl, by decide, ch_of ch15_ok 32 rfl, iw_4, tk_4, nm_4, rfl, by decide +kernel⟩
theorem fl_Reading_13 : FL "PutOffWicks$Reading" 13 4 2 := ⟨"PutOffWicks$Reading", T_4, 3, rfl, by decide, ch_of ch15_ok 33 rfl, iw_4⟩
theorem fp_Reading_13 : FP "PutOffWicks$Reading" 13 4 2 .int := ⟨"PutOffWicks$Reading", T_4, 3, ty_4, rfl, by decide, ch_of ch15_ok 33 rfl, iw_4, tk_4, nm_4, rfl, by decide +kernel⟩
theorem fl_Reading_16 : FL "PutOffWicks$Reading" 16 4 0 := ⟨"PutOffWicks$Reading", T_4, 3, rfl, by decide, ch_of ch15_ok 34 rfl, iw_4⟩
theorem fl_Reckoner_11 : FL "PutOffWicks$Reckoner" 11 5 1 := ⟨"PutOffWicks$Reckoner", T_5, 7, rfl, by decide, ch_of ch15_ok 35 rfl, iw_5⟩
theorem fl_Reckoner_15 : FL "PutOffWicks$Reckoner" 15 5 2 := ⟨"PutOffWicks$Reckoner", T_5, 7, rfl, by decide, ch_of ch15_ok 36 rfl, iw_5⟩
theorem fp_Reckoner_15 : FP "PutOffWicks$Reckoner" 15 5 2 .int := ⟨"PutOffWicks$Reckoner", T_5, 7, ty_5, rfl, by decide, ch_of ch15_ok 36 rfl, iw_5, tk_5, nm_5, rfl, by decide +kernel⟩
theorem fl_Reckoner_19 : FL "PutOffWicks$Reckoner" 19 5 3 := ⟨"PutOffWicks$Reckoner", T_5, 7, rfl, by decide, ch_of ch15_ok 37 rfl, iw_5⟩
theorem fp_Reckoner_19 : FP "PutOffWicks$Reckoner" 19 5 3 .boolean := ⟨"PutOffWicks$Reckoner", T_5, 7, ty_5, rfl, by decide, ch_of ch15_ok 37 rfl, iw_5, tk_5, nm_5, rfl, by decide +kernel⟩
theorem fl_Reckoner_23 : FL "PutOffWicks$Reckoner" 23 5 5 := ⟨"PutOffWicks$Reckoner", T_5, 7, rfl, by decide, ch_of ch15_ok 38 rfl, iw_5⟩
theorem fp_Reckoner_23 : FP "PutOffWicks$Reckoner" 23 5 5 .int := ⟨"PutOffWicks$Reckoner", T_5, 7, ty_5, rfl, by decide, ch_of ch15_ok 38 rfl, iw_5, tk_5, nm_5, rfl, by decide +kernel⟩
theorem fl_Reckoner_26 : FL "PutOffWicks$Reckoner" 26 5 6 := ⟨"PutOffWicks$Reckoner", T_5, 7, rfl, by decide, ch_of ch15_ok 39 rfl, iw_5⟩
theorem fp_Reckoner_26 : FP "PutOffWicks$Reckoner" 26 5 6 .int := ⟨"PutOffWicks$Reckoner", T_5, 7, ty_5, rfl, by decide, ch_of ch15_ok 39 rfl, iw_5, tk_5, nm_5, rfl, by decide +kernel⟩
theorem fl_Reckoner_29 : FL "PutOffWicks$Reckoner" 29 5 0 := ⟨"PutOffWicks$Reckoner", T_5, 7, rfl, by decide, ch_of ch15_ok 40 rfl, iw_5⟩
theorem fl_Reckoner_33 : FL "PutOffWicks$Reckoner" 33 5 4 := ⟨"PutOffWicks$Reckoner", T_5, 7, rfl, by decide, ch_of ch15_ok 41 rfl, iw_5⟩
theorem fp_Reckoner_33 : FP "PutOffWicks$Reckoner" 33 5 4 (.object "PutOffWicks$Parish") := ⟨"PutOffWicks$Reckoner", T_5, 7, ty_5, rfl, by decide, ch_of ch15_ok 41 rfl, iw_5, tk_5, nm_5, rfl, by decide +kernel⟩
theorem fl_Reckoner_37 : FL "PutOffWicks$Reckoner" 37 1 8 := ⟨"PutOffWicks$Law", T_1, 9, rfl, by decide, ch_of ch15_ok 42 rfl, iw_1⟩
theorem fl_Reckoner_42 : FL "PutOffWicks$Reckoner" 42 1 3 := ⟨"PutOffWicks$Law", T_1, 9, rfl, by decide, ch_of ch15_ok 43 rfl, iw_1⟩
theorem fl_Reckoner_45 : FL "PutOffWicks$Reckoner" 45 1 5 := ⟨"PutOffWicks$Law", T_1, 9, rfl, by decide, ch_of ch15_ok 44 rfl, iw_1⟩
theorem fl_Reckoner_48 : FL "PutOffWicks$Reckoner" 48 1 6 := ⟨"PutOffWicks$Law", T_1, 9, rfl, by decide, ch_of ch15_ok 45 rfl, iw_1⟩
theorem fl_Reckoner_55 : FL "PutOffWicks$Reckoner" 55 1 4 := ⟨"PutOffWicks$Law", T_1, 9, rfl, by decide, ch_of ch15_ok 46 rfl, iw_1⟩
theorem fl_Reckoner_66 : FL "PutOffWicks$Reckoner" 66 1 1 := ⟨"PutOffWicks$Law", T_1, 9, rfl, by decide, ch_of ch15_ok 47 rfl, iw_1⟩
theorem fl_Reckoner_69 : FL "PutOffWicks$Reckoner" 69 1 2 := ⟨"PutOffWicks$Law", T_1, 9, rfl, by decide, ch_of ch15_ok 48 rfl, iw_1⟩
theorem fl_Reckoner_94 : FL "PutOffWicks$Reckoner" 94 2 0 := ⟨"PutOffWicks$Parish", T_2, 10, rfl, by decide, ch_of ch15_ok 49 rfl, iw_2⟩
theorem fl_Reckoner_97 : FL "PutOffWicks$Reckoner" 97 2 3 := ⟨"PutOffWicks$Parish", T_2, 10, rfl, by decide, ch_of ch16_ok 0 rfl, iw_2⟩
theorem fl_Reckoner_100 : FL "PutOffWicks$Reckoner" 100 2 2 := ⟨"PutOffWicks$Parish", T_2, 10, rfl, by decide, ch_of ch16_ok 1 rfl, iw_2⟩
theorem fl_Reckoner_112 : FL "PutOffWicks$Reckoner" 112 2 8 := ⟨"PutOffWicks$Parish", T_2, 10, rfl, by decide, ch_of ch16_ok 2 rfl, iw_2⟩
theorem fl_Rows_9 : FL "PutOffWicks$Rows" 9 6 0 := ⟨"PutOffWicks$Rows", T_6, 1, rfl, by decide, ch_of ch16_ok 3 rfl, iw_6⟩
theorem fl_Shore_9 : FL "PutOffWicks$Shore" 9 7 1 := ⟨"PutOffWicks$Shore", T_7, 2, rfl, by decide, ch_of ch16_ok 4 rfl, iw_7⟩
theorem fl_Shore_13 : FL "PutOffWicks$Shore" 13 7 0 := ⟨"PutOffWicks$Shore", T_7, 2, rfl, by decide, ch_of ch16_ok 5 rfl, iw_7⟩
theorem fl_Tape_9 : FL "PutOffWicks$Tape" 9 8 0 := ⟨"PutOffWicks$Tape", T_8, 3, rfl, by decide, ch_of ch16_ok 6 rfl, iw_8⟩
theorem fl_Tape_13 : FL "PutOffWicks$Tape" 13 8 1 := ⟨"PutOffWicks$Tape", T_8, 3, rfl, by decide, ch_of ch16_ok 7 rfl, iw_8⟩
theorem fp_Tape_13 : FP "PutOffWicks$Tape" 13 8 1 .int := ⟨"PutOffWicks$Tape", T_8, 3, ty_8, rfl, by decide, ch_of ch16_ok 7 rfl, iw_8, tk_8, nm_8, rfl, by decide +kernel⟩
theorem fl_Tape_17 : FL "PutOffWicks$Tape" 17 8 2 := ⟨"PutOffWicks$Tape", T_8, 3, rfl, by decide, ch_of ch16_ok 8 rfl, iw_8⟩
theorem fp_Tape_17 : FP "PutOffWicks$Tape" 17 8 2 .int := ⟨"PutOffWicks$Tape", T_8, 3, ty_8, rfl, by decide, ch_of ch16_ok 8 rfl, iw_8, tk_8, nm_8, rfl, by decide +kernel⟩
theorem fl_Twist_11 : FL "PutOffWicks$Twist" 11 9 1 := ⟨"PutOffWicks$Twist", T_9, 9, rfl, by decide, ch_of ch16_ok 9 rfl, iw_9⟩
theorem fl_Twist_15 : FL "PutOffWicks$Twist" 15 9 2 := ⟨"PutOffWicks$Twist", T_9, 9, rfl, by decide, ch_of ch16_ok 10 rfl, iw_9⟩
theorem fl_Twist_18 : FL "PutOffWicks$Twist" 18 9 3 := ⟨"PutOffWicks$Twist", T_9, 9, rfl, by decide, ch_of ch16_ok 11 rfl, iw_9⟩
theorem fl_Twist_21 : FL "PutOffWicks$Twist" 21 9 4 := ⟨"PutOffWicks$Twist", T_9, 9, rfl, by decide, ch_of ch16_ok 12 rfl, iw_9⟩
theorem fl_Twist_24 : FL "PutOffWicks$Twist" 24 9 5 := ⟨"PutOffWicks$Twist", T_9, 9, rfl, by decide, ch_of ch16_ok 13 rfl, iw_9⟩
theorem fl_Twist_27 : FL "PutOffWicks$Twist" 27 9 6 := ⟨"PutOffWicks$Twist", T_9, 9, rfl, by decide, ch_of ch16_ok 14 rfl, iw_9⟩
theorem fl_Twist_30 : FL "PutOffWicks$Twist" 30 9 7 := ⟨"PutOffWicks$Twist", T_9, 9, rfl, by decide, ch_of ch16_ok 15 rfl, iw_9⟩
theorem fp_Twist_30 : FP "PutOffWicks$Twist" 30 9 7 .int := ⟨"PutOffWicks$Twist", T_9, 9, ty_9, rfl, by decide, ch_of ch16_ok 15 rfl, iw_9, tk_9, nm_9, rfl, by decide +kernel⟩
theorem fl_Twist_34 : FL "PutOffWicks$Twist" 34 9 8 := ⟨"PutOffWicks$Twist", T_9, 9, rfl, by decide, ch_of ch16_ok 16 rfl, iw_9⟩
theorem fp_Twist_34 : FP "PutOffWicks$Twist" 34 9 8 .int := ⟨"PutOffWicks$Twist", T_9, 9, ty_9, rfl, by decide, ch_of ch16_ok 16 rfl, iw_9, tk_9, nm_9, rfl, by decide +kernel⟩
theorem fl_Twist_37 : FL "PutOffWicks$Twist" 37 9 0 := ⟨"PutOffWicks$Twist", T_9, 9, rfl, by decide, ch_of ch16_ok 17 rfl, iw_9⟩
theorem fl_Twist_50 : FL "PutOffWicks$Twist" 50 4 1 := ⟨"PutOffWicks$Reading", T_4, 3, rfl, by decide, ch_of ch16_ok 18 rfl, iw_4⟩
theorem fp_Twist_50 : FP "PutOffWicks$Twist" 50 4 1 .int := ⟨"PutOffWicks$Reading", T_4, 3, ty_4, rfl, by decide, ch_of ch16_ok 18 rfl, iw_4, tk_4, nm_4, rfl, by decide +kernel⟩
theorem fl_Twist_78 : FL "PutOffWicks$Twist" 78 4 2 := ⟨"PutOffWicks$Reading", T_4, 3, rfl, by decide, ch_of ch16_ok 19 rfl, iw_4⟩
theorem fl_Waits_9 : FL "PutOffWicks$Waits" 9 10 1 := ⟨"PutOffWicks$Waits", T_10, 5, rfl, by decide, ch_of ch16_ok 20 rfl, iw_10⟩
theorem fl_Waits_15 : FL "PutOffWicks$Waits" 15 10 2 := ⟨"PutOffWicks$Waits", T_10, 5, rfl, by decide, ch_of ch16_ok 21 rfl, iw_10⟩
theorem fl_Waits_18 : FL "PutOffWicks$Waits" 18 10 3 := ⟨"PutOffWicks$Waits", T_10, 5, rfl, by decide, ch_of ch16_ok 22 rfl, iw_10⟩
theorem fl_Waits_21 : FL "PutOffWicks$Waits" 21 10 4 := ⟨"PutOffWicks$Waits", T_10, 5, rfl, by decide, ch_of ch16_ok 23 rfl, iw_10⟩
theorem fl_Waits_24 : FL "PutOffWicks$Waits" 24 10 0 := ⟨"PutOffWicks$Waits", T_10, 5, rfl, by decide, ch_of ch16_ok 24 rfl, iw_10⟩
theorem fl_Mo_7 : FL "PutOffWicksModel" 7 12 0 := ⟨"PutOffWicksModel", T_12, 55, rfl, by decide, ch_of ch16_ok 25 rfl, iw_12⟩
theorem fl_Mo_13 : FL "PutOffWicksModel" 13 12 1 := ⟨"PutOffWicksModel", T_12, 55, rfl, by decide, ch_of ch16_ok 26 rfl, iw_12⟩
theorem fl_Mo_16 : FL "PutOffWicksModel" 16 12 2 := ⟨"PutOffWicksModel", T_12, 55, rfl, by decide, ch_of ch16_ok 27 rfl, iw_12⟩
theorem fl_Mo_19 : FL "PutOffWicksModel" 19 12 3 := ⟨"PutOffWicksModel", T_12, 55, rfl, by decide, ch_of ch16_ok 28 rfl, iw_12⟩
theorem fl_Mo_22 : FL "PutOffWicksModel" 22 12 4 := ⟨"PutOffWicksModel", T_12, 55, rfl, by decide, ch_of ch16_ok 29 rfl, iw_12⟩
theorem fl_Mo_25 : FL "PutOffWicksModel" 25 12 6 := ⟨"PutOffWicksModel", T_12, 55, rfl, by decide, ch_of ch16_ok 30 rfl, iw_12⟩
theorem fl_Mo_29 : FL "PutOffWicksModel" 29 12 17 := ⟨"PutOffWicksModel", T_12, 55, rfl, by decide, ch_of ch16_ok 31 rfl, iw_12⟩
theorem fl_Mo_32 : FL "PutOffWicksModel" 32 12 18 := ⟨"PutOffWicksModel", T_12, 55, rfl, by decide, ch_of ch16_ok 32 rfl, iw_12⟩
theorem fl_Mo_35 : FL "PutOffWicksModel" 35 12 19 := ⟨"PutOffWicksModel", T_12, 55, rfl, by decide, ch_of ch16_ok 33 rfl, iw_12⟩
theorem fl_Mo_38 : FL "PutOffWicksModel" 38 12 20 := ⟨"PutOffWicksModel", T_12, 55, rfl, by decide, ch_of ch16_ok 34 rfl, iw_12⟩
theorem fl_Mo_41 : FL "PutOffWicksModel" 41 12 21 := ⟨"PutOffWicksModel", T_12, 55, rfl, by decide, ch_of ch16_ok 35 rfl, iw_12⟩
theorem fl_Mo_44 : FL "PutOffWicksModel" 44 12 22 := ⟨"PutOffWicksModel", T_12, 55, rfl, by decide, ch_of ch16_ok 36 rfl, iw_12⟩
theorem fl_Mo_47 : FL "PutOffWicksModel" 47 12 23 := ⟨"PutOffWicksModel", T_12, 55, rfl, by decide, ch_of ch16_ok 37 rfl, iw_12⟩
theorem fl_Mo_50 : FL "PutOffWicksModel" 50 12 24 := ⟨"PutOffWicksModel", T_12, 55, rfl, by decide, ch_of ch16_ok 38 rfl, iw_12⟩
theorem fl_Mo_53 : FL "PutOffWicksModel" 53 12 25 := ⟨"PutOffWicksModel", T_12, 55, rfl, by decide, ch_of ch16_ok 39 rfl, iw_12⟩
theorem fl_Mo_56 : FL "PutOffWicksModel" 56 12 26 := ⟨"PutOffWicksModel", T_12, 55, rfl, by decide, ch_of ch16_ok 40 rfl, iw_12⟩
theorem fl_Mo_59 : FL "PutOffWicksModel" 59 12 27 := ⟨"PutOffWicksModel", T_12, 55, rfl, by decide, ch_of ch16_ok 41 rfl, iw_12⟩
theorem fl_Mo_62 : FL "PutOffWicksModel" 62 12 28 := ⟨"PutOffWicksModel", T_12, 55, rfl, by decide, ch_of ch16_ok 42 rfl, iw_12⟩
theorem fl_Mo_65 : FL "PutOffWicksModel" 65 12 29 := ⟨"PutOffWicksModel", T_12, 55, rfl, by decide, ch_of ch16_ok 43 rfl, iw_12⟩
theorem fl_Mo_68 : FL "PutOffWicksModel" 68 12 30 := ⟨"PutOffWicksModel", T_12, 55, rfl, by decide, ch_of ch16_ok 44 rfl, iw_12⟩
theorem fl_Mo_71 : FL "PutOffWicksModel" 71 12 31 := ⟨"PutOffWicksModel", T_12, 55, rfl, by decide, ch_of ch16_ok 45 rfl, iw_12⟩
theorem fl_Mo_74 : FL "PutOffWicksModel" 74 12 32 := ⟨"PutOffWicksModel", T_12, 55, rfl, by decide, ch_of ch16_ok 46 rfl, iw_12⟩
theorem fl_Mo_77 : FL "PutOffWicksModel" 77 12 33 := ⟨"PutOffWicksModel", T_12, 55, rfl, by decide, ch_of ch16_ok 47 rfl, iw_12⟩
theorem fl_Mo_80 : FL "PutOffWicksModel" 80 12 36 := ⟨"PutOffWicksModel", T_12, 55, rfl, by decide, ch_of ch16_ok 48 rfl, iw_12⟩
theorem fl_Mo_83 : FL "PutOffWicksModel" 83 12 37 := ⟨"PutOffWicksModel", T_12, 55, rfl, by decide, ch_of ch16_ok 49 rfl, iw_12⟩
theorem fl_Mo_86 : FL "PutOffWicksModel" 86 12 38 := ⟨"PutOffWicksModel", T_12, 55, rfl, by decide, ch_of ch17_ok 0 rfl, iw_12⟩
theorem fl_Mo_89 : FL "PutOffWicksModel" 89 12 39 := ⟨"PutOffWicksModel", T_12, 55, rfl, by decide, ch_of ch17_ok 1 rfl, iw_12⟩
theorem fl_Mo_92 : FL "PutOffWicksModel" 92 12 40 := ⟨"PutOffWicksModel", T_12, 55, rfl, by decide, ch_of ch17_ok 2 rfl, iw_12⟩
theorem fl_Mo_95 : FL "PutOffWicksModel" 95 12 41 := ⟨"PutOffWicksModel", T_12, 55, rfl, by decide, ch_of ch17_ok 3 rfl, iw_12⟩
theorem fl_Mo_98 : FL "PutOffWicksModel" 98 12 42 := ⟨"PutOffWicksModel", T_12, 55, rfl, by decide, ch_of ch17_ok 4 rfl, iw_12⟩
theorem fl_Mo_101 : FL "PutOffWicksModel" 101 12 43 := ⟨"PutOffWicksModel", T_12, 55, rfl, by decide, ch_of ch17_ok 5 rfl, iw_12⟩
theorem fl_Mo_104 : FL "PutOffWicksModel" 104 12 44 := ⟨"PutOffWicksModel", T_12, 55, rfl, by decide, ch_of ch17_ok 6 rfl, iw_12⟩
theorem fl_Mo_107 : FL "PutOffWicksModel" 107 12 49 := ⟨"PutOffWicksModel", T_12, 55, rfl, by decide, ch_of ch17_ok 7 rfl, iw_12⟩
theorem fl_Mo_111 : FL "PutOffWicksModel" 111 12 50 := ⟨"PutOffWicksModel", T_12, 55, rfl, by decide, ch_of ch17_ok 8 rfl, iw_12⟩
theorem fl_Mo_114 : FL "PutOffWicksModel" 114 12 51 := ⟨"PutOffWicksModel", T_12, 55, rfl, by decide, ch_of ch17_ok 9 rfl, iw_12⟩
theorem fl_Mo_117 : FL "PutOffWicksModel" 117 12 52 := ⟨"PutOffWicksModel", T_12, 55, rfl, by decide, ch_of ch17_ok 10 rfl, iw_12⟩
theorem fl_Mo_120 : FL "PutOffWicksModel" 120 12 5 := ⟨"PutOffWicksModel", T_12, 55, rfl, by decide, ch_of ch17_ok 11 rfl, iw_12⟩
theorem fp_Mo_120 : FP "PutOffWicksModel" 120 12 5 .int := ⟨"PutOffWicksModel", T_12, 55, ty_12, rfl, by decide, ch_of ch17_ok 11 rfl, iw_12, tk_12, nm_12, rfl, by decide +kernel⟩
theorem fl_Mo_135 : FL "PutOffWicksModel" 135 12 7 := ⟨"PutOffWicksModel", T_12, 55, rfl, by decide, ch_of ch17_ok 12 rfl, iw_12⟩
theorem fp_Mo_135 : FP "PutOffWicksModel" 135 12 7 .int := ⟨"PutOffWicksModel", T_12, 55, ty_12, rfl, by decide, ch_of ch17_ok 12 rfl, iw_12, tk_12, nm_12, rfl, by decide +kernel⟩
theorem fl_Mo_142 : FL "PutOffWicksModel" 142 12 8 := ⟨"PutOffWicksModel", T_12, 55, rfl, by decide, ch_of ch17_ok 13 rfl, iw_12⟩
theorem fp_Mo_142 : FP "PutOffWicksModel" 142 12 8 .int := ⟨"PutOffWicksModel", T_12, 55, ty_12, rfl, by decide, ch_of ch17_ok 13 rfl, iw_12, tk_12, nm_12, rfl, by decide +kernel⟩
theorem fl_Mo_145 : FL "PutOffWicksModel" 145 12 9 := ⟨"PutOffWicksModel", T_12, 55, rfl, by decide, ch_of ch17_ok 14 rfl, iw_12⟩
theorem fp_Mo_145 : FP "PutOffWicksModel" 145 12 9 .int := ⟨"PutOffWicksModel", T_12, 55, ty_12, rfl, by decide, ch_of ch17_ok 14 rfl, iw_12, tk_12, nm_12, rfl, by decide +kernel⟩
theorem fl_Mo_152 : FL "PutOffWicksModel" 152 12 10 := ⟨"PutOffWicksModel", T_12, 55, rfl, by decide, ch_of ch17_ok 15 rfl, iw_12⟩
theorem fp_Mo_152 : FP "PutOffWicksModel" 152 12 10 .int := ⟨"PutOffWicksModel", T_12, 55, ty_12, rfl, by decide, ch_of ch17_ok 15 rfl, iw_12, tk_12, nm_12, rfl, by decide +kernel⟩
theorem fl_Mo_159 : FL "PutOffWicksModel" 159 12 11 := ⟨"PutOffWicksModel", T_12, 55, rfl, by decide, ch_of ch17_ok 16 rfl, iw_12⟩
theorem fp_Mo_159 : FP "PutOffWicksModel" 159 12 11 .int := ⟨"PutOffWicksModel", T_12, 55, ty_12, rfl, by decide, ch_of ch17_ok 16 rfl, iw_12, tk_12, nm_12, rfl, by decide +kernel⟩
theorem fl_Mo_166 : FL "PutOffWicksModel" 166 12 13 := ⟨"PutOffWicksModel", T_12, 55, rfl, by decide, ch_of ch17_ok 17 rfl, iw_12⟩
theorem fp_Mo_166 : FP "PutOffWicksModel" 166 12 13 .int := ⟨"PutOffWicksModel", T_12, 55, ty_12, rfl, by decide, ch_of ch17_ok 17 rfl, iw_12, tk_12, nm_12, rfl, by decide +kernel⟩
theorem fl_Mo_170 : FL "PutOffWicksModel" 170 12 12 := ⟨"PutOffWicksModel", T_12, 55, rfl, by decide, ch_of ch17_ok 18 rfl, iw_12⟩
theorem fp_Mo_170 : FP "PutOffWicksModel" 170 12 12 .int := ⟨"PutOffWicksModel", T_12, 55, ty_12, rfl, by decide, ch_of ch17_ok 18 rfl, iw_12, tk_12, nm_12, rfl, by decide +kernel⟩
theorem fl_Mo_173 : FL "PutOffWicksModel" 173 12 14 := ⟨"PutOffWicksModel", T_12, 55, rfl, by decide, ch_of ch17_ok 19 rfl, iw_12⟩
theorem fp_Mo_173 : FP "PutOffWicksModel" 173 12 14 .int := ⟨"PutOffWicksModel", T_12, 55, ty_12, rfl, by decide, ch_of ch17_ok 19 rfl, iw_12, tk_12, nm_12, rfl, by decide +kernel⟩
theorem fl_Mo_221 : FL "PutOffWicksModel" 221 12 15 := ⟨"PutOffWicksModel", T_12, 55, rfl, by decide, ch_of ch17_ok 20 rfl, iw_12⟩
theorem fp_Mo_221 : FP "PutOffWicksModel" 221 12 15 .int := ⟨"PutOffWicksModel", T_12, 55, ty_12, rfl, by decide, ch_of ch17_ok 20 rfl, iw_12, tk_12, nm_12, rfl, by decide +kernel⟩
theorem fl_Mo_236 : FL "PutOffWicksModel" 236 12 16 := ⟨"PutOffWicksModel", T_12, 55, rfl, by decide, ch_of ch17_ok 21 rfl, iw_12⟩
theorem fp_Mo_236 : FP "PutOffWicksModel" 236 12 16 .int := ⟨"PutOffWicksModel", T_12, 55, ty_12, rfl, by decide, ch_of ch17_ok 21 rfl, iw_12, tk_12, nm_12, rfl, by decide +kernel⟩
theorem fl_Mo_247 : FL "PutOffWicksModel" 247 12 34 := ⟨"PutOffWicksModel", T_12, 55, rfl, by decide, ch_of ch17_ok 22 rfl, iw_12⟩
theorem fp_Mo_247 : FP "PutOffWicksModel" 247 12 34 .int := ⟨"PutOffWicksModel", T_12, 55, ty_12, rfl, by decide, ch_of ch17_ok 22 rfl, iw_12, tk_12, nm_12, rfl, by decide +kernel⟩
theorem fl_Mo_268 : FL "PutOffWicksModel" 268 12 35 := ⟨"PutOffWicksModel", T_12, 55, rfl, by decide, ch_of ch17_ok 23 rfl, iw_12⟩
theorem fp_Mo_268 : FP "PutOffWicksModel" 268 12 35 .int := ⟨"PutOffWicksModel", T_12, 55, ty_12, rfl, by decide, ch_of ch17_ok 23 rfl, iw_12, tk_12, nm_12, rfl, by decide +kernel⟩
theorem fl_Mo_323 : FL "PutOffWicksModel" 323 12 47 := ⟨"PutOffWicksModel", T_12, 55, rfl, by decide, ch_of ch17_ok 24 rfl, iw_12⟩
theorem fp_Mo_323 : FP "PutOffWicksModel" 323 12 47 .int := ⟨"PutOffWicksModel", T_12, 55, ty_12, rfl, by decide, ch_of ch17_ok 24 rfl, iw_12, tk_12, nm_12, rfl, by decide +kernel⟩
theorem fl_Mo_326 : FL "PutOffWicksModel" 326 12 48 := ⟨"PutOffWicksModel", T_12, 55, rfl, by decide, ch_of ch17_ok 25 rfl, iw_12⟩
theorem fp_Mo_326 : FP "PutOffWicksModel" 326 12 48 .int := ⟨"PutOffWicksModel", T_12, 55, ty_12, rfl, by decide, ch_of ch17_ok 25 rfl, iw_12, tk_12, nm_12, rfl, by decide +kernel⟩
theorem fl_Mo_329 : FL "PutOffWicksModel" 329 12 45 := ⟨"PutOffWicksModel", T_12, 55, rfl, by decide, ch_of ch17_ok 26 rfl, iw_12⟩
theorem fp_Mo_329 : FP "PutOffWicksModel" 329 12 45 .int := ⟨"PutOffWicksModel", T_12, 55, ty_12, rfl, by decide, ch_of ch17_ok 26 rfl, iw_12, tk_12, nm_12, rfl, by decide +kernel⟩
theorem fl_Mo_335 : FL "PutOffWicksModel" 335 12 46 := ⟨"PutOffWicksModel", T_12, 55, rfl, by decide, ch_of ch17_ok 27 rfl, iw_12⟩
theorem fp_Mo_335 : FP "PutOffWicksModel" 335 12 46 .int := ⟨"PutOffWicksModel", T_12, 55, ty_12, rfl, by decide, ch_of ch17_ok 27 rfl, iw_12, tk_12, nm_12, rfl, by decide +kernel⟩
theorem fl_Mo_409 : FL "PutOffWicksModel" 409 12 53 := ⟨"PutOffWicksModel", T_12, 55, rfl, by decide, ch_of ch17_ok 28 rfl, iw_12⟩
theorem fp_Mo_409 : FP "PutOffWicksModel" 409 12 53 .boolean := ⟨"PutOffWicksModel", T_12, 55, ty_12, rfl, by decide, ch_of ch17_ok 28 rfl, iw_12, tk_12, nm_12, rfl, by decide +kernel⟩
theorem fl_Mo_413 : FL "PutOffWicksModel" 413 12 54 := ⟨"PutOffWicksModel", T_12, 55, rfl, by decide, ch_of ch17_ok 29 rfl, iw_12⟩
theorem fp_Mo_413 : FP "PutOffWicksModel" 413 12 54 .int := ⟨"PutOffWicksModel", T_12, 55, ty_12, rfl, by decide, ch_of ch17_ok 29 rfl, iw_12, tk_12, nm_12, rfl, by decide +kernel⟩
theorem c_W_276 : Cond.constant "PutOffWicks" 276 65535 ∈ lw_g := ch_of ch17_ok 30 rfl
theorem c_Parish_59 : Cond.constant "PutOffWicks$Parish" 59 65535 ∈ lw_g := ch_of ch17_ok 31 rfl
theorem c_Waits_44 : Cond.constant "PutOffWicks$Waits" 44 65535 ∈ lw_g := ch_of ch17_ok 32 rfl
theorem c_Mo_110 : Cond.constant "PutOffWicksModel" 110 65536 ∈ lw_g := ch_of ch17_ok 33 rfl
theorem c_Mo_169 : Cond.constant "PutOffWicksModel" 169 1048576 ∈ lw_g := ch_of ch17_ok 34 rfl
theorem c_Mo_365 : Cond.constant "PutOffWicksModel" 365 65535 ∈ lw_g := ch_of ch17_ok 35 rfl
theorem c_Mo_366 : Cond.constant "PutOffWicksModel" 366 1000000 ∈ lw_g := ch_of ch17_ok 36 rfl
theorem c_JI_265 : Cond.constant "java/lang/Integer" 265 1431655765 ∈ lw_g := ch_of ch17_ok 37 rfl
theorem c_JI_266 : Cond.constant "java/lang/Integer" 266 858993459 ∈ lw_g := ch_of ch17_ok 38 rfl
theorem c_JI_267 : Cond.constant "java/lang/Integer" 267 252645135 ∈ lw_g := ch_of ch17_ok 39 rfl
theorem c_JL_314 : Cond.constantLong "java/lang/Long" 314 6148914691236517205 ∈ lw_g := ch_of ch17_ok 40 rfl
theorem c_JL_316 : Cond.constantLong "java/lang/Long" 316 3689348814741910323 ∈ lw_g := ch_of ch17_ok 41 rfl
theorem c_JL_318 : Cond.constantLong "java/lang/Long" 318 1085102592571150095 ∈ lw_g := ch_of ch17_ok 42 rfl
