theorem d_JI_bitCount_0 : decode m_JI_bitCount.2.1 0 = .ok (.iload_n 0, 1) := by decide +kernel
theorem d_JI_bitCount_1 : decode m_JI_bitCount.2.1 1 = .ok (.iload_n 0, 1) := by decide +kernel
theorem d_JI_bitCount_2 : decode m_JI_bitCount.2.1 2 = .ok (.iconst 1, 1) := by decide +kernel
theorem d_JI_bitCount_3 : decode m_JI_bitCount.2.1 3 = .ok (.iushr, 1) := by decide +kernel
theorem d_JI_bitCount_4 : decode m_JI_bitCount.2.1 4 = .ok (.ldc_w 265, 3) := by decide +kernel
theorem d_JI_bitCount_7 : decode m_JI_bitCount.2.1 7 = .ok (.iand, 1) := by decide +kernel
theorem d_JI_bitCount_8 : decode m_JI_bitCount.2.1 8 = .ok (.isub, 1) := by decide +kernel
theorem d_JI_bitCount_9 : decode m_JI_bitCount.2.1 9 = .ok (.istore_n 0, 1) := by decide +kernel
theorem d_JI_bitCount_10 : decode m_JI_bitCount.2.1 10 = .ok (.iload_n 0, 1) := by decide +kernel
theorem d_JI_bitCount_11 : decode m_JI_bitCount.2.1 11 = .ok (.ldc_w 266, 3) := by decide +kernel
theorem d_JI_bitCount_14 : decode m_JI_bitCount.2.1 14 = .ok (.iand, 1) := by decide +kernel
theorem d_JI_bitCount_15 : decode m_JI_bitCount.2.1 15 = .ok (.iload_n 0, 1) := by decide +kernel
theorem d_JI_bitCount_16 : decode m_JI_bitCount.2.1 16 = .ok (.iconst 2, 1) := by decide +kernel
theorem d_JI_bitCount_17 : decode m_JI_bitCount.2.1 17 = .ok (.iushr, 1) := by decide +kernel
theorem d_JI_bitCount_18 : decode m_JI_bitCount.2.1 18 = .ok (.ldc_w 266, 3) := by decide +kernel
theorem d_JI_bitCount_21 : decode m_JI_bitCount.2.1 21 = .ok (.iand, 1) := by decide +kernel
theorem d_JI_bitCount_22 : decode m_JI_bitCount.2.1 22 = .ok (.iadd, 1) := by decide +kernel
theorem d_JI_bitCount_23 : decode m_JI_bitCount.2.1 23 = .ok (.istore_n 0, 1) := by decide +kernel
theorem d_JI_bitCount_24 : decode m_JI_bitCount.2.1 24 = .ok (.iload_n 0, 1) := by decide +kernel
theorem d_JI_bitCount_25 : decode m_JI_bitCount.2.1 25 = .ok (.iload_n 0, 1) := by decide +kernel
theorem d_JI_bitCount_26 : decode m_JI_bitCount.2.1 26 = .ok (.iconst 4, 1) := by decide +kernel
theorem d_JI_bitCount_27 : decode m_JI_bitCount.2.1 27 = .ok (.iushr, 1) := by decide +kernel
theorem d_JI_bitCount_28 : decode m_JI_bitCount.2.1 28 = .ok (.iadd, 1) := by decide +kernel
theorem d_JI_bitCount_29 : decode m_JI_bitCount.2.1 29 = .ok (.ldc_w 267, 3) := by decide +kernel
theorem d_JI_bitCount_32 : decode m_JI_bitCount.2.1 32 = .ok (.iand, 1) := by decide +kernel
theorem d_JI_bitCount_33 : decode m_JI_bitCount.2.1 33 = .ok (.istore_n 0, 1) := by decide +kernel
theorem d_JI_bitCount_34 : decode m_JI_bitCount.2.1 34 = .ok (.iload_n 0, 1) := by decide +kernel
theorem d_JI_bitCount_35 : decode m_JI_bitCount.2.1 35 = .ok (.iload_n 0, 1) := by decide +kernel
theorem d_JI_bitCount_36 : decode m_JI_bitCount.2.1 36 = .ok (.bipush 8, 2) := by decide +kernel
theorem d_JI_bitCount_38 : decode m_JI_bitCount.2.1 38 = .ok (.iushr, 1) := by decide +kernel
theorem d_JI_bitCount_39 : decode m_JI_bitCount.2.1 39 = .ok (.iadd, 1) := by decide +kernel
theorem d_JI_bitCount_40 : decode m_JI_bitCount.2.1 40 = .ok (.istore_n 0, 1) := by decide +kernel
theorem d_JI_bitCount_41 : decode m_JI_bitCount.2.1 41 = .ok (.iload_n 0, 1) := by decide +kernel
theorem d_JI_bitCount_42 : decode m_JI_bitCount.2.1 42 = .ok (.iload_n 0, 1) := by decide +kernel
theorem d_JI_bitCount_43 : decode m_JI_bitCount.2.1 43 = .ok (.bipush 16, 2) := by decide +kernel
theorem d_JI_bitCount_45 : decode m_JI_bitCount.2.1 45 = .ok (.iushr, 1) := by decide +kernel
theorem d_JI_bitCount_46 : decode m_JI_bitCount.2.1 46 = .ok (.iadd, 1) := by decide +kernel
theorem d_JI_bitCount_47 : decode m_JI_bitCount.2.1 47 = .ok (.istore_n 0, 1) := by decide +kernel
theorem d_JI_bitCount_48 : decode m_JI_bitCount.2.1 48 = .ok (.iload_n 0, 1) := by decide +kernel
theorem d_JI_bitCount_49 : decode m_JI_bitCount.2.1 49 = .ok (.bipush 63, 2) := by decide +kernel
theorem d_JI_bitCount_51 : decode m_JI_bitCount.2.1 51 = .ok (.iand, 1) := by decide +kernel
theorem d_JI_bitCount_52 : decode m_JI_bitCount.2.1 52 = .ok (.ireturn, 1) := by decide +kernel
def f_JI_bitCount (S : St) (l0 : Int32) : Option (Int32) :=
    (some (l0 - ((jushr l0 1) &&& 1431655765))).bind fun l0_9 =>
    (some ((l0_9 &&& 858993459) + ((jushr l0_9 2) &&& 858993459))).bind fun l0_23 =>
    (some ((l0_23 + (jushr l0_23 4)) &&& 252645135)).bind fun l0_33 =>
    (some (l0_33 + (jushr l0_33 8))).bind fun l0_40 =>
    (some (l0_40 + (jushr l0_40 16))).bind fun l0_47 =>
    some (l0_47 &&& 63)
set_option maxHeartbeats 4000000 in
set_option maxRecDepth 20000 in
theorem t_JI_bitCount  {S : St} {l0 : Int32} {w : Int32} (h : f_JI_bitCount S l0 = some w) : Ct SX m_JI_bitCount 1 [.int l0] S (some w) S := by
  unfold f_JI_bitCount at h
  refine Ct.of pn_JI (Nat.le_of_ble_eq_true rfl) ?_
  show G SX m_JI_bitCount 1 (some w) S 0 [(0, .int l0)] [] S
  refine G_iload_n 0 rfl d_JI_bitCount_0 ?_
  refine G_iload_n 0 rfl d_JI_bitCount_1 ?_
  refine G_iconst 1 (by decide) d_JI_bitCount_2 ?_
  refine G_iushr d_JI_bitCount_3 ?_
  refine G_ldcw c_JI_265 d_JI_bitCount_4 ?_
  refine G_iand d_JI_bitCount_7 ?_
  refine G_isub d_JI_bitCount_8 ?_
  obtain ⟨l0_9, e_9, h⟩ := ob_s h
  refine G_istore_n [(0, .int l0_9)] e_9 rfl (by decide) d_JI_bitCount_9 ?_
  refine G_iload_n 0 rfl d_JI_bitCount_10 ?_
  refine G_ldcw c_JI_266 d_JI_bitCount_11 ?_
  refine G_iand d_JI_bitCount_14 ?_
  refine G_iload_n 0 rfl d_JI_bitCount_15 ?_
  refine G_iconst 2 (by decide) d_JI_bitCount_16 ?_
  refine G_iushr d_JI_bitCount_17 ?_
  refine G_ldcw c_JI_266 d_JI_bitCount_18 ?_
  refine G_iand d_JI_bitCount_21 ?_
  refine G_iadd d_JI_bitCount_22 ?_
  obtain ⟨l0_23, e_23, h⟩ := ob_s h
  refine G_istore_n [(0, .int l0_23)] e_23 rfl (by decide) d_JI_bitCount_23 ?_
  refine G_iload_n 0 rfl d_JI_bitCount_24 ?_
  refine G_iload_n 0 rfl d_JI_bitCount_25 ?_
  refine G_iconst 4 (by decide) d_JI_bitCount_26 ?_
  refine G_iushr d_JI_bitCount_27 ?_
  refine G_iadd d_JI_bitCount_28 ?_
  refine G_ldcw c_JI_267 d_JI_bitCount_29 ?_
  refine G_iand d_JI_bitCount_32 ?_
  obtain ⟨l0_33, e_33, h⟩ := ob_s h
  refine G_istore_n [(0, .int l0_33)] e_33 rfl (by decide) d_JI_bitCount_33 ?_
  refine G_iload_n 0 rfl d_JI_bitCount_34 ?_
  refine G_iload_n 0 rfl d_JI_bitCount_35 ?_
  refine G_bipush 8 (by decide) d_JI_bitCount_36 ?_
  refine G_iushr d_JI_bitCount_38 ?_
  refine G_iadd d_JI_bitCount_39 ?_
  obtain ⟨l0_40, e_40, h⟩ := ob_s h
  refine G_istore_n [(0, .int l0_40)] e_40 rfl (by decide) d_JI_bitCount_40 ?_
  refine G_iload_n 0 rfl d_JI_bitCount_41 ?_
  refine G_iload_n 0 rfl d_JI_bitCount_42 ?_
  refine G_bipush 16 (by decide) d_JI_bitCount_43 ?_
  refine G_iushr d_JI_bitCount_45 ?_
  refine G_iadd d_JI_bitCount_46 ?_
  obtain ⟨l0_47, e_47, h⟩ := ob_s h
  refine G_istore_n [(0, .int l0_47)] e_47 rfl (by decide) d_JI_bitCount_47 ?_
  refine G_iload_n 0 rfl d_JI_bitCount_48 ?_
  refine G_bipush 63 (by decide) d_JI_bitCount_49 ?_
  refine G_iand d_JI_bitCount_51 ?_
  cases h
  exact G_iret rfl d_JI_bitCount_52
theorem d_JL_bitCount_0 : decode m_JL_bitCount.2.1 0 = .ok (.lload_n 0, 1) := by decide +kernel
theorem d_JL_bitCount_1 : decode m_JL_bitCount.2.1 1 = .ok (.lload_n 0, 1) := by decide +kernel
theorem d_JL_bitCount_2 : decode m_JL_bitCount.2.1 2 = .ok (.iconst 1, 1) := by decide +kernel
theorem d_JL_bitCount_3 : decode m_JL_bitCount.2.1 3 = .ok (.lushr, 1) := by decide +kernel
theorem d_JL_bitCount_4 : decode m_JL_bitCount.2.1 4 = .ok (.ldc2_w 314, 3) := by decide +kernel
theorem d_JL_bitCount_7 : decode m_JL_bitCount.2.1 7 = .ok (.land, 1) := by decide +kernel
theorem d_JL_bitCount_8 : decode m_JL_bitCount.2.1 8 = .ok (.lsub, 1) := by decide +kernel
theorem d_JL_bitCount_9 : decode m_JL_bitCount.2.1 9 = .ok (.lstore_n 0, 1) := by decide +kernel
theorem d_JL_bitCount_10 : decode m_JL_bitCount.2.1 10 = .ok (.lload_n 0, 1) := by decide +kernel
theorem d_JL_bitCount_11 : decode m_JL_bitCount.2.1 11 = .ok (.ldc2_w 316, 3) := by decide +kernel
theorem d_JL_bitCount_14 : decode m_JL_bitCount.2.1 14 = .ok (.land, 1) := by decide +kernel
theorem d_JL_bitCount_15 : decode m_JL_bitCount.2.1 15 = .ok (.lload_n 0, 1) := by decide +kernel
theorem d_JL_bitCount_16 : decode m_JL_bitCount.2.1 16 = .ok (.iconst 2, 1) := by decide +kernel
theorem d_JL_bitCount_17 : decode m_JL_bitCount.2.1 17 = .ok (.lushr, 1) := by decide +kernel
theorem d_JL_bitCount_18 : decode m_JL_bitCount.2.1 18 = .ok (.ldc2_w 316, 3) := by decide +kernel
theorem d_JL_bitCount_21 : decode m_JL_bitCount.2.1 21 = .ok (.land, 1) := by decide +kernel
theorem d_JL_bitCount_22 : decode m_JL_bitCount.2.1 22 = .ok (.ladd, 1) := by decide +kernel
theorem d_JL_bitCount_23 : decode m_JL_bitCount.2.1 23 = .ok (.lstore_n 0, 1) := by decide +kernel
theorem d_JL_bitCount_24 : decode m_JL_bitCount.2.1 24 = .ok (.lload_n 0, 1) := by decide +kernel
theorem d_JL_bitCount_25 : decode m_JL_bitCount.2.1 25 = .ok (.lload_n 0, 1) := by decide +kernel
theorem d_JL_bitCount_26 : decode m_JL_bitCount.2.1 26 = .ok (.iconst 4, 1) := by decide +kernel
theorem d_JL_bitCount_27 : decode m_JL_bitCount.2.1 27 = .ok (.lushr, 1) := by decide +kernel
theorem d_JL_bitCount_28 : decode m_JL_bitCount.2.1 28 = .ok (.ladd, 1) := by decide +kernel
theorem d_JL_bitCount_29 : decode m_JL_bitCount.2.1 29 = .ok (.ldc2_w 318, 3) := by decide +kernel
theorem d_JL_bitCount_32 : decode m_JL_bitCount.2.1 32 = .ok (.land, 1) := by decide +kernel
theorem d_JL_bitCount_33 : decode m_JL_bitCount.2.1 33 = .ok (.lstore_n 0, 1) := by decide +kernel
theorem d_JL_bitCount_34 : decode m_JL_bitCount.2.1 34 = .ok (.lload_n 0, 1) := by decide +kernel
theorem d_JL_bitCount_35 : decode m_JL_bitCount.2.1 35 = .ok (.lload_n 0, 1) := by decide +kernel
theorem d_JL_bitCount_36 : decode m_JL_bitCount.2.1 36 = .ok (.bipush 8, 2) := by decide +kernel
theorem d_JL_bitCount_38 : decode m_JL_bitCount.2.1 38 = .ok (.lushr, 1) := by decide +kernel
theorem d_JL_bitCount_39 : decode m_JL_bitCount.2.1 39 = .ok (.ladd, 1) := by decide +kernel
theorem d_JL_bitCount_40 : decode m_JL_bitCount.2.1 40 = .ok (.lstore_n 0, 1) := by decide +kernel
theorem d_JL_bitCount_41 : decode m_JL_bitCount.2.1 41 = .ok (.lload_n 0, 1) := by decide +kernel
theorem d_JL_bitCount_42 : decode m_JL_bitCount.2.1 42 = .ok (.lload_n 0, 1) := by decide +kernel
theorem d_JL_bitCount_43 : decode m_JL_bitCount.2.1 43 = .ok (.bipush 16, 2) := by decide +kernel
theorem d_JL_bitCount_45 : decode m_JL_bitCount.2.1 45 = .ok (.lushr, 1) := by decide +kernel
theorem d_JL_bitCount_46 : decode m_JL_bitCount.2.1 46 = .ok (.ladd, 1) := by decide +kernel
theorem d_JL_bitCount_47 : decode m_JL_bitCount.2.1 47 = .ok (.lstore_n 0, 1) := by decide +kernel
theorem d_JL_bitCount_48 : decode m_JL_bitCount.2.1 48 = .ok (.lload_n 0, 1) := by decide +kernel
theorem d_JL_bitCount_49 : decode m_JL_bitCount.2.1 49 = .ok (.lload_n 0, 1) := by decide +kernel
theorem d_JL_bitCount_50 : decode m_JL_bitCount.2.1 50 = .ok (.bipush 32, 2) := by decide +kernel
theorem d_JL_bitCount_52 : decode m_JL_bitCount.2.1 52 = .ok (.lushr, 1) := by decide +kernel
theorem d_JL_bitCount_53 : decode m_JL_bitCount.2.1 53 = .ok (.ladd, 1) := by decide +kernel
theorem d_JL_bitCount_54 : decode m_JL_bitCount.2.1 54 = .ok (.lstore_n 0, 1) := by decide +kernel
theorem d_JL_bitCount_55 : decode m_JL_bitCount.2.1 55 = .ok (.lload_n 0, 1) := by decide +kernel
theorem d_JL_bitCount_56 : decode m_JL_bitCount.2.1 56 = .ok (.l2i, 1) := by decide +kernel
theorem d_JL_bitCount_57 : decode m_JL_bitCount.2.1 57 = .ok (.bipush 127, 2) := by decide +kernel
theorem d_JL_bitCount_59 : decode m_JL_bitCount.2.1 59 = .ok (.iand, 1) := by decide +kernel
theorem d_JL_bitCount_60 : decode m_JL_bitCount.2.1 60 = .ok (.ireturn, 1) := by decide +kernel
def f_JL_bitCount (S : St) (l0 : Int64) : Option (Int32) :=
    (some (l0 - ((lushr l0 1) &&& 6148914691236517205))).bind fun l0_9 =>
    (some ((l0_9 &&& 3689348814741910323) + ((lushr l0_9 2) &&& 3689348814741910323))).bind fun l0_23 =>
    (some ((l0_23 + (lushr l0_23 4)) &&& 1085102592571150095)).bind fun l0_33 =>
    (some (l0_33 + (lushr l0_33 8))).bind fun l0_40 =>
    (some (l0_40 + (lushr l0_40 16))).bind fun l0_47 =>
    (some (l0_47 + (lushr l0_47 32))).bind fun l0_54 =>
    some ((l0_54 : Int64).toInt32 &&& 127)
set_option maxHeartbeats 4000000 in
set_option maxRecDepth 20000 in
theorem t_JL_bitCount  {S : St} {l0 : Int64} {w : Int32} (h : f_JL_bitCount S l0 = some w) : Ct SX m_JL_bitCount 1 [.long l0] S (some w) S := by
  unfold f_JL_bitCount at h
  refine Ct.of pn_JL (Nat.le_of_ble_eq_true rfl) ?_
  show G SX m_JL_bitCount 1 (some w) S 0 [(0, .long l0)] [] S
  refine G_lload_n 0 rfl d_JL_bitCount_0 ?_
  refine G_lload_n 0 rfl d_JL_bitCount_1 ?_
  refine G_iconst 1 (by decide) d_JL_bitCount_2 ?_
  refine G_lushr d_JL_bitCount_3 ?_
  refine G_ldc2 c_JL_314 d_JL_bitCount_4 ?_
  refine G_land d_JL_bitCount_7 ?_
  refine G_lsub d_JL_bitCount_8 ?_
  obtain ⟨l0_9, e_9, h⟩ := ob_s h
  refine G_lstore_n [(0, .long l0_9)] e_9 rfl (by decide) d_JL_bitCount_9 ?_
  refine G_lload_n 0 rfl d_JL_bitCount_10 ?_
  refine G_ldc2 c_JL_316 d_JL_bitCount_11 ?_
  refine G_land d_JL_bitCount_14 ?_
  refine G_lload_n 0 rfl d_JL_bitCount_15 ?_
  refine G_iconst 2 (by decide) d_JL_bitCount_16 ?_
  refine G_lushr d_JL_bitCount_17 ?_
  refine G_ldc2 c_JL_316 d_JL_bitCount_18 ?_
  refine G_land d_JL_bitCount_21 ?_
  refine G_ladd d_JL_bitCount_22 ?_
  obtain ⟨l0_23, e_23, h⟩ := ob_s h
  refine G_lstore_n [(0, .long l0_23)] e_23 rfl (by decide) d_JL_bitCount_23 ?_
  refine G_lload_n 0 rfl d_JL_bitCount_24 ?_
  refine G_lload_n 0 rfl d_JL_bitCount_25 ?_
  refine G_iconst 4 (by decide) d_JL_bitCount_26 ?_
  refine G_lushr d_JL_bitCount_27 ?_
  refine G_ladd d_JL_bitCount_28 ?_
  refine G_ldc2 c_JL_318 d_JL_bitCount_29 ?_
  refine G_land d_JL_bitCount_32 ?_
  obtain ⟨l0_33, e_33, h⟩ := ob_s h
  refine G_lstore_n [(0, .long l0_33)] e_33 rfl (by decide) d_JL_bitCount_33 ?_
  refine G_lload_n 0 rfl d_JL_bitCount_34 ?_
  refine G_lload_n 0 rfl d_JL_bitCount_35 ?_
  refine G_bipush 8 (by decide) d_JL_bitCount_36 ?_
  refine G_lushr d_JL_bitCount_38 ?_
  refine G_ladd d_JL_bitCount_39 ?_
  obtain ⟨l0_40, e_40, h⟩ := ob_s h
  refine G_lstore_n [(0, .long l0_40)] e_40 rfl (by decide) d_JL_bitCount_40 ?_
  refine G_lload_n 0 rfl d_JL_bitCount_41 ?_
  refine G_lload_n 0 rfl d_JL_bitCount_42 ?_
  refine G_bipush 16 (by decide) d_JL_bitCount_43 ?_
  refine G_lushr d_JL_bitCount_45 ?_
  refine G_ladd d_JL_bitCount_46 ?_
  obtain ⟨l0_47, e_47, h⟩ := ob_s h
  refine G_lstore_n [(0, .long l0_47)] e_47 rfl (by decide) d_JL_bitCount_47 ?_
  refine G_lload_n 0 rfl d_JL_bitCount_48 ?_
  refine G_lload_n 0 rfl d_JL_bitCount_49 ?_
  refine G_bipush 32 (by decide) d_JL_bitCount_50 ?_
  refine G_lushr d_JL_bitCount_52 ?_
  refine G_ladd d_JL_bitCount_53 ?_
  obtain ⟨l0_54, e_54, h⟩ := ob_s h
  refine G_lstore_n [(0, .long l0_54)] e_54 rfl (by decide) d_JL_bitCount_54 ?_
  refine G_lload_n 0 rfl d_JL_bitCount_55 ?_
  refine G_l2i d_JL_bitCount_56 ?_
  refine G_bipush 127 (by decide) d_JL_bitCount_57 ?_
  refine G_iand d_JL_bitCount_59 ?_
  cases h
  exact G_iret rfl d_JL_bitCount_60
theorem d_JA_fillI_0 : decode m_JA_fillI.2.1 0 = .ok (.iconst 0, 1) := by decide +kernel
theorem d_JA_fillI_1 : decode m_JA_fillI.2.1 1 = .ok (.istore_n 2, 1) := by decide +kernel
theorem d_JA_fillI_2 : decode m_JA_fillI.2.1 2 = .ok (.aload_n 0, 1) := by decide +kernel
theorem d_JA_fillI_3 : decode m_JA_fillI.2.1 3 = .ok (.arraylength, 1) := by decide +kernel
theorem d_JA_fillI_4 : decode m_JA_fillI.2.1 4 = .ok (.istore_n 3, 1) := by decide +kernel
theorem d_JA_fillI_5 : decode m_JA_fillI.2.1 5 = .ok (.iload_n 2, 1) := by decide +kernel
theorem d_JA_fillI_6 : decode m_JA_fillI.2.1 6 = .ok (.iload_n 3, 1) := by decide +kernel
theorem d_JA_fillI_7 : decode m_JA_fillI.2.1 7 = .ok (.if_icmp .ge 13, 3) := by decide +kernel
theorem d_JA_fillI_10 : decode m_JA_fillI.2.1 10 = .ok (.aload_n 0, 1) := by decide +kernel
theorem d_JA_fillI_11 : decode m_JA_fillI.2.1 11 = .ok (.iload_n 2, 1) := by decide +kernel
theorem d_JA_fillI_12 : decode m_JA_fillI.2.1 12 = .ok (.iload_n 1, 1) := by decide +kernel
theorem d_JA_fillI_13 : decode m_JA_fillI.2.1 13 = .ok (.iastore, 1) := by decide +kernel
theorem d_JA_fillI_14 : decode m_JA_fillI.2.1 14 = .ok (.iinc 2 1, 3) := by decide +kernel
theorem d_JA_fillI_17 : decode m_JA_fillI.2.1 17 = .ok (.goto (-12), 3) := by decide +kernel
theorem d_JA_fillI_20 : decode m_JA_fillI.2.1 20 = .ok (.return_, 1) := by decide +kernel
def f_JA_fillI_5 (k : Nat) : Nat → St → Int32 → Int32 → Int32 → Option (St)
  | 0, _, _, _, _ => none
  | n + 1, S, l1, l2, l3 =>
    if l3 ≤ l2 then (
    some S)
    else (
    if ig l2 16 then (
    (some (sF S k l2.toNatClampNeg l1)).bind fun S_13 =>
    (some (l2 + 1)).bind fun l2_14 =>
    f_JA_fillI_5 k n S_13 l1 l2_14 l3) else none)
set_option maxHeartbeats 4000000 in
set_option maxRecDepth 20000 in
theorem t_JA_fillI_5  {k : Nat} (hk_k : k < SX.1) (hs_k : SX.2 k = .inr (0, 16)) : ∀ (n : Nat) (S : St) (l1 : Int32) (l2 : Int32) (l3 : Int32) (w : St), f_JA_fillI_5 k n S l1 l2 l3 = some w → G SX m_JA_fillI 1 none w 5 [(0, .ref k), (1, .int l1), (2, .int l2), (3, .int l3)] [] S := by
  intro n
  induction n with
  | zero =>
    intro S l1 l2 l3 w h
    rw [f_JA_fillI_5] at h
    cases h
  | succ n ih =>
    intro S l1 l2 l3 w h
    rw [f_JA_fillI_5] at h
    refine G_iload_n 2 rfl d_JA_fillI_5 ?_
    refine G_iload_n 3 rfl d_JA_fillI_6 ?_
    refine G_icmp_ge 20 (by decide) d_JA_fillI_7 (fun c_7 => ?_) (fun c_7 => ?_)
    · replace h := ob_t h c_7
      cases h
      exact G_vret rfl d_JA_fillI_20
    · replace h := ob_f h c_7
      refine G_aload_n 0 rfl d_JA_fillI_10 ?_
      refine G_iload_n 2 rfl d_JA_fillI_11 ?_
      refine G_iload_n 1 rfl d_JA_fillI_12 ?_
      obtain ⟨g_13, h⟩ := ob_g h
      obtain ⟨S_13, e_13, h⟩ := ob_s h
      refine G_iastore e_13 hk_k hs_k g_13 d_JA_fillI_13 ?_
      obtain ⟨l2_14, e_14, h⟩ := ob_s h
      refine G_iinc 1 2 [(2, .int l2_14), (0, .ref k), (1, .int l1), (3, .int l3)] (by decide) rfl e_14 rfl (by decide) d_JA_fillI_14 ?_
      refine G_goto 5 (by decide) d_JA_fillI_17 ?_
      exact G_sub _ [1, 2, 0, 3] rfl (ih S_13 l1 l2_14 l3 _ h)
def f_JA_fillI (S : St) (k : Nat) (l1 : Int32) : Option (St) :=
    (some (0 : Int32)).bind fun l2_1 =>
    (some (Int32.ofNat 16)).bind fun l3_4 =>
    f_JA_fillI_5 k FU S l1 l2_1 l3_4
set_option maxHeartbeats 4000000 in
set_option maxRecDepth 20000 in
theorem t_JA_fillI  {k : Nat} (hk_k : k < SX.1) (hs_k : SX.2 k = .inr (0, 16)) {S : St} {l1 : Int32} {w : St} (h : f_JA_fillI S k l1 = some w) : Ct SX m_JA_fillI 1 [.ref k, .int l1] S none w := by
  unfold f_JA_fillI at h
  refine Ct.of pn_JA (Nat.le_of_ble_eq_true rfl) ?_
  show G SX m_JA_fillI 1 none w 0 [(0, .ref k), (1, .int l1)] [] S
  refine G_iconst 0 (by decide) d_JA_fillI_0 ?_
  obtain ⟨l2_1, e_1, h⟩ := ob_s h
  refine G_istore_n [(2, .int l2_1), (0, .ref k), (1, .int l1)] e_1 rfl (by decide) d_JA_fillI_1 ?_
  refine G_aload_n 1 rfl d_JA_fillI_2 ?_
  refine G_alen hk_k hs_k (by decide) d_JA_fillI_3 ?_
  obtain ⟨l3_4, e_4, h⟩ := ob_s h
  refine G_istore_n [(3, .int l3_4), (2, .int l2_1), (0, .ref k), (1, .int l1)] e_4 rfl (by decide) d_JA_fillI_4 ?_
  exact G_sub _ [2, 3, 1, 0] rfl (t_JA_fillI_5 hk_k hs_k FU S l1 l2_1 l3_4 _ h)
theorem d_JA_fillJ_0 : decode m_JA_fillJ.2.1 0 = .ok (.iconst 0, 1) := by decide +kernel
theorem d_JA_fillJ_1 : decode m_JA_fillJ.2.1 1 = .ok (.istore_n 3, 1) := by decide +kernel
theorem d_JA_fillJ_2 : decode m_JA_fillJ.2.1 2 = .ok (.aload_n 0, 1) := by decide +kernel
theorem d_JA_fillJ_3 : decode m_JA_fillJ.2.1 3 = .ok (.arraylength, 1) := by decide +kernel
theorem d_JA_fillJ_4 : decode m_JA_fillJ.2.1 4 = .ok (.istore 4, 2) := by decide +kernel
theorem d_JA_fillJ_6 : decode m_JA_fillJ.2.1 6 = .ok (.iload_n 3, 1) := by decide +kernel
theorem d_JA_fillJ_7 : decode m_JA_fillJ.2.1 7 = .ok (.iload 4, 2) := by decide +kernel
theorem d_JA_fillJ_9 : decode m_JA_fillJ.2.1 9 = .ok (.if_icmp .ge 13, 3) := by decide +kernel
theorem d_JA_fillJ_12 : decode m_JA_fillJ.2.1 12 = .ok (.aload_n 0, 1) := by decide +kernel
theorem d_JA_fillJ_13 : decode m_JA_fillJ.2.1 13 = .ok (.iload_n 3, 1) := by decide +kernel
theorem d_JA_fillJ_14 : decode m_JA_fillJ.2.1 14 = .ok (.lload_n 1, 1) := by decide +kernel
theorem d_JA_fillJ_15 : decode m_JA_fillJ.2.1 15 = .ok (.lastore, 1) := by decide +kernel
theorem d_JA_fillJ_16 : decode m_JA_fillJ.2.1 16 = .ok (.iinc 3 1, 3) := by decide +kernel
theorem d_JA_fillJ_19 : decode m_JA_fillJ.2.1 19 = .ok (.goto (-13), 3) := by decide +kernel
theorem d_JA_fillJ_22 : decode m_JA_fillJ.2.1 22 = .ok (.return_, 1) := by decide +kernel
def f_JA_fillJ_6 : Nat → St → Int64 → Int32 → Int32 → Option (St)
  | 0, _, _, _, _ => none
  | n + 1, S, l1, l3, l4 =>
    if l4 ≤ l3 then (
    some S)
    else (
    if ig l3 48 then (
    (some (sL S 55 l3.toNatClampNeg l1)).bind fun S_15 =>
    (some (l3 + 1)).bind fun l3_16 =>
    f_JA_fillJ_6 n S_15 l1 l3_16 l4) else none)
set_option maxHeartbeats 4000000 in
set_option maxRecDepth 20000 in
theorem t_JA_fillJ_6  : ∀ (n : Nat) (S : St) (l1 : Int64) (l3 : Int32) (l4 : Int32) (w : St), f_JA_fillJ_6 n S l1 l3 l4 = some w → G SX m_JA_fillJ 1 none w 6 [(0, .ref 55), (1, .long l1), (3, .int l3), (4, .int l4)] [] S := by
  intro n
  induction n with
  | zero =>
    intro S l1 l3 l4 w h
    rw [f_JA_fillJ_6] at h
    cases h
  | succ n ih =>
    intro S l1 l3 l4 w h
    rw [f_JA_fillJ_6] at h
    refine G_iload_n 2 rfl d_JA_fillJ_6 ?_
    refine G_iload 3 rfl d_JA_fillJ_7 ?_
    refine G_icmp_ge 22 (by decide) d_JA_fillJ_9 (fun c_9 => ?_) (fun c_9 => ?_)
    · replace h := ob_t h c_9
      cases h
      exact G_vret rfl d_JA_fillJ_22
    · replace h := ob_f h c_9
      refine G_aload_n 0 rfl d_JA_fillJ_12 ?_
      refine G_iload_n 2 rfl d_JA_fillJ_13 ?_
      refine G_lload_n 1 rfl d_JA_fillJ_14 ?_
      obtain ⟨g_15, h⟩ := ob_g h
      obtain ⟨S_15, e_15, h⟩ := ob_s h
      refine G_lastore e_15 kx_55 sx_55 g_15 d_JA_fillJ_15 ?_
      obtain ⟨l3_16, e_16, h⟩ := ob_s h
      refine G_iinc 1 2 [(3, .int l3_16), (0, .ref 55), (1, .long l1), (4, .int l4)] (by decide) rfl e_16 rfl (by decide) d_JA_fillJ_16 ?_
      refine G_goto 6 (by decide) d_JA_fillJ_19 ?_
      exact G_sub _ [1, 2, 0, 3] rfl (ih S_15 l1 l3_16 l4 _ h)
def f_JA_fillJ (S : St) (l1 : Int64) : Option (St) :=
    (some (0 : Int32)).bind fun l3_1 =>
    (some (Int32.ofNat 48)).bind fun l4_4 =>
    f_JA_fillJ_6 FU S l1 l3_1 l4_4
set_option maxHeartbeats 4000000 in
set_option maxRecDepth 20000 in
theorem t_JA_fillJ  {S : St} {l1 : Int64} {w : St} (h : f_JA_fillJ S l1 = some w) : Ct SX m_JA_fillJ 1 [.ref 55, .long l1] S none w := by
  unfold f_JA_fillJ at h
  refine Ct.of pn_JA (Nat.le_of_ble_eq_true rfl) ?_
  show G SX m_JA_fillJ 1 none w 0 [(0, .ref 55), (1, .long l1)] [] S
  refine G_iconst 0 (by decide) d_JA_fillJ_0 ?_
  obtain ⟨l3_1, e_1, h⟩ := ob_s h
  refine G_istore_n [(3, .int l3_1), (0, .ref 55), (1, .long l1)] e_1 rfl (by decide) d_JA_fillJ_1 ?_
  refine G_aload_n 1 rfl d_JA_fillJ_2 ?_
  refine G_alen kx_55 sx_55 (by decide) d_JA_fillJ_3 ?_
  obtain ⟨l4_4, e_4, h⟩ := ob_s h
  refine G_istore [(4, .int l4_4), (3, .int l3_1), (0, .ref 55), (1, .long l1)] e_4 rfl (by decide) d_JA_fillJ_4 ?_
  exact G_sub _ [2, 3, 1, 0] rfl (t_JA_fillJ_6 FU S l1 l3_1 l4_4 _ h)
