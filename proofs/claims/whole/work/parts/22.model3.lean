theorem d_Mo_feels_0 : decode m_Mo_feels.2.1 0 = .ok (.aload_n 0, 1) := by decide +kernel
theorem d_Mo_feels_1 : decode m_Mo_feels.2.1 1 = .ok (.getfield 65, 3) := by decide +kernel
theorem d_Mo_feels_4 : decode m_Mo_feels.2.1 4 = .ok (.iconst 0, 1) := by decide +kernel
theorem d_Mo_feels_5 : decode m_Mo_feels.2.1 5 = .ok (.iload_n 1, 1) := by decide +kernel
theorem d_Mo_feels_6 : decode m_Mo_feels.2.1 6 = .ok (.iastore, 1) := by decide +kernel
theorem d_Mo_feels_7 : decode m_Mo_feels.2.1 7 = .ok (.aload_n 0, 1) := by decide +kernel
theorem d_Mo_feels_8 : decode m_Mo_feels.2.1 8 = .ok (.getfield 65, 3) := by decide +kernel
theorem d_Mo_feels_11 : decode m_Mo_feels.2.1 11 = .ok (.iconst 1, 1) := by decide +kernel
theorem d_Mo_feels_12 : decode m_Mo_feels.2.1 12 = .ok (.aload_n 0, 1) := by decide +kernel
theorem d_Mo_feels_13 : decode m_Mo_feels.2.1 13 = .ok (.getfield 19, 3) := by decide +kernel
theorem d_Mo_feels_16 : decode m_Mo_feels.2.1 16 = .ok (.iload_n 1, 1) := by decide +kernel
theorem d_Mo_feels_17 : decode m_Mo_feels.2.1 17 = .ok (.iaload, 1) := by decide +kernel
theorem d_Mo_feels_18 : decode m_Mo_feels.2.1 18 = .ok (.iastore, 1) := by decide +kernel
theorem d_Mo_feels_19 : decode m_Mo_feels.2.1 19 = .ok (.aload_n 0, 1) := by decide +kernel
theorem d_Mo_feels_20 : decode m_Mo_feels.2.1 20 = .ok (.getfield 65, 3) := by decide +kernel
theorem d_Mo_feels_23 : decode m_Mo_feels.2.1 23 = .ok (.iconst 2, 1) := by decide +kernel
theorem d_Mo_feels_24 : decode m_Mo_feels.2.1 24 = .ok (.aload_n 0, 1) := by decide +kernel
theorem d_Mo_feels_25 : decode m_Mo_feels.2.1 25 = .ok (.getfield 7, 3) := by decide +kernel
theorem d_Mo_feels_28 : decode m_Mo_feels.2.1 28 = .ok (.bipush 48, 2) := by decide +kernel
theorem d_Mo_feels_30 : decode m_Mo_feels.2.1 30 = .ok (.iload_n 1, 1) := by decide +kernel
theorem d_Mo_feels_31 : decode m_Mo_feels.2.1 31 = .ok (.iadd, 1) := by decide +kernel
theorem d_Mo_feels_32 : decode m_Mo_feels.2.1 32 = .ok (.iaload, 1) := by decide +kernel
theorem d_Mo_feels_33 : decode m_Mo_feels.2.1 33 = .ok (.iastore, 1) := by decide +kernel
theorem d_Mo_feels_34 : decode m_Mo_feels.2.1 34 = .ok (.aload_n 0, 1) := by decide +kernel
theorem d_Mo_feels_35 : decode m_Mo_feels.2.1 35 = .ok (.getfield 65, 3) := by decide +kernel
theorem d_Mo_feels_38 : decode m_Mo_feels.2.1 38 = .ok (.iconst 3, 1) := by decide +kernel
theorem d_Mo_feels_39 : decode m_Mo_feels.2.1 39 = .ok (.aload_n 0, 1) := by decide +kernel
theorem d_Mo_feels_40 : decode m_Mo_feels.2.1 40 = .ok (.getfield 7, 3) := by decide +kernel
theorem d_Mo_feels_43 : decode m_Mo_feels.2.1 43 = .ok (.iconst 0, 1) := by decide +kernel
theorem d_Mo_feels_44 : decode m_Mo_feels.2.1 44 = .ok (.iload_n 1, 1) := by decide +kernel
theorem d_Mo_feels_45 : decode m_Mo_feels.2.1 45 = .ok (.iadd, 1) := by decide +kernel
theorem d_Mo_feels_46 : decode m_Mo_feels.2.1 46 = .ok (.iaload, 1) := by decide +kernel
theorem d_Mo_feels_47 : decode m_Mo_feels.2.1 47 = .ok (.iastore, 1) := by decide +kernel
theorem d_Mo_feels_48 : decode m_Mo_feels.2.1 48 = .ok (.aload_n 0, 1) := by decide +kernel
theorem d_Mo_feels_49 : decode m_Mo_feels.2.1 49 = .ok (.getfield 65, 3) := by decide +kernel
theorem d_Mo_feels_52 : decode m_Mo_feels.2.1 52 = .ok (.iconst 4, 1) := by decide +kernel
theorem d_Mo_feels_53 : decode m_Mo_feels.2.1 53 = .ok (.aload_n 0, 1) := by decide +kernel
theorem d_Mo_feels_54 : decode m_Mo_feels.2.1 54 = .ok (.getfield 7, 3) := by decide +kernel
theorem d_Mo_feels_57 : decode m_Mo_feels.2.1 57 = .ok (.bipush 24, 2) := by decide +kernel
theorem d_Mo_feels_59 : decode m_Mo_feels.2.1 59 = .ok (.iload_n 1, 1) := by decide +kernel
theorem d_Mo_feels_60 : decode m_Mo_feels.2.1 60 = .ok (.iadd, 1) := by decide +kernel
theorem d_Mo_feels_61 : decode m_Mo_feels.2.1 61 = .ok (.iaload, 1) := by decide +kernel
theorem d_Mo_feels_62 : decode m_Mo_feels.2.1 62 = .ok (.iastore, 1) := by decide +kernel
theorem d_Mo_feels_63 : decode m_Mo_feels.2.1 63 = .ok (.aload_n 0, 1) := by decide +kernel
theorem d_Mo_feels_64 : decode m_Mo_feels.2.1 64 = .ok (.getfield 65, 3) := by decide +kernel
theorem d_Mo_feels_67 : decode m_Mo_feels.2.1 67 = .ok (.iconst 5, 1) := by decide +kernel
theorem d_Mo_feels_68 : decode m_Mo_feels.2.1 68 = .ok (.aload_n 0, 1) := by decide +kernel
theorem d_Mo_feels_69 : decode m_Mo_feels.2.1 69 = .ok (.aload_n 0, 1) := by decide +kernel
theorem d_Mo_feels_70 : decode m_Mo_feels.2.1 70 = .ok (.getfield 19, 3) := by decide +kernel
theorem d_Mo_feels_73 : decode m_Mo_feels.2.1 73 = .ok (.iload_n 1, 1) := by decide +kernel
theorem d_Mo_feels_74 : decode m_Mo_feels.2.1 74 = .ok (.iaload, 1) := by decide +kernel
theorem d_Mo_feels_75 : decode m_Mo_feels.2.1 75 = .ok (.invokevirtual 256, 3) := by decide +kernel
theorem d_Mo_feels_78 : decode m_Mo_feels.2.1 78 = .ok (.iastore, 1) := by decide +kernel
theorem d_Mo_feels_79 : decode m_Mo_feels.2.1 79 = .ok (.aload_n 0, 1) := by decide +kernel
theorem d_Mo_feels_80 : decode m_Mo_feels.2.1 80 = .ok (.getfield 65, 3) := by decide +kernel
theorem d_Mo_feels_83 : decode m_Mo_feels.2.1 83 = .ok (.bipush 6, 2) := by decide +kernel
theorem d_Mo_feels_85 : decode m_Mo_feels.2.1 85 = .ok (.aload_n 0, 1) := by decide +kernel
theorem d_Mo_feels_86 : decode m_Mo_feels.2.1 86 = .ok (.iload_n 1, 1) := by decide +kernel
theorem d_Mo_feels_87 : decode m_Mo_feels.2.1 87 = .ok (.invokevirtual 259, 3) := by decide +kernel
theorem d_Mo_feels_90 : decode m_Mo_feels.2.1 90 = .ok (.iastore, 1) := by decide +kernel
theorem d_Mo_feels_91 : decode m_Mo_feels.2.1 91 = .ok (.aload_n 0, 1) := by decide +kernel
theorem d_Mo_feels_92 : decode m_Mo_feels.2.1 92 = .ok (.getfield 65, 3) := by decide +kernel
theorem d_Mo_feels_95 : decode m_Mo_feels.2.1 95 = .ok (.bipush 7, 2) := by decide +kernel
theorem d_Mo_feels_97 : decode m_Mo_feels.2.1 97 = .ok (.aload_n 0, 1) := by decide +kernel
theorem d_Mo_feels_98 : decode m_Mo_feels.2.1 98 = .ok (.getfield 7, 3) := by decide +kernel
theorem d_Mo_feels_101 : decode m_Mo_feels.2.1 101 = .ok (.bipush 97, 2) := by decide +kernel
theorem d_Mo_feels_103 : decode m_Mo_feels.2.1 103 = .ok (.iaload, 1) := by decide +kernel
theorem d_Mo_feels_104 : decode m_Mo_feels.2.1 104 = .ok (.bipush 100, 2) := by decide +kernel
theorem d_Mo_feels_106 : decode m_Mo_feels.2.1 106 = .ok (.irem, 1) := by decide +kernel
theorem d_Mo_feels_107 : decode m_Mo_feels.2.1 107 = .ok (.iastore, 1) := by decide +kernel
theorem d_Mo_feels_108 : decode m_Mo_feels.2.1 108 = .ok (.aload_n 0, 1) := by decide +kernel
theorem d_Mo_feels_109 : decode m_Mo_feels.2.1 109 = .ok (.getfield 65, 3) := by decide +kernel
theorem d_Mo_feels_112 : decode m_Mo_feels.2.1 112 = .ok (.bipush 8, 2) := by decide +kernel
theorem d_Mo_feels_114 : decode m_Mo_feels.2.1 114 = .ok (.aload_n 0, 1) := by decide +kernel
theorem d_Mo_feels_115 : decode m_Mo_feels.2.1 115 = .ok (.invokevirtual 262, 3) := by decide +kernel
theorem d_Mo_feels_118 : decode m_Mo_feels.2.1 118 = .ok (.iastore, 1) := by decide +kernel
theorem d_Mo_feels_119 : decode m_Mo_feels.2.1 119 = .ok (.return_, 1) := by decide +kernel
def f_Mo_feels (S : St) (l1 : Int32) : Option (St) :=
    if ig (0 : Int32) 9 then (
    (some (sF S 19 (0 : Int32).toNatClampNeg l1)).bind fun S_6 =>
    if ig l1 24 then (
    if ig (1 : Int32) 9 then (
    (some (sF S_6 19 (1 : Int32).toNatClampNeg (S_6 4 l1.toNatClampNeg))).bind fun S_18 =>
    if ig (48 + l1) 99 then (
    if ig (2 : Int32) 9 then (
    (some (sF S_18 19 (2 : Int32).toNatClampNeg (S_18 1 (48 + l1).toNatClampNeg))).bind fun S_33 =>
    if ig (0 + l1) 99 then (
    if ig (3 : Int32) 9 then (
    (some (sF S_33 19 (3 : Int32).toNatClampNeg (S_33 1 (0 + l1).toNatClampNeg))).bind fun S_47 =>
    if ig (24 + l1) 99 then (
    if ig (4 : Int32) 9 then (
    (some (sF S_47 19 (4 : Int32).toNatClampNeg (S_47 1 (24 + l1).toNatClampNeg))).bind fun S_62 =>
    if ig l1 24 then (
    (f_Mo_leftOf S_62 (S_62 4 l1.toNatClampNeg)).bind fun v_75 =>
    if ig (5 : Int32) 9 then (
    (some (sF S_62 19 (5 : Int32).toNatClampNeg v_75)).bind fun S_78 =>
    (f_Mo_waitersOf S_78 l1).bind fun v_87 =>
    if ig (6 : Int32) 9 then (
    (some (sF S_78 19 (6 : Int32).toNatClampNeg v_87)).bind fun S_90 =>
    if ig (97 : Int32) 99 then (
    if ig (7 : Int32) 9 then (
    (some (sF S_90 19 (7 : Int32).toNatClampNeg (jrem (S_90 1 (97 : Int32).toNatClampNeg) 100))).bind fun S_107 =>
    (f_Mo_draws S_107).bind fun w_115 =>
    if ig (8 : Int32) 9 then (
    (some (sF w_115.2 19 (8 : Int32).toNatClampNeg w_115.1)).bind fun S_118 =>
    some S_118) else none) else none) else none) else none) else none) else none) else none) else none) else none) else none) else none) else none) else none) else none) else none
set_option maxHeartbeats 4000000 in
set_option maxRecDepth 20000 in
theorem t_Mo_feels  {S : St} {l1 : Int32} {w : St} (h : f_Mo_feels S l1 = some w) : Ct SM m_Mo_feels 5 [.ref 0, .int l1] S none w := by
  unfold f_Mo_feels at h
  refine Ct.of pn_Mo (Nat.le_of_ble_eq_true rfl) ?_
  show G SM m_Mo_feels 5 none w 0 [(0, .ref 0), (1, .int l1)] [] S
  refine G_aload_n 0 rfl d_Mo_feels_0 ?_
  refine G_getR fl_Mo_65 km_0 sm_0 rfl (by decide) d_Mo_feels_1 ?_
  refine G_iconst 0 (by decide) d_Mo_feels_4 ?_
  refine G_iload_n 1 rfl d_Mo_feels_5 ?_
  obtain ⟨g_6, h⟩ := ob_g h
  obtain ⟨S_6, e_6, h⟩ := ob_s h
  refine G_iastore e_6 km_19 sm_19 g_6 d_Mo_feels_6 ?_
  refine G_aload_n 0 rfl d_Mo_feels_7 ?_
  refine G_getR fl_Mo_65 km_0 sm_0 rfl (by decide) d_Mo_feels_8 ?_
  refine G_iconst 1 (by decide) d_Mo_feels_11 ?_
  refine G_aload_n 0 rfl d_Mo_feels_12 ?_
  refine G_getR fl_Mo_19 km_0 sm_0 rfl (by decide) d_Mo_feels_13 ?_
  refine G_iload_n 1 rfl d_Mo_feels_16 ?_
  obtain ⟨g_17, h⟩ := ob_g h
  refine G_iaload km_4 sm_4 g_17 d_Mo_feels_17 ?_
  obtain ⟨g_18, h⟩ := ob_g h
  obtain ⟨S_18, e_18, h⟩ := ob_s h
  refine G_iastore e_18 km_19 sm_19 g_18 d_Mo_feels_18 ?_
  refine G_aload_n 0 rfl d_Mo_feels_19 ?_
  refine G_getR fl_Mo_65 km_0 sm_0 rfl (by decide) d_Mo_feels_20 ?_
  refine G_iconst 2 (by decide) d_Mo_feels_23 ?_
  refine G_aload_n 0 rfl d_Mo_feels_24 ?_
  refine G_getR fl_Mo_7 km_0 sm_0 rfl (by decide) d_Mo_feels_25 ?_
  refine G_bipush 48 (by decide) d_Mo_feels_28 ?_
  refine G_iload_n 1 rfl d_Mo_feels_30 ?_
  refine G_iadd d_Mo_feels_31 ?_
  obtain ⟨g_32, h⟩ := ob_g h
  refine G_iaload km_1 sm_1 g_32 d_Mo_feels_32 ?_
  obtain ⟨g_33, h⟩ := ob_g h
  obtain ⟨S_33, e_33, h⟩ := ob_s h
  refine G_iastore e_33 km_19 sm_19 g_33 d_Mo_feels_33 ?_
  refine G_aload_n 0 rfl d_Mo_feels_34 ?_
  refine G_getR fl_Mo_65 km_0 sm_0 rfl (by decide) d_Mo_feels_35 ?_
  refine G_iconst 3 (by decide) d_Mo_feels_38 ?_
  refine G_aload_n 0 rfl d_Mo_feels_39 ?_
  refine G_getR fl_Mo_7 km_0 sm_0 rfl (by decide) d_Mo_feels_40 ?_
  refine G_iconst 0 (by decide) d_Mo_feels_43 ?_
  refine G_iload_n 1 rfl d_Mo_feels_44 ?_
  refine G_iadd d_Mo_feels_45 ?_
  obtain ⟨g_46, h⟩ := ob_g h
  refine G_iaload km_1 sm_1 g_46 d_Mo_feels_46 ?_
  obtain ⟨g_47, h⟩ := ob_g h
  obtain ⟨S_47, e_47, h⟩ := ob_s h
  refine G_iastore e_47 km_19 sm_19 g_47 d_Mo_feels_47 ?_
  refine G_aload_n 0 rfl d_Mo_feels_48 ?_
  refine G_getR fl_Mo_65 km_0 sm_0 rfl (by decide) d_Mo_feels_49 ?_
  refine G_iconst 4 (by decide) d_Mo_feels_52 ?_
  refine G_aload_n 0 rfl d_Mo_feels_53 ?_
  refine G_getR fl_Mo_7 km_0 sm_0 rfl (by decide) d_Mo_feels_54 ?_
  refine G_bipush 24 (by decide) d_Mo_feels_57 ?_
  refine G_iload_n 1 rfl d_Mo_feels_59 ?_
  refine G_iadd d_Mo_feels_60 ?_
  obtain ⟨g_61, h⟩ := ob_g h
  refine G_iaload km_1 sm_1 g_61 d_Mo_feels_61 ?_
  obtain ⟨g_62, h⟩ := ob_g h
  obtain ⟨S_62, e_62, h⟩ := ob_s h
  refine G_iastore e_62 km_19 sm_19 g_62 d_Mo_feels_62 ?_
  refine G_aload_n 0 rfl d_Mo_feels_63 ?_
  refine G_getR fl_Mo_65 km_0 sm_0 rfl (by decide) d_Mo_feels_64 ?_
  refine G_iconst 5 (by decide) d_Mo_feels_67 ?_
  refine G_aload_n 0 rfl d_Mo_feels_68 ?_
  refine G_aload_n 0 rfl d_Mo_feels_69 ?_
  refine G_getR fl_Mo_19 km_0 sm_0 rfl (by decide) d_Mo_feels_70 ?_
  refine G_iload_n 1 rfl d_Mo_feels_73 ?_
  obtain ⟨g_74, h⟩ := ob_g h
  refine G_iaload km_4 sm_4 g_74 d_Mo_feels_74 ?_
  obtain ⟨v_75, q_75, h⟩ := ob_b h
  refine G_callV [.int (S_62 4 l1.toNatClampNeg)] [.int 5, .ref 19] (t_Mo_leftOf q_75) (by decide) (by decide) mv_Mo_leftOf rfl ml_Mo_256 km_0 sm_0 cl_12 rfl (Nat.le_of_ble_eq_true rfl) d_Mo_feels_75 ?_
  obtain ⟨g_78, h⟩ := ob_g h
  obtain ⟨S_78, e_78, h⟩ := ob_s h
  refine G_iastore e_78 km_19 sm_19 g_78 d_Mo_feels_78 ?_
  refine G_aload_n 0 rfl d_Mo_feels_79 ?_
  refine G_getR fl_Mo_65 km_0 sm_0 rfl (by decide) d_Mo_feels_80 ?_
  refine G_bipush 6 (by decide) d_Mo_feels_83 ?_
  refine G_aload_n 0 rfl d_Mo_feels_85 ?_
  refine G_iload_n 1 rfl d_Mo_feels_86 ?_
  obtain ⟨v_87, q_87, h⟩ := ob_b h
  refine G_callV [.int l1] [.int 6, .ref 19] (t_Mo_waitersOf q_87) (by decide) (by decide) mv_Mo_waitersOf rfl ml_Mo_259 km_0 sm_0 cl_12 rfl (Nat.le_of_ble_eq_true rfl) d_Mo_feels_87 ?_
  obtain ⟨g_90, h⟩ := ob_g h
  obtain ⟨S_90, e_90, h⟩ := ob_s h
  refine G_iastore e_90 km_19 sm_19 g_90 d_Mo_feels_90 ?_
  refine G_aload_n 0 rfl d_Mo_feels_91 ?_
  refine G_getR fl_Mo_65 km_0 sm_0 rfl (by decide) d_Mo_feels_92 ?_
  refine G_bipush 7 (by decide) d_Mo_feels_95 ?_
  refine G_aload_n 0 rfl d_Mo_feels_97 ?_
  refine G_getR fl_Mo_7 km_0 sm_0 rfl (by decide) d_Mo_feels_98 ?_
  refine G_bipush 97 (by decide) d_Mo_feels_101 ?_
  obtain ⟨g_103, h⟩ := ob_g h
  refine G_iaload km_1 sm_1 g_103 d_Mo_feels_103 ?_
  refine G_bipush 100 (by decide) d_Mo_feels_104 ?_
  refine G_irem (by decide) d_Mo_feels_106 ?_
  obtain ⟨g_107, h⟩ := ob_g h
  obtain ⟨S_107, e_107, h⟩ := ob_s h
  refine G_iastore e_107 km_19 sm_19 g_107 d_Mo_feels_107 ?_
  refine G_aload_n 0 rfl d_Mo_feels_108 ?_
  refine G_getR fl_Mo_65 km_0 sm_0 rfl (by decide) d_Mo_feels_109 ?_
  refine G_bipush 8 (by decide) d_Mo_feels_112 ?_
  refine G_aload_n 0 rfl d_Mo_feels_114 ?_
  obtain ⟨w_115, q_115, h⟩ := ob_b h
  refine G_callV [] [.int 8, .ref 19] (t_Mo_draws q_115) (by decide) (by decide) mv_Mo_draws rfl ml_Mo_262 km_0 sm_0 cl_12 rfl (Nat.le_of_ble_eq_true rfl) d_Mo_feels_115 ?_
  obtain ⟨g_118, h⟩ := ob_g h
  obtain ⟨S_118, e_118, h⟩ := ob_s h
  refine G_iastore e_118 km_19 sm_19 g_118 d_Mo_feels_118 ?_
  cases h
  exact G_vret rfl d_Mo_feels_119
theorem d_Mo_burns_0 : decode m_Mo_burns.2.1 0 = .ok (.aload_n 0, 1) := by decide +kernel
theorem d_Mo_burns_1 : decode m_Mo_burns.2.1 1 = .ok (.getfield 7, 3) := by decide +kernel
theorem d_Mo_burns_4 : decode m_Mo_burns.2.1 4 = .ok (.iconst 0, 1) := by decide +kernel
theorem d_Mo_burns_5 : decode m_Mo_burns.2.1 5 = .ok (.iload_n 1, 1) := by decide +kernel
theorem d_Mo_burns_6 : decode m_Mo_burns.2.1 6 = .ok (.iadd, 1) := by decide +kernel
theorem d_Mo_burns_7 : decode m_Mo_burns.2.1 7 = .ok (.iconst 0, 1) := by decide +kernel
theorem d_Mo_burns_8 : decode m_Mo_burns.2.1 8 = .ok (.aload_n 0, 1) := by decide +kernel
theorem d_Mo_burns_9 : decode m_Mo_burns.2.1 9 = .ok (.getfield 7, 3) := by decide +kernel
theorem d_Mo_burns_12 : decode m_Mo_burns.2.1 12 = .ok (.iconst 0, 1) := by decide +kernel
theorem d_Mo_burns_13 : decode m_Mo_burns.2.1 13 = .ok (.iload_n 1, 1) := by decide +kernel
theorem d_Mo_burns_14 : decode m_Mo_burns.2.1 14 = .ok (.iadd, 1) := by decide +kernel
theorem d_Mo_burns_15 : decode m_Mo_burns.2.1 15 = .ok (.iaload, 1) := by decide +kernel
theorem d_Mo_burns_16 : decode m_Mo_burns.2.1 16 = .ok (.iload_n 2, 1) := by decide +kernel
theorem d_Mo_burns_17 : decode m_Mo_burns.2.1 17 = .ok (.isub, 1) := by decide +kernel
theorem d_Mo_burns_18 : decode m_Mo_burns.2.1 18 = .ok (.invokestatic 265, 3) := by decide +kernel
theorem d_Mo_burns_21 : decode m_Mo_burns.2.1 21 = .ok (.iastore, 1) := by decide +kernel
theorem d_Mo_burns_22 : decode m_Mo_burns.2.1 22 = .ok (.aload_n 0, 1) := by decide +kernel
theorem d_Mo_burns_23 : decode m_Mo_burns.2.1 23 = .ok (.getfield 7, 3) := by decide +kernel
theorem d_Mo_burns_26 : decode m_Mo_burns.2.1 26 = .ok (.iconst 0, 1) := by decide +kernel
theorem d_Mo_burns_27 : decode m_Mo_burns.2.1 27 = .ok (.iload_n 1, 1) := by decide +kernel
theorem d_Mo_burns_28 : decode m_Mo_burns.2.1 28 = .ok (.iadd, 1) := by decide +kernel
theorem d_Mo_burns_29 : decode m_Mo_burns.2.1 29 = .ok (.iaload, 1) := by decide +kernel
theorem d_Mo_burns_30 : decode m_Mo_burns.2.1 30 = .ok (.ifCond .ne 13, 3) := by decide +kernel
theorem d_Mo_burns_33 : decode m_Mo_burns.2.1 33 = .ok (.aload_n 0, 1) := by decide +kernel
theorem d_Mo_burns_34 : decode m_Mo_burns.2.1 34 = .ok (.getfield 7, 3) := by decide +kernel
theorem d_Mo_burns_37 : decode m_Mo_burns.2.1 37 = .ok (.bipush 24, 2) := by decide +kernel
theorem d_Mo_burns_39 : decode m_Mo_burns.2.1 39 = .ok (.iload_n 1, 1) := by decide +kernel
theorem d_Mo_burns_40 : decode m_Mo_burns.2.1 40 = .ok (.iadd, 1) := by decide +kernel
theorem d_Mo_burns_41 : decode m_Mo_burns.2.1 41 = .ok (.iconst 0, 1) := by decide +kernel
theorem d_Mo_burns_42 : decode m_Mo_burns.2.1 42 = .ok (.iastore, 1) := by decide +kernel
theorem d_Mo_burns_43 : decode m_Mo_burns.2.1 43 = .ok (.return_, 1) := by decide +kernel
def f_Mo_burns (S : St) (l1 : Int32) (l2 : Int32) : Option (St) :=
    if ig (0 + l1) 99 then (
    (f_Mo_max S (0 : Int32) ((S 1 (0 + l1).toNatClampNeg) - l2)).bind fun v_18 =>
    if ig (0 + l1) 99 then (
    (some (sF S 1 (0 + l1).toNatClampNeg v_18)).bind fun S_21 =>
    if ig (0 + l1) 99 then (
    if (S_21 1 (0 + l1).toNatClampNeg) = 0 then (
    if ig (24 + l1) 99 then (
    (some (sF S_21 1 (24 + l1).toNatClampNeg 0)).bind fun S_42 =>
    some S_42) else none)
    else (
    some S_21)) else none) else none) else none
set_option maxHeartbeats 4000000 in
set_option maxRecDepth 20000 in
theorem t_Mo_burns  {S : St} {l1 : Int32} {l2 : Int32} {w : St} (h : f_Mo_burns S l1 l2 = some w) : Ct SM m_Mo_burns 2 [.ref 0, .int l1, .int l2] S none w := by
  unfold f_Mo_burns at h
  refine Ct.of pn_Mo (Nat.le_of_ble_eq_true rfl) ?_
  show G SM m_Mo_burns 2 none w 0 [(0, .ref 0), (1, .int l1), (2, .int l2)] [] S
  refine G_aload_n 0 rfl d_Mo_burns_0 ?_
  refine G_getR fl_Mo_7 km_0 sm_0 rfl (by decide) d_Mo_burns_1 ?_
  refine G_iconst 0 (by decide) d_Mo_burns_4 ?_
  refine G_iload_n 1 rfl d_Mo_burns_5 ?_
  refine G_iadd d_Mo_burns_6 ?_
  refine G_iconst 0 (by decide) d_Mo_burns_7 ?_
  refine G_aload_n 0 rfl d_Mo_burns_8 ?_
  refine G_getR fl_Mo_7 km_0 sm_0 rfl (by decide) d_Mo_burns_9 ?_
  refine G_iconst 0 (by decide) d_Mo_burns_12 ?_
  refine G_iload_n 1 rfl d_Mo_burns_13 ?_
  refine G_iadd d_Mo_burns_14 ?_
  obtain ⟨g_15, h⟩ := ob_g h
  refine G_iaload km_1 sm_1 g_15 d_Mo_burns_15 ?_
  refine G_iload_n 2 rfl d_Mo_burns_16 ?_
  refine G_isub d_Mo_burns_17 ?_
  obtain ⟨v_18, q_18, h⟩ := ob_b h
  refine G_callS [.int 0, .int ((S 1 (0 + l1).toNatClampNeg) - l2)] [.int (0 + l1), .ref 1] (t_Mo_max q_18) (by decide) (by decide) mt_Mo_max rfl ml_Mo_265 rfl (Nat.le_of_ble_eq_true rfl) d_Mo_burns_18 ?_
  obtain ⟨g_21, h⟩ := ob_g h
  obtain ⟨S_21, e_21, h⟩ := ob_s h
  refine G_iastore e_21 km_1 sm_1 g_21 d_Mo_burns_21 ?_
  refine G_aload_n 0 rfl d_Mo_burns_22 ?_
  refine G_getR fl_Mo_7 km_0 sm_0 rfl (by decide) d_Mo_burns_23 ?_
  refine G_iconst 0 (by decide) d_Mo_burns_26 ?_
  refine G_iload_n 1 rfl d_Mo_burns_27 ?_
  refine G_iadd d_Mo_burns_28 ?_
  obtain ⟨g_29, h⟩ := ob_g h
  refine G_iaload km_1 sm_1 g_29 d_Mo_burns_29 ?_
  refine G_if_ne 43 (by decide) d_Mo_burns_30 (fun c_30 => ?_) (fun c_30 => ?_)
  · replace h := ob_f h c_30
    cases h
    exact G_vret rfl d_Mo_burns_43
  · replace h := ob_t h c_30
    refine G_aload_n 0 rfl d_Mo_burns_33 ?_
    refine G_getR fl_Mo_7 km_0 sm_0 rfl (by decide) d_Mo_burns_34 ?_
    refine G_bipush 24 (by decide) d_Mo_burns_37 ?_
    refine G_iload_n 1 rfl d_Mo_burns_39 ?_
    refine G_iadd d_Mo_burns_40 ?_
    refine G_iconst 0 (by decide) d_Mo_burns_41 ?_
    obtain ⟨g_42, h⟩ := ob_g h
    obtain ⟨S_42, e_42, h⟩ := ob_s h
    refine G_iastore e_42 km_1 sm_1 g_42 d_Mo_burns_42 ?_
    cases h
    exact G_vret rfl d_Mo_burns_43
theorem d_Mo_isDone_0 : decode m_Mo_isDone.2.1 0 = .ok (.aload_n 0, 1) := by decide +kernel
theorem d_Mo_isDone_1 : decode m_Mo_isDone.2.1 1 = .ok (.getfield 7, 3) := by decide +kernel
theorem d_Mo_isDone_4 : decode m_Mo_isDone.2.1 4 = .ok (.bipush 72, 2) := by decide +kernel
theorem d_Mo_isDone_6 : decode m_Mo_isDone.2.1 6 = .ok (.iload_n 1, 1) := by decide +kernel
theorem d_Mo_isDone_7 : decode m_Mo_isDone.2.1 7 = .ok (.iadd, 1) := by decide +kernel
theorem d_Mo_isDone_8 : decode m_Mo_isDone.2.1 8 = .ok (.iconst 1, 1) := by decide +kernel
theorem d_Mo_isDone_9 : decode m_Mo_isDone.2.1 9 = .ok (.iastore, 1) := by decide +kernel
theorem d_Mo_isDone_10 : decode m_Mo_isDone.2.1 10 = .ok (.aload_n 0, 1) := by decide +kernel
theorem d_Mo_isDone_11 : decode m_Mo_isDone.2.1 11 = .ok (.aload_n 0, 1) := by decide +kernel
theorem d_Mo_isDone_12 : decode m_Mo_isDone.2.1 12 = .ok (.getfield 268, 3) := by decide +kernel
theorem d_Mo_isDone_15 : decode m_Mo_isDone.2.1 15 = .ok (.iconst 1, 1) := by decide +kernel
theorem d_Mo_isDone_16 : decode m_Mo_isDone.2.1 16 = .ok (.iadd, 1) := by decide +kernel
theorem d_Mo_isDone_17 : decode m_Mo_isDone.2.1 17 = .ok (.putfield 268, 3) := by decide +kernel
theorem d_Mo_isDone_20 : decode m_Mo_isDone.2.1 20 = .ok (.aload_n 0, 1) := by decide +kernel
theorem d_Mo_isDone_21 : decode m_Mo_isDone.2.1 21 = .ok (.getfield 7, 3) := by decide +kernel
theorem d_Mo_isDone_24 : decode m_Mo_isDone.2.1 24 = .ok (.bipush 24, 2) := by decide +kernel
theorem d_Mo_isDone_26 : decode m_Mo_isDone.2.1 26 = .ok (.iload_n 1, 1) := by decide +kernel
theorem d_Mo_isDone_27 : decode m_Mo_isDone.2.1 27 = .ok (.iadd, 1) := by decide +kernel
theorem d_Mo_isDone_28 : decode m_Mo_isDone.2.1 28 = .ok (.iaload, 1) := by decide +kernel
theorem d_Mo_isDone_29 : decode m_Mo_isDone.2.1 29 = .ok (.iconst 1, 1) := by decide +kernel
theorem d_Mo_isDone_30 : decode m_Mo_isDone.2.1 30 = .ok (.if_icmp .ne 19, 3) := by decide +kernel
theorem d_Mo_isDone_33 : decode m_Mo_isDone.2.1 33 = .ok (.aload_n 0, 1) := by decide +kernel
theorem d_Mo_isDone_34 : decode m_Mo_isDone.2.1 34 = .ok (.getfield 7, 3) := by decide +kernel
theorem d_Mo_isDone_37 : decode m_Mo_isDone.2.1 37 = .ok (.bipush 96, 2) := by decide +kernel
theorem d_Mo_isDone_39 : decode m_Mo_isDone.2.1 39 = .ok (.aload_n 0, 1) := by decide +kernel
theorem d_Mo_isDone_40 : decode m_Mo_isDone.2.1 40 = .ok (.getfield 7, 3) := by decide +kernel
theorem d_Mo_isDone_43 : decode m_Mo_isDone.2.1 43 = .ok (.bipush 96, 2) := by decide +kernel
theorem d_Mo_isDone_45 : decode m_Mo_isDone.2.1 45 = .ok (.iaload, 1) := by decide +kernel
theorem d_Mo_isDone_46 : decode m_Mo_isDone.2.1 46 = .ok (.iconst 1, 1) := by decide +kernel
theorem d_Mo_isDone_47 : decode m_Mo_isDone.2.1 47 = .ok (.iadd, 1) := by decide +kernel
theorem d_Mo_isDone_48 : decode m_Mo_isDone.2.1 48 = .ok (.iastore, 1) := by decide +kernel
theorem d_Mo_isDone_49 : decode m_Mo_isDone.2.1 49 = .ok (.aload_n 0, 1) := by decide +kernel
theorem d_Mo_isDone_50 : decode m_Mo_isDone.2.1 50 = .ok (.getfield 7, 3) := by decide +kernel
theorem d_Mo_isDone_53 : decode m_Mo_isDone.2.1 53 = .ok (.bipush 24, 2) := by decide +kernel
theorem d_Mo_isDone_55 : decode m_Mo_isDone.2.1 55 = .ok (.iload_n 1, 1) := by decide +kernel
theorem d_Mo_isDone_56 : decode m_Mo_isDone.2.1 56 = .ok (.iadd, 1) := by decide +kernel
theorem d_Mo_isDone_57 : decode m_Mo_isDone.2.1 57 = .ok (.iconst 0, 1) := by decide +kernel
theorem d_Mo_isDone_58 : decode m_Mo_isDone.2.1 58 = .ok (.iastore, 1) := by decide +kernel
theorem d_Mo_isDone_59 : decode m_Mo_isDone.2.1 59 = .ok (.return_, 1) := by decide +kernel
def f_Mo_isDone_49 (S : St) (l1 : Int32) : Option (St) :=
    if ig (24 + l1) 99 then (
    (some (sF S 1 (24 + l1).toNatClampNeg 0)).bind fun S_58 =>
    some S_58) else none
set_option maxHeartbeats 4000000 in
set_option maxRecDepth 20000 in
theorem t_Mo_isDone_49  (S : St) (l1 : Int32) (w : St) (h : f_Mo_isDone_49 S l1 = some w) : G SM m_Mo_isDone 1 none w 49 [(0, .ref 0), (1, .int l1)] [] S := by
  unfold f_Mo_isDone_49 at h
  refine G_aload_n 0 rfl d_Mo_isDone_49 ?_
  refine G_getR fl_Mo_7 km_0 sm_0 rfl (by decide) d_Mo_isDone_50 ?_
  refine G_bipush 24 (by decide) d_Mo_isDone_53 ?_
  refine G_iload_n 1 rfl d_Mo_isDone_55 ?_
  refine G_iadd d_Mo_isDone_56 ?_
  refine G_iconst 0 (by decide) d_Mo_isDone_57 ?_
  obtain ⟨g_58, h⟩ := ob_g h
  obtain ⟨S_58, e_58, h⟩ := ob_s h
  refine G_iastore e_58 km_1 sm_1 g_58 d_Mo_isDone_58 ?_
  cases h
  exact G_vret rfl d_Mo_isDone_59
def f_Mo_isDone (S : St) (l1 : Int32) : Option (St) :=
    if ig (72 + l1) 99 then (
    (some (sF S 1 (72 + l1).toNatClampNeg 1)).bind fun S_9 =>
    (some (sF S_9 0 35 ((S_9 0 35) + 1))).bind fun S_17 =>
    if ig (24 + l1) 99 then (
    if (S_17 1 (24 + l1).toNatClampNeg) = 1 then (
    if ig (96 : Int32) 99 then (
    if ig (96 : Int32) 99 then (
    (some (sF S_17 1 (96 : Int32).toNatClampNeg ((S_17 1 (96 : Int32).toNatClampNeg) + 1))).bind fun S_48 =>
    f_Mo_isDone_49 S_48 l1) else none) else none)
    else (
    f_Mo_isDone_49 S_17 l1)) else none) else none
set_option maxHeartbeats 4000000 in
set_option maxRecDepth 20000 in
theorem t_Mo_isDone  {S : St} {l1 : Int32} {w : St} (h : f_Mo_isDone S l1 = some w) : Ct SM m_Mo_isDone 1 [.ref 0, .int l1] S none w := by
  unfold f_Mo_isDone at h
  refine Ct.of pn_Mo (Nat.le_of_ble_eq_true rfl) ?_
  show G SM m_Mo_isDone 1 none w 0 [(0, .ref 0), (1, .int l1)] [] S
  refine G_aload_n 0 rfl d_Mo_isDone_0 ?_
  refine G_getR fl_Mo_7 km_0 sm_0 rfl (by decide) d_Mo_isDone_1 ?_
  refine G_bipush 72 (by decide) d_Mo_isDone_4 ?_
  refine G_iload_n 1 rfl d_Mo_isDone_6 ?_
  refine G_iadd d_Mo_isDone_7 ?_
  refine G_iconst 1 (by decide) d_Mo_isDone_8 ?_
  obtain ⟨g_9, h⟩ := ob_g h
  obtain ⟨S_9, e_9, h⟩ := ob_s h
  refine G_iastore e_9 km_1 sm_1 g_9 d_Mo_isDone_9 ?_
  refine G_aload_n 0 rfl d_Mo_isDone_10 ?_
  refine G_aload_n 0 rfl d_Mo_isDone_11 ?_
  refine G_getI fl_Mo_268 km_0 sm_0 rfl d_Mo_isDone_12 ?_
  refine G_iconst 1 (by decide) d_Mo_isDone_15 ?_
  refine G_iadd d_Mo_isDone_16 ?_
  obtain ⟨S_17, e_17, h⟩ := ob_s h
  refine G_putI e_17 fp_Mo_268 km_0 sm_0 rfl d_Mo_isDone_17 ?_
  refine G_aload_n 0 rfl d_Mo_isDone_20 ?_
  refine G_getR fl_Mo_7 km_0 sm_0 rfl (by decide) d_Mo_isDone_21 ?_
  refine G_bipush 24 (by decide) d_Mo_isDone_24 ?_
  refine G_iload_n 1 rfl d_Mo_isDone_26 ?_
  refine G_iadd d_Mo_isDone_27 ?_
  obtain ⟨g_28, h⟩ := ob_g h
  refine G_iaload km_1 sm_1 g_28 d_Mo_isDone_28 ?_
  refine G_iconst 1 (by decide) d_Mo_isDone_29 ?_
  refine G_icmp_ne 49 (by decide) d_Mo_isDone_30 (fun c_30 => ?_) (fun c_30 => ?_)
  · replace h := ob_f h c_30
    exact G_sub _ [0, 1] rfl (t_Mo_isDone_49 S_17 l1 _ h)
  · replace h := ob_t h c_30
    refine G_aload_n 0 rfl d_Mo_isDone_33 ?_
    refine G_getR fl_Mo_7 km_0 sm_0 rfl (by decide) d_Mo_isDone_34 ?_
    refine G_bipush 96 (by decide) d_Mo_isDone_37 ?_
    refine G_aload_n 0 rfl d_Mo_isDone_39 ?_
    refine G_getR fl_Mo_7 km_0 sm_0 rfl (by decide) d_Mo_isDone_40 ?_
    refine G_bipush 96 (by decide) d_Mo_isDone_43 ?_
    obtain ⟨g_45, h⟩ := ob_g h
    refine G_iaload km_1 sm_1 g_45 d_Mo_isDone_45 ?_
    refine G_iconst 1 (by decide) d_Mo_isDone_46 ?_
    refine G_iadd d_Mo_isDone_47 ?_
    obtain ⟨g_48, h⟩ := ob_g h
    obtain ⟨S_48, e_48, h⟩ := ob_s h
    refine G_iastore e_48 km_1 sm_1 g_48 d_Mo_isDone_48 ?_
    exact G_sub _ [0, 1] rfl (t_Mo_isDone_49 S_48 l1 _ h)
theorem d_Mo_isPutOff_0 : decode m_Mo_isPutOff.2.1 0 = .ok (.aload_n 0, 1) := by decide +kernel
theorem d_Mo_isPutOff_1 : decode m_Mo_isPutOff.2.1 1 = .ok (.getfield 7, 3) := by decide +kernel
theorem d_Mo_isPutOff_4 : decode m_Mo_isPutOff.2.1 4 = .ok (.bipush 48, 2) := by decide +kernel
theorem d_Mo_isPutOff_6 : decode m_Mo_isPutOff.2.1 6 = .ok (.iload_n 1, 1) := by decide +kernel
theorem d_Mo_isPutOff_7 : decode m_Mo_isPutOff.2.1 7 = .ok (.iadd, 1) := by decide +kernel
theorem d_Mo_isPutOff_8 : decode m_Mo_isPutOff.2.1 8 = .ok (.sipush 9999, 3) := by decide +kernel
theorem d_Mo_isPutOff_11 : decode m_Mo_isPutOff.2.1 11 = .ok (.aload_n 0, 1) := by decide +kernel
theorem d_Mo_isPutOff_12 : decode m_Mo_isPutOff.2.1 12 = .ok (.getfield 7, 3) := by decide +kernel
theorem d_Mo_isPutOff_15 : decode m_Mo_isPutOff.2.1 15 = .ok (.bipush 48, 2) := by decide +kernel
theorem d_Mo_isPutOff_17 : decode m_Mo_isPutOff.2.1 17 = .ok (.iload_n 1, 1) := by decide +kernel
theorem d_Mo_isPutOff_18 : decode m_Mo_isPutOff.2.1 18 = .ok (.iadd, 1) := by decide +kernel
theorem d_Mo_isPutOff_19 : decode m_Mo_isPutOff.2.1 19 = .ok (.iaload, 1) := by decide +kernel
theorem d_Mo_isPutOff_20 : decode m_Mo_isPutOff.2.1 20 = .ok (.iconst 1, 1) := by decide +kernel
theorem d_Mo_isPutOff_21 : decode m_Mo_isPutOff.2.1 21 = .ok (.iadd, 1) := by decide +kernel
theorem d_Mo_isPutOff_22 : decode m_Mo_isPutOff.2.1 22 = .ok (.invokestatic 271, 3) := by decide +kernel
theorem d_Mo_isPutOff_25 : decode m_Mo_isPutOff.2.1 25 = .ok (.iastore, 1) := by decide +kernel
theorem d_Mo_isPutOff_26 : decode m_Mo_isPutOff.2.1 26 = .ok (.aload_n 0, 1) := by decide +kernel
theorem d_Mo_isPutOff_27 : decode m_Mo_isPutOff.2.1 27 = .ok (.getfield 7, 3) := by decide +kernel
theorem d_Mo_isPutOff_30 : decode m_Mo_isPutOff.2.1 30 = .ok (.bipush 24, 2) := by decide +kernel
theorem d_Mo_isPutOff_32 : decode m_Mo_isPutOff.2.1 32 = .ok (.iload_n 1, 1) := by decide +kernel
theorem d_Mo_isPutOff_33 : decode m_Mo_isPutOff.2.1 33 = .ok (.iadd, 1) := by decide +kernel
theorem d_Mo_isPutOff_34 : decode m_Mo_isPutOff.2.1 34 = .ok (.iaload, 1) := by decide +kernel
theorem d_Mo_isPutOff_35 : decode m_Mo_isPutOff.2.1 35 = .ok (.ifCond .ne 27, 3) := by decide +kernel
theorem d_Mo_isPutOff_38 : decode m_Mo_isPutOff.2.1 38 = .ok (.aload_n 0, 1) := by decide +kernel
theorem d_Mo_isPutOff_39 : decode m_Mo_isPutOff.2.1 39 = .ok (.getfield 7, 3) := by decide +kernel
theorem d_Mo_isPutOff_42 : decode m_Mo_isPutOff.2.1 42 = .ok (.iconst 0, 1) := by decide +kernel
theorem d_Mo_isPutOff_43 : decode m_Mo_isPutOff.2.1 43 = .ok (.iload_n 1, 1) := by decide +kernel
theorem d_Mo_isPutOff_44 : decode m_Mo_isPutOff.2.1 44 = .ok (.iadd, 1) := by decide +kernel
theorem d_Mo_isPutOff_45 : decode m_Mo_isPutOff.2.1 45 = .ok (.sipush 999, 3) := by decide +kernel
theorem d_Mo_isPutOff_48 : decode m_Mo_isPutOff.2.1 48 = .ok (.aload_n 0, 1) := by decide +kernel
theorem d_Mo_isPutOff_49 : decode m_Mo_isPutOff.2.1 49 = .ok (.getfield 7, 3) := by decide +kernel
theorem d_Mo_isPutOff_52 : decode m_Mo_isPutOff.2.1 52 = .ok (.iconst 0, 1) := by decide +kernel
theorem d_Mo_isPutOff_53 : decode m_Mo_isPutOff.2.1 53 = .ok (.iload_n 1, 1) := by decide +kernel
theorem d_Mo_isPutOff_54 : decode m_Mo_isPutOff.2.1 54 = .ok (.iadd, 1) := by decide +kernel
theorem d_Mo_isPutOff_55 : decode m_Mo_isPutOff.2.1 55 = .ok (.iaload, 1) := by decide +kernel
theorem d_Mo_isPutOff_56 : decode m_Mo_isPutOff.2.1 56 = .ok (.iconst 1, 1) := by decide +kernel
theorem d_Mo_isPutOff_57 : decode m_Mo_isPutOff.2.1 57 = .ok (.iadd, 1) := by decide +kernel
theorem d_Mo_isPutOff_58 : decode m_Mo_isPutOff.2.1 58 = .ok (.invokestatic 271, 3) := by decide +kernel
theorem d_Mo_isPutOff_61 : decode m_Mo_isPutOff.2.1 61 = .ok (.iastore, 1) := by decide +kernel
theorem d_Mo_isPutOff_62 : decode m_Mo_isPutOff.2.1 62 = .ok (.return_, 1) := by decide +kernel
def f_Mo_isPutOff (S : St) (l1 : Int32) : Option (St) :=
    if ig (48 + l1) 99 then (
    (f_Mo_min S (9999 : Int32) ((S 1 (48 + l1).toNatClampNeg) + 1)).bind fun v_22 =>
    if ig (48 + l1) 99 then (
    (some (sF S 1 (48 + l1).toNatClampNeg v_22)).bind fun S_25 =>
    if ig (24 + l1) 99 then (
    if (S_25 1 (24 + l1).toNatClampNeg) = 0 then (
    if ig (0 + l1) 99 then (
    (f_Mo_min S_25 (999 : Int32) ((S_25 1 (0 + l1).toNatClampNeg) + 1)).bind fun v_58 =>
    if ig (0 + l1) 99 then (
    (some (sF S_25 1 (0 + l1).toNatClampNeg v_58)).bind fun S_61 =>
    some S_61) else none) else none)
    else (
    some S_25)) else none) else none) else none
set_option maxHeartbeats 4000000 in
set_option maxRecDepth 20000 in
theorem t_Mo_isPutOff  {S : St} {l1 : Int32} {w : St} (h : f_Mo_isPutOff S l1 = some w) : Ct SM m_Mo_isPutOff 2 [.ref 0, .int l1] S none w := by
  unfold f_Mo_isPutOff at h
  refine Ct.of pn_Mo (Nat.le_of_ble_eq_true rfl) ?_
  show G SM m_Mo_isPutOff 2 none w 0 [(0, .ref 0), (1, .int l1)] [] S
  refine G_aload_n 0 rfl d_Mo_isPutOff_0 ?_
  refine G_getR fl_Mo_7 km_0 sm_0 rfl (by decide) d_Mo_isPutOff_1 ?_
  refine G_bipush 48 (by decide) d_Mo_isPutOff_4 ?_
  refine G_iload_n 1 rfl d_Mo_isPutOff_6 ?_
  refine G_iadd d_Mo_isPutOff_7 ?_
  refine G_sipush 9999 (by decide) d_Mo_isPutOff_8 ?_
  refine G_aload_n 0 rfl d_Mo_isPutOff_11 ?_
  refine G_getR fl_Mo_7 km_0 sm_0 rfl (by decide) d_Mo_isPutOff_12 ?_
  refine G_bipush 48 (by decide) d_Mo_isPutOff_15 ?_
  refine G_iload_n 1 rfl d_Mo_isPutOff_17 ?_
  refine G_iadd d_Mo_isPutOff_18 ?_
  obtain ⟨g_19, h⟩ := ob_g h
  refine G_iaload km_1 sm_1 g_19 d_Mo_isPutOff_19 ?_
  refine G_iconst 1 (by decide) d_Mo_isPutOff_20 ?_
  refine G_iadd d_Mo_isPutOff_21 ?_
  obtain ⟨v_22, q_22, h⟩ := ob_b h
  refine G_callS [.int 9999, .int ((S 1 (48 + l1).toNatClampNeg) + 1)] [.int (48 + l1), .ref 1] (t_Mo_min q_22) (by decide) (by decide) mt_Mo_min rfl ml_Mo_271 rfl (Nat.le_of_ble_eq_true rfl) d_Mo_isPutOff_22 ?_
  obtain ⟨g_25, h⟩ := ob_g h
  obtain ⟨S_25, e_25, h⟩ := ob_s h
  refine G_iastore e_25 km_1 sm_1 g_25 d_Mo_isPutOff_25 ?_
  refine G_aload_n 0 rfl d_Mo_isPutOff_26 ?_
  refine G_getR fl_Mo_7 km_0 sm_0 rfl (by decide) d_Mo_isPutOff_27 ?_
  refine G_bipush 24 (by decide) d_Mo_isPutOff_30 ?_
  refine G_iload_n 1 rfl d_Mo_isPutOff_32 ?_
  refine G_iadd d_Mo_isPutOff_33 ?_
  obtain ⟨g_34, h⟩ := ob_g h
  refine G_iaload km_1 sm_1 g_34 d_Mo_isPutOff_34 ?_
  refine G_if_ne 62 (by decide) d_Mo_isPutOff_35 (fun c_35 => ?_) (fun c_35 => ?_)
  · replace h := ob_f h c_35
    cases h
    exact G_vret rfl d_Mo_isPutOff_62
  · replace h := ob_t h c_35
    refine G_aload_n 0 rfl d_Mo_isPutOff_38 ?_
    refine G_getR fl_Mo_7 km_0 sm_0 rfl (by decide) d_Mo_isPutOff_39 ?_
    refine G_iconst 0 (by decide) d_Mo_isPutOff_42 ?_
    refine G_iload_n 1 rfl d_Mo_isPutOff_43 ?_
    refine G_iadd d_Mo_isPutOff_44 ?_
    refine G_sipush 999 (by decide) d_Mo_isPutOff_45 ?_
    refine G_aload_n 0 rfl d_Mo_isPutOff_48 ?_
    refine G_getR fl_Mo_7 km_0 sm_0 rfl (by decide) d_Mo_isPutOff_49 ?_
    refine G_iconst 0 (by decide) d_Mo_isPutOff_52 ?_
    refine G_iload_n 1 rfl d_Mo_isPutOff_53 ?_
    refine G_iadd d_Mo_isPutOff_54 ?_
    obtain ⟨g_55, h⟩ := ob_g h
    refine G_iaload km_1 sm_1 g_55 d_Mo_isPutOff_55 ?_
    refine G_iconst 1 (by decide) d_Mo_isPutOff_56 ?_
    refine G_iadd d_Mo_isPutOff_57 ?_
    obtain ⟨v_58, q_58, h⟩ := ob_b h
    refine G_callS [.int 999, .int ((S_25 1 (0 + l1).toNatClampNeg) + 1)] [.int (0 + l1), .ref 1] (t_Mo_min q_58) (by decide) (by decide) mt_Mo_min rfl ml_Mo_271 rfl (Nat.le_of_ble_eq_true rfl) d_Mo_isPutOff_58 ?_
    obtain ⟨g_61, h⟩ := ob_g h
    obtain ⟨S_61, e_61, h⟩ := ob_s h
    refine G_iastore e_61 km_1 sm_1 g_61 d_Mo_isPutOff_61 ?_
    cases h
    exact G_vret rfl d_Mo_isPutOff_62
theorem d_Mo_goesOn_0 : decode m_Mo_goesOn.2.1 0 = .ok (.aload_n 0, 1) := by decide +kernel
theorem d_Mo_goesOn_1 : decode m_Mo_goesOn.2.1 1 = .ok (.iload_n 1, 1) := by decide +kernel
theorem d_Mo_goesOn_2 : decode m_Mo_goesOn.2.1 2 = .ok (.invokevirtual 274, 3) := by decide +kernel
theorem d_Mo_goesOn_5 : decode m_Mo_goesOn.2.1 5 = .ok (.aload_n 0, 1) := by decide +kernel
theorem d_Mo_goesOn_6 : decode m_Mo_goesOn.2.1 6 = .ok (.bipush 120, 2) := by decide +kernel
theorem d_Mo_goesOn_8 : decode m_Mo_goesOn.2.1 8 = .ok (.invokevirtual 277, 3) := by decide +kernel
theorem d_Mo_goesOn_11 : decode m_Mo_goesOn.2.1 11 = .ok (.istore_n 2, 1) := by decide +kernel
theorem d_Mo_goesOn_12 : decode m_Mo_goesOn.2.1 12 = .ok (.aload_n 0, 1) := by decide +kernel
theorem d_Mo_goesOn_13 : decode m_Mo_goesOn.2.1 13 = .ok (.bipush 98, 2) := by decide +kernel
theorem d_Mo_goesOn_15 : decode m_Mo_goesOn.2.1 15 = .ok (.bipush 99, 2) := by decide +kernel
theorem d_Mo_goesOn_17 : decode m_Mo_goesOn.2.1 17 = .ok (.iconst 1, 1) := by decide +kernel
theorem d_Mo_goesOn_18 : decode m_Mo_goesOn.2.1 18 = .ok (.invokevirtual 280, 3) := by decide +kernel
theorem d_Mo_goesOn_21 : decode m_Mo_goesOn.2.1 21 = .ok (.istore_n 3, 1) := by decide +kernel
theorem d_Mo_goesOn_22 : decode m_Mo_goesOn.2.1 22 = .ok (.aload_n 0, 1) := by decide +kernel
theorem d_Mo_goesOn_23 : decode m_Mo_goesOn.2.1 23 = .ok (.bipush 100, 2) := by decide +kernel
theorem d_Mo_goesOn_25 : decode m_Mo_goesOn.2.1 25 = .ok (.bipush 10, 2) := by decide +kernel
theorem d_Mo_goesOn_27 : decode m_Mo_goesOn.2.1 27 = .ok (.iconst 0, 1) := by decide +kernel
theorem d_Mo_goesOn_28 : decode m_Mo_goesOn.2.1 28 = .ok (.invokevirtual 280, 3) := by decide +kernel
theorem d_Mo_goesOn_31 : decode m_Mo_goesOn.2.1 31 = .ok (.istore 4, 2) := by decide +kernel
theorem d_Mo_goesOn_33 : decode m_Mo_goesOn.2.1 33 = .ok (.iload_n 2, 1) := by decide +kernel
theorem d_Mo_goesOn_34 : decode m_Mo_goesOn.2.1 34 = .ok (.ifCond .eq 24, 3) := by decide +kernel
theorem d_Mo_goesOn_37 : decode m_Mo_goesOn.2.1 37 = .ok (.aload_n 0, 1) := by decide +kernel
theorem d_Mo_goesOn_38 : decode m_Mo_goesOn.2.1 38 = .ok (.getfield 7, 3) := by decide +kernel
theorem d_Mo_goesOn_41 : decode m_Mo_goesOn.2.1 41 = .ok (.iconst 0, 1) := by decide +kernel
theorem d_Mo_goesOn_42 : decode m_Mo_goesOn.2.1 42 = .ok (.iload_n 1, 1) := by decide +kernel
theorem d_Mo_goesOn_43 : decode m_Mo_goesOn.2.1 43 = .ok (.iadd, 1) := by decide +kernel
theorem d_Mo_goesOn_44 : decode m_Mo_goesOn.2.1 44 = .ok (.iaload, 1) := by decide +kernel
theorem d_Mo_goesOn_45 : decode m_Mo_goesOn.2.1 45 = .ok (.ifCond .le 13, 3) := by decide +kernel
theorem d_Mo_goesOn_48 : decode m_Mo_goesOn.2.1 48 = .ok (.aload_n 0, 1) := by decide +kernel
theorem d_Mo_goesOn_49 : decode m_Mo_goesOn.2.1 49 = .ok (.getfield 7, 3) := by decide +kernel
theorem d_Mo_goesOn_52 : decode m_Mo_goesOn.2.1 52 = .ok (.bipush 24, 2) := by decide +kernel
theorem d_Mo_goesOn_54 : decode m_Mo_goesOn.2.1 54 = .ok (.iload_n 1, 1) := by decide +kernel
theorem d_Mo_goesOn_55 : decode m_Mo_goesOn.2.1 55 = .ok (.iadd, 1) := by decide +kernel
theorem d_Mo_goesOn_56 : decode m_Mo_goesOn.2.1 56 = .ok (.iconst 1, 1) := by decide +kernel
theorem d_Mo_goesOn_57 : decode m_Mo_goesOn.2.1 57 = .ok (.iastore, 1) := by decide +kernel
theorem d_Mo_goesOn_58 : decode m_Mo_goesOn.2.1 58 = .ok (.aload_n 0, 1) := by decide +kernel
theorem d_Mo_goesOn_59 : decode m_Mo_goesOn.2.1 59 = .ok (.getfield 7, 3) := by decide +kernel
theorem d_Mo_goesOn_62 : decode m_Mo_goesOn.2.1 62 = .ok (.bipush 24, 2) := by decide +kernel
theorem d_Mo_goesOn_64 : decode m_Mo_goesOn.2.1 64 = .ok (.iload_n 1, 1) := by decide +kernel
theorem d_Mo_goesOn_65 : decode m_Mo_goesOn.2.1 65 = .ok (.iadd, 1) := by decide +kernel
theorem d_Mo_goesOn_66 : decode m_Mo_goesOn.2.1 66 = .ok (.iaload, 1) := by decide +kernel
theorem d_Mo_goesOn_67 : decode m_Mo_goesOn.2.1 67 = .ok (.iconst 1, 1) := by decide +kernel
theorem d_Mo_goesOn_68 : decode m_Mo_goesOn.2.1 68 = .ok (.if_icmp .ne 9, 3) := by decide +kernel
theorem d_Mo_goesOn_71 : decode m_Mo_goesOn.2.1 71 = .ok (.aload_n 0, 1) := by decide +kernel
theorem d_Mo_goesOn_72 : decode m_Mo_goesOn.2.1 72 = .ok (.iload_n 1, 1) := by decide +kernel
theorem d_Mo_goesOn_73 : decode m_Mo_goesOn.2.1 73 = .ok (.iload_n 3, 1) := by decide +kernel
theorem d_Mo_goesOn_74 : decode m_Mo_goesOn.2.1 74 = .ok (.invokevirtual 283, 3) := by decide +kernel
theorem d_Mo_goesOn_77 : decode m_Mo_goesOn.2.1 77 = .ok (.aload_n 0, 1) := by decide +kernel
theorem d_Mo_goesOn_78 : decode m_Mo_goesOn.2.1 78 = .ok (.invokevirtual 262, 3) := by decide +kernel
theorem d_Mo_goesOn_81 : decode m_Mo_goesOn.2.1 81 = .ok (.istore 5, 2) := by decide +kernel
theorem d_Mo_goesOn_83 : decode m_Mo_goesOn.2.1 83 = .ok (.aload_n 0, 1) := by decide +kernel
theorem d_Mo_goesOn_84 : decode m_Mo_goesOn.2.1 84 = .ok (.getfield 22, 3) := by decide +kernel
theorem d_Mo_goesOn_87 : decode m_Mo_goesOn.2.1 87 = .ok (.iload_n 1, 1) := by decide +kernel
theorem d_Mo_goesOn_88 : decode m_Mo_goesOn.2.1 88 = .ok (.iaload, 1) := by decide +kernel
theorem d_Mo_goesOn_89 : decode m_Mo_goesOn.2.1 89 = .ok (.iconst (-1), 1) := by decide +kernel
theorem d_Mo_goesOn_90 : decode m_Mo_goesOn.2.1 90 = .ok (.if_icmp .eq 21, 3) := by decide +kernel
theorem d_Mo_goesOn_93 : decode m_Mo_goesOn.2.1 93 = .ok (.aload_n 0, 1) := by decide +kernel
theorem d_Mo_goesOn_94 : decode m_Mo_goesOn.2.1 94 = .ok (.getfield 7, 3) := by decide +kernel
theorem d_Mo_goesOn_97 : decode m_Mo_goesOn.2.1 97 = .ok (.bipush 72, 2) := by decide +kernel
theorem d_Mo_goesOn_99 : decode m_Mo_goesOn.2.1 99 = .ok (.aload_n 0, 1) := by decide +kernel
theorem d_Mo_goesOn_100 : decode m_Mo_goesOn.2.1 100 = .ok (.getfield 22, 3) := by decide +kernel
theorem d_Mo_goesOn_103 : decode m_Mo_goesOn.2.1 103 = .ok (.iload_n 1, 1) := by decide +kernel
theorem d_Mo_goesOn_104 : decode m_Mo_goesOn.2.1 104 = .ok (.iaload, 1) := by decide +kernel
theorem d_Mo_goesOn_105 : decode m_Mo_goesOn.2.1 105 = .ok (.iadd, 1) := by decide +kernel
theorem d_Mo_goesOn_106 : decode m_Mo_goesOn.2.1 106 = .ok (.iaload, 1) := by decide +kernel
theorem d_Mo_goesOn_107 : decode m_Mo_goesOn.2.1 107 = .ok (.iconst 1, 1) := by decide +kernel
theorem d_Mo_goesOn_108 : decode m_Mo_goesOn.2.1 108 = .ok (.if_icmp .ne 7, 3) := by decide +kernel
theorem d_Mo_goesOn_111 : decode m_Mo_goesOn.2.1 111 = .ok (.iconst 1, 1) := by decide +kernel
theorem d_Mo_goesOn_112 : decode m_Mo_goesOn.2.1 112 = .ok (.goto 4, 3) := by decide +kernel
theorem d_Mo_goesOn_115 : decode m_Mo_goesOn.2.1 115 = .ok (.iconst 0, 1) := by decide +kernel
theorem d_Mo_goesOn_116 : decode m_Mo_goesOn.2.1 116 = .ok (.istore 6, 2) := by decide +kernel
theorem d_Mo_goesOn_118 : decode m_Mo_goesOn.2.1 118 = .ok (.iload 5, 2) := by decide +kernel
theorem d_Mo_goesOn_120 : decode m_Mo_goesOn.2.1 120 = .ok (.iload 4, 2) := by decide +kernel
theorem d_Mo_goesOn_122 : decode m_Mo_goesOn.2.1 122 = .ok (.if_icmp .ge 16, 3) := by decide +kernel
theorem d_Mo_goesOn_125 : decode m_Mo_goesOn.2.1 125 = .ok (.iload 6, 2) := by decide +kernel
theorem d_Mo_goesOn_127 : decode m_Mo_goesOn.2.1 127 = .ok (.ifCond .eq 11, 3) := by decide +kernel
theorem d_Mo_goesOn_130 : decode m_Mo_goesOn.2.1 130 = .ok (.aload_n 0, 1) := by decide +kernel
theorem d_Mo_goesOn_131 : decode m_Mo_goesOn.2.1 131 = .ok (.iload_n 1, 1) := by decide +kernel
theorem d_Mo_goesOn_132 : decode m_Mo_goesOn.2.1 132 = .ok (.invokevirtual 286, 3) := by decide +kernel
theorem d_Mo_goesOn_135 : decode m_Mo_goesOn.2.1 135 = .ok (.goto 8, 3) := by decide +kernel
theorem d_Mo_goesOn_138 : decode m_Mo_goesOn.2.1 138 = .ok (.aload_n 0, 1) := by decide +kernel
theorem d_Mo_goesOn_139 : decode m_Mo_goesOn.2.1 139 = .ok (.iload_n 1, 1) := by decide +kernel
theorem d_Mo_goesOn_140 : decode m_Mo_goesOn.2.1 140 = .ok (.invokevirtual 289, 3) := by decide +kernel
theorem d_Mo_goesOn_143 : decode m_Mo_goesOn.2.1 143 = .ok (.return_, 1) := by decide +kernel
def f_Mo_goesOn_138 (S : St) (l1 : Int32) : Option (St) :=
    (f_Mo_isPutOff S l1).bind fun w_140 =>
    some w_140
set_option maxHeartbeats 4000000 in
set_option maxRecDepth 20000 in
theorem t_Mo_goesOn_138  (S : St) (l1 : Int32) (w : St) (h : f_Mo_goesOn_138 S l1 = some w) : G SM m_Mo_goesOn 6 none w 138 [(0, .ref 0), (1, .int l1)] [] S := by
  unfold f_Mo_goesOn_138 at h
  refine G_aload_n 0 rfl d_Mo_goesOn_138 ?_
  refine G_iload_n 1 rfl d_Mo_goesOn_139 ?_
  obtain ⟨w_140, q_140, h⟩ := ob_b h
  refine G_callV [.int l1] [] (t_Mo_isPutOff q_140) (by decide) (by decide) mv_Mo_isPutOff rfl ml_Mo_289 km_0 sm_0 cl_12 rfl (Nat.le_of_ble_eq_true rfl) d_Mo_goesOn_140 ?_
  cases h
  exact G_vret rfl d_Mo_goesOn_143
def f_Mo_goesOn_116 (S : St) (l1 : Int32) (l4 : Int32) (l5 : Int32) (s0 : Int32) : Option (St) :=
    if l4 ≤ l5 then (
    f_Mo_goesOn_138 S l1)
    else (
    if s0 = 0 then (
    f_Mo_goesOn_138 S l1)
    else (
    (f_Mo_isDone S l1).bind fun w_132 =>
    some w_132))
set_option maxHeartbeats 4000000 in
set_option maxRecDepth 20000 in
theorem t_Mo_goesOn_116  (S : St) (l1 : Int32) (l4 : Int32) (l5 : Int32) (s0 : Int32) (w : St) (h : f_Mo_goesOn_116 S l1 l4 l5 s0 = some w) : G SM m_Mo_goesOn 6 none w 116 [(0, .ref 0), (1, .int l1), (4, .int l4), (5, .int l5)] [.int s0] S := by
  unfold f_Mo_goesOn_116 at h
  refine G_istore [(6, .int s0), (0, .ref 0), (1, .int l1), (4, .int l4), (5, .int l5)] rfl rfl (by decide) d_Mo_goesOn_116 ?_
  refine G_iload 4 rfl d_Mo_goesOn_118 ?_
  refine G_iload 3 rfl d_Mo_goesOn_120 ?_
  refine G_icmp_ge 138 (by decide) d_Mo_goesOn_122 (fun c_122 => ?_) (fun c_122 => ?_)
  · replace h := ob_t h c_122
    exact G_sub _ [1, 2] rfl (t_Mo_goesOn_138 S l1 _ h)
  · replace h := ob_f h c_122
    refine G_iload 0 rfl d_Mo_goesOn_125 ?_
    refine G_if_eq 138 (by decide) d_Mo_goesOn_127 (fun c_127 => ?_) (fun c_127 => ?_)
    · replace h := ob_t h c_127
      exact G_sub _ [1, 2] rfl (t_Mo_goesOn_138 S l1 _ h)
    · replace h := ob_f h c_127
      refine G_aload_n 1 rfl d_Mo_goesOn_130 ?_
      refine G_iload_n 2 rfl d_Mo_goesOn_131 ?_
      obtain ⟨w_132, q_132, h⟩ := ob_b h
      refine G_callV [.int l1] [] (t_Mo_isDone q_132) (by decide) (by decide) mv_Mo_isDone rfl ml_Mo_286 km_0 sm_0 cl_12 rfl (Nat.le_of_ble_eq_true rfl) d_Mo_goesOn_132 ?_
      refine G_goto 143 (by decide) d_Mo_goesOn_135 ?_
      cases h
      exact G_vret rfl d_Mo_goesOn_143
def f_Mo_goesOn_111 (S : St) (l1 : Int32) (l4 : Int32) (l5 : Int32) : Option (St) :=
    f_Mo_goesOn_116 S l1 l4 l5 (1 : Int32)
set_option maxHeartbeats 4000000 in
set_option maxRecDepth 20000 in
theorem t_Mo_goesOn_111  (S : St) (l1 : Int32) (l4 : Int32) (l5 : Int32) (w : St) (h : f_Mo_goesOn_111 S l1 l4 l5 = some w) : G SM m_Mo_goesOn 6 none w 111 [(0, .ref 0), (1, .int l1), (4, .int l4), (5, .int l5)] [] S := by
  unfold f_Mo_goesOn_111 at h
  refine G_iconst 1 (by decide) d_Mo_goesOn_111 ?_
  refine G_goto 116 (by decide) d_Mo_goesOn_112 ?_
  exact G_sub _ [0, 1, 2, 3] rfl (t_Mo_goesOn_116 S l1 l4 l5 (1 : Int32) _ h)
def f_Mo_goesOn_77 (S : St) (l1 : Int32) (l4 : Int32) : Option (St) :=
    (f_Mo_draws S).bind fun w_78 =>
    (some w_78.1).bind fun l5_81 =>
    if ig l1 24 then (
    if (w_78.2 5 l1.toNatClampNeg) = (-1) then (
    f_Mo_goesOn_111 w_78.2 l1 l4 l5_81)
    else (
    if ig l1 24 then (
    if ig (72 + (w_78.2 5 l1.toNatClampNeg)) 99 then (
    if (w_78.2 1 (72 + (w_78.2 5 l1.toNatClampNeg)).toNatClampNeg) = 1 then (
    f_Mo_goesOn_111 w_78.2 l1 l4 l5_81)
    else (
    f_Mo_goesOn_116 w_78.2 l1 l4 l5_81 (0 : Int32))) else none) else none)) else none
set_option maxHeartbeats 4000000 in
set_option maxRecDepth 20000 in
theorem t_Mo_goesOn_77  (S : St) (l1 : Int32) (l4 : Int32) (w : St) (h : f_Mo_goesOn_77 S l1 l4 = some w) : G SM m_Mo_goesOn 6 none w 77 [(0, .ref 0), (1, .int l1), (4, .int l4)] [] S := by
  unfold f_Mo_goesOn_77 at h
  refine G_aload_n 0 rfl d_Mo_goesOn_77 ?_
  obtain ⟨w_78, q_78, h⟩ := ob_b h
  refine G_callV [] [] (t_Mo_draws q_78) (by decide) (by decide) mv_Mo_draws rfl ml_Mo_262 km_0 sm_0 cl_12 rfl (Nat.le_of_ble_eq_true rfl) d_Mo_goesOn_78 ?_
  obtain ⟨l5_81, e_81, h⟩ := ob_s h
  refine G_istore [(5, .int l5_81), (0, .ref 0), (1, .int l1), (4, .int l4)] e_81 rfl (by decide) d_Mo_goesOn_81 ?_
  refine G_aload_n 1 rfl d_Mo_goesOn_83 ?_
  refine G_getR fl_Mo_22 km_0 sm_0 rfl (by decide) d_Mo_goesOn_84 ?_
  refine G_iload_n 2 rfl d_Mo_goesOn_87 ?_
  obtain ⟨g_88, h⟩ := ob_g h
  refine G_iaload km_5 sm_5 g_88 d_Mo_goesOn_88 ?_
  refine G_iconst (-1) (by decide) d_Mo_goesOn_89 ?_
  refine G_icmp_eq 111 (by decide) d_Mo_goesOn_90 (fun c_90 => ?_) (fun c_90 => ?_)
  · replace h := ob_t h c_90
    exact G_sub _ [1, 2, 3, 0] rfl (t_Mo_goesOn_111 w_78.2 l1 l4 l5_81 _ h)
  · replace h := ob_f h c_90
    refine G_aload_n 1 rfl d_Mo_goesOn_93 ?_
    refine G_getR fl_Mo_7 km_0 sm_0 rfl (by decide) d_Mo_goesOn_94 ?_
    refine G_bipush 72 (by decide) d_Mo_goesOn_97 ?_
    refine G_aload_n 1 rfl d_Mo_goesOn_99 ?_
    refine G_getR fl_Mo_22 km_0 sm_0 rfl (by decide) d_Mo_goesOn_100 ?_
    refine G_iload_n 2 rfl d_Mo_goesOn_103 ?_
    obtain ⟨g_104, h⟩ := ob_g h
    refine G_iaload km_5 sm_5 g_104 d_Mo_goesOn_104 ?_
    refine G_iadd d_Mo_goesOn_105 ?_
    obtain ⟨g_106, h⟩ := ob_g h
    refine G_iaload km_1 sm_1 g_106 d_Mo_goesOn_106 ?_
    refine G_iconst 1 (by decide) d_Mo_goesOn_107 ?_
    refine G_icmp_ne 115 (by decide) d_Mo_goesOn_108 (fun c_108 => ?_) (fun c_108 => ?_)
    · replace h := ob_f h c_108
      refine G_iconst 0 (by decide) d_Mo_goesOn_115 ?_
      exact G_sub _ [1, 2, 3, 0] rfl (t_Mo_goesOn_116 w_78.2 l1 l4 l5_81 (0 : Int32) _ h)
    · replace h := ob_t h c_108
      exact G_sub _ [1, 2, 3, 0] rfl (t_Mo_goesOn_111 w_78.2 l1 l4 l5_81 _ h)
def f_Mo_goesOn_58 (S : St) (l1 : Int32) (l3 : Int32) (l4 : Int32) : Option (St) :=
    if ig (24 + l1) 99 then (
    if (S 1 (24 + l1).toNatClampNeg) = 1 then (
    (f_Mo_burns S l1 l3).bind fun w_74 =>
    f_Mo_goesOn_77 w_74 l1 l4)
    else (
    f_Mo_goesOn_77 S l1 l4)) else none
set_option maxHeartbeats 4000000 in
set_option maxRecDepth 20000 in
theorem t_Mo_goesOn_58  (S : St) (l1 : Int32) (l3 : Int32) (l4 : Int32) (w : St) (h : f_Mo_goesOn_58 S l1 l3 l4 = some w) : G SM m_Mo_goesOn 6 none w 58 [(0, .ref 0), (1, .int l1), (3, .int l3), (4, .int l4)] [] S := by
  unfold f_Mo_goesOn_58 at h
  refine G_aload_n 0 rfl d_Mo_goesOn_58 ?_
  refine G_getR fl_Mo_7 km_0 sm_0 rfl (by decide) d_Mo_goesOn_59 ?_
  refine G_bipush 24 (by decide) d_Mo_goesOn_62 ?_
  refine G_iload_n 1 rfl d_Mo_goesOn_64 ?_
  refine G_iadd d_Mo_goesOn_65 ?_
  obtain ⟨g_66, h⟩ := ob_g h
  refine G_iaload km_1 sm_1 g_66 d_Mo_goesOn_66 ?_
  refine G_iconst 1 (by decide) d_Mo_goesOn_67 ?_
  refine G_icmp_ne 77 (by decide) d_Mo_goesOn_68 (fun c_68 => ?_) (fun c_68 => ?_)
  · replace h := ob_f h c_68
    exact G_sub _ [0, 1, 3] rfl (t_Mo_goesOn_77 S l1 l4 _ h)
  · replace h := ob_t h c_68
    refine G_aload_n 0 rfl d_Mo_goesOn_71 ?_
    refine G_iload_n 1 rfl d_Mo_goesOn_72 ?_
    refine G_iload_n 2 rfl d_Mo_goesOn_73 ?_
    obtain ⟨w_74, q_74, h⟩ := ob_b h
    refine G_callV [.int l1, .int l3] [] (t_Mo_burns q_74) (by decide) (by decide) mv_Mo_burns rfl ml_Mo_283 km_0 sm_0 cl_12 rfl (Nat.le_of_ble_eq_true rfl) d_Mo_goesOn_74 ?_
    exact G_sub _ [0, 1, 3] rfl (t_Mo_goesOn_77 w_74 l1 l4 _ h)
def f_Mo_goesOn (S : St) (l1 : Int32) : Option (St) :=
    (f_Mo_feels S l1).bind fun w_2 =>
    (f_Mo_holdsAny w_2 (120 : Int32)).bind fun w_8 =>
    (some w_8.1).bind fun l2_11 =>
    (f_Mo_byLaw w_8.2 (98 : Int32) (99 : Int32) (1 : Int32)).bind fun w_18 =>
    (some w_18.1).bind fun l3_21 =>
    (f_Mo_byLaw w_18.2 (100 : Int32) (10 : Int32) (0 : Int32)).bind fun w_28 =>
    (some w_28.1).bind fun l4_31 =>
    if l2_11 = 0 then (
    f_Mo_goesOn_58 w_28.2 l1 l3_21 l4_31)
    else (
    if ig (0 + l1) 99 then (
    if (w_28.2 1 (0 + l1).toNatClampNeg) ≤ 0 then (
    f_Mo_goesOn_58 w_28.2 l1 l3_21 l4_31)
    else (
    if ig (24 + l1) 99 then (
    (some (sF w_28.2 1 (24 + l1).toNatClampNeg 1)).bind fun S_57 =>
    f_Mo_goesOn_58 S_57 l1 l3_21 l4_31) else none)) else none)
set_option maxHeartbeats 4000000 in
set_option maxRecDepth 20000 in
theorem t_Mo_goesOn  {S : St} {l1 : Int32} {w : St} (h : f_Mo_goesOn S l1 = some w) : Ct SM m_Mo_goesOn 6 [.ref 0, .int l1] S none w := by
  unfold f_Mo_goesOn at h
  refine Ct.of pn_Mo (Nat.le_of_ble_eq_true rfl) ?_
  show G SM m_Mo_goesOn 6 none w 0 [(0, .ref 0), (1, .int l1)] [] S
  refine G_aload_n 0 rfl d_Mo_goesOn_0 ?_
  refine G_iload_n 1 rfl d_Mo_goesOn_1 ?_
  obtain ⟨w_2, q_2, h⟩ := ob_b h
  refine G_callV [.int l1] [] (t_Mo_feels q_2) (by decide) (by decide) mv_Mo_feels rfl ml_Mo_274 km_0 sm_0 cl_12 rfl (Nat.le_of_ble_eq_true rfl) d_Mo_goesOn_2 ?_
  refine G_aload_n 0 rfl d_Mo_goesOn_5 ?_
  refine G_bipush 120 (by decide) d_Mo_goesOn_6 ?_
  obtain ⟨w_8, q_8, h⟩ := ob_b h
  refine G_callV [.int 120] [] (t_Mo_holdsAny q_8) (by decide) (by decide) mv_Mo_holdsAny rfl ml_Mo_277 km_0 sm_0 cl_12 rfl (Nat.le_of_ble_eq_true rfl) d_Mo_goesOn_8 ?_
  obtain ⟨l2_11, e_11, h⟩ := ob_s h
  refine G_istore_n [(2, .int l2_11), (0, .ref 0), (1, .int l1)] e_11 rfl (by decide) d_Mo_goesOn_11 ?_
  refine G_aload_n 1 rfl d_Mo_goesOn_12 ?_
  refine G_bipush 98 (by decide) d_Mo_goesOn_13 ?_
  refine G_bipush 99 (by decide) d_Mo_goesOn_15 ?_
  refine G_iconst 1 (by decide) d_Mo_goesOn_17 ?_
  obtain ⟨w_18, q_18, h⟩ := ob_b h
  refine G_callV [.int 98, .int 99, .int 1] [] (t_Mo_byLaw q_18) (by decide) (by decide) mv_Mo_byLaw rfl ml_Mo_280 km_0 sm_0 cl_12 rfl (Nat.le_of_ble_eq_true rfl) d_Mo_goesOn_18 ?_
  obtain ⟨l3_21, e_21, h⟩ := ob_s h
  refine G_istore_n [(3, .int l3_21), (2, .int l2_11), (0, .ref 0), (1, .int l1)] e_21 rfl (by decide) d_Mo_goesOn_21 ?_
  refine G_aload_n 2 rfl d_Mo_goesOn_22 ?_
  refine G_bipush 100 (by decide) d_Mo_goesOn_23 ?_
  refine G_bipush 10 (by decide) d_Mo_goesOn_25 ?_
  refine G_iconst 0 (by decide) d_Mo_goesOn_27 ?_
  obtain ⟨w_28, q_28, h⟩ := ob_b h
  refine G_callV [.int 100, .int 10, .int 0] [] (t_Mo_byLaw q_28) (by decide) (by decide) mv_Mo_byLaw rfl ml_Mo_280 km_0 sm_0 cl_12 rfl (Nat.le_of_ble_eq_true rfl) d_Mo_goesOn_28 ?_
  obtain ⟨l4_31, e_31, h⟩ := ob_s h
  refine G_istore [(4, .int l4_31), (3, .int l3_21), (2, .int l2_11), (0, .ref 0), (1, .int l1)] e_31 rfl (by decide) d_Mo_goesOn_31 ?_
  refine G_iload_n 2 rfl d_Mo_goesOn_33 ?_
  refine G_if_eq 58 (by decide) d_Mo_goesOn_34 (fun c_34 => ?_) (fun c_34 => ?_)
  · replace h := ob_t h c_34
    exact G_sub _ [3, 4, 1, 0] rfl (t_Mo_goesOn_58 w_28.2 l1 l3_21 l4_31 _ h)
  · replace h := ob_f h c_34
    refine G_aload_n 3 rfl d_Mo_goesOn_37 ?_
    refine G_getR fl_Mo_7 km_0 sm_0 rfl (by decide) d_Mo_goesOn_38 ?_
    refine G_iconst 0 (by decide) d_Mo_goesOn_41 ?_
    refine G_iload_n 4 rfl d_Mo_goesOn_42 ?_
    refine G_iadd d_Mo_goesOn_43 ?_
    obtain ⟨g_44, h⟩ := ob_g h
    refine G_iaload km_1 sm_1 g_44 d_Mo_goesOn_44 ?_
    refine G_if_le 58 (by decide) d_Mo_goesOn_45 (fun c_45 => ?_) (fun c_45 => ?_)
    · replace h := ob_t h c_45
      exact G_sub _ [3, 4, 1, 0] rfl (t_Mo_goesOn_58 w_28.2 l1 l3_21 l4_31 _ h)
    · replace h := ob_f h c_45
      refine G_aload_n 3 rfl d_Mo_goesOn_48 ?_
      refine G_getR fl_Mo_7 km_0 sm_0 rfl (by decide) d_Mo_goesOn_49 ?_
      refine G_bipush 24 (by decide) d_Mo_goesOn_52 ?_
      refine G_iload_n 4 rfl d_Mo_goesOn_54 ?_
      refine G_iadd d_Mo_goesOn_55 ?_
      refine G_iconst 1 (by decide) d_Mo_goesOn_56 ?_
      obtain ⟨g_57, h⟩ := ob_g h
      obtain ⟨S_57, e_57, h⟩ := ob_s h
      refine G_iastore e_57 km_1 sm_1 g_57 d_Mo_goesOn_57 ?_
      exact G_sub _ [3, 4, 1, 0] rfl (t_Mo_goesOn_58 S_57 l1 l3_21 l4_31 _ h)
theorem d_Mo_dayGoes_0 : decode m_Mo_dayGoes.2.1 0 = .ok (.iconst 0, 1) := by decide +kernel
theorem d_Mo_dayGoes_1 : decode m_Mo_dayGoes.2.1 1 = .ok (.istore_n 1, 1) := by decide +kernel
theorem d_Mo_dayGoes_2 : decode m_Mo_dayGoes.2.1 2 = .ok (.iload_n 1, 1) := by decide +kernel
theorem d_Mo_dayGoes_3 : decode m_Mo_dayGoes.2.1 3 = .ok (.aload_n 0, 1) := by decide +kernel
theorem d_Mo_dayGoes_4 : decode m_Mo_dayGoes.2.1 4 = .ok (.getfield 120, 3) := by decide +kernel
theorem d_Mo_dayGoes_7 : decode m_Mo_dayGoes.2.1 7 = .ok (.if_icmp .ge 22, 3) := by decide +kernel
theorem d_Mo_dayGoes_10 : decode m_Mo_dayGoes.2.1 10 = .ok (.aload_n 0, 1) := by decide +kernel
theorem d_Mo_dayGoes_11 : decode m_Mo_dayGoes.2.1 11 = .ok (.iload_n 1, 1) := by decide +kernel
theorem d_Mo_dayGoes_12 : decode m_Mo_dayGoes.2.1 12 = .ok (.invokevirtual 132, 3) := by decide +kernel
theorem d_Mo_dayGoes_15 : decode m_Mo_dayGoes.2.1 15 = .ok (.ifCond .eq 8, 3) := by decide +kernel
theorem d_Mo_dayGoes_18 : decode m_Mo_dayGoes.2.1 18 = .ok (.aload_n 0, 1) := by decide +kernel
theorem d_Mo_dayGoes_19 : decode m_Mo_dayGoes.2.1 19 = .ok (.iload_n 1, 1) := by decide +kernel
theorem d_Mo_dayGoes_20 : decode m_Mo_dayGoes.2.1 20 = .ok (.invokevirtual 292, 3) := by decide +kernel
theorem d_Mo_dayGoes_23 : decode m_Mo_dayGoes.2.1 23 = .ok (.iinc 1 1, 3) := by decide +kernel
theorem d_Mo_dayGoes_26 : decode m_Mo_dayGoes.2.1 26 = .ok (.goto (-24), 3) := by decide +kernel
theorem d_Mo_dayGoes_29 : decode m_Mo_dayGoes.2.1 29 = .ok (.aload_n 0, 1) := by decide +kernel
theorem d_Mo_dayGoes_30 : decode m_Mo_dayGoes.2.1 30 = .ok (.getfield 7, 3) := by decide +kernel
theorem d_Mo_dayGoes_33 : decode m_Mo_dayGoes.2.1 33 = .ok (.bipush 97, 2) := by decide +kernel
theorem d_Mo_dayGoes_35 : decode m_Mo_dayGoes.2.1 35 = .ok (.aload_n 0, 1) := by decide +kernel
theorem d_Mo_dayGoes_36 : decode m_Mo_dayGoes.2.1 36 = .ok (.getfield 7, 3) := by decide +kernel
theorem d_Mo_dayGoes_39 : decode m_Mo_dayGoes.2.1 39 = .ok (.bipush 97, 2) := by decide +kernel
theorem d_Mo_dayGoes_41 : decode m_Mo_dayGoes.2.1 41 = .ok (.iaload, 1) := by decide +kernel
theorem d_Mo_dayGoes_42 : decode m_Mo_dayGoes.2.1 42 = .ok (.iconst 1, 1) := by decide +kernel
theorem d_Mo_dayGoes_43 : decode m_Mo_dayGoes.2.1 43 = .ok (.iadd, 1) := by decide +kernel
theorem d_Mo_dayGoes_44 : decode m_Mo_dayGoes.2.1 44 = .ok (.iastore, 1) := by decide +kernel
theorem d_Mo_dayGoes_45 : decode m_Mo_dayGoes.2.1 45 = .ok (.return_, 1) := by decide +kernel
def f_Mo_dayGoes_23 (k_2 : St → Int32 → Option (St)) (S : St) (l1 : Int32) : Option (St) :=
    (some (l1 + 1)).bind fun l1_23 =>
    k_2 S l1_23
set_option maxHeartbeats 4000000 in
set_option maxRecDepth 20000 in
theorem t_Mo_dayGoes_23  {k_2 : St → Int32 → Option (St)} (hk_2 : ∀ (S : St) (l1 : Int32) (w : St), k_2 S l1 = some w → G SM m_Mo_dayGoes 7 none w 2 [(0, .ref 0), (1, .int l1)] [] S) (S : St) (l1 : Int32) (w : St) (h : f_Mo_dayGoes_23 k_2 S l1 = some w) : G SM m_Mo_dayGoes 7 none w 23 [(0, .ref 0), (1, .int l1)] [] S := by
  unfold f_Mo_dayGoes_23 at h
  obtain ⟨l1_23, e_23, h⟩ := ob_s h
  refine G_iinc 1 1 [(1, .int l1_23), (0, .ref 0)] (by decide) rfl e_23 rfl (by decide) d_Mo_dayGoes_23 ?_
  refine G_goto 2 (by decide) d_Mo_dayGoes_26 ?_
  exact G_sub _ [1, 0] rfl (hk_2 S l1_23 _ h)
def f_Mo_dayGoes_2 : Nat → St → Int32 → Option (St)
  | 0, _, _ => none
  | n + 1, S, l1 =>
    if (S 0 5) ≤ l1 then (
    if ig (97 : Int32) 99 then (
    if ig (97 : Int32) 99 then (
    (some (sF S 1 (97 : Int32).toNatClampNeg ((S 1 (97 : Int32).toNatClampNeg) + 1))).bind fun S_44 =>
    some S_44) else none) else none)
    else (
    (f_Mo_isLeft S l1).bind fun v_12 =>
    if v_12 = 0 then (
    f_Mo_dayGoes_23 (f_Mo_dayGoes_2 n) S l1)
    else (
    (f_Mo_goesOn S l1).bind fun w_20 =>
    f_Mo_dayGoes_23 (f_Mo_dayGoes_2 n) w_20 l1))
set_option maxHeartbeats 4000000 in
set_option maxRecDepth 20000 in
theorem t_Mo_dayGoes_2  : ∀ (n : Nat) (S : St) (l1 : Int32) (w : St), f_Mo_dayGoes_2 n S l1 = some w → G SM m_Mo_dayGoes 7 none w 2 [(0, .ref 0), (1, .int l1)] [] S := by
  intro n
  induction n with
  | zero =>
    intro S l1 w h
    rw [f_Mo_dayGoes_2] at h
    cases h
  | succ n ih =>
    intro S l1 w h
    rw [f_Mo_dayGoes_2] at h
    refine G_iload_n 1 rfl d_Mo_dayGoes_2 ?_
    refine G_aload_n 0 rfl d_Mo_dayGoes_3 ?_
    refine G_getI fl_Mo_120 km_0 sm_0 rfl d_Mo_dayGoes_4 ?_
    refine G_icmp_ge 29 (by decide) d_Mo_dayGoes_7 (fun c_7 => ?_) (fun c_7 => ?_)
    · replace h := ob_t h c_7
      refine G_aload_n 0 rfl d_Mo_dayGoes_29 ?_
      refine G_getR fl_Mo_7 km_0 sm_0 rfl (by decide) d_Mo_dayGoes_30 ?_
      refine G_bipush 97 (by decide) d_Mo_dayGoes_33 ?_
      refine G_aload_n 0 rfl d_Mo_dayGoes_35 ?_
      refine G_getR fl_Mo_7 km_0 sm_0 rfl (by decide) d_Mo_dayGoes_36 ?_
      refine G_bipush 97 (by decide) d_Mo_dayGoes_39 ?_
      obtain ⟨g_41, h⟩ := ob_g h
      refine G_iaload km_1 sm_1 g_41 d_Mo_dayGoes_41 ?_
      refine G_iconst 1 (by decide) d_Mo_dayGoes_42 ?_
      refine G_iadd d_Mo_dayGoes_43 ?_
      obtain ⟨g_44, h⟩ := ob_g h
      obtain ⟨S_44, e_44, h⟩ := ob_s h
      refine G_iastore e_44 km_1 sm_1 g_44 d_Mo_dayGoes_44 ?_
      cases h
      exact G_vret rfl d_Mo_dayGoes_45
    · replace h := ob_f h c_7
      refine G_aload_n 0 rfl d_Mo_dayGoes_10 ?_
      refine G_iload_n 1 rfl d_Mo_dayGoes_11 ?_
      obtain ⟨v_12, q_12, h⟩ := ob_b h
      refine G_callV [.int l1] [] (t_Mo_isLeft q_12) (by decide) (by decide) mv_Mo_isLeft rfl ml_Mo_132 km_0 sm_0 cl_12 rfl (Nat.le_of_ble_eq_true rfl) d_Mo_dayGoes_12 ?_
      refine G_if_eq 23 (by decide) d_Mo_dayGoes_15 (fun c_15 => ?_) (fun c_15 => ?_)
      · replace h := ob_t h c_15
        exact G_sub _ [0, 1] rfl (t_Mo_dayGoes_23 ih S l1 _ h)
      · replace h := ob_f h c_15
        refine G_aload_n 0 rfl d_Mo_dayGoes_18 ?_
        refine G_iload_n 1 rfl d_Mo_dayGoes_19 ?_
        obtain ⟨w_20, q_20, h⟩ := ob_b h
        refine G_callV [.int l1] [] (t_Mo_goesOn q_20) (by decide) (by decide) mv_Mo_goesOn rfl ml_Mo_292 km_0 sm_0 cl_12 rfl (Nat.le_of_ble_eq_true rfl) d_Mo_dayGoes_20 ?_
        exact G_sub _ [0, 1] rfl (t_Mo_dayGoes_23 ih w_20 l1 _ h)
def f_Mo_dayGoes (S : St) : Option (St) :=
    (some (0 : Int32)).bind fun l1_1 =>
    f_Mo_dayGoes_2 FU S l1_1
set_option maxHeartbeats 4000000 in
set_option maxRecDepth 20000 in
theorem t_Mo_dayGoes  {S : St} {w : St} (h : f_Mo_dayGoes S = some w) : Ct SM m_Mo_dayGoes 7 [.ref 0] S none w := by
  unfold f_Mo_dayGoes at h
  refine Ct.of pn_Mo (Nat.le_of_ble_eq_true rfl) ?_
  show G SM m_Mo_dayGoes 7 none w 0 [(0, .ref 0)] [] S
  refine G_iconst 0 (by decide) d_Mo_dayGoes_0 ?_
  obtain ⟨l1_1, e_1, h⟩ := ob_s h
  refine G_istore_n [(1, .int l1_1), (0, .ref 0)] e_1 rfl (by decide) d_Mo_dayGoes_1 ?_
  exact G_sub _ [1, 0] rfl (t_Mo_dayGoes_2 FU S l1_1 _ h)
theorem d_Mo_daysGo_0 : decode m_Mo_daysGo.2.1 0 = .ok (.aload_n 0, 1) := by decide +kernel
theorem d_Mo_daysGo_1 : decode m_Mo_daysGo.2.1 1 = .ok (.iconst 0, 1) := by decide +kernel
theorem d_Mo_daysGo_2 : decode m_Mo_daysGo.2.1 2 = .ok (.putfield 268, 3) := by decide +kernel
theorem d_Mo_daysGo_5 : decode m_Mo_daysGo.2.1 5 = .ok (.iconst 0, 1) := by decide +kernel
theorem d_Mo_daysGo_6 : decode m_Mo_daysGo.2.1 6 = .ok (.istore_n 2, 1) := by decide +kernel
theorem d_Mo_daysGo_7 : decode m_Mo_daysGo.2.1 7 = .ok (.iload_n 2, 1) := by decide +kernel
theorem d_Mo_daysGo_8 : decode m_Mo_daysGo.2.1 8 = .ok (.iload_n 1, 1) := by decide +kernel
theorem d_Mo_daysGo_9 : decode m_Mo_daysGo.2.1 9 = .ok (.if_icmp .ge 26, 3) := by decide +kernel
theorem d_Mo_daysGo_12 : decode m_Mo_daysGo.2.1 12 = .ok (.aload_n 0, 1) := by decide +kernel
theorem d_Mo_daysGo_13 : decode m_Mo_daysGo.2.1 13 = .ok (.getfield 7, 3) := by decide +kernel
theorem d_Mo_daysGo_16 : decode m_Mo_daysGo.2.1 16 = .ok (.bipush 97, 2) := by decide +kernel
theorem d_Mo_daysGo_18 : decode m_Mo_daysGo.2.1 18 = .ok (.iaload, 1) := by decide +kernel
theorem d_Mo_daysGo_19 : decode m_Mo_daysGo.2.1 19 = .ok (.sipush 9999, 3) := by decide +kernel
theorem d_Mo_daysGo_22 : decode m_Mo_daysGo.2.1 22 = .ok (.if_icmp .ge 13, 3) := by decide +kernel
theorem d_Mo_daysGo_25 : decode m_Mo_daysGo.2.1 25 = .ok (.aload_n 0, 1) := by decide +kernel
theorem d_Mo_daysGo_26 : decode m_Mo_daysGo.2.1 26 = .ok (.invokevirtual 295, 3) := by decide +kernel
theorem d_Mo_daysGo_29 : decode m_Mo_daysGo.2.1 29 = .ok (.iinc 2 1, 3) := by decide +kernel
theorem d_Mo_daysGo_32 : decode m_Mo_daysGo.2.1 32 = .ok (.goto (-25), 3) := by decide +kernel
theorem d_Mo_daysGo_35 : decode m_Mo_daysGo.2.1 35 = .ok (.return_, 1) := by decide +kernel
def f_Mo_daysGo_7 : Nat → St → Int32 → Int32 → Option (St)
  | 0, _, _, _ => none
  | n + 1, S, l1, l2 =>
    if l1 ≤ l2 then (
    some S)
    else (
    if ig (97 : Int32) 99 then (
    if (9999 : Int32) ≤ (S 1 (97 : Int32).toNatClampNeg) then (
    some S)
    else (
    (f_Mo_dayGoes S).bind fun w_26 =>
    (some (l2 + 1)).bind fun l2_29 =>
    f_Mo_daysGo_7 n w_26 l1 l2_29)) else none)
set_option maxHeartbeats 4000000 in
set_option maxRecDepth 20000 in
theorem t_Mo_daysGo_7  : ∀ (n : Nat) (S : St) (l1 : Int32) (l2 : Int32) (w : St), f_Mo_daysGo_7 n S l1 l2 = some w → G SM m_Mo_daysGo 8 none w 7 [(0, .ref 0), (1, .int l1), (2, .int l2)] [] S := by
  intro n
  induction n with
  | zero =>
    intro S l1 l2 w h
    rw [f_Mo_daysGo_7] at h
    cases h
  | succ n ih =>
    intro S l1 l2 w h
    rw [f_Mo_daysGo_7] at h
    refine G_iload_n 2 rfl d_Mo_daysGo_7 ?_
    refine G_iload_n 1 rfl d_Mo_daysGo_8 ?_
    refine G_icmp_ge 35 (by decide) d_Mo_daysGo_9 (fun c_9 => ?_) (fun c_9 => ?_)
    · replace h := ob_t h c_9
      cases h
      exact G_vret rfl d_Mo_daysGo_35
    · replace h := ob_f h c_9
      refine G_aload_n 0 rfl d_Mo_daysGo_12 ?_
      refine G_getR fl_Mo_7 km_0 sm_0 rfl (by decide) d_Mo_daysGo_13 ?_
      refine G_bipush 97 (by decide) d_Mo_daysGo_16 ?_
      obtain ⟨g_18, h⟩ := ob_g h
      refine G_iaload km_1 sm_1 g_18 d_Mo_daysGo_18 ?_
      refine G_sipush 9999 (by decide) d_Mo_daysGo_19 ?_
      refine G_icmp_ge 35 (by decide) d_Mo_daysGo_22 (fun c_22 => ?_) (fun c_22 => ?_)
      · replace h := ob_t h c_22
        cases h
        exact G_vret rfl d_Mo_daysGo_35
      · replace h := ob_f h c_22
        refine G_aload_n 0 rfl d_Mo_daysGo_25 ?_
        obtain ⟨w_26, q_26, h⟩ := ob_b h
        refine G_callV [] [] (t_Mo_dayGoes q_26) (by decide) (by decide) mv_Mo_dayGoes rfl ml_Mo_295 km_0 sm_0 cl_12 rfl (Nat.le_of_ble_eq_true rfl) d_Mo_daysGo_26 ?_
        obtain ⟨l2_29, e_29, h⟩ := ob_s h
        refine G_iinc 1 2 [(2, .int l2_29), (0, .ref 0), (1, .int l1)] (by decide) rfl e_29 rfl (by decide) d_Mo_daysGo_29 ?_
        refine G_goto 7 (by decide) d_Mo_daysGo_32 ?_
        exact G_sub _ [1, 2, 0] rfl (ih w_26 l1 l2_29 _ h)
def f_Mo_daysGo (S : St) (l1 : Int32) : Option (St) :=
    (some (sF S 0 35 0)).bind fun S_2 =>
    (some (0 : Int32)).bind fun l2_6 =>
    f_Mo_daysGo_7 FU S_2 l1 l2_6
set_option maxHeartbeats 4000000 in
set_option maxRecDepth 20000 in
theorem t_Mo_daysGo  {S : St} {l1 : Int32} {w : St} (h : f_Mo_daysGo S l1 = some w) : Ct SM m_Mo_daysGo 8 [.ref 0, .int l1] S none w := by
  unfold f_Mo_daysGo at h
  refine Ct.of pn_Mo (Nat.le_of_ble_eq_true rfl) ?_
  show G SM m_Mo_daysGo 8 none w 0 [(0, .ref 0), (1, .int l1)] [] S
  refine G_aload_n 0 rfl d_Mo_daysGo_0 ?_
  refine G_iconst 0 (by decide) d_Mo_daysGo_1 ?_
  obtain ⟨S_2, e_2, h⟩ := ob_s h
  refine G_putI e_2 fp_Mo_268 km_0 sm_0 rfl d_Mo_daysGo_2 ?_
  refine G_iconst 0 (by decide) d_Mo_daysGo_5 ?_
  obtain ⟨l2_6, e_6, h⟩ := ob_s h
  refine G_istore_n [(2, .int l2_6), (0, .ref 0), (1, .int l1)] e_6 rfl (by decide) d_Mo_daysGo_6 ?_
  exact G_sub _ [1, 2, 0] rfl (t_Mo_daysGo_7 FU S_2 l1 l2_6 _ h)
theorem d_Mo_days_0 : decode m_Mo_days.2.1 0 = .ok (.iload_n 1, 1) := by decide +kernel
theorem d_Mo_days_1 : decode m_Mo_days.2.1 1 = .ok (.iconst 1, 1) := by decide +kernel
theorem d_Mo_days_2 : decode m_Mo_days.2.1 2 = .ok (.bipush 100, 2) := by decide +kernel
theorem d_Mo_days_4 : decode m_Mo_days.2.1 4 = .ok (.invokestatic 124, 3) := by decide +kernel
theorem d_Mo_days_7 : decode m_Mo_days.2.1 7 = .ok (.ifCond .ne 5, 3) := by decide +kernel
theorem d_Mo_days_10 : decode m_Mo_days.2.1 10 = .ok (.iconst (-1), 1) := by decide +kernel
theorem d_Mo_days_11 : decode m_Mo_days.2.1 11 = .ok (.ireturn, 1) := by decide +kernel
theorem d_Mo_days_12 : decode m_Mo_days.2.1 12 = .ok (.aload_n 0, 1) := by decide +kernel
theorem d_Mo_days_13 : decode m_Mo_days.2.1 13 = .ok (.iload_n 1, 1) := by decide +kernel
theorem d_Mo_days_14 : decode m_Mo_days.2.1 14 = .ok (.invokevirtual 298, 3) := by decide +kernel
theorem d_Mo_days_17 : decode m_Mo_days.2.1 17 = .ok (.aload_n 0, 1) := by decide +kernel
theorem d_Mo_days_18 : decode m_Mo_days.2.1 18 = .ok (.getfield 268, 3) := by decide +kernel
theorem d_Mo_days_21 : decode m_Mo_days.2.1 21 = .ok (.ireturn, 1) := by decide +kernel
def f_Mo_days (S : St) (l1 : Int32) : Option (Int32 × St) :=
    (f_Mo_in S l1 (1 : Int32) (100 : Int32)).bind fun v_4 =>
    if v_4 = 0 then (
    some ((-1), S))
    else (
    (f_Mo_daysGo S l1).bind fun w_14 =>
    some ((w_14 0 35), w_14))
set_option maxHeartbeats 4000000 in
set_option maxRecDepth 20000 in
theorem t_Mo_days  {S : St} {l1 : Int32} {w : Int32 × St} (h : f_Mo_days S l1 = some w) : Ct SM m_Mo_days 9 [.ref 0, .int l1] S (some w.1) w.2 := by
  unfold f_Mo_days at h
  refine Ct.of pn_Mo (Nat.le_of_ble_eq_true rfl) ?_
  show G SM m_Mo_days 9 (some w.1) w.2 0 [(0, .ref 0), (1, .int l1)] [] S
  refine G_iload_n 1 rfl d_Mo_days_0 ?_
  refine G_iconst 1 (by decide) d_Mo_days_1 ?_
  refine G_bipush 100 (by decide) d_Mo_days_2 ?_
  obtain ⟨v_4, q_4, h⟩ := ob_b h
  refine G_callS [.int l1, .int 1, .int 100] [] (t_Mo_in q_4) (by decide) (by decide) mt_Mo_in rfl ml_Mo_124 rfl (Nat.le_of_ble_eq_true rfl) d_Mo_days_4 ?_
  refine G_if_ne 12 (by decide) d_Mo_days_7 (fun c_7 => ?_) (fun c_7 => ?_)
  · replace h := ob_f h c_7
    refine G_aload_n 0 rfl d_Mo_days_12 ?_
    refine G_iload_n 1 rfl d_Mo_days_13 ?_
    obtain ⟨w_14, q_14, h⟩ := ob_b h
    refine G_callV [.int l1] [] (t_Mo_daysGo q_14) (by decide) (by decide) mv_Mo_daysGo rfl ml_Mo_298 km_0 sm_0 cl_12 rfl (Nat.le_of_ble_eq_true rfl) d_Mo_days_14 ?_
    refine G_aload_n 0 rfl d_Mo_days_17 ?_
    refine G_getI fl_Mo_268 km_0 sm_0 rfl d_Mo_days_18 ?_
    cases h
    exact G_iret rfl d_Mo_days_21
  · replace h := ob_t h c_7
    refine G_iconst (-1) (by decide) d_Mo_days_10 ?_
    cases h
    exact G_iret rfl d_Mo_days_11
theorem d_Mo_setOf_0 : decode m_Mo_setOf.2.1 0 = .ok (.iconst 0, 1) := by decide +kernel
theorem d_Mo_setOf_1 : decode m_Mo_setOf.2.1 1 = .ok (.istore_n 2, 1) := by decide +kernel
theorem d_Mo_setOf_2 : decode m_Mo_setOf.2.1 2 = .ok (.iconst 0, 1) := by decide +kernel
theorem d_Mo_setOf_3 : decode m_Mo_setOf.2.1 3 = .ok (.istore_n 3, 1) := by decide +kernel
theorem d_Mo_setOf_4 : decode m_Mo_setOf.2.1 4 = .ok (.iload_n 3, 1) := by decide +kernel
theorem d_Mo_setOf_5 : decode m_Mo_setOf.2.1 5 = .ok (.aload_n 0, 1) := by decide +kernel
theorem d_Mo_setOf_6 : decode m_Mo_setOf.2.1 6 = .ok (.getfield 120, 3) := by decide +kernel
theorem d_Mo_setOf_9 : decode m_Mo_setOf.2.1 9 = .ok (.if_icmp .ge 22, 3) := by decide +kernel
theorem d_Mo_setOf_12 : decode m_Mo_setOf.2.1 12 = .ok (.iload_n 2, 1) := by decide +kernel
theorem d_Mo_setOf_13 : decode m_Mo_setOf.2.1 13 = .ok (.aload_n 0, 1) := by decide +kernel
theorem d_Mo_setOf_14 : decode m_Mo_setOf.2.1 14 = .ok (.getfield 7, 3) := by decide +kernel
theorem d_Mo_setOf_17 : decode m_Mo_setOf.2.1 17 = .ok (.iload_n 1, 1) := by decide +kernel
theorem d_Mo_setOf_18 : decode m_Mo_setOf.2.1 18 = .ok (.iload_n 3, 1) := by decide +kernel
theorem d_Mo_setOf_19 : decode m_Mo_setOf.2.1 19 = .ok (.iadd, 1) := by decide +kernel
theorem d_Mo_setOf_20 : decode m_Mo_setOf.2.1 20 = .ok (.iaload, 1) := by decide +kernel
theorem d_Mo_setOf_21 : decode m_Mo_setOf.2.1 21 = .ok (.iload_n 3, 1) := by decide +kernel
theorem d_Mo_setOf_22 : decode m_Mo_setOf.2.1 22 = .ok (.ishl, 1) := by decide +kernel
theorem d_Mo_setOf_23 : decode m_Mo_setOf.2.1 23 = .ok (.ior, 1) := by decide +kernel
theorem d_Mo_setOf_24 : decode m_Mo_setOf.2.1 24 = .ok (.istore_n 2, 1) := by decide +kernel
theorem d_Mo_setOf_25 : decode m_Mo_setOf.2.1 25 = .ok (.iinc 3 1, 3) := by decide +kernel
theorem d_Mo_setOf_28 : decode m_Mo_setOf.2.1 28 = .ok (.goto (-24), 3) := by decide +kernel
theorem d_Mo_setOf_31 : decode m_Mo_setOf.2.1 31 = .ok (.iload_n 2, 1) := by decide +kernel
theorem d_Mo_setOf_32 : decode m_Mo_setOf.2.1 32 = .ok (.ireturn, 1) := by decide +kernel
def f_Mo_setOf_4 : Nat → St → Int32 → Int32 → Int32 → Option (Int32)
  | 0, _, _, _, _ => none
  | n + 1, S, l1, l2, l3 =>
    if (S 0 5) ≤ l3 then (
    some l2)
    else (
    if ig (l1 + l3) 99 then (
    (some (l2 ||| (jshl (S 1 (l1 + l3).toNatClampNeg) l3))).bind fun l2_24 =>
    (some (l3 + 1)).bind fun l3_25 =>
    f_Mo_setOf_4 n S l1 l2_24 l3_25) else none)
set_option maxHeartbeats 4000000 in
set_option maxRecDepth 20000 in
theorem t_Mo_setOf_4  : ∀ (n : Nat) (S : St) (l1 : Int32) (l2 : Int32) (l3 : Int32) (w : Int32), f_Mo_setOf_4 n S l1 l2 l3 = some w → G SM m_Mo_setOf 1 (some w) S 4 [(0, .ref 0), (1, .int l1), (2, .int l2), (3, .int l3)] [] S := by
  intro n
  induction n with
  | zero =>
    intro S l1 l2 l3 w h
    rw [f_Mo_setOf_4] at h
    cases h
  | succ n ih =>
    intro S l1 l2 l3 w h
    rw [f_Mo_setOf_4] at h
    refine G_iload_n 3 rfl d_Mo_setOf_4 ?_
    refine G_aload_n 0 rfl d_Mo_setOf_5 ?_
    refine G_getI fl_Mo_120 km_0 sm_0 rfl d_Mo_setOf_6 ?_
    refine G_icmp_ge 31 (by decide) d_Mo_setOf_9 (fun c_9 => ?_) (fun c_9 => ?_)
    · replace h := ob_t h c_9
      refine G_iload_n 2 rfl d_Mo_setOf_31 ?_
      cases h
      exact G_iret rfl d_Mo_setOf_32
    · replace h := ob_f h c_9
      refine G_iload_n 2 rfl d_Mo_setOf_12 ?_
      refine G_aload_n 0 rfl d_Mo_setOf_13 ?_
      refine G_getR fl_Mo_7 km_0 sm_0 rfl (by decide) d_Mo_setOf_14 ?_
      refine G_iload_n 1 rfl d_Mo_setOf_17 ?_
      refine G_iload_n 3 rfl d_Mo_setOf_18 ?_
      refine G_iadd d_Mo_setOf_19 ?_
      obtain ⟨g_20, h⟩ := ob_g h
      refine G_iaload km_1 sm_1 g_20 d_Mo_setOf_20 ?_
      refine G_iload_n 3 rfl d_Mo_setOf_21 ?_
      refine G_ishl d_Mo_setOf_22 ?_
      refine G_ior d_Mo_setOf_23 ?_
      obtain ⟨l2_24, e_24, h⟩ := ob_s h
      refine G_istore_n [(2, .int l2_24), (0, .ref 0), (1, .int l1), (3, .int l3)] e_24 rfl (by decide) d_Mo_setOf_24 ?_
      obtain ⟨l3_25, e_25, h⟩ := ob_s h
      refine G_iinc 1 3 [(3, .int l3_25), (2, .int l2_24), (0, .ref 0), (1, .int l1)] (by decide) rfl e_25 rfl (by decide) d_Mo_setOf_25 ?_
      refine G_goto 4 (by decide) d_Mo_setOf_28 ?_
      exact G_sub _ [2, 3, 1, 0] rfl (ih S l1 l2_24 l3_25 _ h)
def f_Mo_setOf (S : St) (l1 : Int32) : Option (Int32) :=
    (some (0 : Int32)).bind fun l2_1 =>
    (some (0 : Int32)).bind fun l3_3 =>
    f_Mo_setOf_4 FU S l1 l2_1 l3_3
set_option maxHeartbeats 4000000 in
set_option maxRecDepth 20000 in
theorem t_Mo_setOf  {S : St} {l1 : Int32} {w : Int32} (h : f_Mo_setOf S l1 = some w) : Ct SM m_Mo_setOf 1 [.ref 0, .int l1] S (some w) S := by
  unfold f_Mo_setOf at h
  refine Ct.of pn_Mo (Nat.le_of_ble_eq_true rfl) ?_
  show G SM m_Mo_setOf 1 (some w) S 0 [(0, .ref 0), (1, .int l1)] [] S
  refine G_iconst 0 (by decide) d_Mo_setOf_0 ?_
  obtain ⟨l2_1, e_1, h⟩ := ob_s h
  refine G_istore_n [(2, .int l2_1), (0, .ref 0), (1, .int l1)] e_1 rfl (by decide) d_Mo_setOf_1 ?_
  refine G_iconst 0 (by decide) d_Mo_setOf_2 ?_
  obtain ⟨l3_3, e_3, h⟩ := ob_s h
  refine G_istore_n [(3, .int l3_3), (2, .int l2_1), (0, .ref 0), (1, .int l1)] e_3 rfl (by decide) d_Mo_setOf_3 ?_
  exact G_sub _ [2, 3, 1, 0] rfl (t_Mo_setOf_4 FU S l1 l2_1 l3_3 _ h)
theorem d_Mo_tried_0 : decode m_Mo_tried.2.1 0 = .ok (.iload_n 1, 1) := by decide +kernel
theorem d_Mo_tried_1 : decode m_Mo_tried.2.1 1 = .ok (.iconst 1, 1) := by decide +kernel
theorem d_Mo_tried_2 : decode m_Mo_tried.2.1 2 = .ok (.bipush 100, 2) := by decide +kernel
theorem d_Mo_tried_4 : decode m_Mo_tried.2.1 4 = .ok (.invokestatic 124, 3) := by decide +kernel
theorem d_Mo_tried_7 : decode m_Mo_tried.2.1 7 = .ok (.ifCond .eq 34, 3) := by decide +kernel
theorem d_Mo_tried_10 : decode m_Mo_tried.2.1 10 = .ok (.iload_n 2, 1) := by decide +kernel
theorem d_Mo_tried_11 : decode m_Mo_tried.2.1 11 = .ok (.iconst 0, 1) := by decide +kernel
theorem d_Mo_tried_12 : decode m_Mo_tried.2.1 12 = .ok (.iconst 3, 1) := by decide +kernel
theorem d_Mo_tried_13 : decode m_Mo_tried.2.1 13 = .ok (.invokestatic 124, 3) := by decide +kernel
theorem d_Mo_tried_16 : decode m_Mo_tried.2.1 16 = .ok (.ifCond .ne 27, 3) := by decide +kernel
theorem d_Mo_tried_19 : decode m_Mo_tried.2.1 19 = .ok (.aload_n 0, 1) := by decide +kernel
theorem d_Mo_tried_20 : decode m_Mo_tried.2.1 20 = .ok (.iload_n 2, 1) := by decide +kernel
theorem d_Mo_tried_21 : decode m_Mo_tried.2.1 21 = .ok (.bipush 10, 2) := by decide +kernel
theorem d_Mo_tried_23 : decode m_Mo_tried.2.1 23 = .ok (.isub, 1) := by decide +kernel
theorem d_Mo_tried_24 : decode m_Mo_tried.2.1 24 = .ok (.invokevirtual 128, 3) := by decide +kernel
theorem d_Mo_tried_27 : decode m_Mo_tried.2.1 27 = .ok (.ifCond .ne 16, 3) := by decide +kernel
theorem d_Mo_tried_30 : decode m_Mo_tried.2.1 30 = .ok (.aload_n 0, 1) := by decide +kernel
theorem d_Mo_tried_31 : decode m_Mo_tried.2.1 31 = .ok (.iload_n 2, 1) := by decide +kernel
theorem d_Mo_tried_32 : decode m_Mo_tried.2.1 32 = .ok (.bipush 40, 2) := by decide +kernel
theorem d_Mo_tried_34 : decode m_Mo_tried.2.1 34 = .ok (.isub, 1) := by decide +kernel
theorem d_Mo_tried_35 : decode m_Mo_tried.2.1 35 = .ok (.invokevirtual 128, 3) := by decide +kernel
theorem d_Mo_tried_38 : decode m_Mo_tried.2.1 38 = .ok (.ifCond .ne 5, 3) := by decide +kernel
theorem d_Mo_tried_41 : decode m_Mo_tried.2.1 41 = .ok (.iconst (-1), 1) := by decide +kernel
theorem d_Mo_tried_42 : decode m_Mo_tried.2.1 42 = .ok (.ireturn, 1) := by decide +kernel
theorem d_Mo_tried_43 : decode m_Mo_tried.2.1 43 = .ok (.aload_n 0, 1) := by decide +kernel
theorem d_Mo_tried_44 : decode m_Mo_tried.2.1 44 = .ok (.getfield 7, 3) := by decide +kernel
theorem d_Mo_tried_47 : decode m_Mo_tried.2.1 47 = .ok (.aload_n 0, 1) := by decide +kernel
theorem d_Mo_tried_48 : decode m_Mo_tried.2.1 48 = .ok (.getfield 13, 3) := by decide +kernel
theorem d_Mo_tried_51 : decode m_Mo_tried.2.1 51 = .ok (.invokestatic 301, 3) := by decide +kernel
theorem d_Mo_tried_54 : decode m_Mo_tried.2.1 54 = .ok (.aload_n 0, 1) := by decide +kernel
theorem d_Mo_tried_55 : decode m_Mo_tried.2.1 55 = .ok (.iload_n 1, 1) := by decide +kernel
theorem d_Mo_tried_56 : decode m_Mo_tried.2.1 56 = .ok (.invokevirtual 298, 3) := by decide +kernel
theorem d_Mo_tried_59 : decode m_Mo_tried.2.1 59 = .ok (.iload_n 2, 1) := by decide +kernel
theorem d_Mo_tried_60 : decode m_Mo_tried.2.1 60 = .ok (.tableswitch 71 0 3 #[32, 40, 51, 61], 32) := by decide +kernel
theorem d_Mo_tried_92 : decode m_Mo_tried.2.1 92 = .ok (.aload_n 0, 1) := by decide +kernel
theorem d_Mo_tried_93 : decode m_Mo_tried.2.1 93 = .ok (.getfield 268, 3) := by decide +kernel
theorem d_Mo_tried_96 : decode m_Mo_tried.2.1 96 = .ok (.istore_n 3, 1) := by decide +kernel
theorem d_Mo_tried_97 : decode m_Mo_tried.2.1 97 = .ok (.goto 67, 3) := by decide +kernel
theorem d_Mo_tried_100 : decode m_Mo_tried.2.1 100 = .ok (.aload_n 0, 1) := by decide +kernel
theorem d_Mo_tried_101 : decode m_Mo_tried.2.1 101 = .ok (.getfield 7, 3) := by decide +kernel
theorem d_Mo_tried_104 : decode m_Mo_tried.2.1 104 = .ok (.bipush 96, 2) := by decide +kernel
theorem d_Mo_tried_106 : decode m_Mo_tried.2.1 106 = .ok (.iaload, 1) := by decide +kernel
theorem d_Mo_tried_107 : decode m_Mo_tried.2.1 107 = .ok (.istore_n 3, 1) := by decide +kernel
theorem d_Mo_tried_108 : decode m_Mo_tried.2.1 108 = .ok (.goto 56, 3) := by decide +kernel
theorem d_Mo_tried_111 : decode m_Mo_tried.2.1 111 = .ok (.aload_n 0, 1) := by decide +kernel
theorem d_Mo_tried_112 : decode m_Mo_tried.2.1 112 = .ok (.bipush 24, 2) := by decide +kernel
theorem d_Mo_tried_114 : decode m_Mo_tried.2.1 114 = .ok (.invokevirtual 305, 3) := by decide +kernel
theorem d_Mo_tried_117 : decode m_Mo_tried.2.1 117 = .ok (.istore_n 3, 1) := by decide +kernel
theorem d_Mo_tried_118 : decode m_Mo_tried.2.1 118 = .ok (.goto 46, 3) := by decide +kernel
theorem d_Mo_tried_121 : decode m_Mo_tried.2.1 121 = .ok (.aload_n 0, 1) := by decide +kernel
theorem d_Mo_tried_122 : decode m_Mo_tried.2.1 122 = .ok (.bipush 72, 2) := by decide +kernel
theorem d_Mo_tried_124 : decode m_Mo_tried.2.1 124 = .ok (.invokevirtual 305, 3) := by decide +kernel
theorem d_Mo_tried_127 : decode m_Mo_tried.2.1 127 = .ok (.istore_n 3, 1) := by decide +kernel
theorem d_Mo_tried_128 : decode m_Mo_tried.2.1 128 = .ok (.goto 36, 3) := by decide +kernel
theorem d_Mo_tried_131 : decode m_Mo_tried.2.1 131 = .ok (.iload_n 2, 1) := by decide +kernel
theorem d_Mo_tried_132 : decode m_Mo_tried.2.1 132 = .ok (.bipush 40, 2) := by decide +kernel
theorem d_Mo_tried_134 : decode m_Mo_tried.2.1 134 = .ok (.if_icmp .ge 17, 3) := by decide +kernel
theorem d_Mo_tried_137 : decode m_Mo_tried.2.1 137 = .ok (.aload_n 0, 1) := by decide +kernel
theorem d_Mo_tried_138 : decode m_Mo_tried.2.1 138 = .ok (.getfield 7, 3) := by decide +kernel
theorem d_Mo_tried_141 : decode m_Mo_tried.2.1 141 = .ok (.iconst 0, 1) := by decide +kernel
theorem d_Mo_tried_142 : decode m_Mo_tried.2.1 142 = .ok (.iload_n 2, 1) := by decide +kernel
theorem d_Mo_tried_143 : decode m_Mo_tried.2.1 143 = .ok (.iadd, 1) := by decide +kernel
theorem d_Mo_tried_144 : decode m_Mo_tried.2.1 144 = .ok (.bipush 10, 2) := by decide +kernel
theorem d_Mo_tried_146 : decode m_Mo_tried.2.1 146 = .ok (.isub, 1) := by decide +kernel
theorem d_Mo_tried_147 : decode m_Mo_tried.2.1 147 = .ok (.iaload, 1) := by decide +kernel
theorem d_Mo_tried_148 : decode m_Mo_tried.2.1 148 = .ok (.goto 15, 3) := by decide +kernel
theorem d_Mo_tried_151 : decode m_Mo_tried.2.1 151 = .ok (.aload_n 0, 1) := by decide +kernel
theorem d_Mo_tried_152 : decode m_Mo_tried.2.1 152 = .ok (.getfield 7, 3) := by decide +kernel
theorem d_Mo_tried_155 : decode m_Mo_tried.2.1 155 = .ok (.bipush 48, 2) := by decide +kernel
theorem d_Mo_tried_157 : decode m_Mo_tried.2.1 157 = .ok (.iload_n 2, 1) := by decide +kernel
theorem d_Mo_tried_158 : decode m_Mo_tried.2.1 158 = .ok (.iadd, 1) := by decide +kernel
theorem d_Mo_tried_159 : decode m_Mo_tried.2.1 159 = .ok (.bipush 40, 2) := by decide +kernel
theorem d_Mo_tried_161 : decode m_Mo_tried.2.1 161 = .ok (.isub, 1) := by decide +kernel
theorem d_Mo_tried_162 : decode m_Mo_tried.2.1 162 = .ok (.iaload, 1) := by decide +kernel
theorem d_Mo_tried_163 : decode m_Mo_tried.2.1 163 = .ok (.istore_n 3, 1) := by decide +kernel
theorem d_Mo_tried_164 : decode m_Mo_tried.2.1 164 = .ok (.aload_n 0, 1) := by decide +kernel
theorem d_Mo_tried_165 : decode m_Mo_tried.2.1 165 = .ok (.getfield 13, 3) := by decide +kernel
theorem d_Mo_tried_168 : decode m_Mo_tried.2.1 168 = .ok (.aload_n 0, 1) := by decide +kernel
theorem d_Mo_tried_169 : decode m_Mo_tried.2.1 169 = .ok (.getfield 7, 3) := by decide +kernel
theorem d_Mo_tried_172 : decode m_Mo_tried.2.1 172 = .ok (.invokestatic 301, 3) := by decide +kernel
theorem d_Mo_tried_175 : decode m_Mo_tried.2.1 175 = .ok (.iload_n 3, 1) := by decide +kernel
theorem d_Mo_tried_176 : decode m_Mo_tried.2.1 176 = .ok (.ireturn, 1) := by decide +kernel
def f_Mo_tried_164 (S : St) (l3 : Int32) : Option (Int32 × St) :=
    (f_Mo_copies S 2 1).bind fun w_172 =>
    some (l3, w_172)
set_option maxHeartbeats 4000000 in
set_option maxRecDepth 20000 in
theorem t_Mo_tried_164  (S : St) (l3 : Int32) (w : Int32 × St) (h : f_Mo_tried_164 S l3 = some w) : G SM m_Mo_tried 9 (some w.1) w.2 164 [(0, .ref 0), (3, .int l3)] [] S := by
  unfold f_Mo_tried_164 at h
  refine G_aload_n 0 rfl d_Mo_tried_164 ?_
  refine G_getR fl_Mo_13 km_0 sm_0 rfl (by decide) d_Mo_tried_165 ?_
  refine G_aload_n 0 rfl d_Mo_tried_168 ?_
  refine G_getR fl_Mo_7 km_0 sm_0 rfl (by decide) d_Mo_tried_169 ?_
  obtain ⟨w_172, q_172, h⟩ := ob_b h
  refine G_callS [.ref 2, .ref 1] [] (t_Mo_copies km_2 sm_2 km_1 sm_1 q_172) (by decide) (by decide) mt_Mo_copies rfl ml_Mo_301 rfl (Nat.le_of_ble_eq_true rfl) d_Mo_tried_172 ?_
  refine G_iload_n 1 rfl d_Mo_tried_175 ?_
  cases h
  exact G_iret rfl d_Mo_tried_176
def f_Mo_tried_163 (S : St) (s0 : Int32) : Option (Int32 × St) :=
    f_Mo_tried_164 S s0
set_option maxHeartbeats 4000000 in
set_option maxRecDepth 20000 in
theorem t_Mo_tried_163  (S : St) (s0 : Int32) (w : Int32 × St) (h : f_Mo_tried_163 S s0 = some w) : G SM m_Mo_tried 9 (some w.1) w.2 163 [(0, .ref 0)] [.int s0] S := by
  unfold f_Mo_tried_163 at h
  refine G_istore_n [(3, .int s0), (0, .ref 0)] rfl rfl (by decide) d_Mo_tried_163 ?_
  exact G_sub _ [1, 0] rfl (t_Mo_tried_164 S s0 _ h)
def f_Mo_tried_43 (S : St) (l1 : Int32) (l2 : Int32) : Option (Int32 × St) :=
    (f_Mo_copies S 1 2).bind fun w_51 =>
    (f_Mo_daysGo w_51 l1).bind fun w_56 =>
    if l2 = 0 then (
    (some (w_56 0 35)).bind fun l3_96 =>
    f_Mo_tried_164 w_56 l3_96)
    else if l2 = 1 then (
    if ig (96 : Int32) 99 then (
    (some (w_56 1 (96 : Int32).toNatClampNeg)).bind fun l3_107 =>
    f_Mo_tried_164 w_56 l3_107) else none)
    else if l2 = 2 then (
    (f_Mo_setOf w_56 (24 : Int32)).bind fun v_114 =>
    f_Mo_tried_164 w_56 v_114)
    else if l2 = 3 then (
    (f_Mo_setOf w_56 (72 : Int32)).bind fun v_124 =>
    f_Mo_tried_164 w_56 v_124)
    else (
    if (40 : Int32) ≤ l2 then (
    if ig ((48 + l2) - 40) 99 then (
    f_Mo_tried_163 w_56 (w_56 1 ((48 + l2) - 40).toNatClampNeg)) else none)
    else (
    if ig ((0 + l2) - 10) 99 then (
    f_Mo_tried_163 w_56 (w_56 1 ((0 + l2) - 10).toNatClampNeg)) else none))
set_option maxHeartbeats 4000000 in
set_option maxRecDepth 20000 in
theorem t_Mo_tried_43  (S : St) (l1 : Int32) (l2 : Int32) (w : Int32 × St) (h : f_Mo_tried_43 S l1 l2 = some w) : G SM m_Mo_tried 9 (some w.1) w.2 43 [(0, .ref 0), (1, .int l1), (2, .int l2)] [] S := by
  unfold f_Mo_tried_43 at h
  refine G_aload_n 0 rfl d_Mo_tried_43 ?_
  refine G_getR fl_Mo_7 km_0 sm_0 rfl (by decide) d_Mo_tried_44 ?_
  refine G_aload_n 0 rfl d_Mo_tried_47 ?_
  refine G_getR fl_Mo_13 km_0 sm_0 rfl (by decide) d_Mo_tried_48 ?_
  obtain ⟨w_51, q_51, h⟩ := ob_b h
  refine G_callS [.ref 1, .ref 2] [] (t_Mo_copies km_1 sm_1 km_2 sm_2 q_51) (by decide) (by decide) mt_Mo_copies rfl ml_Mo_301 rfl (Nat.le_of_ble_eq_true rfl) d_Mo_tried_51 ?_
  refine G_aload_n 0 rfl d_Mo_tried_54 ?_
  refine G_iload_n 1 rfl d_Mo_tried_55 ?_
  obtain ⟨w_56, q_56, h⟩ := ob_b h
  refine G_callV [.int l1] [] (t_Mo_daysGo q_56) (by decide) (by decide) mv_Mo_daysGo rfl ml_Mo_298 km_0 sm_0 cl_12 rfl (Nat.le_of_ble_eq_true rfl) d_Mo_tried_56 ?_
  refine G_iload_n 2 rfl d_Mo_tried_59 ?_
  by_cases c_60_0 : l2 = 0
  · replace h := ob_t h c_60_0
    refine G_tin (0) (by rw [c_60_0]; decide) 92 (by decide) (by decide) rfl (by decide) d_Mo_tried_60 ?_
    refine G_aload_n 0 rfl d_Mo_tried_92 ?_
    refine G_getI fl_Mo_268 km_0 sm_0 rfl d_Mo_tried_93 ?_
    obtain ⟨l3_96, e_96, h⟩ := ob_s h
    refine G_istore_n [(3, .int l3_96), (0, .ref 0), (1, .int l1), (2, .int l2)] e_96 rfl (by decide) d_Mo_tried_96 ?_
    refine G_goto 164 (by decide) d_Mo_tried_97 ?_
    exact G_sub _ [1, 0] rfl (t_Mo_tried_164 w_56 l3_96 _ h)
  replace h := ob_f h c_60_0
  by_cases c_60_1 : l2 = 1
  · replace h := ob_t h c_60_1
    refine G_tin (1) (by rw [c_60_1]; decide) 100 (by decide) (by decide) rfl (by decide) d_Mo_tried_60 ?_
    refine G_aload_n 0 rfl d_Mo_tried_100 ?_
    refine G_getR fl_Mo_7 km_0 sm_0 rfl (by decide) d_Mo_tried_101 ?_
    refine G_bipush 96 (by decide) d_Mo_tried_104 ?_
    obtain ⟨g_106, h⟩ := ob_g h
    refine G_iaload km_1 sm_1 g_106 d_Mo_tried_106 ?_
    obtain ⟨l3_107, e_107, h⟩ := ob_s h
    refine G_istore_n [(3, .int l3_107), (0, .ref 0), (1, .int l1), (2, .int l2)] e_107 rfl (by decide) d_Mo_tried_107 ?_
    refine G_goto 164 (by decide) d_Mo_tried_108 ?_
    exact G_sub _ [1, 0] rfl (t_Mo_tried_164 w_56 l3_107 _ h)
  replace h := ob_f h c_60_1
  by_cases c_60_2 : l2 = 2
  · replace h := ob_t h c_60_2
    refine G_tin (2) (by rw [c_60_2]; decide) 111 (by decide) (by decide) rfl (by decide) d_Mo_tried_60 ?_
    refine G_aload_n 0 rfl d_Mo_tried_111 ?_
    refine G_bipush 24 (by decide) d_Mo_tried_112 ?_
    obtain ⟨v_114, q_114, h⟩ := ob_b h
    refine G_callV [.int 24] [] (t_Mo_setOf q_114) (by decide) (by decide) mv_Mo_setOf rfl ml_Mo_305 km_0 sm_0 cl_12 rfl (Nat.le_of_ble_eq_true rfl) d_Mo_tried_114 ?_
    refine G_istore_n [(3, .int v_114), (0, .ref 0), (1, .int l1), (2, .int l2)] rfl rfl (by decide) d_Mo_tried_117 ?_
    refine G_goto 164 (by decide) d_Mo_tried_118 ?_
    exact G_sub _ [1, 0] rfl (t_Mo_tried_164 w_56 v_114 _ h)
  replace h := ob_f h c_60_2
  by_cases c_60_3 : l2 = 3
  · replace h := ob_t h c_60_3
    refine G_tin (3) (by rw [c_60_3]; decide) 121 (by decide) (by decide) rfl (by decide) d_Mo_tried_60 ?_
    refine G_aload_n 0 rfl d_Mo_tried_121 ?_
    refine G_bipush 72 (by decide) d_Mo_tried_122 ?_
    obtain ⟨v_124, q_124, h⟩ := ob_b h
    refine G_callV [.int 72] [] (t_Mo_setOf q_124) (by decide) (by decide) mv_Mo_setOf rfl ml_Mo_305 km_0 sm_0 cl_12 rfl (Nat.le_of_ble_eq_true rfl) d_Mo_tried_124 ?_
    refine G_istore_n [(3, .int v_124), (0, .ref 0), (1, .int l1), (2, .int l2)] rfl rfl (by decide) d_Mo_tried_127 ?_
    refine G_goto 164 (by decide) d_Mo_tried_128 ?_
    exact G_sub _ [1, 0] rfl (t_Mo_tried_164 w_56 v_124 _ h)
  replace h := ob_f h c_60_3
  have n_60_0 := lv_neT c_60_0 (a := 0) (by decide)
  have n_60_1 := lv_neT c_60_1 (a := 1) (by decide)
  have n_60_2 := lv_neT c_60_2 (a := 2) (by decide)
  have n_60_3 := lv_neT c_60_3 (a := 3) (by decide)
  refine G_tout (by omega) 131 (by decide) d_Mo_tried_60 ?_
  refine G_iload_n 2 rfl d_Mo_tried_131 ?_
  refine G_bipush 40 (by decide) d_Mo_tried_132 ?_
  refine G_icmp_ge 151 (by decide) d_Mo_tried_134 (fun c_134 => ?_) (fun c_134 => ?_)
  · replace h := ob_t h c_134
    refine G_aload_n 0 rfl d_Mo_tried_151 ?_
    refine G_getR fl_Mo_7 km_0 sm_0 rfl (by decide) d_Mo_tried_152 ?_
    refine G_bipush 48 (by decide) d_Mo_tried_155 ?_
    refine G_iload_n 2 rfl d_Mo_tried_157 ?_
    refine G_iadd d_Mo_tried_158 ?_
    refine G_bipush 40 (by decide) d_Mo_tried_159 ?_
    refine G_isub d_Mo_tried_161 ?_
    obtain ⟨g_162, h⟩ := ob_g h
    refine G_iaload km_1 sm_1 g_162 d_Mo_tried_162 ?_
    exact G_sub _ [0] rfl (t_Mo_tried_163 w_56 (w_56 1 ((48 + l2) - 40).toNatClampNeg) _ h)
  · replace h := ob_f h c_134
    refine G_aload_n 0 rfl d_Mo_tried_137 ?_
    refine G_getR fl_Mo_7 km_0 sm_0 rfl (by decide) d_Mo_tried_138 ?_
    refine G_iconst 0 (by decide) d_Mo_tried_141 ?_
    refine G_iload_n 2 rfl d_Mo_tried_142 ?_
    refine G_iadd d_Mo_tried_143 ?_
    refine G_bipush 10 (by decide) d_Mo_tried_144 ?_
    refine G_isub d_Mo_tried_146 ?_
    obtain ⟨g_147, h⟩ := ob_g h
    refine G_iaload km_1 sm_1 g_147 d_Mo_tried_147 ?_
    refine G_goto 163 (by decide) d_Mo_tried_148 ?_
    exact G_sub _ [0] rfl (t_Mo_tried_163 w_56 (w_56 1 ((0 + l2) - 10).toNatClampNeg) _ h)
def f_Mo_tried (S : St) (l1 : Int32) (l2 : Int32) : Option (Int32 × St) :=
    (f_Mo_in S l1 (1 : Int32) (100 : Int32)).bind fun v_4 =>
    if v_4 = 0 then (
    some ((-1), S))
    else (
    (f_Mo_in S l2 (0 : Int32) (3 : Int32)).bind fun v_13 =>
    if v_13 = 0 then (
    (f_Mo_isThing S (l2 - 10)).bind fun v_24 =>
    if v_24 = 0 then (
    (f_Mo_isThing S (l2 - 40)).bind fun v_35 =>
    if v_35 = 0 then (
    some ((-1), S))
    else (
    f_Mo_tried_43 S l1 l2))
    else (
    f_Mo_tried_43 S l1 l2))
    else (
    f_Mo_tried_43 S l1 l2))
set_option maxHeartbeats 4000000 in
set_option maxRecDepth 20000 in
theorem t_Mo_tried  {S : St} {l1 : Int32} {l2 : Int32} {w : Int32 × St} (h : f_Mo_tried S l1 l2 = some w) : Ct SM m_Mo_tried 9 [.ref 0, .int l1, .int l2] S (some w.1) w.2 := by
  unfold f_Mo_tried at h
  refine Ct.of pn_Mo (Nat.le_of_ble_eq_true rfl) ?_
  show G SM m_Mo_tried 9 (some w.1) w.2 0 [(0, .ref 0), (1, .int l1), (2, .int l2)] [] S
  refine G_iload_n 1 rfl d_Mo_tried_0 ?_
  refine G_iconst 1 (by decide) d_Mo_tried_1 ?_
  refine G_bipush 100 (by decide) d_Mo_tried_2 ?_
  obtain ⟨v_4, q_4, h⟩ := ob_b h
  refine G_callS [.int l1, .int 1, .int 100] [] (t_Mo_in q_4) (by decide) (by decide) mt_Mo_in rfl ml_Mo_124 rfl (Nat.le_of_ble_eq_true rfl) d_Mo_tried_4 ?_
  refine G_if_eq 41 (by decide) d_Mo_tried_7 (fun c_7 => ?_) (fun c_7 => ?_)
  · replace h := ob_t h c_7
    refine G_iconst (-1) (by decide) d_Mo_tried_41 ?_
    cases h
    exact G_iret rfl d_Mo_tried_42
  · replace h := ob_f h c_7
    refine G_iload_n 2 rfl d_Mo_tried_10 ?_
    refine G_iconst 0 (by decide) d_Mo_tried_11 ?_
    refine G_iconst 3 (by decide) d_Mo_tried_12 ?_
    obtain ⟨v_13, q_13, h⟩ := ob_b h
    refine G_callS [.int l2, .int 0, .int 3] [] (t_Mo_in q_13) (by decide) (by decide) mt_Mo_in rfl ml_Mo_124 rfl (Nat.le_of_ble_eq_true rfl) d_Mo_tried_13 ?_
    refine G_if_ne 43 (by decide) d_Mo_tried_16 (fun c_16 => ?_) (fun c_16 => ?_)
    · replace h := ob_f h c_16
      exact G_sub _ [0, 1, 2] rfl (t_Mo_tried_43 S l1 l2 _ h)
    · replace h := ob_t h c_16
      refine G_aload_n 0 rfl d_Mo_tried_19 ?_
      refine G_iload_n 2 rfl d_Mo_tried_20 ?_
      refine G_bipush 10 (by decide) d_Mo_tried_21 ?_
      refine G_isub d_Mo_tried_23 ?_
      obtain ⟨v_24, q_24, h⟩ := ob_b h
      refine G_callV [.int (l2 - 10)] [] (t_Mo_isThing q_24) (by decide) (by decide) mv_Mo_isThing rfl ml_Mo_128 km_0 sm_0 cl_12 rfl (Nat.le_of_ble_eq_true rfl) d_Mo_tried_24 ?_
      refine G_if_ne 43 (by decide) d_Mo_tried_27 (fun c_27 => ?_) (fun c_27 => ?_)
      · replace h := ob_f h c_27
        exact G_sub _ [0, 1, 2] rfl (t_Mo_tried_43 S l1 l2 _ h)
      · replace h := ob_t h c_27
        refine G_aload_n 0 rfl d_Mo_tried_30 ?_
        refine G_iload_n 2 rfl d_Mo_tried_31 ?_
        refine G_bipush 40 (by decide) d_Mo_tried_32 ?_
        refine G_isub d_Mo_tried_34 ?_
        obtain ⟨v_35, q_35, h⟩ := ob_b h
        refine G_callV [.int (l2 - 40)] [] (t_Mo_isThing q_35) (by decide) (by decide) mv_Mo_isThing rfl ml_Mo_128 km_0 sm_0 cl_12 rfl (Nat.le_of_ble_eq_true rfl) d_Mo_tried_35 ?_
        refine G_if_ne 43 (by decide) d_Mo_tried_38 (fun c_38 => ?_) (fun c_38 => ?_)
        · replace h := ob_f h c_38
          exact G_sub _ [0, 1, 2] rfl (t_Mo_tried_43 S l1 l2 _ h)
        · replace h := ob_t h c_38
          refine G_iconst (-1) (by decide) d_Mo_tried_41 ?_
          cases h
          exact G_iret rfl d_Mo_tried_42
theorem d_Mo_thingIs_0 : decode m_Mo_thingIs.2.1 0 = .ok (.aload_n 0, 1) := by decide +kernel
theorem d_Mo_thingIs_1 : decode m_Mo_thingIs.2.1 1 = .ok (.iload_n 1, 1) := by decide +kernel
theorem d_Mo_thingIs_2 : decode m_Mo_thingIs.2.1 2 = .ok (.invokevirtual 128, 3) := by decide +kernel
theorem d_Mo_thingIs_5 : decode m_Mo_thingIs.2.1 5 = .ok (.ifCond .ne 5, 3) := by decide +kernel
theorem d_Mo_thingIs_8 : decode m_Mo_thingIs.2.1 8 = .ok (.iconst (-1), 1) := by decide +kernel
theorem d_Mo_thingIs_9 : decode m_Mo_thingIs.2.1 9 = .ok (.ireturn, 1) := by decide +kernel
theorem d_Mo_thingIs_10 : decode m_Mo_thingIs.2.1 10 = .ok (.iload_n 2, 1) := by decide +kernel
theorem d_Mo_thingIs_11 : decode m_Mo_thingIs.2.1 11 = .ok (.tableswitch 105 0 5 #[37, 44, 53, 63, 73, 83], 37) := by decide +kernel
theorem d_Mo_thingIs_48 : decode m_Mo_thingIs.2.1 48 = .ok (.aload_n 0, 1) := by decide +kernel
theorem d_Mo_thingIs_49 : decode m_Mo_thingIs.2.1 49 = .ok (.getfield 19, 3) := by decide +kernel
theorem d_Mo_thingIs_52 : decode m_Mo_thingIs.2.1 52 = .ok (.iload_n 1, 1) := by decide +kernel
theorem d_Mo_thingIs_53 : decode m_Mo_thingIs.2.1 53 = .ok (.iaload, 1) := by decide +kernel
theorem d_Mo_thingIs_54 : decode m_Mo_thingIs.2.1 54 = .ok (.ireturn, 1) := by decide +kernel
theorem d_Mo_thingIs_55 : decode m_Mo_thingIs.2.1 55 = .ok (.aload_n 0, 1) := by decide +kernel
theorem d_Mo_thingIs_56 : decode m_Mo_thingIs.2.1 56 = .ok (.getfield 7, 3) := by decide +kernel
theorem d_Mo_thingIs_59 : decode m_Mo_thingIs.2.1 59 = .ok (.iconst 0, 1) := by decide +kernel
theorem d_Mo_thingIs_60 : decode m_Mo_thingIs.2.1 60 = .ok (.iload_n 1, 1) := by decide +kernel
theorem d_Mo_thingIs_61 : decode m_Mo_thingIs.2.1 61 = .ok (.iadd, 1) := by decide +kernel
theorem d_Mo_thingIs_62 : decode m_Mo_thingIs.2.1 62 = .ok (.iaload, 1) := by decide +kernel
theorem d_Mo_thingIs_63 : decode m_Mo_thingIs.2.1 63 = .ok (.ireturn, 1) := by decide +kernel
theorem d_Mo_thingIs_64 : decode m_Mo_thingIs.2.1 64 = .ok (.aload_n 0, 1) := by decide +kernel
theorem d_Mo_thingIs_65 : decode m_Mo_thingIs.2.1 65 = .ok (.getfield 7, 3) := by decide +kernel
theorem d_Mo_thingIs_68 : decode m_Mo_thingIs.2.1 68 = .ok (.bipush 24, 2) := by decide +kernel
theorem d_Mo_thingIs_70 : decode m_Mo_thingIs.2.1 70 = .ok (.iload_n 1, 1) := by decide +kernel
theorem d_Mo_thingIs_71 : decode m_Mo_thingIs.2.1 71 = .ok (.iadd, 1) := by decide +kernel
theorem d_Mo_thingIs_72 : decode m_Mo_thingIs.2.1 72 = .ok (.iaload, 1) := by decide +kernel
theorem d_Mo_thingIs_73 : decode m_Mo_thingIs.2.1 73 = .ok (.ireturn, 1) := by decide +kernel
theorem d_Mo_thingIs_74 : decode m_Mo_thingIs.2.1 74 = .ok (.aload_n 0, 1) := by decide +kernel
theorem d_Mo_thingIs_75 : decode m_Mo_thingIs.2.1 75 = .ok (.getfield 7, 3) := by decide +kernel
theorem d_Mo_thingIs_78 : decode m_Mo_thingIs.2.1 78 = .ok (.bipush 48, 2) := by decide +kernel
theorem d_Mo_thingIs_80 : decode m_Mo_thingIs.2.1 80 = .ok (.iload_n 1, 1) := by decide +kernel
theorem d_Mo_thingIs_81 : decode m_Mo_thingIs.2.1 81 = .ok (.iadd, 1) := by decide +kernel
theorem d_Mo_thingIs_82 : decode m_Mo_thingIs.2.1 82 = .ok (.iaload, 1) := by decide +kernel
theorem d_Mo_thingIs_83 : decode m_Mo_thingIs.2.1 83 = .ok (.ireturn, 1) := by decide +kernel
theorem d_Mo_thingIs_84 : decode m_Mo_thingIs.2.1 84 = .ok (.aload_n 0, 1) := by decide +kernel
theorem d_Mo_thingIs_85 : decode m_Mo_thingIs.2.1 85 = .ok (.getfield 7, 3) := by decide +kernel
theorem d_Mo_thingIs_88 : decode m_Mo_thingIs.2.1 88 = .ok (.bipush 72, 2) := by decide +kernel
theorem d_Mo_thingIs_90 : decode m_Mo_thingIs.2.1 90 = .ok (.iload_n 1, 1) := by decide +kernel
theorem d_Mo_thingIs_91 : decode m_Mo_thingIs.2.1 91 = .ok (.iadd, 1) := by decide +kernel
theorem d_Mo_thingIs_92 : decode m_Mo_thingIs.2.1 92 = .ok (.iaload, 1) := by decide +kernel
theorem d_Mo_thingIs_93 : decode m_Mo_thingIs.2.1 93 = .ok (.ireturn, 1) := by decide +kernel
theorem d_Mo_thingIs_94 : decode m_Mo_thingIs.2.1 94 = .ok (.aload_n 0, 1) := by decide +kernel
theorem d_Mo_thingIs_95 : decode m_Mo_thingIs.2.1 95 = .ok (.getfield 22, 3) := by decide +kernel
theorem d_Mo_thingIs_98 : decode m_Mo_thingIs.2.1 98 = .ok (.iload_n 1, 1) := by decide +kernel
theorem d_Mo_thingIs_99 : decode m_Mo_thingIs.2.1 99 = .ok (.iaload, 1) := by decide +kernel
theorem d_Mo_thingIs_100 : decode m_Mo_thingIs.2.1 100 = .ok (.iconst (-1), 1) := by decide +kernel
theorem d_Mo_thingIs_101 : decode m_Mo_thingIs.2.1 101 = .ok (.if_icmp .ne 8, 3) := by decide +kernel
theorem d_Mo_thingIs_104 : decode m_Mo_thingIs.2.1 104 = .ok (.bipush (-2), 2) := by decide +kernel
theorem d_Mo_thingIs_106 : decode m_Mo_thingIs.2.1 106 = .ok (.goto 9, 3) := by decide +kernel
theorem d_Mo_thingIs_109 : decode m_Mo_thingIs.2.1 109 = .ok (.aload_n 0, 1) := by decide +kernel
theorem d_Mo_thingIs_110 : decode m_Mo_thingIs.2.1 110 = .ok (.getfield 22, 3) := by decide +kernel
theorem d_Mo_thingIs_113 : decode m_Mo_thingIs.2.1 113 = .ok (.iload_n 1, 1) := by decide +kernel
theorem d_Mo_thingIs_114 : decode m_Mo_thingIs.2.1 114 = .ok (.iaload, 1) := by decide +kernel
theorem d_Mo_thingIs_115 : decode m_Mo_thingIs.2.1 115 = .ok (.ireturn, 1) := by decide +kernel
theorem d_Mo_thingIs_116 : decode m_Mo_thingIs.2.1 116 = .ok (.iconst (-1), 1) := by decide +kernel
theorem d_Mo_thingIs_117 : decode m_Mo_thingIs.2.1 117 = .ok (.ireturn, 1) := by decide +kernel
def f_Mo_thingIs (S : St) (l1 : Int32) (l2 : Int32) : Option (Int32) :=
    (f_Mo_isThing S l1).bind fun v_2 =>
    if v_2 = 0 then (
    some ((-1) : Int32))
    else (
    if l2 = 0 then (
    if ig l1 24 then (
    some (S 4 l1.toNatClampNeg)) else none)
    else if l2 = 1 then (
    if ig (0 + l1) 99 then (
    some (S 1 (0 + l1).toNatClampNeg)) else none)
    else if l2 = 2 then (
    if ig (24 + l1) 99 then (
    some (S 1 (24 + l1).toNatClampNeg)) else none)
    else if l2 = 3 then (
    if ig (48 + l1) 99 then (
    some (S 1 (48 + l1).toNatClampNeg)) else none)
    else if l2 = 4 then (
    if ig (72 + l1) 99 then (
    some (S 1 (72 + l1).toNatClampNeg)) else none)
    else if l2 = 5 then (
    if ig l1 24 then (
    if (S 5 l1.toNatClampNeg) = (-1) then (
    some ((-2) : Int32))
    else (
    if ig l1 24 then (
    some (S 5 l1.toNatClampNeg)) else none)) else none)
    else (
    some ((-1) : Int32)))
set_option maxHeartbeats 4000000 in
set_option maxRecDepth 20000 in
theorem t_Mo_thingIs  {S : St} {l1 : Int32} {l2 : Int32} {w : Int32} (h : f_Mo_thingIs S l1 l2 = some w) : Ct SM m_Mo_thingIs 3 [.ref 0, .int l1, .int l2] S (some w) S := by
  unfold f_Mo_thingIs at h
  refine Ct.of pn_Mo (Nat.le_of_ble_eq_true rfl) ?_
  show G SM m_Mo_thingIs 3 (some w) S 0 [(0, .ref 0), (1, .int l1), (2, .int l2)] [] S
  refine G_aload_n 0 rfl d_Mo_thingIs_0 ?_
  refine G_iload_n 1 rfl d_Mo_thingIs_1 ?_
  obtain ⟨v_2, q_2, h⟩ := ob_b h
  refine G_callV [.int l1] [] (t_Mo_isThing q_2) (by decide) (by decide) mv_Mo_isThing rfl ml_Mo_128 km_0 sm_0 cl_12 rfl (Nat.le_of_ble_eq_true rfl) d_Mo_thingIs_2 ?_
  refine G_if_ne 10 (by decide) d_Mo_thingIs_5 (fun c_5 => ?_) (fun c_5 => ?_)
  · replace h := ob_f h c_5
    refine G_iload_n 2 rfl d_Mo_thingIs_10 ?_
    by_cases c_11_0 : l2 = 0
    · replace h := ob_t h c_11_0
      refine G_tin (0) (by rw [c_11_0]; decide) 48 (by decide) (by decide) rfl (by decide) d_Mo_thingIs_11 ?_
      refine G_aload_n 0 rfl d_Mo_thingIs_48 ?_
      refine G_getR fl_Mo_19 km_0 sm_0 rfl (by decide) d_Mo_thingIs_49 ?_
      refine G_iload_n 1 rfl d_Mo_thingIs_52 ?_
      obtain ⟨g_53, h⟩ := ob_g h
      refine G_iaload km_4 sm_4 g_53 d_Mo_thingIs_53 ?_
      cases h
      exact G_iret rfl d_Mo_thingIs_54
    replace h := ob_f h c_11_0
    by_cases c_11_1 : l2 = 1
    · replace h := ob_t h c_11_1
      refine G_tin (1) (by rw [c_11_1]; decide) 55 (by decide) (by decide) rfl (by decide) d_Mo_thingIs_11 ?_
      refine G_aload_n 0 rfl d_Mo_thingIs_55 ?_
      refine G_getR fl_Mo_7 km_0 sm_0 rfl (by decide) d_Mo_thingIs_56 ?_
      refine G_iconst 0 (by decide) d_Mo_thingIs_59 ?_
      refine G_iload_n 1 rfl d_Mo_thingIs_60 ?_
      refine G_iadd d_Mo_thingIs_61 ?_
      obtain ⟨g_62, h⟩ := ob_g h
      refine G_iaload km_1 sm_1 g_62 d_Mo_thingIs_62 ?_
      cases h
      exact G_iret rfl d_Mo_thingIs_63
    replace h := ob_f h c_11_1
    by_cases c_11_2 : l2 = 2
    · replace h := ob_t h c_11_2
      refine G_tin (2) (by rw [c_11_2]; decide) 64 (by decide) (by decide) rfl (by decide) d_Mo_thingIs_11 ?_
      refine G_aload_n 0 rfl d_Mo_thingIs_64 ?_
      refine G_getR fl_Mo_7 km_0 sm_0 rfl (by decide) d_Mo_thingIs_65 ?_
      refine G_bipush 24 (by decide) d_Mo_thingIs_68 ?_
      refine G_iload_n 1 rfl d_Mo_thingIs_70 ?_
      refine G_iadd d_Mo_thingIs_71 ?_
      obtain ⟨g_72, h⟩ := ob_g h
      refine G_iaload km_1 sm_1 g_72 d_Mo_thingIs_72 ?_
      cases h
      exact G_iret rfl d_Mo_thingIs_73
    replace h := ob_f h c_11_2
    by_cases c_11_3 : l2 = 3
    · replace h := ob_t h c_11_3
      refine G_tin (3) (by rw [c_11_3]; decide) 74 (by decide) (by decide) rfl (by decide) d_Mo_thingIs_11 ?_
      refine G_aload_n 0 rfl d_Mo_thingIs_74 ?_
      refine G_getR fl_Mo_7 km_0 sm_0 rfl (by decide) d_Mo_thingIs_75 ?_
      refine G_bipush 48 (by decide) d_Mo_thingIs_78 ?_
      refine G_iload_n 1 rfl d_Mo_thingIs_80 ?_
      refine G_iadd d_Mo_thingIs_81 ?_
      obtain ⟨g_82, h⟩ := ob_g h
      refine G_iaload km_1 sm_1 g_82 d_Mo_thingIs_82 ?_
      cases h
      exact G_iret rfl d_Mo_thingIs_83
    replace h := ob_f h c_11_3
    by_cases c_11_4 : l2 = 4
    · replace h := ob_t h c_11_4
      refine G_tin (4) (by rw [c_11_4]; decide) 84 (by decide) (by decide) rfl (by decide) d_Mo_thingIs_11 ?_
      refine G_aload_n 0 rfl d_Mo_thingIs_84 ?_
      refine G_getR fl_Mo_7 km_0 sm_0 rfl (by decide) d_Mo_thingIs_85 ?_
      refine G_bipush 72 (by decide) d_Mo_thingIs_88 ?_
      refine G_iload_n 1 rfl d_Mo_thingIs_90 ?_
      refine G_iadd d_Mo_thingIs_91 ?_
      obtain ⟨g_92, h⟩ := ob_g h
      refine G_iaload km_1 sm_1 g_92 d_Mo_thingIs_92 ?_
      cases h
      exact G_iret rfl d_Mo_thingIs_93
    replace h := ob_f h c_11_4
    by_cases c_11_5 : l2 = 5
    · replace h := ob_t h c_11_5
      refine G_tin (5) (by rw [c_11_5]; decide) 94 (by decide) (by decide) rfl (by decide) d_Mo_thingIs_11 ?_
      refine G_aload_n 0 rfl d_Mo_thingIs_94 ?_
      refine G_getR fl_Mo_22 km_0 sm_0 rfl (by decide) d_Mo_thingIs_95 ?_
      refine G_iload_n 1 rfl d_Mo_thingIs_98 ?_
      obtain ⟨g_99, h⟩ := ob_g h
      refine G_iaload km_5 sm_5 g_99 d_Mo_thingIs_99 ?_
      refine G_iconst (-1) (by decide) d_Mo_thingIs_100 ?_
      refine G_icmp_ne 109 (by decide) d_Mo_thingIs_101 (fun c_101 => ?_) (fun c_101 => ?_)
      · replace h := ob_f h c_101
        refine G_aload_n 0 rfl d_Mo_thingIs_109 ?_
        refine G_getR fl_Mo_22 km_0 sm_0 rfl (by decide) d_Mo_thingIs_110 ?_
        refine G_iload_n 1 rfl d_Mo_thingIs_113 ?_
        obtain ⟨g_114, h⟩ := ob_g h
        refine G_iaload km_5 sm_5 g_114 d_Mo_thingIs_114 ?_
        cases h
        exact G_iret rfl d_Mo_thingIs_115
      · replace h := ob_t h c_101
        refine G_bipush (-2) (by decide) d_Mo_thingIs_104 ?_
        refine G_goto 115 (by decide) d_Mo_thingIs_106 ?_
        cases h
        exact G_iret rfl d_Mo_thingIs_115
    replace h := ob_f h c_11_5
    have n_11_0 := lv_neT c_11_0 (a := 0) (by decide)
    have n_11_1 := lv_neT c_11_1 (a := 1) (by decide)
    have n_11_2 := lv_neT c_11_2 (a := 2) (by decide)
    have n_11_3 := lv_neT c_11_3 (a := 3) (by decide)
    have n_11_4 := lv_neT c_11_4 (a := 4) (by decide)
    have n_11_5 := lv_neT c_11_5 (a := 5) (by decide)
    refine G_tout (by omega) 116 (by decide) d_Mo_thingIs_11 ?_
    refine G_iconst (-1) (by decide) d_Mo_thingIs_116 ?_
    cases h
    exact G_iret rfl d_Mo_thingIs_117
  · replace h := ob_t h c_5
    refine G_iconst (-1) (by decide) d_Mo_thingIs_8 ?_
    cases h
    exact G_iret rfl d_Mo_thingIs_9
theorem d_Mo_byWhen_0 : decode m_Mo_byWhen.2.1 0 = .ok (.aload_n 0, 1) := by decide +kernel
theorem d_Mo_byWhen_1 : decode m_Mo_byWhen.2.1 1 = .ok (.iload_n 1, 1) := by decide +kernel
theorem d_Mo_byWhen_2 : decode m_Mo_byWhen.2.1 2 = .ok (.invokevirtual 128, 3) := by decide +kernel
theorem d_Mo_byWhen_5 : decode m_Mo_byWhen.2.1 5 = .ok (.ifCond .eq 13, 3) := by decide +kernel
theorem d_Mo_byWhen_8 : decode m_Mo_byWhen.2.1 8 = .ok (.iload_n 2, 1) := by decide +kernel
theorem d_Mo_byWhen_9 : decode m_Mo_byWhen.2.1 9 = .ok (.iconst 1, 1) := by decide +kernel
theorem d_Mo_byWhen_10 : decode m_Mo_byWhen.2.1 10 = .ok (.bipush 100, 2) := by decide +kernel
theorem d_Mo_byWhen_12 : decode m_Mo_byWhen.2.1 12 = .ok (.invokestatic 124, 3) := by decide +kernel
theorem d_Mo_byWhen_15 : decode m_Mo_byWhen.2.1 15 = .ok (.ifCond .ne 5, 3) := by decide +kernel
theorem d_Mo_byWhen_18 : decode m_Mo_byWhen.2.1 18 = .ok (.iconst (-1), 1) := by decide +kernel
theorem d_Mo_byWhen_19 : decode m_Mo_byWhen.2.1 19 = .ok (.ireturn, 1) := by decide +kernel
theorem d_Mo_byWhen_20 : decode m_Mo_byWhen.2.1 20 = .ok (.aload_n 0, 1) := by decide +kernel
theorem d_Mo_byWhen_21 : decode m_Mo_byWhen.2.1 21 = .ok (.getfield 7, 3) := by decide +kernel
theorem d_Mo_byWhen_24 : decode m_Mo_byWhen.2.1 24 = .ok (.aload_n 0, 1) := by decide +kernel
theorem d_Mo_byWhen_25 : decode m_Mo_byWhen.2.1 25 = .ok (.getfield 13, 3) := by decide +kernel
theorem d_Mo_byWhen_28 : decode m_Mo_byWhen.2.1 28 = .ok (.invokestatic 301, 3) := by decide +kernel
theorem d_Mo_byWhen_31 : decode m_Mo_byWhen.2.1 31 = .ok (.iconst 0, 1) := by decide +kernel
theorem d_Mo_byWhen_32 : decode m_Mo_byWhen.2.1 32 = .ok (.istore_n 3, 1) := by decide +kernel
theorem d_Mo_byWhen_33 : decode m_Mo_byWhen.2.1 33 = .ok (.aload_n 0, 1) := by decide +kernel
theorem d_Mo_byWhen_34 : decode m_Mo_byWhen.2.1 34 = .ok (.getfield 7, 3) := by decide +kernel
theorem d_Mo_byWhen_37 : decode m_Mo_byWhen.2.1 37 = .ok (.bipush 72, 2) := by decide +kernel
theorem d_Mo_byWhen_39 : decode m_Mo_byWhen.2.1 39 = .ok (.iload_n 1, 1) := by decide +kernel
theorem d_Mo_byWhen_40 : decode m_Mo_byWhen.2.1 40 = .ok (.iadd, 1) := by decide +kernel
theorem d_Mo_byWhen_41 : decode m_Mo_byWhen.2.1 41 = .ok (.iaload, 1) := by decide +kernel
theorem d_Mo_byWhen_42 : decode m_Mo_byWhen.2.1 42 = .ok (.ifCond .ne 32, 3) := by decide +kernel
theorem d_Mo_byWhen_45 : decode m_Mo_byWhen.2.1 45 = .ok (.iload_n 3, 1) := by decide +kernel
theorem d_Mo_byWhen_46 : decode m_Mo_byWhen.2.1 46 = .ok (.iload_n 2, 1) := by decide +kernel
theorem d_Mo_byWhen_47 : decode m_Mo_byWhen.2.1 47 = .ok (.if_icmp .ge 27, 3) := by decide +kernel
theorem d_Mo_byWhen_50 : decode m_Mo_byWhen.2.1 50 = .ok (.aload_n 0, 1) := by decide +kernel
theorem d_Mo_byWhen_51 : decode m_Mo_byWhen.2.1 51 = .ok (.getfield 7, 3) := by decide +kernel
theorem d_Mo_byWhen_54 : decode m_Mo_byWhen.2.1 54 = .ok (.bipush 97, 2) := by decide +kernel
theorem d_Mo_byWhen_56 : decode m_Mo_byWhen.2.1 56 = .ok (.iaload, 1) := by decide +kernel
theorem d_Mo_byWhen_57 : decode m_Mo_byWhen.2.1 57 = .ok (.sipush 9999, 3) := by decide +kernel
theorem d_Mo_byWhen_60 : decode m_Mo_byWhen.2.1 60 = .ok (.if_icmp .ge 14, 3) := by decide +kernel
theorem d_Mo_byWhen_63 : decode m_Mo_byWhen.2.1 63 = .ok (.aload_n 0, 1) := by decide +kernel
theorem d_Mo_byWhen_64 : decode m_Mo_byWhen.2.1 64 = .ok (.invokevirtual 295, 3) := by decide +kernel
theorem d_Mo_byWhen_67 : decode m_Mo_byWhen.2.1 67 = .ok (.iload_n 3, 1) := by decide +kernel
theorem d_Mo_byWhen_68 : decode m_Mo_byWhen.2.1 68 = .ok (.iconst 1, 1) := by decide +kernel
theorem d_Mo_byWhen_69 : decode m_Mo_byWhen.2.1 69 = .ok (.iadd, 1) := by decide +kernel
theorem d_Mo_byWhen_70 : decode m_Mo_byWhen.2.1 70 = .ok (.istore_n 3, 1) := by decide +kernel
theorem d_Mo_byWhen_71 : decode m_Mo_byWhen.2.1 71 = .ok (.goto (-38), 3) := by decide +kernel
theorem d_Mo_byWhen_74 : decode m_Mo_byWhen.2.1 74 = .ok (.aload_n 0, 1) := by decide +kernel
theorem d_Mo_byWhen_75 : decode m_Mo_byWhen.2.1 75 = .ok (.getfield 7, 3) := by decide +kernel
theorem d_Mo_byWhen_78 : decode m_Mo_byWhen.2.1 78 = .ok (.bipush 72, 2) := by decide +kernel
theorem d_Mo_byWhen_80 : decode m_Mo_byWhen.2.1 80 = .ok (.iload_n 1, 1) := by decide +kernel
theorem d_Mo_byWhen_81 : decode m_Mo_byWhen.2.1 81 = .ok (.iadd, 1) := by decide +kernel
theorem d_Mo_byWhen_82 : decode m_Mo_byWhen.2.1 82 = .ok (.iaload, 1) := by decide +kernel
theorem d_Mo_byWhen_83 : decode m_Mo_byWhen.2.1 83 = .ok (.iconst 1, 1) := by decide +kernel
theorem d_Mo_byWhen_84 : decode m_Mo_byWhen.2.1 84 = .ok (.if_icmp .ne 7, 3) := by decide +kernel
theorem d_Mo_byWhen_87 : decode m_Mo_byWhen.2.1 87 = .ok (.iconst 1, 1) := by decide +kernel
theorem d_Mo_byWhen_88 : decode m_Mo_byWhen.2.1 88 = .ok (.goto 4, 3) := by decide +kernel
theorem d_Mo_byWhen_91 : decode m_Mo_byWhen.2.1 91 = .ok (.iconst 0, 1) := by decide +kernel
theorem d_Mo_byWhen_92 : decode m_Mo_byWhen.2.1 92 = .ok (.istore 4, 2) := by decide +kernel
theorem d_Mo_byWhen_94 : decode m_Mo_byWhen.2.1 94 = .ok (.aload_n 0, 1) := by decide +kernel
theorem d_Mo_byWhen_95 : decode m_Mo_byWhen.2.1 95 = .ok (.getfield 13, 3) := by decide +kernel
theorem d_Mo_byWhen_98 : decode m_Mo_byWhen.2.1 98 = .ok (.aload_n 0, 1) := by decide +kernel
theorem d_Mo_byWhen_99 : decode m_Mo_byWhen.2.1 99 = .ok (.getfield 7, 3) := by decide +kernel
theorem d_Mo_byWhen_102 : decode m_Mo_byWhen.2.1 102 = .ok (.invokestatic 301, 3) := by decide +kernel
theorem d_Mo_byWhen_105 : decode m_Mo_byWhen.2.1 105 = .ok (.iload 4, 2) := by decide +kernel
theorem d_Mo_byWhen_107 : decode m_Mo_byWhen.2.1 107 = .ok (.ifCond .eq 7, 3) := by decide +kernel
theorem d_Mo_byWhen_110 : decode m_Mo_byWhen.2.1 110 = .ok (.iload_n 3, 1) := by decide +kernel
theorem d_Mo_byWhen_111 : decode m_Mo_byWhen.2.1 111 = .ok (.goto 5, 3) := by decide +kernel
theorem d_Mo_byWhen_114 : decode m_Mo_byWhen.2.1 114 = .ok (.bipush (-2), 2) := by decide +kernel
theorem d_Mo_byWhen_116 : decode m_Mo_byWhen.2.1 116 = .ok (.ireturn, 1) := by decide +kernel
def f_Mo_byWhen_92 (S : St) (l3 : Int32) (s0 : Int32) : Option (Int32 × St) :=
    (f_Mo_copies S 2 1).bind fun w_102 =>
    if s0 = 0 then (
    some ((-2), w_102))
    else (
    some (l3, w_102))
set_option maxHeartbeats 4000000 in
set_option maxRecDepth 20000 in
theorem t_Mo_byWhen_92  (S : St) (l3 : Int32) (s0 : Int32) (w : Int32 × St) (h : f_Mo_byWhen_92 S l3 s0 = some w) : G SM m_Mo_byWhen 8 (some w.1) w.2 92 [(0, .ref 0), (3, .int l3)] [.int s0] S := by
  unfold f_Mo_byWhen_92 at h
  refine G_istore [(4, .int s0), (0, .ref 0), (3, .int l3)] rfl rfl (by decide) d_Mo_byWhen_92 ?_
  refine G_aload_n 1 rfl d_Mo_byWhen_94 ?_
  refine G_getR fl_Mo_13 km_0 sm_0 rfl (by decide) d_Mo_byWhen_95 ?_
  refine G_aload_n 1 rfl d_Mo_byWhen_98 ?_
  refine G_getR fl_Mo_7 km_0 sm_0 rfl (by decide) d_Mo_byWhen_99 ?_
  obtain ⟨w_102, q_102, h⟩ := ob_b h
  refine G_callS [.ref 2, .ref 1] [] (t_Mo_copies km_2 sm_2 km_1 sm_1 q_102) (by decide) (by decide) mt_Mo_copies rfl ml_Mo_301 rfl (Nat.le_of_ble_eq_true rfl) d_Mo_byWhen_102 ?_
  refine G_iload 0 rfl d_Mo_byWhen_105 ?_
  refine G_if_eq 114 (by decide) d_Mo_byWhen_107 (fun c_107 => ?_) (fun c_107 => ?_)
  · replace h := ob_t h c_107
    refine G_bipush (-2) (by decide) d_Mo_byWhen_114 ?_
    cases h
    exact G_iret rfl d_Mo_byWhen_116
  · replace h := ob_f h c_107
    refine G_iload_n 2 rfl d_Mo_byWhen_110 ?_
    refine G_goto 116 (by decide) d_Mo_byWhen_111 ?_
    cases h
    exact G_iret rfl d_Mo_byWhen_116
def f_Mo_byWhen_74 (S : St) (l1 : Int32) (l3 : Int32) : Option (Int32 × St) :=
    if ig (72 + l1) 99 then (
    if (S 1 (72 + l1).toNatClampNeg) = 1 then (
    f_Mo_byWhen_92 S l3 (1 : Int32))
    else (
    f_Mo_byWhen_92 S l3 (0 : Int32))) else none
set_option maxHeartbeats 4000000 in
set_option maxRecDepth 20000 in
theorem t_Mo_byWhen_74  (S : St) (l1 : Int32) (l3 : Int32) (w : Int32 × St) (h : f_Mo_byWhen_74 S l1 l3 = some w) : G SM m_Mo_byWhen 8 (some w.1) w.2 74 [(0, .ref 0), (1, .int l1), (3, .int l3)] [] S := by
  unfold f_Mo_byWhen_74 at h
  refine G_aload_n 0 rfl d_Mo_byWhen_74 ?_
  refine G_getR fl_Mo_7 km_0 sm_0 rfl (by decide) d_Mo_byWhen_75 ?_
  refine G_bipush 72 (by decide) d_Mo_byWhen_78 ?_
  refine G_iload_n 1 rfl d_Mo_byWhen_80 ?_
  refine G_iadd d_Mo_byWhen_81 ?_
  obtain ⟨g_82, h⟩ := ob_g h
  refine G_iaload km_1 sm_1 g_82 d_Mo_byWhen_82 ?_
  refine G_iconst 1 (by decide) d_Mo_byWhen_83 ?_
  refine G_icmp_ne 91 (by decide) d_Mo_byWhen_84 (fun c_84 => ?_) (fun c_84 => ?_)
  · replace h := ob_f h c_84
    refine G_iconst 0 (by decide) d_Mo_byWhen_91 ?_
    exact G_sub _ [0, 2] rfl (t_Mo_byWhen_92 S l3 (0 : Int32) _ h)
  · replace h := ob_t h c_84
    refine G_iconst 1 (by decide) d_Mo_byWhen_87 ?_
    refine G_goto 92 (by decide) d_Mo_byWhen_88 ?_
    exact G_sub _ [0, 2] rfl (t_Mo_byWhen_92 S l3 (1 : Int32) _ h)
def f_Mo_byWhen_33 : Nat → St → Int32 → Int32 → Int32 → Option (Int32 × St)
  | 0, _, _, _, _ => none
  | n + 1, S, l1, l2, l3 =>
    if ig (72 + l1) 99 then (
    if (S 1 (72 + l1).toNatClampNeg) = 0 then (
    if l2 ≤ l3 then (
    f_Mo_byWhen_74 S l1 l3)
    else (
    if ig (97 : Int32) 99 then (
    if (9999 : Int32) ≤ (S 1 (97 : Int32).toNatClampNeg) then (
    f_Mo_byWhen_74 S l1 l3)
    else (
    (f_Mo_dayGoes S).bind fun w_64 =>
    (some (l3 + 1)).bind fun l3_70 =>
    f_Mo_byWhen_33 n w_64 l1 l2 l3_70)) else none))
    else (
    f_Mo_byWhen_74 S l1 l3)) else none
set_option maxHeartbeats 4000000 in
set_option maxRecDepth 20000 in
theorem t_Mo_byWhen_33  : ∀ (n : Nat) (S : St) (l1 : Int32) (l2 : Int32) (l3 : Int32) (w : Int32 × St), f_Mo_byWhen_33 n S l1 l2 l3 = some w → G SM m_Mo_byWhen 8 (some w.1) w.2 33 [(0, .ref 0), (1, .int l1), (2, .int l2), (3, .int l3)] [] S := by
  intro n
  induction n with
  | zero =>
    intro S l1 l2 l3 w h
    rw [f_Mo_byWhen_33] at h
    cases h
  | succ n ih =>
    intro S l1 l2 l3 w h
    rw [f_Mo_byWhen_33] at h
    refine G_aload_n 0 rfl d_Mo_byWhen_33 ?_
    refine G_getR fl_Mo_7 km_0 sm_0 rfl (by decide) d_Mo_byWhen_34 ?_
    refine G_bipush 72 (by decide) d_Mo_byWhen_37 ?_
    refine G_iload_n 1 rfl d_Mo_byWhen_39 ?_
    refine G_iadd d_Mo_byWhen_40 ?_
    obtain ⟨g_41, h⟩ := ob_g h
    refine G_iaload km_1 sm_1 g_41 d_Mo_byWhen_41 ?_
    refine G_if_ne 74 (by decide) d_Mo_byWhen_42 (fun c_42 => ?_) (fun c_42 => ?_)
    · replace h := ob_f h c_42
      exact G_sub _ [0, 1, 3] rfl (t_Mo_byWhen_74 S l1 l3 _ h)
    · replace h := ob_t h c_42
      refine G_iload_n 3 rfl d_Mo_byWhen_45 ?_
      refine G_iload_n 2 rfl d_Mo_byWhen_46 ?_
      refine G_icmp_ge 74 (by decide) d_Mo_byWhen_47 (fun c_47 => ?_) (fun c_47 => ?_)
      · replace h := ob_t h c_47
        exact G_sub _ [0, 1, 3] rfl (t_Mo_byWhen_74 S l1 l3 _ h)
      · replace h := ob_f h c_47
        refine G_aload_n 0 rfl d_Mo_byWhen_50 ?_
        refine G_getR fl_Mo_7 km_0 sm_0 rfl (by decide) d_Mo_byWhen_51 ?_
        refine G_bipush 97 (by decide) d_Mo_byWhen_54 ?_
        obtain ⟨g_56, h⟩ := ob_g h
        refine G_iaload km_1 sm_1 g_56 d_Mo_byWhen_56 ?_
        refine G_sipush 9999 (by decide) d_Mo_byWhen_57 ?_
        refine G_icmp_ge 74 (by decide) d_Mo_byWhen_60 (fun c_60 => ?_) (fun c_60 => ?_)
        · replace h := ob_t h c_60
          exact G_sub _ [0, 1, 3] rfl (t_Mo_byWhen_74 S l1 l3 _ h)
        · replace h := ob_f h c_60
          refine G_aload_n 0 rfl d_Mo_byWhen_63 ?_
          obtain ⟨w_64, q_64, h⟩ := ob_b h
          refine G_callV [] [] (t_Mo_dayGoes q_64) (by decide) (by decide) mv_Mo_dayGoes rfl ml_Mo_295 km_0 sm_0 cl_12 rfl (Nat.le_of_ble_eq_true rfl) d_Mo_byWhen_64 ?_
          refine G_iload_n 3 rfl d_Mo_byWhen_67 ?_
          refine G_iconst 1 (by decide) d_Mo_byWhen_68 ?_
          refine G_iadd d_Mo_byWhen_69 ?_
          obtain ⟨l3_70, e_70, h⟩ := ob_s h
          refine G_istore_n [(3, .int l3_70), (0, .ref 0), (1, .int l1), (2, .int l2)] e_70 rfl (by decide) d_Mo_byWhen_70 ?_
          refine G_goto 33 (by decide) d_Mo_byWhen_71 ?_
          exact G_sub _ [1, 2, 3, 0] rfl (ih w_64 l1 l2 l3_70 _ h)
def f_Mo_byWhen (S : St) (l1 : Int32) (l2 : Int32) : Option (Int32 × St) :=
    (f_Mo_isThing S l1).bind fun v_2 =>
    if v_2 = 0 then (
    some ((-1), S))
    else (
    (f_Mo_in S l2 (1 : Int32) (100 : Int32)).bind fun v_12 =>
    if v_12 = 0 then (
    some ((-1), S))
    else (
    (f_Mo_copies S 1 2).bind fun w_28 =>
    (some (0 : Int32)).bind fun l3_32 =>
    f_Mo_byWhen_33 FU w_28 l1 l2 l3_32))
set_option maxHeartbeats 4000000 in
set_option maxRecDepth 20000 in
theorem t_Mo_byWhen  {S : St} {l1 : Int32} {l2 : Int32} {w : Int32 × St} (h : f_Mo_byWhen S l1 l2 = some w) : Ct SM m_Mo_byWhen 8 [.ref 0, .int l1, .int l2] S (some w.1) w.2 := by
  unfold f_Mo_byWhen at h
  refine Ct.of pn_Mo (Nat.le_of_ble_eq_true rfl) ?_
  show G SM m_Mo_byWhen 8 (some w.1) w.2 0 [(0, .ref 0), (1, .int l1), (2, .int l2)] [] S
  refine G_aload_n 0 rfl d_Mo_byWhen_0 ?_
  refine G_iload_n 1 rfl d_Mo_byWhen_1 ?_
  obtain ⟨v_2, q_2, h⟩ := ob_b h
  refine G_callV [.int l1] [] (t_Mo_isThing q_2) (by decide) (by decide) mv_Mo_isThing rfl ml_Mo_128 km_0 sm_0 cl_12 rfl (Nat.le_of_ble_eq_true rfl) d_Mo_byWhen_2 ?_
  refine G_if_eq 18 (by decide) d_Mo_byWhen_5 (fun c_5 => ?_) (fun c_5 => ?_)
  · replace h := ob_t h c_5
    refine G_iconst (-1) (by decide) d_Mo_byWhen_18 ?_
    cases h
    exact G_iret rfl d_Mo_byWhen_19
  · replace h := ob_f h c_5
    refine G_iload_n 2 rfl d_Mo_byWhen_8 ?_
    refine G_iconst 1 (by decide) d_Mo_byWhen_9 ?_
    refine G_bipush 100 (by decide) d_Mo_byWhen_10 ?_
    obtain ⟨v_12, q_12, h⟩ := ob_b h
    refine G_callS [.int l2, .int 1, .int 100] [] (t_Mo_in q_12) (by decide) (by decide) mt_Mo_in rfl ml_Mo_124 rfl (Nat.le_of_ble_eq_true rfl) d_Mo_byWhen_12 ?_
    refine G_if_ne 20 (by decide) d_Mo_byWhen_15 (fun c_15 => ?_) (fun c_15 => ?_)
    · replace h := ob_f h c_15
      refine G_aload_n 0 rfl d_Mo_byWhen_20 ?_
      refine G_getR fl_Mo_7 km_0 sm_0 rfl (by decide) d_Mo_byWhen_21 ?_
      refine G_aload_n 0 rfl d_Mo_byWhen_24 ?_
      refine G_getR fl_Mo_13 km_0 sm_0 rfl (by decide) d_Mo_byWhen_25 ?_
      obtain ⟨w_28, q_28, h⟩ := ob_b h
      refine G_callS [.ref 1, .ref 2] [] (t_Mo_copies km_1 sm_1 km_2 sm_2 q_28) (by decide) (by decide) mt_Mo_copies rfl ml_Mo_301 rfl (Nat.le_of_ble_eq_true rfl) d_Mo_byWhen_28 ?_
      refine G_iconst 0 (by decide) d_Mo_byWhen_31 ?_
      obtain ⟨l3_32, e_32, h⟩ := ob_s h
      refine G_istore_n [(3, .int l3_32), (0, .ref 0), (1, .int l1), (2, .int l2)] e_32 rfl (by decide) d_Mo_byWhen_32 ?_
      exact G_sub _ [1, 2, 3, 0] rfl (t_Mo_byWhen_33 FU w_28 l1 l2 l3_32 _ h)
    · replace h := ob_t h c_15
      refine G_iconst (-1) (by decide) d_Mo_byWhen_18 ?_
      cases h
      exact G_iret rfl d_Mo_byWhen_19
theorem d_Mo_dark_0 : decode m_Mo_dark.2.1 0 = .ok (.iload_n 1, 1) := by decide +kernel
theorem d_Mo_dark_1 : decode m_Mo_dark.2.1 1 = .ok (.iconst 1, 1) := by decide +kernel
theorem d_Mo_dark_2 : decode m_Mo_dark.2.1 2 = .ok (.bipush 100, 2) := by decide +kernel
theorem d_Mo_dark_4 : decode m_Mo_dark.2.1 4 = .ok (.invokestatic 124, 3) := by decide +kernel
theorem d_Mo_dark_7 : decode m_Mo_dark.2.1 7 = .ok (.ifCond .ne 5, 3) := by decide +kernel
theorem d_Mo_dark_10 : decode m_Mo_dark.2.1 10 = .ok (.iconst (-1), 1) := by decide +kernel
theorem d_Mo_dark_11 : decode m_Mo_dark.2.1 11 = .ok (.ireturn, 1) := by decide +kernel
theorem d_Mo_dark_12 : decode m_Mo_dark.2.1 12 = .ok (.aload_n 0, 1) := by decide +kernel
theorem d_Mo_dark_13 : decode m_Mo_dark.2.1 13 = .ok (.getfield 7, 3) := by decide +kernel
theorem d_Mo_dark_16 : decode m_Mo_dark.2.1 16 = .ok (.aload_n 0, 1) := by decide +kernel
theorem d_Mo_dark_17 : decode m_Mo_dark.2.1 17 = .ok (.getfield 13, 3) := by decide +kernel
theorem d_Mo_dark_20 : decode m_Mo_dark.2.1 20 = .ok (.invokestatic 301, 3) := by decide +kernel
theorem d_Mo_dark_23 : decode m_Mo_dark.2.1 23 = .ok (.iconst 0, 1) := by decide +kernel
theorem d_Mo_dark_24 : decode m_Mo_dark.2.1 24 = .ok (.istore_n 2, 1) := by decide +kernel
theorem d_Mo_dark_25 : decode m_Mo_dark.2.1 25 = .ok (.aload_n 0, 1) := by decide +kernel
theorem d_Mo_dark_26 : decode m_Mo_dark.2.1 26 = .ok (.bipush 24, 2) := by decide +kernel
theorem d_Mo_dark_28 : decode m_Mo_dark.2.1 28 = .ok (.invokevirtual 305, 3) := by decide +kernel
theorem d_Mo_dark_31 : decode m_Mo_dark.2.1 31 = .ok (.ifCond .eq 32, 3) := by decide +kernel
theorem d_Mo_dark_34 : decode m_Mo_dark.2.1 34 = .ok (.iload_n 2, 1) := by decide +kernel
theorem d_Mo_dark_35 : decode m_Mo_dark.2.1 35 = .ok (.iload_n 1, 1) := by decide +kernel
theorem d_Mo_dark_36 : decode m_Mo_dark.2.1 36 = .ok (.if_icmp .ge 27, 3) := by decide +kernel
theorem d_Mo_dark_39 : decode m_Mo_dark.2.1 39 = .ok (.aload_n 0, 1) := by decide +kernel
theorem d_Mo_dark_40 : decode m_Mo_dark.2.1 40 = .ok (.getfield 7, 3) := by decide +kernel
theorem d_Mo_dark_43 : decode m_Mo_dark.2.1 43 = .ok (.bipush 97, 2) := by decide +kernel
theorem d_Mo_dark_45 : decode m_Mo_dark.2.1 45 = .ok (.iaload, 1) := by decide +kernel
theorem d_Mo_dark_46 : decode m_Mo_dark.2.1 46 = .ok (.sipush 9999, 3) := by decide +kernel
theorem d_Mo_dark_49 : decode m_Mo_dark.2.1 49 = .ok (.if_icmp .ge 14, 3) := by decide +kernel
theorem d_Mo_dark_52 : decode m_Mo_dark.2.1 52 = .ok (.aload_n 0, 1) := by decide +kernel
theorem d_Mo_dark_53 : decode m_Mo_dark.2.1 53 = .ok (.invokevirtual 295, 3) := by decide +kernel
theorem d_Mo_dark_56 : decode m_Mo_dark.2.1 56 = .ok (.iload_n 2, 1) := by decide +kernel
theorem d_Mo_dark_57 : decode m_Mo_dark.2.1 57 = .ok (.iconst 1, 1) := by decide +kernel
theorem d_Mo_dark_58 : decode m_Mo_dark.2.1 58 = .ok (.iadd, 1) := by decide +kernel
theorem d_Mo_dark_59 : decode m_Mo_dark.2.1 59 = .ok (.istore_n 2, 1) := by decide +kernel
theorem d_Mo_dark_60 : decode m_Mo_dark.2.1 60 = .ok (.goto (-35), 3) := by decide +kernel
theorem d_Mo_dark_63 : decode m_Mo_dark.2.1 63 = .ok (.aload_n 0, 1) := by decide +kernel
theorem d_Mo_dark_64 : decode m_Mo_dark.2.1 64 = .ok (.bipush 24, 2) := by decide +kernel
theorem d_Mo_dark_66 : decode m_Mo_dark.2.1 66 = .ok (.invokevirtual 305, 3) := by decide +kernel
theorem d_Mo_dark_69 : decode m_Mo_dark.2.1 69 = .ok (.ifCond .ne 7, 3) := by decide +kernel
theorem d_Mo_dark_72 : decode m_Mo_dark.2.1 72 = .ok (.iconst 1, 1) := by decide +kernel
theorem d_Mo_dark_73 : decode m_Mo_dark.2.1 73 = .ok (.goto 4, 3) := by decide +kernel
theorem d_Mo_dark_76 : decode m_Mo_dark.2.1 76 = .ok (.iconst 0, 1) := by decide +kernel
theorem d_Mo_dark_77 : decode m_Mo_dark.2.1 77 = .ok (.istore_n 3, 1) := by decide +kernel
theorem d_Mo_dark_78 : decode m_Mo_dark.2.1 78 = .ok (.aload_n 0, 1) := by decide +kernel
theorem d_Mo_dark_79 : decode m_Mo_dark.2.1 79 = .ok (.getfield 13, 3) := by decide +kernel
theorem d_Mo_dark_82 : decode m_Mo_dark.2.1 82 = .ok (.aload_n 0, 1) := by decide +kernel
theorem d_Mo_dark_83 : decode m_Mo_dark.2.1 83 = .ok (.getfield 7, 3) := by decide +kernel
theorem d_Mo_dark_86 : decode m_Mo_dark.2.1 86 = .ok (.invokestatic 301, 3) := by decide +kernel
theorem d_Mo_dark_89 : decode m_Mo_dark.2.1 89 = .ok (.iload_n 3, 1) := by decide +kernel
theorem d_Mo_dark_90 : decode m_Mo_dark.2.1 90 = .ok (.ifCond .eq 7, 3) := by decide +kernel
theorem d_Mo_dark_93 : decode m_Mo_dark.2.1 93 = .ok (.iload_n 2, 1) := by decide +kernel
theorem d_Mo_dark_94 : decode m_Mo_dark.2.1 94 = .ok (.goto 5, 3) := by decide +kernel
theorem d_Mo_dark_97 : decode m_Mo_dark.2.1 97 = .ok (.bipush (-2), 2) := by decide +kernel
theorem d_Mo_dark_99 : decode m_Mo_dark.2.1 99 = .ok (.ireturn, 1) := by decide +kernel
def f_Mo_dark_77 (S : St) (l2 : Int32) (s0 : Int32) : Option (Int32 × St) :=
    (f_Mo_copies S 2 1).bind fun w_86 =>
    if s0 = 0 then (
    some ((-2), w_86))
    else (
    some (l2, w_86))
set_option maxHeartbeats 4000000 in
set_option maxRecDepth 20000 in
theorem t_Mo_dark_77  (S : St) (l2 : Int32) (s0 : Int32) (w : Int32 × St) (h : f_Mo_dark_77 S l2 s0 = some w) : G SM m_Mo_dark 8 (some w.1) w.2 77 [(0, .ref 0), (2, .int l2)] [.int s0] S := by
  unfold f_Mo_dark_77 at h
  refine G_istore_n [(3, .int s0), (0, .ref 0), (2, .int l2)] rfl rfl (by decide) d_Mo_dark_77 ?_
  refine G_aload_n 1 rfl d_Mo_dark_78 ?_
  refine G_getR fl_Mo_13 km_0 sm_0 rfl (by decide) d_Mo_dark_79 ?_
  refine G_aload_n 1 rfl d_Mo_dark_82 ?_
  refine G_getR fl_Mo_7 km_0 sm_0 rfl (by decide) d_Mo_dark_83 ?_
  obtain ⟨w_86, q_86, h⟩ := ob_b h
  refine G_callS [.ref 2, .ref 1] [] (t_Mo_copies km_2 sm_2 km_1 sm_1 q_86) (by decide) (by decide) mt_Mo_copies rfl ml_Mo_301 rfl (Nat.le_of_ble_eq_true rfl) d_Mo_dark_86 ?_
  refine G_iload_n 0 rfl d_Mo_dark_89 ?_
  refine G_if_eq 97 (by decide) d_Mo_dark_90 (fun c_90 => ?_) (fun c_90 => ?_)
  · replace h := ob_t h c_90
    refine G_bipush (-2) (by decide) d_Mo_dark_97 ?_
    cases h
    exact G_iret rfl d_Mo_dark_99
  · replace h := ob_f h c_90
    refine G_iload_n 2 rfl d_Mo_dark_93 ?_
    refine G_goto 99 (by decide) d_Mo_dark_94 ?_
    cases h
    exact G_iret rfl d_Mo_dark_99
def f_Mo_dark_63 (S : St) (l2 : Int32) : Option (Int32 × St) :=
    (f_Mo_setOf S (24 : Int32)).bind fun v_66 =>
    if v_66 = 0 then (
    f_Mo_dark_77 S l2 (1 : Int32))
    else (
    f_Mo_dark_77 S l2 (0 : Int32))
set_option maxHeartbeats 4000000 in
set_option maxRecDepth 20000 in
theorem t_Mo_dark_63  (S : St) (l2 : Int32) (w : Int32 × St) (h : f_Mo_dark_63 S l2 = some w) : G SM m_Mo_dark 8 (some w.1) w.2 63 [(0, .ref 0), (2, .int l2)] [] S := by
  unfold f_Mo_dark_63 at h
  refine G_aload_n 0 rfl d_Mo_dark_63 ?_
  refine G_bipush 24 (by decide) d_Mo_dark_64 ?_
  obtain ⟨v_66, q_66, h⟩ := ob_b h
  refine G_callV [.int 24] [] (t_Mo_setOf q_66) (by decide) (by decide) mv_Mo_setOf rfl ml_Mo_305 km_0 sm_0 cl_12 rfl (Nat.le_of_ble_eq_true rfl) d_Mo_dark_66 ?_
  refine G_if_ne 76 (by decide) d_Mo_dark_69 (fun c_69 => ?_) (fun c_69 => ?_)
  · replace h := ob_f h c_69
    refine G_iconst 0 (by decide) d_Mo_dark_76 ?_
    exact G_sub _ [0, 1] rfl (t_Mo_dark_77 S l2 (0 : Int32) _ h)
  · replace h := ob_t h c_69
    refine G_iconst 1 (by decide) d_Mo_dark_72 ?_
    refine G_goto 77 (by decide) d_Mo_dark_73 ?_
    exact G_sub _ [0, 1] rfl (t_Mo_dark_77 S l2 (1 : Int32) _ h)
def f_Mo_dark_25 : Nat → St → Int32 → Int32 → Option (Int32 × St)
  | 0, _, _, _ => none
  | n + 1, S, l1, l2 =>
    (f_Mo_setOf S (24 : Int32)).bind fun v_28 =>
    if v_28 = 0 then (
    f_Mo_dark_63 S l2)
    else (
    if l1 ≤ l2 then (
    f_Mo_dark_63 S l2)
    else (
    if ig (97 : Int32) 99 then (
    if (9999 : Int32) ≤ (S 1 (97 : Int32).toNatClampNeg) then (
    f_Mo_dark_63 S l2)
    else (
    (f_Mo_dayGoes S).bind fun w_53 =>
    (some (l2 + 1)).bind fun l2_59 =>
    f_Mo_dark_25 n w_53 l1 l2_59)) else none))
set_option maxHeartbeats 4000000 in
set_option maxRecDepth 20000 in
theorem t_Mo_dark_25  : ∀ (n : Nat) (S : St) (l1 : Int32) (l2 : Int32) (w : Int32 × St), f_Mo_dark_25 n S l1 l2 = some w → G SM m_Mo_dark 8 (some w.1) w.2 25 [(0, .ref 0), (1, .int l1), (2, .int l2)] [] S := by
  intro n
  induction n with
  | zero =>
    intro S l1 l2 w h
    rw [f_Mo_dark_25] at h
    cases h
  | succ n ih =>
    intro S l1 l2 w h
    rw [f_Mo_dark_25] at h
    refine G_aload_n 0 rfl d_Mo_dark_25 ?_
    refine G_bipush 24 (by decide) d_Mo_dark_26 ?_
    obtain ⟨v_28, q_28, h⟩ := ob_b h
    refine G_callV [.int 24] [] (t_Mo_setOf q_28) (by decide) (by decide) mv_Mo_setOf rfl ml_Mo_305 km_0 sm_0 cl_12 rfl (Nat.le_of_ble_eq_true rfl) d_Mo_dark_28 ?_
    refine G_if_eq 63 (by decide) d_Mo_dark_31 (fun c_31 => ?_) (fun c_31 => ?_)
    · replace h := ob_t h c_31
      exact G_sub _ [0, 2] rfl (t_Mo_dark_63 S l2 _ h)
    · replace h := ob_f h c_31
      refine G_iload_n 2 rfl d_Mo_dark_34 ?_
      refine G_iload_n 1 rfl d_Mo_dark_35 ?_
      refine G_icmp_ge 63 (by decide) d_Mo_dark_36 (fun c_36 => ?_) (fun c_36 => ?_)
      · replace h := ob_t h c_36
        exact G_sub _ [0, 2] rfl (t_Mo_dark_63 S l2 _ h)
      · replace h := ob_f h c_36
        refine G_aload_n 0 rfl d_Mo_dark_39 ?_
        refine G_getR fl_Mo_7 km_0 sm_0 rfl (by decide) d_Mo_dark_40 ?_
        refine G_bipush 97 (by decide) d_Mo_dark_43 ?_
        obtain ⟨g_45, h⟩ := ob_g h
        refine G_iaload km_1 sm_1 g_45 d_Mo_dark_45 ?_
        refine G_sipush 9999 (by decide) d_Mo_dark_46 ?_
        refine G_icmp_ge 63 (by decide) d_Mo_dark_49 (fun c_49 => ?_) (fun c_49 => ?_)
        · replace h := ob_t h c_49
          exact G_sub _ [0, 2] rfl (t_Mo_dark_63 S l2 _ h)
        · replace h := ob_f h c_49
          refine G_aload_n 0 rfl d_Mo_dark_52 ?_
          obtain ⟨w_53, q_53, h⟩ := ob_b h
          refine G_callV [] [] (t_Mo_dayGoes q_53) (by decide) (by decide) mv_Mo_dayGoes rfl ml_Mo_295 km_0 sm_0 cl_12 rfl (Nat.le_of_ble_eq_true rfl) d_Mo_dark_53 ?_
          refine G_iload_n 2 rfl d_Mo_dark_56 ?_
          refine G_iconst 1 (by decide) d_Mo_dark_57 ?_
          refine G_iadd d_Mo_dark_58 ?_
          obtain ⟨l2_59, e_59, h⟩ := ob_s h
          refine G_istore_n [(2, .int l2_59), (0, .ref 0), (1, .int l1)] e_59 rfl (by decide) d_Mo_dark_59 ?_
          refine G_goto 25 (by decide) d_Mo_dark_60 ?_
          exact G_sub _ [1, 2, 0] rfl (ih w_53 l1 l2_59 _ h)
def f_Mo_dark (S : St) (l1 : Int32) : Option (Int32 × St) :=
    (f_Mo_in S l1 (1 : Int32) (100 : Int32)).bind fun v_4 =>
    if v_4 = 0 then (
    some ((-1), S))
    else (
    (f_Mo_copies S 1 2).bind fun w_20 =>
    (some (0 : Int32)).bind fun l2_24 =>
    f_Mo_dark_25 FU w_20 l1 l2_24)
set_option maxHeartbeats 4000000 in
set_option maxRecDepth 20000 in
theorem t_Mo_dark  {S : St} {l1 : Int32} {w : Int32 × St} (h : f_Mo_dark S l1 = some w) : Ct SM m_Mo_dark 8 [.ref 0, .int l1] S (some w.1) w.2 := by
  unfold f_Mo_dark at h
  refine Ct.of pn_Mo (Nat.le_of_ble_eq_true rfl) ?_
  show G SM m_Mo_dark 8 (some w.1) w.2 0 [(0, .ref 0), (1, .int l1)] [] S
  refine G_iload_n 1 rfl d_Mo_dark_0 ?_
  refine G_iconst 1 (by decide) d_Mo_dark_1 ?_
  refine G_bipush 100 (by decide) d_Mo_dark_2 ?_
  obtain ⟨v_4, q_4, h⟩ := ob_b h
  refine G_callS [.int l1, .int 1, .int 100] [] (t_Mo_in q_4) (by decide) (by decide) mt_Mo_in rfl ml_Mo_124 rfl (Nat.le_of_ble_eq_true rfl) d_Mo_dark_4 ?_
  refine G_if_ne 12 (by decide) d_Mo_dark_7 (fun c_7 => ?_) (fun c_7 => ?_)
  · replace h := ob_f h c_7
    refine G_aload_n 0 rfl d_Mo_dark_12 ?_
    refine G_getR fl_Mo_7 km_0 sm_0 rfl (by decide) d_Mo_dark_13 ?_
    refine G_aload_n 0 rfl d_Mo_dark_16 ?_
    refine G_getR fl_Mo_13 km_0 sm_0 rfl (by decide) d_Mo_dark_17 ?_
    obtain ⟨w_20, q_20, h⟩ := ob_b h
    refine G_callS [.ref 1, .ref 2] [] (t_Mo_copies km_1 sm_1 km_2 sm_2 q_20) (by decide) (by decide) mt_Mo_copies rfl ml_Mo_301 rfl (Nat.le_of_ble_eq_true rfl) d_Mo_dark_20 ?_
    refine G_iconst 0 (by decide) d_Mo_dark_23 ?_
    obtain ⟨l2_24, e_24, h⟩ := ob_s h
    refine G_istore_n [(2, .int l2_24), (0, .ref 0), (1, .int l1)] e_24 rfl (by decide) d_Mo_dark_24 ?_
    exact G_sub _ [1, 2, 0] rfl (t_Mo_dark_25 FU w_20 l1 l2_24 _ h)
  · replace h := ob_t h c_7
    refine G_iconst (-1) (by decide) d_Mo_dark_10 ?_
    cases h
    exact G_iret rfl d_Mo_dark_11
theorem d_Mo_daysOf_0 : decode m_Mo_daysOf.2.1 0 = .ok (.iconst 0, 1) := by decide +kernel
theorem d_Mo_daysOf_1 : decode m_Mo_daysOf.2.1 1 = .ok (.istore_n 2, 1) := by decide +kernel
theorem d_Mo_daysOf_2 : decode m_Mo_daysOf.2.1 2 = .ok (.iconst 0, 1) := by decide +kernel
theorem d_Mo_daysOf_3 : decode m_Mo_daysOf.2.1 3 = .ok (.istore_n 3, 1) := by decide +kernel
theorem d_Mo_daysOf_4 : decode m_Mo_daysOf.2.1 4 = .ok (.iload_n 3, 1) := by decide +kernel
theorem d_Mo_daysOf_5 : decode m_Mo_daysOf.2.1 5 = .ok (.aload_n 0, 1) := by decide +kernel
theorem d_Mo_daysOf_6 : decode m_Mo_daysOf.2.1 6 = .ok (.getfield 120, 3) := by decide +kernel
theorem d_Mo_daysOf_9 : decode m_Mo_daysOf.2.1 9 = .ok (.if_icmp .ge 39, 3) := by decide +kernel
theorem d_Mo_daysOf_12 : decode m_Mo_daysOf.2.1 12 = .ok (.aload_n 0, 1) := by decide +kernel
theorem d_Mo_daysOf_13 : decode m_Mo_daysOf.2.1 13 = .ok (.iload_n 3, 1) := by decide +kernel
theorem d_Mo_daysOf_14 : decode m_Mo_daysOf.2.1 14 = .ok (.invokevirtual 132, 3) := by decide +kernel
theorem d_Mo_daysOf_17 : decode m_Mo_daysOf.2.1 17 = .ok (.ifCond .eq 25, 3) := by decide +kernel
theorem d_Mo_daysOf_20 : decode m_Mo_daysOf.2.1 20 = .ok (.aload_n 0, 1) := by decide +kernel
theorem d_Mo_daysOf_21 : decode m_Mo_daysOf.2.1 21 = .ok (.getfield 19, 3) := by decide +kernel
theorem d_Mo_daysOf_24 : decode m_Mo_daysOf.2.1 24 = .ok (.iload_n 3, 1) := by decide +kernel
theorem d_Mo_daysOf_25 : decode m_Mo_daysOf.2.1 25 = .ok (.iaload, 1) := by decide +kernel
theorem d_Mo_daysOf_26 : decode m_Mo_daysOf.2.1 26 = .ok (.iload_n 1, 1) := by decide +kernel
theorem d_Mo_daysOf_27 : decode m_Mo_daysOf.2.1 27 = .ok (.if_icmp .ne 15, 3) := by decide +kernel
theorem d_Mo_daysOf_30 : decode m_Mo_daysOf.2.1 30 = .ok (.iload_n 2, 1) := by decide +kernel
theorem d_Mo_daysOf_31 : decode m_Mo_daysOf.2.1 31 = .ok (.aload_n 0, 1) := by decide +kernel
theorem d_Mo_daysOf_32 : decode m_Mo_daysOf.2.1 32 = .ok (.getfield 7, 3) := by decide +kernel
theorem d_Mo_daysOf_35 : decode m_Mo_daysOf.2.1 35 = .ok (.bipush 48, 2) := by decide +kernel
theorem d_Mo_daysOf_37 : decode m_Mo_daysOf.2.1 37 = .ok (.iload_n 3, 1) := by decide +kernel
theorem d_Mo_daysOf_38 : decode m_Mo_daysOf.2.1 38 = .ok (.iadd, 1) := by decide +kernel
theorem d_Mo_daysOf_39 : decode m_Mo_daysOf.2.1 39 = .ok (.iaload, 1) := by decide +kernel
theorem d_Mo_daysOf_40 : decode m_Mo_daysOf.2.1 40 = .ok (.iadd, 1) := by decide +kernel
theorem d_Mo_daysOf_41 : decode m_Mo_daysOf.2.1 41 = .ok (.istore_n 2, 1) := by decide +kernel
theorem d_Mo_daysOf_42 : decode m_Mo_daysOf.2.1 42 = .ok (.iinc 3 1, 3) := by decide +kernel
theorem d_Mo_daysOf_45 : decode m_Mo_daysOf.2.1 45 = .ok (.goto (-41), 3) := by decide +kernel
theorem d_Mo_daysOf_48 : decode m_Mo_daysOf.2.1 48 = .ok (.iload_n 2, 1) := by decide +kernel
theorem d_Mo_daysOf_49 : decode m_Mo_daysOf.2.1 49 = .ok (.ireturn, 1) := by decide +kernel
def f_Mo_daysOf_42 (k_4 : St → Int32 → Int32 → Int32 → Option (Int32)) (S : St) (l1 : Int32) (l2 : Int32) (l3 : Int32) : Option (Int32) :=
    (some (l3 + 1)).bind fun l3_42 =>
    k_4 S l1 l2 l3_42
set_option maxHeartbeats 4000000 in
set_option maxRecDepth 20000 in
theorem t_Mo_daysOf_42  {k_4 : St → Int32 → Int32 → Int32 → Option (Int32)} (hk_4 : ∀ (S : St) (l1 : Int32) (l2 : Int32) (l3 : Int32) (w : Int32), k_4 S l1 l2 l3 = some w → G SM m_Mo_daysOf 4 (some w) S 4 [(0, .ref 0), (1, .int l1), (2, .int l2), (3, .int l3)] [] S) (S : St) (l1 : Int32) (l2 : Int32) (l3 : Int32) (w : Int32) (h : f_Mo_daysOf_42 k_4 S l1 l2 l3 = some w) : G SM m_Mo_daysOf 4 (some w) S 42 [(0, .ref 0), (1, .int l1), (2, .int l2), (3, .int l3)] [] S := by
  unfold f_Mo_daysOf_42 at h
  obtain ⟨l3_42, e_42, h⟩ := ob_s h
  refine G_iinc 1 3 [(3, .int l3_42), (0, .ref 0), (1, .int l1), (2, .int l2)] (by decide) rfl e_42 rfl (by decide) d_Mo_daysOf_42 ?_
  refine G_goto 4 (by decide) d_Mo_daysOf_45 ?_
  exact G_sub _ [1, 2, 3, 0] rfl (hk_4 S l1 l2 l3_42 _ h)
def f_Mo_daysOf_4 : Nat → St → Int32 → Int32 → Int32 → Option (Int32)
  | 0, _, _, _, _ => none
  | n + 1, S, l1, l2, l3 =>
    if (S 0 5) ≤ l3 then (
    some l2)
    else (
    (f_Mo_isLeft S l3).bind fun v_14 =>
    if v_14 = 0 then (
    f_Mo_daysOf_42 (f_Mo_daysOf_4 n) S l1 l2 l3)
    else (
    if ig l3 24 then (
    if (S 4 l3.toNatClampNeg) = l1 then (
    if ig (48 + l3) 99 then (
    (some (l2 + (S 1 (48 + l3).toNatClampNeg))).bind fun l2_41 =>
    f_Mo_daysOf_42 (f_Mo_daysOf_4 n) S l1 l2_41 l3) else none)
    else (
    f_Mo_daysOf_42 (f_Mo_daysOf_4 n) S l1 l2 l3)) else none))
set_option maxHeartbeats 4000000 in
set_option maxRecDepth 20000 in
theorem t_Mo_daysOf_4  : ∀ (n : Nat) (S : St) (l1 : Int32) (l2 : Int32) (l3 : Int32) (w : Int32), f_Mo_daysOf_4 n S l1 l2 l3 = some w → G SM m_Mo_daysOf 4 (some w) S 4 [(0, .ref 0), (1, .int l1), (2, .int l2), (3, .int l3)] [] S := by
  intro n
  induction n with
  | zero =>
    intro S l1 l2 l3 w h
    rw [f_Mo_daysOf_4] at h
    cases h
  | succ n ih =>
    intro S l1 l2 l3 w h
    rw [f_Mo_daysOf_4] at h
    refine G_iload_n 3 rfl d_Mo_daysOf_4 ?_
    refine G_aload_n 0 rfl d_Mo_daysOf_5 ?_
    refine G_getI fl_Mo_120 km_0 sm_0 rfl d_Mo_daysOf_6 ?_
    refine G_icmp_ge 48 (by decide) d_Mo_daysOf_9 (fun c_9 => ?_) (fun c_9 => ?_)
    · replace h := ob_t h c_9
      refine G_iload_n 2 rfl d_Mo_daysOf_48 ?_
      cases h
      exact G_iret rfl d_Mo_daysOf_49
    · replace h := ob_f h c_9
      refine G_aload_n 0 rfl d_Mo_daysOf_12 ?_
      refine G_iload_n 3 rfl d_Mo_daysOf_13 ?_
      obtain ⟨v_14, q_14, h⟩ := ob_b h
      refine G_callV [.int l3] [] (t_Mo_isLeft q_14) (by decide) (by decide) mv_Mo_isLeft rfl ml_Mo_132 km_0 sm_0 cl_12 rfl (Nat.le_of_ble_eq_true rfl) d_Mo_daysOf_14 ?_
      refine G_if_eq 42 (by decide) d_Mo_daysOf_17 (fun c_17 => ?_) (fun c_17 => ?_)
      · replace h := ob_t h c_17
        exact G_sub _ [0, 1, 2, 3] rfl (t_Mo_daysOf_42 ih S l1 l2 l3 _ h)
      · replace h := ob_f h c_17
        refine G_aload_n 0 rfl d_Mo_daysOf_20 ?_
        refine G_getR fl_Mo_19 km_0 sm_0 rfl (by decide) d_Mo_daysOf_21 ?_
        refine G_iload_n 3 rfl d_Mo_daysOf_24 ?_
        obtain ⟨g_25, h⟩ := ob_g h
        refine G_iaload km_4 sm_4 g_25 d_Mo_daysOf_25 ?_
        refine G_iload_n 1 rfl d_Mo_daysOf_26 ?_
        refine G_icmp_ne 42 (by decide) d_Mo_daysOf_27 (fun c_27 => ?_) (fun c_27 => ?_)
        · replace h := ob_f h c_27
          exact G_sub _ [0, 1, 2, 3] rfl (t_Mo_daysOf_42 ih S l1 l2 l3 _ h)
        · replace h := ob_t h c_27
          refine G_iload_n 2 rfl d_Mo_daysOf_30 ?_
          refine G_aload_n 0 rfl d_Mo_daysOf_31 ?_
          refine G_getR fl_Mo_7 km_0 sm_0 rfl (by decide) d_Mo_daysOf_32 ?_
          refine G_bipush 48 (by decide) d_Mo_daysOf_35 ?_
          refine G_iload_n 3 rfl d_Mo_daysOf_37 ?_
          refine G_iadd d_Mo_daysOf_38 ?_
          obtain ⟨g_39, h⟩ := ob_g h
          refine G_iaload km_1 sm_1 g_39 d_Mo_daysOf_39 ?_
          refine G_iadd d_Mo_daysOf_40 ?_
          obtain ⟨l2_41, e_41, h⟩ := ob_s h
          refine G_istore_n [(2, .int l2_41), (0, .ref 0), (1, .int l1), (3, .int l3)] e_41 rfl (by decide) d_Mo_daysOf_41 ?_
          exact G_sub _ [1, 2, 0, 3] rfl (t_Mo_daysOf_42 ih S l1 l2_41 l3 _ h)
def f_Mo_daysOf (S : St) (l1 : Int32) : Option (Int32) :=
    (some (0 : Int32)).bind fun l2_1 =>
    (some (0 : Int32)).bind fun l3_3 =>
    f_Mo_daysOf_4 FU S l1 l2_1 l3_3
set_option maxHeartbeats 4000000 in
set_option maxRecDepth 20000 in
theorem t_Mo_daysOf  {S : St} {l1 : Int32} {w : Int32} (h : f_Mo_daysOf S l1 = some w) : Ct SM m_Mo_daysOf 4 [.ref 0, .int l1] S (some w) S := by
  unfold f_Mo_daysOf at h
  refine Ct.of pn_Mo (Nat.le_of_ble_eq_true rfl) ?_
  show G SM m_Mo_daysOf 4 (some w) S 0 [(0, .ref 0), (1, .int l1)] [] S
  refine G_iconst 0 (by decide) d_Mo_daysOf_0 ?_
  obtain ⟨l2_1, e_1, h⟩ := ob_s h
  refine G_istore_n [(2, .int l2_1), (0, .ref 0), (1, .int l1)] e_1 rfl (by decide) d_Mo_daysOf_1 ?_
  refine G_iconst 0 (by decide) d_Mo_daysOf_2 ?_
  obtain ⟨l3_3, e_3, h⟩ := ob_s h
  refine G_istore_n [(3, .int l3_3), (2, .int l2_1), (0, .ref 0), (1, .int l1)] e_3 rfl (by decide) d_Mo_daysOf_3 ?_
  exact G_sub _ [2, 3, 1, 0] rfl (t_Mo_daysOf_4 FU S l1 l2_1 l3_3 _ h)
theorem d_Mo_pride_0 : decode m_Mo_pride.2.1 0 = .ok (.iload_n 1, 1) := by decide +kernel
theorem d_Mo_pride_1 : decode m_Mo_pride.2.1 1 = .ok (.iconst 0, 1) := by decide +kernel
theorem d_Mo_pride_2 : decode m_Mo_pride.2.1 2 = .ok (.iconst 1, 1) := by decide +kernel
theorem d_Mo_pride_3 : decode m_Mo_pride.2.1 3 = .ok (.invokestatic 124, 3) := by decide +kernel
theorem d_Mo_pride_6 : decode m_Mo_pride.2.1 6 = .ok (.ifCond .ne 5, 3) := by decide +kernel
theorem d_Mo_pride_9 : decode m_Mo_pride.2.1 9 = .ok (.iconst (-1), 1) := by decide +kernel
theorem d_Mo_pride_10 : decode m_Mo_pride.2.1 10 = .ok (.ireturn, 1) := by decide +kernel
theorem d_Mo_pride_11 : decode m_Mo_pride.2.1 11 = .ok (.bipush (-2), 2) := by decide +kernel
theorem d_Mo_pride_13 : decode m_Mo_pride.2.1 13 = .ok (.istore_n 2, 1) := by decide +kernel
theorem d_Mo_pride_14 : decode m_Mo_pride.2.1 14 = .ok (.iconst 0, 1) := by decide +kernel
theorem d_Mo_pride_15 : decode m_Mo_pride.2.1 15 = .ok (.istore_n 3, 1) := by decide +kernel
theorem d_Mo_pride_16 : decode m_Mo_pride.2.1 16 = .ok (.iload_n 3, 1) := by decide +kernel
theorem d_Mo_pride_17 : decode m_Mo_pride.2.1 17 = .ok (.bipush 16, 2) := by decide +kernel
theorem d_Mo_pride_19 : decode m_Mo_pride.2.1 19 = .ok (.if_icmp .ge 38, 3) := by decide +kernel
theorem d_Mo_pride_22 : decode m_Mo_pride.2.1 22 = .ok (.aload_n 0, 1) := by decide +kernel
theorem d_Mo_pride_23 : decode m_Mo_pride.2.1 23 = .ok (.iload_n 3, 1) := by decide +kernel
theorem d_Mo_pride_24 : decode m_Mo_pride.2.1 24 = .ok (.invokevirtual 256, 3) := by decide +kernel
theorem d_Mo_pride_27 : decode m_Mo_pride.2.1 27 = .ok (.ifCond .le 24, 3) := by decide +kernel
theorem d_Mo_pride_30 : decode m_Mo_pride.2.1 30 = .ok (.iload_n 2, 1) := by decide +kernel
theorem d_Mo_pride_31 : decode m_Mo_pride.2.1 31 = .ok (.bipush (-2), 2) := by decide +kernel
theorem d_Mo_pride_33 : decode m_Mo_pride.2.1 33 = .ok (.if_icmp .eq 16, 3) := by decide +kernel
theorem d_Mo_pride_36 : decode m_Mo_pride.2.1 36 = .ok (.aload_n 0, 1) := by decide +kernel
theorem d_Mo_pride_37 : decode m_Mo_pride.2.1 37 = .ok (.iload_n 3, 1) := by decide +kernel
theorem d_Mo_pride_38 : decode m_Mo_pride.2.1 38 = .ok (.invokevirtual 308, 3) := by decide +kernel
theorem d_Mo_pride_41 : decode m_Mo_pride.2.1 41 = .ok (.aload_n 0, 1) := by decide +kernel
theorem d_Mo_pride_42 : decode m_Mo_pride.2.1 42 = .ok (.iload_n 2, 1) := by decide +kernel
theorem d_Mo_pride_43 : decode m_Mo_pride.2.1 43 = .ok (.invokevirtual 308, 3) := by decide +kernel
theorem d_Mo_pride_46 : decode m_Mo_pride.2.1 46 = .ok (.if_icmp .le 5, 3) := by decide +kernel
theorem d_Mo_pride_49 : decode m_Mo_pride.2.1 49 = .ok (.iload_n 3, 1) := by decide +kernel
theorem d_Mo_pride_50 : decode m_Mo_pride.2.1 50 = .ok (.istore_n 2, 1) := by decide +kernel
theorem d_Mo_pride_51 : decode m_Mo_pride.2.1 51 = .ok (.iinc 3 1, 3) := by decide +kernel
theorem d_Mo_pride_54 : decode m_Mo_pride.2.1 54 = .ok (.goto (-38), 3) := by decide +kernel
theorem d_Mo_pride_57 : decode m_Mo_pride.2.1 57 = .ok (.iload_n 1, 1) := by decide +kernel
theorem d_Mo_pride_58 : decode m_Mo_pride.2.1 58 = .ok (.ifCond .ne 7, 3) := by decide +kernel
theorem d_Mo_pride_61 : decode m_Mo_pride.2.1 61 = .ok (.iload_n 2, 1) := by decide +kernel
theorem d_Mo_pride_62 : decode m_Mo_pride.2.1 62 = .ok (.goto 18, 3) := by decide +kernel
theorem d_Mo_pride_65 : decode m_Mo_pride.2.1 65 = .ok (.iload_n 2, 1) := by decide +kernel
theorem d_Mo_pride_66 : decode m_Mo_pride.2.1 66 = .ok (.bipush (-2), 2) := by decide +kernel
theorem d_Mo_pride_68 : decode m_Mo_pride.2.1 68 = .ok (.if_icmp .ne 7, 3) := by decide +kernel
theorem d_Mo_pride_71 : decode m_Mo_pride.2.1 71 = .ok (.iconst 0, 1) := by decide +kernel
theorem d_Mo_pride_72 : decode m_Mo_pride.2.1 72 = .ok (.goto 8, 3) := by decide +kernel
theorem d_Mo_pride_75 : decode m_Mo_pride.2.1 75 = .ok (.aload_n 0, 1) := by decide +kernel
theorem d_Mo_pride_76 : decode m_Mo_pride.2.1 76 = .ok (.iload_n 2, 1) := by decide +kernel
theorem d_Mo_pride_77 : decode m_Mo_pride.2.1 77 = .ok (.invokevirtual 308, 3) := by decide +kernel
theorem d_Mo_pride_80 : decode m_Mo_pride.2.1 80 = .ok (.ireturn, 1) := by decide +kernel
def f_Mo_pride_51 (k_16 : St → Int32 → Int32 → Int32 → Option (Int32)) (S : St) (l1 : Int32) (l2 : Int32) (l3 : Int32) : Option (Int32) :=
    (some (l3 + 1)).bind fun l3_51 =>
    k_16 S l1 l2 l3_51
set_option maxHeartbeats 4000000 in
set_option maxRecDepth 20000 in
theorem t_Mo_pride_51  {k_16 : St → Int32 → Int32 → Int32 → Option (Int32)} (hk_16 : ∀ (S : St) (l1 : Int32) (l2 : Int32) (l3 : Int32) (w : Int32), k_16 S l1 l2 l3 = some w → G SM m_Mo_pride 5 (some w) S 16 [(0, .ref 0), (1, .int l1), (2, .int l2), (3, .int l3)] [] S) (S : St) (l1 : Int32) (l2 : Int32) (l3 : Int32) (w : Int32) (h : f_Mo_pride_51 k_16 S l1 l2 l3 = some w) : G SM m_Mo_pride 5 (some w) S 51 [(0, .ref 0), (1, .int l1), (2, .int l2), (3, .int l3)] [] S := by
  unfold f_Mo_pride_51 at h
  obtain ⟨l3_51, e_51, h⟩ := ob_s h
  refine G_iinc 1 3 [(3, .int l3_51), (0, .ref 0), (1, .int l1), (2, .int l2)] (by decide) rfl e_51 rfl (by decide) d_Mo_pride_51 ?_
  refine G_goto 16 (by decide) d_Mo_pride_54 ?_
  exact G_sub _ [1, 2, 3, 0] rfl (hk_16 S l1 l2 l3_51 _ h)
def f_Mo_pride_49 (k_16 : St → Int32 → Int32 → Int32 → Option (Int32)) (S : St) (l1 : Int32) (l3 : Int32) : Option (Int32) :=
    f_Mo_pride_51 k_16 S l1 l3 l3
set_option maxHeartbeats 4000000 in
set_option maxRecDepth 20000 in
theorem t_Mo_pride_49  {k_16 : St → Int32 → Int32 → Int32 → Option (Int32)} (hk_16 : ∀ (S : St) (l1 : Int32) (l2 : Int32) (l3 : Int32) (w : Int32), k_16 S l1 l2 l3 = some w → G SM m_Mo_pride 5 (some w) S 16 [(0, .ref 0), (1, .int l1), (2, .int l2), (3, .int l3)] [] S) (S : St) (l1 : Int32) (l3 : Int32) (w : Int32) (h : f_Mo_pride_49 k_16 S l1 l3 = some w) : G SM m_Mo_pride 5 (some w) S 49 [(0, .ref 0), (1, .int l1), (3, .int l3)] [] S := by
  unfold f_Mo_pride_49 at h
  refine G_iload_n 2 rfl d_Mo_pride_49 ?_
  refine G_istore_n [(2, .int l3), (0, .ref 0), (1, .int l1), (3, .int l3)] rfl rfl (by decide) d_Mo_pride_50 ?_
  exact G_sub _ [1, 2, 0, 3] rfl (t_Mo_pride_51 hk_16 S l1 l3 l3 _ h)
def f_Mo_pride_16 : Nat → St → Int32 → Int32 → Int32 → Option (Int32)
  | 0, _, _, _, _ => none
  | n + 1, S, l1, l2, l3 =>
    if (16 : Int32) ≤ l3 then (
    if l1 = 0 then (
    some l2)
    else (
    if l2 = (-2) then (
    some (0 : Int32))
    else (
    (f_Mo_daysOf S l2).bind fun v_77 =>
    some v_77)))
    else (
    (f_Mo_leftOf S l3).bind fun v_24 =>
    if v_24 ≤ 0 then (
    f_Mo_pride_51 (f_Mo_pride_16 n) S l1 l2 l3)
    else (
    if l2 = (-2) then (
    f_Mo_pride_49 (f_Mo_pride_16 n) S l1 l3)
    else (
    (f_Mo_daysOf S l3).bind fun v_38 =>
    (f_Mo_daysOf S l2).bind fun v_43 =>
    if v_38 ≤ v_43 then (
    f_Mo_pride_51 (f_Mo_pride_16 n) S l1 l2 l3)
    else (
    f_Mo_pride_49 (f_Mo_pride_16 n) S l1 l3))))
set_option maxHeartbeats 4000000 in
set_option maxRecDepth 20000 in
theorem t_Mo_pride_16  : ∀ (n : Nat) (S : St) (l1 : Int32) (l2 : Int32) (l3 : Int32) (w : Int32), f_Mo_pride_16 n S l1 l2 l3 = some w → G SM m_Mo_pride 5 (some w) S 16 [(0, .ref 0), (1, .int l1), (2, .int l2), (3, .int l3)] [] S := by
  intro n
  induction n with
  | zero =>
    intro S l1 l2 l3 w h
    rw [f_Mo_pride_16] at h
    cases h
  | succ n ih =>
    intro S l1 l2 l3 w h
    rw [f_Mo_pride_16] at h
    refine G_iload_n 3 rfl d_Mo_pride_16 ?_
    refine G_bipush 16 (by decide) d_Mo_pride_17 ?_
    refine G_icmp_ge 57 (by decide) d_Mo_pride_19 (fun c_19 => ?_) (fun c_19 => ?_)
    · replace h := ob_t h c_19
      refine G_iload_n 1 rfl d_Mo_pride_57 ?_
      refine G_if_ne 65 (by decide) d_Mo_pride_58 (fun c_58 => ?_) (fun c_58 => ?_)
      · replace h := ob_f h c_58
        refine G_iload_n 2 rfl d_Mo_pride_65 ?_
        refine G_bipush (-2) (by decide) d_Mo_pride_66 ?_
        refine G_icmp_ne 75 (by decide) d_Mo_pride_68 (fun c_68 => ?_) (fun c_68 => ?_)
        · replace h := ob_f h c_68
          refine G_aload_n 0 rfl d_Mo_pride_75 ?_
          refine G_iload_n 2 rfl d_Mo_pride_76 ?_
          obtain ⟨v_77, q_77, h⟩ := ob_b h
          refine G_callV [.int l2] [] (t_Mo_daysOf q_77) (by decide) (by decide) mv_Mo_daysOf rfl ml_Mo_308 km_0 sm_0 cl_12 rfl (Nat.le_of_ble_eq_true rfl) d_Mo_pride_77 ?_
          cases h
          exact G_iret rfl d_Mo_pride_80
        · replace h := ob_t h c_68
          refine G_iconst 0 (by decide) d_Mo_pride_71 ?_
          refine G_goto 80 (by decide) d_Mo_pride_72 ?_
          cases h
          exact G_iret rfl d_Mo_pride_80
      · replace h := ob_t h c_58
        refine G_iload_n 2 rfl d_Mo_pride_61 ?_
        refine G_goto 80 (by decide) d_Mo_pride_62 ?_
        cases h
        exact G_iret rfl d_Mo_pride_80
    · replace h := ob_f h c_19
      refine G_aload_n 0 rfl d_Mo_pride_22 ?_
      refine G_iload_n 3 rfl d_Mo_pride_23 ?_
      obtain ⟨v_24, q_24, h⟩ := ob_b h
      refine G_callV [.int l3] [] (t_Mo_leftOf q_24) (by decide) (by decide) mv_Mo_leftOf rfl ml_Mo_256 km_0 sm_0 cl_12 rfl (Nat.le_of_ble_eq_true rfl) d_Mo_pride_24 ?_
      refine G_if_le 51 (by decide) d_Mo_pride_27 (fun c_27 => ?_) (fun c_27 => ?_)
      · replace h := ob_t h c_27
        exact G_sub _ [0, 1, 2, 3] rfl (t_Mo_pride_51 ih S l1 l2 l3 _ h)
      · replace h := ob_f h c_27
        refine G_iload_n 2 rfl d_Mo_pride_30 ?_
        refine G_bipush (-2) (by decide) d_Mo_pride_31 ?_
        refine G_icmp_eq 49 (by decide) d_Mo_pride_33 (fun c_33 => ?_) (fun c_33 => ?_)
        · replace h := ob_t h c_33
          exact G_sub _ [0, 1, 3] rfl (t_Mo_pride_49 ih S l1 l3 _ h)
        · replace h := ob_f h c_33
          refine G_aload_n 0 rfl d_Mo_pride_36 ?_
          refine G_iload_n 3 rfl d_Mo_pride_37 ?_
          obtain ⟨v_38, q_38, h⟩ := ob_b h
          refine G_callV [.int l3] [] (t_Mo_daysOf q_38) (by decide) (by decide) mv_Mo_daysOf rfl ml_Mo_308 km_0 sm_0 cl_12 rfl (Nat.le_of_ble_eq_true rfl) d_Mo_pride_38 ?_
          refine G_aload_n 0 rfl d_Mo_pride_41 ?_
          refine G_iload_n 2 rfl d_Mo_pride_42 ?_
          obtain ⟨v_43, q_43, h⟩ := ob_b h
          refine G_callV [.int l2] [.int v_38] (t_Mo_daysOf q_43) (by decide) (by decide) mv_Mo_daysOf rfl ml_Mo_308 km_0 sm_0 cl_12 rfl (Nat.le_of_ble_eq_true rfl) d_Mo_pride_43 ?_
          refine G_icmp_le 51 (by decide) d_Mo_pride_46 (fun c_46 => ?_) (fun c_46 => ?_)
          · replace h := ob_t h c_46
            exact G_sub _ [0, 1, 2, 3] rfl (t_Mo_pride_51 ih S l1 l2 l3 _ h)
          · replace h := ob_f h c_46
            exact G_sub _ [0, 1, 3] rfl (t_Mo_pride_49 ih S l1 l3 _ h)
def f_Mo_pride (S : St) (l1 : Int32) : Option (Int32) :=
    (f_Mo_in S l1 (0 : Int32) (1 : Int32)).bind fun v_3 =>
    if v_3 = 0 then (
    some ((-1) : Int32))
    else (
    (some ((-2) : Int32)).bind fun l2_13 =>
    (some (0 : Int32)).bind fun l3_15 =>
    f_Mo_pride_16 FU S l1 l2_13 l3_15)
set_option maxHeartbeats 4000000 in
set_option maxRecDepth 20000 in
theorem t_Mo_pride  {S : St} {l1 : Int32} {w : Int32} (h : f_Mo_pride S l1 = some w) : Ct SM m_Mo_pride 5 [.ref 0, .int l1] S (some w) S := by
  unfold f_Mo_pride at h
  refine Ct.of pn_Mo (Nat.le_of_ble_eq_true rfl) ?_
  show G SM m_Mo_pride 5 (some w) S 0 [(0, .ref 0), (1, .int l1)] [] S
  refine G_iload_n 1 rfl d_Mo_pride_0 ?_
  refine G_iconst 0 (by decide) d_Mo_pride_1 ?_
  refine G_iconst 1 (by decide) d_Mo_pride_2 ?_
  obtain ⟨v_3, q_3, h⟩ := ob_b h
  refine G_callS [.int l1, .int 0, .int 1] [] (t_Mo_in q_3) (by decide) (by decide) mt_Mo_in rfl ml_Mo_124 rfl (Nat.le_of_ble_eq_true rfl) d_Mo_pride_3 ?_
  refine G_if_ne 11 (by decide) d_Mo_pride_6 (fun c_6 => ?_) (fun c_6 => ?_)
  · replace h := ob_f h c_6
    refine G_bipush (-2) (by decide) d_Mo_pride_11 ?_
    obtain ⟨l2_13, e_13, h⟩ := ob_s h
    refine G_istore_n [(2, .int l2_13), (0, .ref 0), (1, .int l1)] e_13 rfl (by decide) d_Mo_pride_13 ?_
    refine G_iconst 0 (by decide) d_Mo_pride_14 ?_
    obtain ⟨l3_15, e_15, h⟩ := ob_s h
    refine G_istore_n [(3, .int l3_15), (2, .int l2_13), (0, .ref 0), (1, .int l1)] e_15 rfl (by decide) d_Mo_pride_15 ?_
    exact G_sub _ [2, 3, 1, 0] rfl (t_Mo_pride_16 FU S l1 l2_13 l3_15 _ h)
  · replace h := ob_t h c_6
    refine G_iconst (-1) (by decide) d_Mo_pride_9 ?_
    cases h
    exact G_iret rfl d_Mo_pride_10
theorem d_Mo_oldest_0 : decode m_Mo_oldest.2.1 0 = .ok (.bipush (-2), 2) := by decide +kernel
theorem d_Mo_oldest_2 : decode m_Mo_oldest.2.1 2 = .ok (.istore_n 1, 1) := by decide +kernel
theorem d_Mo_oldest_3 : decode m_Mo_oldest.2.1 3 = .ok (.iconst 0, 1) := by decide +kernel
theorem d_Mo_oldest_4 : decode m_Mo_oldest.2.1 4 = .ok (.istore_n 2, 1) := by decide +kernel
theorem d_Mo_oldest_5 : decode m_Mo_oldest.2.1 5 = .ok (.iload_n 2, 1) := by decide +kernel
theorem d_Mo_oldest_6 : decode m_Mo_oldest.2.1 6 = .ok (.aload_n 0, 1) := by decide +kernel
theorem d_Mo_oldest_7 : decode m_Mo_oldest.2.1 7 = .ok (.getfield 120, 3) := by decide +kernel
theorem d_Mo_oldest_10 : decode m_Mo_oldest.2.1 10 = .ok (.if_icmp .ge 46, 3) := by decide +kernel
theorem d_Mo_oldest_13 : decode m_Mo_oldest.2.1 13 = .ok (.aload_n 0, 1) := by decide +kernel
theorem d_Mo_oldest_14 : decode m_Mo_oldest.2.1 14 = .ok (.iload_n 2, 1) := by decide +kernel
theorem d_Mo_oldest_15 : decode m_Mo_oldest.2.1 15 = .ok (.invokevirtual 132, 3) := by decide +kernel
theorem d_Mo_oldest_18 : decode m_Mo_oldest.2.1 18 = .ok (.ifCond .eq 32, 3) := by decide +kernel
theorem d_Mo_oldest_21 : decode m_Mo_oldest.2.1 21 = .ok (.iload_n 1, 1) := by decide +kernel
theorem d_Mo_oldest_22 : decode m_Mo_oldest.2.1 22 = .ok (.bipush (-2), 2) := by decide +kernel
theorem d_Mo_oldest_24 : decode m_Mo_oldest.2.1 24 = .ok (.if_icmp .eq 24, 3) := by decide +kernel
theorem d_Mo_oldest_27 : decode m_Mo_oldest.2.1 27 = .ok (.aload_n 0, 1) := by decide +kernel
theorem d_Mo_oldest_28 : decode m_Mo_oldest.2.1 28 = .ok (.getfield 7, 3) := by decide +kernel
theorem d_Mo_oldest_31 : decode m_Mo_oldest.2.1 31 = .ok (.bipush 48, 2) := by decide +kernel
theorem d_Mo_oldest_33 : decode m_Mo_oldest.2.1 33 = .ok (.iload_n 2, 1) := by decide +kernel
theorem d_Mo_oldest_34 : decode m_Mo_oldest.2.1 34 = .ok (.iadd, 1) := by decide +kernel
theorem d_Mo_oldest_35 : decode m_Mo_oldest.2.1 35 = .ok (.iaload, 1) := by decide +kernel
theorem d_Mo_oldest_36 : decode m_Mo_oldest.2.1 36 = .ok (.aload_n 0, 1) := by decide +kernel
theorem d_Mo_oldest_37 : decode m_Mo_oldest.2.1 37 = .ok (.getfield 7, 3) := by decide +kernel
theorem d_Mo_oldest_40 : decode m_Mo_oldest.2.1 40 = .ok (.bipush 48, 2) := by decide +kernel
theorem d_Mo_oldest_42 : decode m_Mo_oldest.2.1 42 = .ok (.iload_n 1, 1) := by decide +kernel
theorem d_Mo_oldest_43 : decode m_Mo_oldest.2.1 43 = .ok (.iadd, 1) := by decide +kernel
theorem d_Mo_oldest_44 : decode m_Mo_oldest.2.1 44 = .ok (.iaload, 1) := by decide +kernel
theorem d_Mo_oldest_45 : decode m_Mo_oldest.2.1 45 = .ok (.if_icmp .le 5, 3) := by decide +kernel
theorem d_Mo_oldest_48 : decode m_Mo_oldest.2.1 48 = .ok (.iload_n 2, 1) := by decide +kernel
theorem d_Mo_oldest_49 : decode m_Mo_oldest.2.1 49 = .ok (.istore_n 1, 1) := by decide +kernel
theorem d_Mo_oldest_50 : decode m_Mo_oldest.2.1 50 = .ok (.iinc 2 1, 3) := by decide +kernel
theorem d_Mo_oldest_53 : decode m_Mo_oldest.2.1 53 = .ok (.goto (-48), 3) := by decide +kernel
theorem d_Mo_oldest_56 : decode m_Mo_oldest.2.1 56 = .ok (.iload_n 1, 1) := by decide +kernel
theorem d_Mo_oldest_57 : decode m_Mo_oldest.2.1 57 = .ok (.ireturn, 1) := by decide +kernel
def f_Mo_oldest_50 (k_5 : St → Int32 → Int32 → Option (Int32)) (S : St) (l1 : Int32) (l2 : Int32) : Option (Int32) :=
    (some (l2 + 1)).bind fun l2_50 =>
    k_5 S l1 l2_50
set_option maxHeartbeats 4000000 in
set_option maxRecDepth 20000 in
theorem t_Mo_oldest_50  {k_5 : St → Int32 → Int32 → Option (Int32)} (hk_5 : ∀ (S : St) (l1 : Int32) (l2 : Int32) (w : Int32), k_5 S l1 l2 = some w → G SM m_Mo_oldest 4 (some w) S 5 [(0, .ref 0), (1, .int l1), (2, .int l2)] [] S) (S : St) (l1 : Int32) (l2 : Int32) (w : Int32) (h : f_Mo_oldest_50 k_5 S l1 l2 = some w) : G SM m_Mo_oldest 4 (some w) S 50 [(0, .ref 0), (1, .int l1), (2, .int l2)] [] S := by
  unfold f_Mo_oldest_50 at h
  obtain ⟨l2_50, e_50, h⟩ := ob_s h
  refine G_iinc 1 2 [(2, .int l2_50), (0, .ref 0), (1, .int l1)] (by decide) rfl e_50 rfl (by decide) d_Mo_oldest_50 ?_
  refine G_goto 5 (by decide) d_Mo_oldest_53 ?_
  exact G_sub _ [1, 2, 0] rfl (hk_5 S l1 l2_50 _ h)
def f_Mo_oldest_48 (k_5 : St → Int32 → Int32 → Option (Int32)) (S : St) (l2 : Int32) : Option (Int32) :=
    f_Mo_oldest_50 k_5 S l2 l2
set_option maxHeartbeats 4000000 in
set_option maxRecDepth 20000 in
theorem t_Mo_oldest_48  {k_5 : St → Int32 → Int32 → Option (Int32)} (hk_5 : ∀ (S : St) (l1 : Int32) (l2 : Int32) (w : Int32), k_5 S l1 l2 = some w → G SM m_Mo_oldest 4 (some w) S 5 [(0, .ref 0), (1, .int l1), (2, .int l2)] [] S) (S : St) (l2 : Int32) (w : Int32) (h : f_Mo_oldest_48 k_5 S l2 = some w) : G SM m_Mo_oldest 4 (some w) S 48 [(0, .ref 0), (2, .int l2)] [] S := by
  unfold f_Mo_oldest_48 at h
  refine G_iload_n 1 rfl d_Mo_oldest_48 ?_
  refine G_istore_n [(1, .int l2), (0, .ref 0), (2, .int l2)] rfl rfl (by decide) d_Mo_oldest_49 ?_
  exact G_sub _ [1, 0, 2] rfl (t_Mo_oldest_50 hk_5 S l2 l2 _ h)
def f_Mo_oldest_5 : Nat → St → Int32 → Int32 → Option (Int32)
  | 0, _, _, _ => none
  | n + 1, S, l1, l2 =>
    if (S 0 5) ≤ l2 then (
    some l1)
    else (
    (f_Mo_isLeft S l2).bind fun v_15 =>
    if v_15 = 0 then (
    f_Mo_oldest_50 (f_Mo_oldest_5 n) S l1 l2)
    else (
    if l1 = (-2) then (
    f_Mo_oldest_48 (f_Mo_oldest_5 n) S l2)
    else (
    if ig (48 + l2) 99 then (
    if ig (48 + l1) 99 then (
    if (S 1 (48 + l2).toNatClampNeg) ≤ (S 1 (48 + l1).toNatClampNeg) then (
    f_Mo_oldest_50 (f_Mo_oldest_5 n) S l1 l2)
    else (
    f_Mo_oldest_48 (f_Mo_oldest_5 n) S l2)) else none) else none)))
set_option maxHeartbeats 4000000 in
set_option maxRecDepth 20000 in
theorem t_Mo_oldest_5  : ∀ (n : Nat) (S : St) (l1 : Int32) (l2 : Int32) (w : Int32), f_Mo_oldest_5 n S l1 l2 = some w → G SM m_Mo_oldest 4 (some w) S 5 [(0, .ref 0), (1, .int l1), (2, .int l2)] [] S := by
  intro n
  induction n with
  | zero =>
    intro S l1 l2 w h
    rw [f_Mo_oldest_5] at h
    cases h
  | succ n ih =>
    intro S l1 l2 w h
    rw [f_Mo_oldest_5] at h
    refine G_iload_n 2 rfl d_Mo_oldest_5 ?_
    refine G_aload_n 0 rfl d_Mo_oldest_6 ?_
    refine G_getI fl_Mo_120 km_0 sm_0 rfl d_Mo_oldest_7 ?_
    refine G_icmp_ge 56 (by decide) d_Mo_oldest_10 (fun c_10 => ?_) (fun c_10 => ?_)
    · replace h := ob_t h c_10
      refine G_iload_n 1 rfl d_Mo_oldest_56 ?_
      cases h
      exact G_iret rfl d_Mo_oldest_57
    · replace h := ob_f h c_10
      refine G_aload_n 0 rfl d_Mo_oldest_13 ?_
      refine G_iload_n 2 rfl d_Mo_oldest_14 ?_
      obtain ⟨v_15, q_15, h⟩ := ob_b h
      refine G_callV [.int l2] [] (t_Mo_isLeft q_15) (by decide) (by decide) mv_Mo_isLeft rfl ml_Mo_132 km_0 sm_0 cl_12 rfl (Nat.le_of_ble_eq_true rfl) d_Mo_oldest_15 ?_
      refine G_if_eq 50 (by decide) d_Mo_oldest_18 (fun c_18 => ?_) (fun c_18 => ?_)
      · replace h := ob_t h c_18
        exact G_sub _ [0, 1, 2] rfl (t_Mo_oldest_50 ih S l1 l2 _ h)
      · replace h := ob_f h c_18
        refine G_iload_n 1 rfl d_Mo_oldest_21 ?_
        refine G_bipush (-2) (by decide) d_Mo_oldest_22 ?_
        refine G_icmp_eq 48 (by decide) d_Mo_oldest_24 (fun c_24 => ?_) (fun c_24 => ?_)
        · replace h := ob_t h c_24
          exact G_sub _ [0, 2] rfl (t_Mo_oldest_48 ih S l2 _ h)
        · replace h := ob_f h c_24
          refine G_aload_n 0 rfl d_Mo_oldest_27 ?_
          refine G_getR fl_Mo_7 km_0 sm_0 rfl (by decide) d_Mo_oldest_28 ?_
          refine G_bipush 48 (by decide) d_Mo_oldest_31 ?_
          refine G_iload_n 2 rfl d_Mo_oldest_33 ?_
          refine G_iadd d_Mo_oldest_34 ?_
          obtain ⟨g_35, h⟩ := ob_g h
          refine G_iaload km_1 sm_1 g_35 d_Mo_oldest_35 ?_
          refine G_aload_n 0 rfl d_Mo_oldest_36 ?_
          refine G_getR fl_Mo_7 km_0 sm_0 rfl (by decide) d_Mo_oldest_37 ?_
          refine G_bipush 48 (by decide) d_Mo_oldest_40 ?_
          refine G_iload_n 1 rfl d_Mo_oldest_42 ?_
          refine G_iadd d_Mo_oldest_43 ?_
          obtain ⟨g_44, h⟩ := ob_g h
          refine G_iaload km_1 sm_1 g_44 d_Mo_oldest_44 ?_
          refine G_icmp_le 50 (by decide) d_Mo_oldest_45 (fun c_45 => ?_) (fun c_45 => ?_)
          · replace h := ob_t h c_45
            exact G_sub _ [0, 1, 2] rfl (t_Mo_oldest_50 ih S l1 l2 _ h)
          · replace h := ob_f h c_45
            exact G_sub _ [0, 2] rfl (t_Mo_oldest_48 ih S l2 _ h)
def f_Mo_oldest (S : St) : Option (Int32) :=
    (some ((-2) : Int32)).bind fun l1_2 =>
    (some (0 : Int32)).bind fun l2_4 =>
    f_Mo_oldest_5 FU S l1_2 l2_4
set_option maxHeartbeats 4000000 in
set_option maxRecDepth 20000 in
theorem t_Mo_oldest  {S : St} {w : Int32} (h : f_Mo_oldest S = some w) : Ct SM m_Mo_oldest 4 [.ref 0] S (some w) S := by
  unfold f_Mo_oldest at h
  refine Ct.of pn_Mo (Nat.le_of_ble_eq_true rfl) ?_
  show G SM m_Mo_oldest 4 (some w) S 0 [(0, .ref 0)] [] S
  refine G_bipush (-2) (by decide) d_Mo_oldest_0 ?_
  obtain ⟨l1_2, e_2, h⟩ := ob_s h
  refine G_istore_n [(1, .int l1_2), (0, .ref 0)] e_2 rfl (by decide) d_Mo_oldest_2 ?_
  refine G_iconst 0 (by decide) d_Mo_oldest_3 ?_
  obtain ⟨l2_4, e_4, h⟩ := ob_s h
  refine G_istore_n [(2, .int l2_4), (1, .int l1_2), (0, .ref 0)] e_4 rfl (by decide) d_Mo_oldest_4 ?_
  exact G_sub _ [2, 1, 0] rfl (t_Mo_oldest_5 FU S l1_2 l2_4 _ h)
theorem d_Mo_chain_0 : decode m_Mo_chain.2.1 0 = .ok (.aload_n 0, 1) := by decide +kernel
theorem d_Mo_chain_1 : decode m_Mo_chain.2.1 1 = .ok (.iload_n 1, 1) := by decide +kernel
theorem d_Mo_chain_2 : decode m_Mo_chain.2.1 2 = .ok (.invokevirtual 128, 3) := by decide +kernel
theorem d_Mo_chain_5 : decode m_Mo_chain.2.1 5 = .ok (.ifCond .ne 5, 3) := by decide +kernel
theorem d_Mo_chain_8 : decode m_Mo_chain.2.1 8 = .ok (.iconst (-1), 1) := by decide +kernel
theorem d_Mo_chain_9 : decode m_Mo_chain.2.1 9 = .ok (.ireturn, 1) := by decide +kernel
theorem d_Mo_chain_10 : decode m_Mo_chain.2.1 10 = .ok (.iconst 0, 1) := by decide +kernel
theorem d_Mo_chain_11 : decode m_Mo_chain.2.1 11 = .ok (.istore_n 2, 1) := by decide +kernel
theorem d_Mo_chain_12 : decode m_Mo_chain.2.1 12 = .ok (.iload_n 1, 1) := by decide +kernel
theorem d_Mo_chain_13 : decode m_Mo_chain.2.1 13 = .ok (.istore_n 3, 1) := by decide +kernel
theorem d_Mo_chain_14 : decode m_Mo_chain.2.1 14 = .ok (.iload_n 3, 1) := by decide +kernel
theorem d_Mo_chain_15 : decode m_Mo_chain.2.1 15 = .ok (.iconst (-1), 1) := by decide +kernel
theorem d_Mo_chain_16 : decode m_Mo_chain.2.1 16 = .ok (.if_icmp .eq 17, 3) := by decide +kernel
theorem d_Mo_chain_19 : decode m_Mo_chain.2.1 19 = .ok (.iload_n 2, 1) := by decide +kernel
theorem d_Mo_chain_20 : decode m_Mo_chain.2.1 20 = .ok (.iconst 1, 1) := by decide +kernel
theorem d_Mo_chain_21 : decode m_Mo_chain.2.1 21 = .ok (.iadd, 1) := by decide +kernel
theorem d_Mo_chain_22 : decode m_Mo_chain.2.1 22 = .ok (.istore_n 2, 1) := by decide +kernel
theorem d_Mo_chain_23 : decode m_Mo_chain.2.1 23 = .ok (.aload_n 0, 1) := by decide +kernel
theorem d_Mo_chain_24 : decode m_Mo_chain.2.1 24 = .ok (.getfield 22, 3) := by decide +kernel
theorem d_Mo_chain_27 : decode m_Mo_chain.2.1 27 = .ok (.iload_n 3, 1) := by decide +kernel
theorem d_Mo_chain_28 : decode m_Mo_chain.2.1 28 = .ok (.iaload, 1) := by decide +kernel
theorem d_Mo_chain_29 : decode m_Mo_chain.2.1 29 = .ok (.istore_n 3, 1) := by decide +kernel
theorem d_Mo_chain_30 : decode m_Mo_chain.2.1 30 = .ok (.goto (-16), 3) := by decide +kernel
theorem d_Mo_chain_33 : decode m_Mo_chain.2.1 33 = .ok (.iload_n 2, 1) := by decide +kernel
theorem d_Mo_chain_34 : decode m_Mo_chain.2.1 34 = .ok (.ireturn, 1) := by decide +kernel
def f_Mo_chain_14 : Nat → St → Int32 → Int32 → Option (Int32)
  | 0, _, _, _ => none
  | n + 1, S, l2, l3 =>
    if l3 = (-1) then (
    some l2)
    else (
    (some (l2 + 1)).bind fun l2_22 =>
    if ig l3 24 then (
    (some (S 5 l3.toNatClampNeg)).bind fun l3_29 =>
    f_Mo_chain_14 n S l2_22 l3_29) else none)
set_option maxHeartbeats 4000000 in
set_option maxRecDepth 20000 in
theorem t_Mo_chain_14  : ∀ (n : Nat) (S : St) (l2 : Int32) (l3 : Int32) (w : Int32), f_Mo_chain_14 n S l2 l3 = some w → G SM m_Mo_chain 3 (some w) S 14 [(0, .ref 0), (2, .int l2), (3, .int l3)] [] S := by
  intro n
  induction n with
  | zero =>
    intro S l2 l3 w h
    rw [f_Mo_chain_14] at h
    cases h
  | succ n ih =>
    intro S l2 l3 w h
    rw [f_Mo_chain_14] at h
    refine G_iload_n 2 rfl d_Mo_chain_14 ?_
    refine G_iconst (-1) (by decide) d_Mo_chain_15 ?_
    refine G_icmp_eq 33 (by decide) d_Mo_chain_16 (fun c_16 => ?_) (fun c_16 => ?_)
    · replace h := ob_t h c_16
      refine G_iload_n 1 rfl d_Mo_chain_33 ?_
      cases h
      exact G_iret rfl d_Mo_chain_34
    · replace h := ob_f h c_16
      refine G_iload_n 1 rfl d_Mo_chain_19 ?_
      refine G_iconst 1 (by decide) d_Mo_chain_20 ?_
      refine G_iadd d_Mo_chain_21 ?_
      obtain ⟨l2_22, e_22, h⟩ := ob_s h
      refine G_istore_n [(2, .int l2_22), (0, .ref 0), (3, .int l3)] e_22 rfl (by decide) d_Mo_chain_22 ?_
      refine G_aload_n 1 rfl d_Mo_chain_23 ?_
      refine G_getR fl_Mo_22 km_0 sm_0 rfl (by decide) d_Mo_chain_24 ?_
      refine G_iload_n 2 rfl d_Mo_chain_27 ?_
      obtain ⟨g_28, h⟩ := ob_g h
      refine G_iaload km_5 sm_5 g_28 d_Mo_chain_28 ?_
      obtain ⟨l3_29, e_29, h⟩ := ob_s h
      refine G_istore_n [(3, .int l3_29), (2, .int l2_22), (0, .ref 0)] e_29 rfl (by decide) d_Mo_chain_29 ?_
      refine G_goto 14 (by decide) d_Mo_chain_30 ?_
      exact G_sub _ [2, 1, 0] rfl (ih S l2_22 l3_29 _ h)
def f_Mo_chain (S : St) (l1 : Int32) : Option (Int32) :=
    (f_Mo_isThing S l1).bind fun v_2 =>
    if v_2 = 0 then (
    some ((-1) : Int32))
    else (
    (some (0 : Int32)).bind fun l2_11 =>
    f_Mo_chain_14 FU S l2_11 l1)
set_option maxHeartbeats 4000000 in
set_option maxRecDepth 20000 in
theorem t_Mo_chain  {S : St} {l1 : Int32} {w : Int32} (h : f_Mo_chain S l1 = some w) : Ct SM m_Mo_chain 3 [.ref 0, .int l1] S (some w) S := by
  unfold f_Mo_chain at h
  refine Ct.of pn_Mo (Nat.le_of_ble_eq_true rfl) ?_
  show G SM m_Mo_chain 3 (some w) S 0 [(0, .ref 0), (1, .int l1)] [] S
  refine G_aload_n 0 rfl d_Mo_chain_0 ?_
  refine G_iload_n 1 rfl d_Mo_chain_1 ?_
  obtain ⟨v_2, q_2, h⟩ := ob_b h
  refine G_callV [.int l1] [] (t_Mo_isThing q_2) (by decide) (by decide) mv_Mo_isThing rfl ml_Mo_128 km_0 sm_0 cl_12 rfl (Nat.le_of_ble_eq_true rfl) d_Mo_chain_2 ?_
  refine G_if_ne 10 (by decide) d_Mo_chain_5 (fun c_5 => ?_) (fun c_5 => ?_)
  · replace h := ob_f h c_5
    refine G_iconst 0 (by decide) d_Mo_chain_10 ?_
    obtain ⟨l2_11, e_11, h⟩ := ob_s h
    refine G_istore_n [(2, .int l2_11), (0, .ref 0), (1, .int l1)] e_11 rfl (by decide) d_Mo_chain_11 ?_
    refine G_iload_n 2 rfl d_Mo_chain_12 ?_
    refine G_istore_n [(3, .int l1), (2, .int l2_11), (0, .ref 0), (1, .int l1)] rfl rfl (by decide) d_Mo_chain_13 ?_
    exact G_sub _ [2, 1, 0] rfl (t_Mo_chain_14 FU S l2_11 l1 _ h)
  · replace h := ob_t h c_5
    refine G_iconst (-1) (by decide) d_Mo_chain_8 ?_
    cases h
    exact G_iret rfl d_Mo_chain_9
theorem d_Mo_placeOf_0 : decode m_Mo_placeOf.2.1 0 = .ok (.iconst 0, 1) := by decide +kernel
theorem d_Mo_placeOf_1 : decode m_Mo_placeOf.2.1 1 = .ok (.istore_n 3, 1) := by decide +kernel
theorem d_Mo_placeOf_2 : decode m_Mo_placeOf.2.1 2 = .ok (.iload_n 3, 1) := by decide +kernel
theorem d_Mo_placeOf_3 : decode m_Mo_placeOf.2.1 3 = .ok (.iload_n 2, 1) := by decide +kernel
theorem d_Mo_placeOf_4 : decode m_Mo_placeOf.2.1 4 = .ok (.if_icmp .ge 21, 3) := by decide +kernel
theorem d_Mo_placeOf_7 : decode m_Mo_placeOf.2.1 7 = .ok (.aload_n 0, 1) := by decide +kernel
theorem d_Mo_placeOf_8 : decode m_Mo_placeOf.2.1 8 = .ok (.getfield 80, 3) := by decide +kernel
theorem d_Mo_placeOf_11 : decode m_Mo_placeOf.2.1 11 = .ok (.iload_n 3, 1) := by decide +kernel
theorem d_Mo_placeOf_12 : decode m_Mo_placeOf.2.1 12 = .ok (.iaload, 1) := by decide +kernel
theorem d_Mo_placeOf_13 : decode m_Mo_placeOf.2.1 13 = .ok (.iload_n 1, 1) := by decide +kernel
theorem d_Mo_placeOf_14 : decode m_Mo_placeOf.2.1 14 = .ok (.if_icmp .ne 5, 3) := by decide +kernel
theorem d_Mo_placeOf_17 : decode m_Mo_placeOf.2.1 17 = .ok (.iload_n 3, 1) := by decide +kernel
theorem d_Mo_placeOf_18 : decode m_Mo_placeOf.2.1 18 = .ok (.ireturn, 1) := by decide +kernel
theorem d_Mo_placeOf_19 : decode m_Mo_placeOf.2.1 19 = .ok (.iinc 3 1, 3) := by decide +kernel
theorem d_Mo_placeOf_22 : decode m_Mo_placeOf.2.1 22 = .ok (.goto (-20), 3) := by decide +kernel
theorem d_Mo_placeOf_25 : decode m_Mo_placeOf.2.1 25 = .ok (.iconst (-1), 1) := by decide +kernel
theorem d_Mo_placeOf_26 : decode m_Mo_placeOf.2.1 26 = .ok (.ireturn, 1) := by decide +kernel
def f_Mo_placeOf_2 : Nat → St → Int32 → Int32 → Int32 → Option (Int32)
  | 0, _, _, _, _ => none
  | n + 1, S, l1, l2, l3 =>
    if l2 ≤ l3 then (
    some ((-1) : Int32))
    else (
    if ig l3 12 then (
    if (S 24 l3.toNatClampNeg) = l1 then (
    some l3)
    else (
    (some (l3 + 1)).bind fun l3_19 =>
    f_Mo_placeOf_2 n S l1 l2 l3_19)) else none)
set_option maxHeartbeats 4000000 in
set_option maxRecDepth 20000 in
theorem t_Mo_placeOf_2  : ∀ (n : Nat) (S : St) (l1 : Int32) (l2 : Int32) (l3 : Int32) (w : Int32), f_Mo_placeOf_2 n S l1 l2 l3 = some w → G SM m_Mo_placeOf 1 (some w) S 2 [(0, .ref 0), (1, .int l1), (2, .int l2), (3, .int l3)] [] S := by
  intro n
  induction n with
  | zero =>
    intro S l1 l2 l3 w h
    rw [f_Mo_placeOf_2] at h
    cases h
  | succ n ih =>
    intro S l1 l2 l3 w h
    rw [f_Mo_placeOf_2] at h
    refine G_iload_n 3 rfl d_Mo_placeOf_2 ?_
    refine G_iload_n 2 rfl d_Mo_placeOf_3 ?_
    refine G_icmp_ge 25 (by decide) d_Mo_placeOf_4 (fun c_4 => ?_) (fun c_4 => ?_)
    · replace h := ob_t h c_4
      refine G_iconst (-1) (by decide) d_Mo_placeOf_25 ?_
      cases h
      exact G_iret rfl d_Mo_placeOf_26
    · replace h := ob_f h c_4
      refine G_aload_n 0 rfl d_Mo_placeOf_7 ?_
      refine G_getR fl_Mo_80 km_0 sm_0 rfl (by decide) d_Mo_placeOf_8 ?_
      refine G_iload_n 3 rfl d_Mo_placeOf_11 ?_
      obtain ⟨g_12, h⟩ := ob_g h
      refine G_iaload km_24 sm_24 g_12 d_Mo_placeOf_12 ?_
      refine G_iload_n 1 rfl d_Mo_placeOf_13 ?_
      refine G_icmp_ne 19 (by decide) d_Mo_placeOf_14 (fun c_14 => ?_) (fun c_14 => ?_)
      · replace h := ob_f h c_14
        obtain ⟨l3_19, e_19, h⟩ := ob_s h
        refine G_iinc 1 3 [(3, .int l3_19), (0, .ref 0), (1, .int l1), (2, .int l2)] (by decide) rfl e_19 rfl (by decide) d_Mo_placeOf_19 ?_
        refine G_goto 2 (by decide) d_Mo_placeOf_22 ?_
        exact G_sub _ [1, 2, 3, 0] rfl (ih S l1 l2 l3_19 _ h)
      · replace h := ob_t h c_14
        refine G_iload_n 3 rfl d_Mo_placeOf_17 ?_
        cases h
        exact G_iret rfl d_Mo_placeOf_18
def f_Mo_placeOf (S : St) (l1 : Int32) (l2 : Int32) : Option (Int32) :=
    (some (0 : Int32)).bind fun l3_1 =>
    f_Mo_placeOf_2 FU S l1 l2 l3_1
set_option maxHeartbeats 4000000 in
set_option maxRecDepth 20000 in
theorem t_Mo_placeOf  {S : St} {l1 : Int32} {l2 : Int32} {w : Int32} (h : f_Mo_placeOf S l1 l2 = some w) : Ct SM m_Mo_placeOf 1 [.ref 0, .int l1, .int l2] S (some w) S := by
  unfold f_Mo_placeOf at h
  refine Ct.of pn_Mo (Nat.le_of_ble_eq_true rfl) ?_
  show G SM m_Mo_placeOf 1 (some w) S 0 [(0, .ref 0), (1, .int l1), (2, .int l2)] [] S
  refine G_iconst 0 (by decide) d_Mo_placeOf_0 ?_
  obtain ⟨l3_1, e_1, h⟩ := ob_s h
  refine G_istore_n [(3, .int l3_1), (0, .ref 0), (1, .int l1), (2, .int l2)] e_1 rfl (by decide) d_Mo_placeOf_1 ?_
  exact G_sub _ [1, 2, 3, 0] rfl (t_Mo_placeOf_2 FU S l1 l2 l3_1 _ h)
theorem d_Mo_waysTo_0 : decode m_Mo_waysTo.2.1 0 = .ok (.iconst 0, 1) := by decide +kernel
theorem d_Mo_waysTo_1 : decode m_Mo_waysTo.2.1 1 = .ok (.istore 4, 2) := by decide +kernel
theorem d_Mo_waysTo_3 : decode m_Mo_waysTo.2.1 3 = .ok (.iload 4, 2) := by decide +kernel
theorem d_Mo_waysTo_5 : decode m_Mo_waysTo.2.1 5 = .ok (.iload_n 3, 1) := by decide +kernel
theorem d_Mo_waysTo_6 : decode m_Mo_waysTo.2.1 6 = .ok (.if_icmp .ge 41, 3) := by decide +kernel
theorem d_Mo_waysTo_9 : decode m_Mo_waysTo.2.1 9 = .ok (.iload_n 1, 1) := by decide +kernel
theorem d_Mo_waysTo_10 : decode m_Mo_waysTo.2.1 10 = .ok (.iload 4, 2) := by decide +kernel
theorem d_Mo_waysTo_12 : decode m_Mo_waysTo.2.1 12 = .ok (.invokestatic 314, 3) := by decide +kernel
theorem d_Mo_waysTo_15 : decode m_Mo_waysTo.2.1 15 = .ok (.ifCond .eq 26, 3) := by decide +kernel
theorem d_Mo_waysTo_18 : decode m_Mo_waysTo.2.1 18 = .ok (.aload_n 0, 1) := by decide +kernel
theorem d_Mo_waysTo_19 : decode m_Mo_waysTo.2.1 19 = .ok (.getfield 22, 3) := by decide +kernel
theorem d_Mo_waysTo_22 : decode m_Mo_waysTo.2.1 22 = .ok (.aload_n 0, 1) := by decide +kernel
theorem d_Mo_waysTo_23 : decode m_Mo_waysTo.2.1 23 = .ok (.getfield 80, 3) := by decide +kernel
theorem d_Mo_waysTo_26 : decode m_Mo_waysTo.2.1 26 = .ok (.iload 4, 2) := by decide +kernel
theorem d_Mo_waysTo_28 : decode m_Mo_waysTo.2.1 28 = .ok (.iaload, 1) := by decide +kernel
theorem d_Mo_waysTo_29 : decode m_Mo_waysTo.2.1 29 = .ok (.iaload, 1) := by decide +kernel
theorem d_Mo_waysTo_30 : decode m_Mo_waysTo.2.1 30 = .ok (.aload_n 0, 1) := by decide +kernel
theorem d_Mo_waysTo_31 : decode m_Mo_waysTo.2.1 31 = .ok (.getfield 80, 3) := by decide +kernel
theorem d_Mo_waysTo_34 : decode m_Mo_waysTo.2.1 34 = .ok (.iload_n 2, 1) := by decide +kernel
theorem d_Mo_waysTo_35 : decode m_Mo_waysTo.2.1 35 = .ok (.iaload, 1) := by decide +kernel
theorem d_Mo_waysTo_36 : decode m_Mo_waysTo.2.1 36 = .ok (.if_icmp .ne 5, 3) := by decide +kernel
theorem d_Mo_waysTo_39 : decode m_Mo_waysTo.2.1 39 = .ok (.iconst 0, 1) := by decide +kernel
theorem d_Mo_waysTo_40 : decode m_Mo_waysTo.2.1 40 = .ok (.ireturn, 1) := by decide +kernel
theorem d_Mo_waysTo_41 : decode m_Mo_waysTo.2.1 41 = .ok (.iinc 4 1, 3) := by decide +kernel
theorem d_Mo_waysTo_44 : decode m_Mo_waysTo.2.1 44 = .ok (.goto (-41), 3) := by decide +kernel
theorem d_Mo_waysTo_47 : decode m_Mo_waysTo.2.1 47 = .ok (.aload_n 0, 1) := by decide +kernel
theorem d_Mo_waysTo_48 : decode m_Mo_waysTo.2.1 48 = .ok (.getfield 83, 3) := by decide +kernel
theorem d_Mo_waysTo_51 : decode m_Mo_waysTo.2.1 51 = .ok (.iload_n 1, 1) := by decide +kernel
theorem d_Mo_waysTo_52 : decode m_Mo_waysTo.2.1 52 = .ok (.iconst 1, 1) := by decide +kernel
theorem d_Mo_waysTo_53 : decode m_Mo_waysTo.2.1 53 = .ok (.iload_n 2, 1) := by decide +kernel
theorem d_Mo_waysTo_54 : decode m_Mo_waysTo.2.1 54 = .ok (.ishl, 1) := by decide +kernel
theorem d_Mo_waysTo_55 : decode m_Mo_waysTo.2.1 55 = .ok (.iconst (-1), 1) := by decide +kernel
theorem d_Mo_waysTo_56 : decode m_Mo_waysTo.2.1 56 = .ok (.ixor, 1) := by decide +kernel
theorem d_Mo_waysTo_57 : decode m_Mo_waysTo.2.1 57 = .ok (.iand, 1) := by decide +kernel
theorem d_Mo_waysTo_58 : decode m_Mo_waysTo.2.1 58 = .ok (.iaload, 1) := by decide +kernel
theorem d_Mo_waysTo_59 : decode m_Mo_waysTo.2.1 59 = .ok (.ireturn, 1) := by decide +kernel
def f_Mo_waysTo_41 (k_3 : St → Int32 → Int32 → Int32 → Int32 → Option (Int32)) (S : St) (l1 : Int32) (l2 : Int32) (l3 : Int32) (l4 : Int32) : Option (Int32) :=
    (some (l4 + 1)).bind fun l4_41 =>
    k_3 S l1 l2 l3 l4_41
set_option maxHeartbeats 4000000 in
set_option maxRecDepth 20000 in
theorem t_Mo_waysTo_41  {k_3 : St → Int32 → Int32 → Int32 → Int32 → Option (Int32)} (hk_3 : ∀ (S : St) (l1 : Int32) (l2 : Int32) (l3 : Int32) (l4 : Int32) (w : Int32), k_3 S l1 l2 l3 l4 = some w → G SM m_Mo_waysTo 2 (some w) S 3 [(0, .ref 0), (1, .int l1), (2, .int l2), (3, .int l3), (4, .int l4)] [] S) (S : St) (l1 : Int32) (l2 : Int32) (l3 : Int32) (l4 : Int32) (w : Int32) (h : f_Mo_waysTo_41 k_3 S l1 l2 l3 l4 = some w) : G SM m_Mo_waysTo 2 (some w) S 41 [(0, .ref 0), (1, .int l1), (2, .int l2), (3, .int l3), (4, .int l4)] [] S := by
  unfold f_Mo_waysTo_41 at h
  obtain ⟨l4_41, e_41, h⟩ := ob_s h
  refine G_iinc 1 4 [(4, .int l4_41), (0, .ref 0), (1, .int l1), (2, .int l2), (3, .int l3)] (by decide) rfl e_41 rfl (by decide) d_Mo_waysTo_41 ?_
  refine G_goto 3 (by decide) d_Mo_waysTo_44 ?_
  exact G_sub _ [1, 2, 3, 4, 0] rfl (hk_3 S l1 l2 l3 l4_41 _ h)
def f_Mo_waysTo_3 : Nat → St → Int32 → Int32 → Int32 → Int32 → Option (Int32)
  | 0, _, _, _, _, _ => none
  | n + 1, S, l1, l2, l3, l4 =>
    if l3 ≤ l4 then (
    if ig (l1 &&& ((jshl 1 l2) ^^^ (-1))) 4096 then (
    some (S 25 (l1 &&& ((jshl 1 l2) ^^^ (-1))).toNatClampNeg)) else none)
    else (
    (f_Mo_has S l1 l4).bind fun v_12 =>
    if v_12 = 0 then (
    f_Mo_waysTo_41 (f_Mo_waysTo_3 n) S l1 l2 l3 l4)
    else (
    if ig l4 12 then (
    if ig (S 24 l4.toNatClampNeg) 24 then (
    if ig l2 12 then (
    if (S 5 (S 24 l4.toNatClampNeg).toNatClampNeg) = (S 24 l2.toNatClampNeg) then (
    some (0 : Int32))
    else (
    f_Mo_waysTo_41 (f_Mo_waysTo_3 n) S l1 l2 l3 l4)) else none) else none) else none))
set_option maxHeartbeats 4000000 in
set_option maxRecDepth 20000 in
theorem t_Mo_waysTo_3  : ∀ (n : Nat) (S : St) (l1 : Int32) (l2 : Int32) (l3 : Int32) (l4 : Int32) (w : Int32), f_Mo_waysTo_3 n S l1 l2 l3 l4 = some w → G SM m_Mo_waysTo 2 (some w) S 3 [(0, .ref 0), (1, .int l1), (2, .int l2), (3, .int l3), (4, .int l4)] [] S := by
  intro n
  induction n with
  | zero =>
    intro S l1 l2 l3 l4 w h
    rw [f_Mo_waysTo_3] at h
    cases h
  | succ n ih =>
    intro S l1 l2 l3 l4 w h
    rw [f_Mo_waysTo_3] at h
    refine G_iload 4 rfl d_Mo_waysTo_3 ?_
    refine G_iload_n 3 rfl d_Mo_waysTo_5 ?_
    refine G_icmp_ge 47 (by decide) d_Mo_waysTo_6 (fun c_6 => ?_) (fun c_6 => ?_)
    · replace h := ob_t h c_6
      refine G_aload_n 0 rfl d_Mo_waysTo_47 ?_
      refine G_getR fl_Mo_83 km_0 sm_0 rfl (by decide) d_Mo_waysTo_48 ?_
      refine G_iload_n 1 rfl d_Mo_waysTo_51 ?_
      refine G_iconst 1 (by decide) d_Mo_waysTo_52 ?_
      refine G_iload_n 2 rfl d_Mo_waysTo_53 ?_
      refine G_ishl d_Mo_waysTo_54 ?_
      refine G_iconst (-1) (by decide) d_Mo_waysTo_55 ?_
      refine G_ixor d_Mo_waysTo_56 ?_
      refine G_iand d_Mo_waysTo_57 ?_
      obtain ⟨g_58, h⟩ := ob_g h
      refine G_iaload km_25 sm_25 g_58 d_Mo_waysTo_58 ?_
      cases h
      exact G_iret rfl d_Mo_waysTo_59
    · replace h := ob_f h c_6
      refine G_iload_n 1 rfl d_Mo_waysTo_9 ?_
      refine G_iload 4 rfl d_Mo_waysTo_10 ?_
      obtain ⟨v_12, q_12, h⟩ := ob_b h
      refine G_callS [.int l1, .int l4] [] (t_Mo_has q_12) (by decide) (by decide) mt_Mo_has rfl ml_Mo_314 rfl (Nat.le_of_ble_eq_true rfl) d_Mo_waysTo_12 ?_
      refine G_if_eq 41 (by decide) d_Mo_waysTo_15 (fun c_15 => ?_) (fun c_15 => ?_)
      · replace h := ob_t h c_15
        exact G_sub _ [0, 1, 2, 3, 4] rfl (t_Mo_waysTo_41 ih S l1 l2 l3 l4 _ h)
      · replace h := ob_f h c_15
        refine G_aload_n 0 rfl d_Mo_waysTo_18 ?_
        refine G_getR fl_Mo_22 km_0 sm_0 rfl (by decide) d_Mo_waysTo_19 ?_
        refine G_aload_n 0 rfl d_Mo_waysTo_22 ?_
        refine G_getR fl_Mo_80 km_0 sm_0 rfl (by decide) d_Mo_waysTo_23 ?_
        refine G_iload 4 rfl d_Mo_waysTo_26 ?_
        obtain ⟨g_28, h⟩ := ob_g h
        refine G_iaload km_24 sm_24 g_28 d_Mo_waysTo_28 ?_
        obtain ⟨g_29, h⟩ := ob_g h
        refine G_iaload km_5 sm_5 g_29 d_Mo_waysTo_29 ?_
        refine G_aload_n 0 rfl d_Mo_waysTo_30 ?_
        refine G_getR fl_Mo_80 km_0 sm_0 rfl (by decide) d_Mo_waysTo_31 ?_
        refine G_iload_n 2 rfl d_Mo_waysTo_34 ?_
        obtain ⟨g_35, h⟩ := ob_g h
        refine G_iaload km_24 sm_24 g_35 d_Mo_waysTo_35 ?_
        refine G_icmp_ne 41 (by decide) d_Mo_waysTo_36 (fun c_36 => ?_) (fun c_36 => ?_)
        · replace h := ob_f h c_36
          exact G_sub _ [0, 1, 2, 3, 4] rfl (t_Mo_waysTo_41 ih S l1 l2 l3 l4 _ h)
        · replace h := ob_t h c_36
          refine G_iconst 0 (by decide) d_Mo_waysTo_39 ?_
          cases h
          exact G_iret rfl d_Mo_waysTo_40
def f_Mo_waysTo (S : St) (l1 : Int32) (l2 : Int32) (l3 : Int32) : Option (Int32) :=
    (some (0 : Int32)).bind fun l4_1 =>
    f_Mo_waysTo_3 FU S l1 l2 l3 l4_1
set_option maxHeartbeats 4000000 in
set_option maxRecDepth 20000 in
theorem t_Mo_waysTo  {S : St} {l1 : Int32} {l2 : Int32} {l3 : Int32} {w : Int32} (h : f_Mo_waysTo S l1 l2 l3 = some w) : Ct SM m_Mo_waysTo 2 [.ref 0, .int l1, .int l2, .int l3] S (some w) S := by
  unfold f_Mo_waysTo at h
  refine Ct.of pn_Mo (Nat.le_of_ble_eq_true rfl) ?_
  show G SM m_Mo_waysTo 2 (some w) S 0 [(0, .ref 0), (1, .int l1), (2, .int l2), (3, .int l3)] [] S
  refine G_iconst 0 (by decide) d_Mo_waysTo_0 ?_
  obtain ⟨l4_1, e_1, h⟩ := ob_s h
  refine G_istore [(4, .int l4_1), (0, .ref 0), (1, .int l1), (2, .int l2), (3, .int l3)] e_1 rfl (by decide) d_Mo_waysTo_1 ?_
  exact G_sub _ [1, 2, 3, 4, 0] rfl (t_Mo_waysTo_3 FU S l1 l2 l3 l4_1 _ h)
