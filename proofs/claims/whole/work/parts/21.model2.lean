theorem d_Mo_readsRule_0 : decode m_Mo_readsRule.2.1 0 = .ok (.aload_n 0, 1) := by decide +kernel
theorem d_Mo_readsRule_1 : decode m_Mo_readsRule.2.1 1 = .ok (.invokevirtual 148, 3) := by decide +kernel
theorem d_Mo_readsRule_4 : decode m_Mo_readsRule.2.1 4 = .ok (.istore_n 1, 1) := by decide +kernel
theorem d_Mo_readsRule_5 : decode m_Mo_readsRule.2.1 5 = .ok (.iload_n 1, 1) := by decide +kernel
theorem d_Mo_readsRule_6 : decode m_Mo_readsRule.2.1 6 = .ok (.bipush 100, 2) := by decide +kernel
theorem d_Mo_readsRule_8 : decode m_Mo_readsRule.2.1 8 = .ok (.if_icmp .eq 25, 3) := by decide +kernel
theorem d_Mo_readsRule_11 : decode m_Mo_readsRule.2.1 11 = .ok (.iload_n 1, 1) := by decide +kernel
theorem d_Mo_readsRule_12 : decode m_Mo_readsRule.2.1 12 = .ok (.bipush 98, 2) := by decide +kernel
theorem d_Mo_readsRule_14 : decode m_Mo_readsRule.2.1 14 = .ok (.if_icmp .eq 19, 3) := by decide +kernel
theorem d_Mo_readsRule_17 : decode m_Mo_readsRule.2.1 17 = .ok (.iload_n 1, 1) := by decide +kernel
theorem d_Mo_readsRule_18 : decode m_Mo_readsRule.2.1 18 = .ok (.bipush 120, 2) := by decide +kernel
theorem d_Mo_readsRule_20 : decode m_Mo_readsRule.2.1 20 = .ok (.if_icmp .eq 13, 3) := by decide +kernel
theorem d_Mo_readsRule_23 : decode m_Mo_readsRule.2.1 23 = .ok (.aload_n 0, 1) := by decide +kernel
theorem d_Mo_readsRule_24 : decode m_Mo_readsRule.2.1 24 = .ok (.iconst 1, 1) := by decide +kernel
theorem d_Mo_readsRule_25 : decode m_Mo_readsRule.2.1 25 = .ok (.aload_n 0, 1) := by decide +kernel
theorem d_Mo_readsRule_26 : decode m_Mo_readsRule.2.1 26 = .ok (.getfield 142, 3) := by decide +kernel
theorem d_Mo_readsRule_29 : decode m_Mo_readsRule.2.1 29 = .ok (.invokevirtual 155, 3) := by decide +kernel
theorem d_Mo_readsRule_32 : decode m_Mo_readsRule.2.1 32 = .ok (.ireturn, 1) := by decide +kernel
theorem d_Mo_readsRule_33 : decode m_Mo_readsRule.2.1 33 = .ok (.aload_n 0, 1) := by decide +kernel
theorem d_Mo_readsRule_34 : decode m_Mo_readsRule.2.1 34 = .ok (.getfield 221, 3) := by decide +kernel
theorem d_Mo_readsRule_37 : decode m_Mo_readsRule.2.1 37 = .ok (.bipush 16, 2) := by decide +kernel
theorem d_Mo_readsRule_39 : decode m_Mo_readsRule.2.1 39 = .ok (.if_icmp .ne 13, 3) := by decide +kernel
theorem d_Mo_readsRule_42 : decode m_Mo_readsRule.2.1 42 = .ok (.aload_n 0, 1) := by decide +kernel
theorem d_Mo_readsRule_43 : decode m_Mo_readsRule.2.1 43 = .ok (.iconst 4, 1) := by decide +kernel
theorem d_Mo_readsRule_44 : decode m_Mo_readsRule.2.1 44 = .ok (.aload_n 0, 1) := by decide +kernel
theorem d_Mo_readsRule_45 : decode m_Mo_readsRule.2.1 45 = .ok (.getfield 142, 3) := by decide +kernel
theorem d_Mo_readsRule_48 : decode m_Mo_readsRule.2.1 48 = .ok (.invokevirtual 155, 3) := by decide +kernel
theorem d_Mo_readsRule_51 : decode m_Mo_readsRule.2.1 51 = .ok (.ireturn, 1) := by decide +kernel
theorem d_Mo_readsRule_52 : decode m_Mo_readsRule.2.1 52 = .ok (.aload_n 0, 1) := by decide +kernel
theorem d_Mo_readsRule_53 : decode m_Mo_readsRule.2.1 53 = .ok (.getfield 35, 3) := by decide +kernel
theorem d_Mo_readsRule_56 : decode m_Mo_readsRule.2.1 56 = .ok (.aload_n 0, 1) := by decide +kernel
theorem d_Mo_readsRule_57 : decode m_Mo_readsRule.2.1 57 = .ok (.getfield 221, 3) := by decide +kernel
theorem d_Mo_readsRule_60 : decode m_Mo_readsRule.2.1 60 = .ok (.iload_n 1, 1) := by decide +kernel
theorem d_Mo_readsRule_61 : decode m_Mo_readsRule.2.1 61 = .ok (.iastore, 1) := by decide +kernel
theorem d_Mo_readsRule_62 : decode m_Mo_readsRule.2.1 62 = .ok (.aload_n 0, 1) := by decide +kernel
theorem d_Mo_readsRule_63 : decode m_Mo_readsRule.2.1 63 = .ok (.aload_n 0, 1) := by decide +kernel
theorem d_Mo_readsRule_64 : decode m_Mo_readsRule.2.1 64 = .ok (.getfield 142, 3) := by decide +kernel
theorem d_Mo_readsRule_67 : decode m_Mo_readsRule.2.1 67 = .ok (.iconst 1, 1) := by decide +kernel
theorem d_Mo_readsRule_68 : decode m_Mo_readsRule.2.1 68 = .ok (.iadd, 1) := by decide +kernel
theorem d_Mo_readsRule_69 : decode m_Mo_readsRule.2.1 69 = .ok (.putfield 142, 3) := by decide +kernel
theorem d_Mo_readsRule_72 : decode m_Mo_readsRule.2.1 72 = .ok (.aload_n 0, 1) := by decide +kernel
theorem d_Mo_readsRule_73 : decode m_Mo_readsRule.2.1 73 = .ok (.getfield 38, 3) := by decide +kernel
theorem d_Mo_readsRule_76 : decode m_Mo_readsRule.2.1 76 = .ok (.aload_n 0, 1) := by decide +kernel
theorem d_Mo_readsRule_77 : decode m_Mo_readsRule.2.1 77 = .ok (.getfield 221, 3) := by decide +kernel
theorem d_Mo_readsRule_80 : decode m_Mo_readsRule.2.1 80 = .ok (.aload_n 0, 1) := by decide +kernel
theorem d_Mo_readsRule_81 : decode m_Mo_readsRule.2.1 81 = .ok (.getfield 166, 3) := by decide +kernel
theorem d_Mo_readsRule_84 : decode m_Mo_readsRule.2.1 84 = .ok (.iastore, 1) := by decide +kernel
theorem d_Mo_readsRule_85 : decode m_Mo_readsRule.2.1 85 = .ok (.aload_n 0, 1) := by decide +kernel
theorem d_Mo_readsRule_86 : decode m_Mo_readsRule.2.1 86 = .ok (.iconst 0, 1) := by decide +kernel
theorem d_Mo_readsRule_87 : decode m_Mo_readsRule.2.1 87 = .ok (.putfield 170, 3) := by decide +kernel
theorem d_Mo_readsRule_90 : decode m_Mo_readsRule.2.1 90 = .ok (.aload_n 0, 1) := by decide +kernel
theorem d_Mo_readsRule_91 : decode m_Mo_readsRule.2.1 91 = .ok (.iconst 0, 1) := by decide +kernel
theorem d_Mo_readsRule_92 : decode m_Mo_readsRule.2.1 92 = .ok (.putfield 173, 3) := by decide +kernel
theorem d_Mo_readsRule_95 : decode m_Mo_readsRule.2.1 95 = .ok (.iload_n 1, 1) := by decide +kernel
theorem d_Mo_readsRule_96 : decode m_Mo_readsRule.2.1 96 = .ok (.bipush 120, 2) := by decide +kernel
theorem d_Mo_readsRule_98 : decode m_Mo_readsRule.2.1 98 = .ok (.if_icmp .eq 12, 3) := by decide +kernel
theorem d_Mo_readsRule_101 : decode m_Mo_readsRule.2.1 101 = .ok (.aload_n 0, 1) := by decide +kernel
theorem d_Mo_readsRule_102 : decode m_Mo_readsRule.2.1 102 = .ok (.invokevirtual 206, 3) := by decide +kernel
theorem d_Mo_readsRule_105 : decode m_Mo_readsRule.2.1 105 = .ok (.ifCond .ne 5, 3) := by decide +kernel
theorem d_Mo_readsRule_108 : decode m_Mo_readsRule.2.1 108 = .ok (.iconst 0, 1) := by decide +kernel
theorem d_Mo_readsRule_109 : decode m_Mo_readsRule.2.1 109 = .ok (.ireturn, 1) := by decide +kernel
theorem d_Mo_readsRule_110 : decode m_Mo_readsRule.2.1 110 = .ok (.aload_n 0, 1) := by decide +kernel
theorem d_Mo_readsRule_111 : decode m_Mo_readsRule.2.1 111 = .ok (.getfield 41, 3) := by decide +kernel
theorem d_Mo_readsRule_114 : decode m_Mo_readsRule.2.1 114 = .ok (.aload_n 0, 1) := by decide +kernel
theorem d_Mo_readsRule_115 : decode m_Mo_readsRule.2.1 115 = .ok (.getfield 221, 3) := by decide +kernel
theorem d_Mo_readsRule_118 : decode m_Mo_readsRule.2.1 118 = .ok (.aload_n 0, 1) := by decide +kernel
theorem d_Mo_readsRule_119 : decode m_Mo_readsRule.2.1 119 = .ok (.getfield 166, 3) := by decide +kernel
theorem d_Mo_readsRule_122 : decode m_Mo_readsRule.2.1 122 = .ok (.iastore, 1) := by decide +kernel
theorem d_Mo_readsRule_123 : decode m_Mo_readsRule.2.1 123 = .ok (.aload_n 0, 1) := by decide +kernel
theorem d_Mo_readsRule_124 : decode m_Mo_readsRule.2.1 124 = .ok (.invokevirtual 224, 3) := by decide +kernel
theorem d_Mo_readsRule_127 : decode m_Mo_readsRule.2.1 127 = .ok (.ifCond .ne 5, 3) := by decide +kernel
theorem d_Mo_readsRule_130 : decode m_Mo_readsRule.2.1 130 = .ok (.iconst 0, 1) := by decide +kernel
theorem d_Mo_readsRule_131 : decode m_Mo_readsRule.2.1 131 = .ok (.ireturn, 1) := by decide +kernel
theorem d_Mo_readsRule_132 : decode m_Mo_readsRule.2.1 132 = .ok (.aload_n 0, 1) := by decide +kernel
theorem d_Mo_readsRule_133 : decode m_Mo_readsRule.2.1 133 = .ok (.getfield 44, 3) := by decide +kernel
theorem d_Mo_readsRule_136 : decode m_Mo_readsRule.2.1 136 = .ok (.aload_n 0, 1) := by decide +kernel
theorem d_Mo_readsRule_137 : decode m_Mo_readsRule.2.1 137 = .ok (.getfield 221, 3) := by decide +kernel
theorem d_Mo_readsRule_140 : decode m_Mo_readsRule.2.1 140 = .ok (.aload_n 0, 1) := by decide +kernel
theorem d_Mo_readsRule_141 : decode m_Mo_readsRule.2.1 141 = .ok (.getfield 166, 3) := by decide +kernel
theorem d_Mo_readsRule_144 : decode m_Mo_readsRule.2.1 144 = .ok (.iastore, 1) := by decide +kernel
theorem d_Mo_readsRule_145 : decode m_Mo_readsRule.2.1 145 = .ok (.aload_n 0, 1) := by decide +kernel
theorem d_Mo_readsRule_146 : decode m_Mo_readsRule.2.1 146 = .ok (.aload_n 0, 1) := by decide +kernel
theorem d_Mo_readsRule_147 : decode m_Mo_readsRule.2.1 147 = .ok (.getfield 221, 3) := by decide +kernel
theorem d_Mo_readsRule_150 : decode m_Mo_readsRule.2.1 150 = .ok (.iconst 1, 1) := by decide +kernel
theorem d_Mo_readsRule_151 : decode m_Mo_readsRule.2.1 151 = .ok (.iadd, 1) := by decide +kernel
theorem d_Mo_readsRule_152 : decode m_Mo_readsRule.2.1 152 = .ok (.putfield 221, 3) := by decide +kernel
theorem d_Mo_readsRule_155 : decode m_Mo_readsRule.2.1 155 = .ok (.iconst 1, 1) := by decide +kernel
theorem d_Mo_readsRule_156 : decode m_Mo_readsRule.2.1 156 = .ok (.ireturn, 1) := by decide +kernel
def f_Mo_readsRule_110 (S : St) : Option (Int32 × St) :=
    if ig (S 0 15) 16 then (
    (some (sF S 11 (S 0 15).toNatClampNeg (S 0 13))).bind fun S_122 =>
    (f_Mo_readsCondition S_122).bind fun w_124 =>
    if w_124.1 = 0 then (
    some (0, w_124.2))
    else (
    if ig (w_124.2 0 15) 16 then (
    (some (sF w_124.2 12 (w_124.2 0 15).toNatClampNeg (w_124.2 0 13))).bind fun S_144 =>
    (some (sF S_144 0 15 ((S_144 0 15) + 1))).bind fun S_152 =>
    some (1, S_152)) else none)) else none
set_option maxHeartbeats 4000000 in
set_option maxRecDepth 20000 in
theorem t_Mo_readsRule_110  (S : St) (w : Int32 × St) (h : f_Mo_readsRule_110 S = some w) : G SM m_Mo_readsRule 8 (some w.1) w.2 110 [(0, .ref 0)] [] S := by
  unfold f_Mo_readsRule_110 at h
  refine G_aload_n 0 rfl d_Mo_readsRule_110 ?_
  refine G_getR fl_Mo_41 km_0 sm_0 rfl (by decide) d_Mo_readsRule_111 ?_
  refine G_aload_n 0 rfl d_Mo_readsRule_114 ?_
  refine G_getI fl_Mo_221 km_0 sm_0 rfl d_Mo_readsRule_115 ?_
  refine G_aload_n 0 rfl d_Mo_readsRule_118 ?_
  refine G_getI fl_Mo_166 km_0 sm_0 rfl d_Mo_readsRule_119 ?_
  obtain ⟨g_122, h⟩ := ob_g h
  obtain ⟨S_122, e_122, h⟩ := ob_s h
  refine G_iastore e_122 km_11 sm_11 g_122 d_Mo_readsRule_122 ?_
  refine G_aload_n 0 rfl d_Mo_readsRule_123 ?_
  obtain ⟨w_124, q_124, h⟩ := ob_b h
  refine G_callV [] [] (t_Mo_readsCondition q_124) (by decide) (by decide) mv_Mo_readsCondition rfl ml_Mo_224 km_0 sm_0 cl_12 rfl (Nat.le_of_ble_eq_true rfl) d_Mo_readsRule_124 ?_
  refine G_if_ne 132 (by decide) d_Mo_readsRule_127 (fun c_127 => ?_) (fun c_127 => ?_)
  · replace h := ob_f h c_127
    refine G_aload_n 0 rfl d_Mo_readsRule_132 ?_
    refine G_getR fl_Mo_44 km_0 sm_0 rfl (by decide) d_Mo_readsRule_133 ?_
    refine G_aload_n 0 rfl d_Mo_readsRule_136 ?_
    refine G_getI fl_Mo_221 km_0 sm_0 rfl d_Mo_readsRule_137 ?_
    refine G_aload_n 0 rfl d_Mo_readsRule_140 ?_
    refine G_getI fl_Mo_166 km_0 sm_0 rfl d_Mo_readsRule_141 ?_
    obtain ⟨g_144, h⟩ := ob_g h
    obtain ⟨S_144, e_144, h⟩ := ob_s h
    refine G_iastore e_144 km_12 sm_12 g_144 d_Mo_readsRule_144 ?_
    refine G_aload_n 0 rfl d_Mo_readsRule_145 ?_
    refine G_aload_n 0 rfl d_Mo_readsRule_146 ?_
    refine G_getI fl_Mo_221 km_0 sm_0 rfl d_Mo_readsRule_147 ?_
    refine G_iconst 1 (by decide) d_Mo_readsRule_150 ?_
    refine G_iadd d_Mo_readsRule_151 ?_
    obtain ⟨S_152, e_152, h⟩ := ob_s h
    refine G_putI e_152 fp_Mo_221 km_0 sm_0 rfl d_Mo_readsRule_152 ?_
    refine G_iconst 1 (by decide) d_Mo_readsRule_155 ?_
    cases h
    exact G_zret (Or.inr rfl) rfl d_Mo_readsRule_156
  · replace h := ob_t h c_127
    refine G_iconst 0 (by decide) d_Mo_readsRule_130 ?_
    cases h
    exact G_zret (Or.inl rfl) rfl d_Mo_readsRule_131
def f_Mo_readsRule_33 (S : St) (l1 : Int32) : Option (Int32 × St) :=
    if (S 0 15) = 16 then (
    (f_Mo_wrongAt S (4 : Int32) (S 0 8)).bind fun w_48 =>
    if w_48.1 = 0 ∨ w_48.1 = 1 then (
    some (w_48.1, w_48.2)) else none)
    else (
    if ig (S 0 15) 16 then (
    (some (sF S 9 (S 0 15).toNatClampNeg l1)).bind fun S_61 =>
    (some (sF S_61 0 8 ((S_61 0 8) + 1))).bind fun S_69 =>
    if ig (S_69 0 15) 16 then (
    (some (sF S_69 10 (S_69 0 15).toNatClampNeg (S_69 0 13))).bind fun S_84 =>
    (some (sF S_84 0 12 0)).bind fun S_87 =>
    (some (sF S_87 0 14 0)).bind fun S_92 =>
    if l1 = 120 then (
    f_Mo_readsRule_110 S_92)
    else (
    (f_Mo_readsSum S_92).bind fun w_102 =>
    if w_102.1 = 0 then (
    some (0, w_102.2))
    else (
    f_Mo_readsRule_110 w_102.2))) else none) else none)
set_option maxHeartbeats 4000000 in
set_option maxRecDepth 20000 in
theorem t_Mo_readsRule_33  (S : St) (l1 : Int32) (w : Int32 × St) (h : f_Mo_readsRule_33 S l1 = some w) : G SM m_Mo_readsRule 8 (some w.1) w.2 33 [(0, .ref 0), (1, .int l1)] [] S := by
  unfold f_Mo_readsRule_33 at h
  refine G_aload_n 0 rfl d_Mo_readsRule_33 ?_
  refine G_getI fl_Mo_221 km_0 sm_0 rfl d_Mo_readsRule_34 ?_
  refine G_bipush 16 (by decide) d_Mo_readsRule_37 ?_
  refine G_icmp_ne 52 (by decide) d_Mo_readsRule_39 (fun c_39 => ?_) (fun c_39 => ?_)
  · replace h := ob_f h c_39
    refine G_aload_n 0 rfl d_Mo_readsRule_52 ?_
    refine G_getR fl_Mo_35 km_0 sm_0 rfl (by decide) d_Mo_readsRule_53 ?_
    refine G_aload_n 0 rfl d_Mo_readsRule_56 ?_
    refine G_getI fl_Mo_221 km_0 sm_0 rfl d_Mo_readsRule_57 ?_
    refine G_iload_n 1 rfl d_Mo_readsRule_60 ?_
    obtain ⟨g_61, h⟩ := ob_g h
    obtain ⟨S_61, e_61, h⟩ := ob_s h
    refine G_iastore e_61 km_9 sm_9 g_61 d_Mo_readsRule_61 ?_
    refine G_aload_n 0 rfl d_Mo_readsRule_62 ?_
    refine G_aload_n 0 rfl d_Mo_readsRule_63 ?_
    refine G_getI fl_Mo_142 km_0 sm_0 rfl d_Mo_readsRule_64 ?_
    refine G_iconst 1 (by decide) d_Mo_readsRule_67 ?_
    refine G_iadd d_Mo_readsRule_68 ?_
    obtain ⟨S_69, e_69, h⟩ := ob_s h
    refine G_putI e_69 fp_Mo_142 km_0 sm_0 rfl d_Mo_readsRule_69 ?_
    refine G_aload_n 0 rfl d_Mo_readsRule_72 ?_
    refine G_getR fl_Mo_38 km_0 sm_0 rfl (by decide) d_Mo_readsRule_73 ?_
    refine G_aload_n 0 rfl d_Mo_readsRule_76 ?_
    refine G_getI fl_Mo_221 km_0 sm_0 rfl d_Mo_readsRule_77 ?_
    refine G_aload_n 0 rfl d_Mo_readsRule_80 ?_
    refine G_getI fl_Mo_166 km_0 sm_0 rfl d_Mo_readsRule_81 ?_
    obtain ⟨g_84, h⟩ := ob_g h
    obtain ⟨S_84, e_84, h⟩ := ob_s h
    refine G_iastore e_84 km_10 sm_10 g_84 d_Mo_readsRule_84 ?_
    refine G_aload_n 0 rfl d_Mo_readsRule_85 ?_
    refine G_iconst 0 (by decide) d_Mo_readsRule_86 ?_
    obtain ⟨S_87, e_87, h⟩ := ob_s h
    refine G_putI e_87 fp_Mo_170 km_0 sm_0 rfl d_Mo_readsRule_87 ?_
    refine G_aload_n 0 rfl d_Mo_readsRule_90 ?_
    refine G_iconst 0 (by decide) d_Mo_readsRule_91 ?_
    obtain ⟨S_92, e_92, h⟩ := ob_s h
    refine G_putI e_92 fp_Mo_173 km_0 sm_0 rfl d_Mo_readsRule_92 ?_
    refine G_iload_n 1 rfl d_Mo_readsRule_95 ?_
    refine G_bipush 120 (by decide) d_Mo_readsRule_96 ?_
    refine G_icmp_eq 110 (by decide) d_Mo_readsRule_98 (fun c_98 => ?_) (fun c_98 => ?_)
    · replace h := ob_t h c_98
      exact G_sub _ [0] rfl (t_Mo_readsRule_110 S_92 _ h)
    · replace h := ob_f h c_98
      refine G_aload_n 0 rfl d_Mo_readsRule_101 ?_
      obtain ⟨w_102, q_102, h⟩ := ob_b h
      refine G_callV [] [] (t_Mo_readsSum q_102) (by decide) (by decide) mv_Mo_readsSum rfl ml_Mo_206 km_0 sm_0 cl_12 rfl (Nat.le_of_ble_eq_true rfl) d_Mo_readsRule_102 ?_
      refine G_if_ne 110 (by decide) d_Mo_readsRule_105 (fun c_105 => ?_) (fun c_105 => ?_)
      · replace h := ob_f h c_105
        exact G_sub _ [0] rfl (t_Mo_readsRule_110 w_102.2 _ h)
      · replace h := ob_t h c_105
        refine G_iconst 0 (by decide) d_Mo_readsRule_108 ?_
        cases h
        exact G_zret (Or.inl rfl) rfl d_Mo_readsRule_109
  · replace h := ob_t h c_39
    refine G_aload_n 0 rfl d_Mo_readsRule_42 ?_
    refine G_iconst 4 (by decide) d_Mo_readsRule_43 ?_
    refine G_aload_n 0 rfl d_Mo_readsRule_44 ?_
    refine G_getI fl_Mo_142 km_0 sm_0 rfl d_Mo_readsRule_45 ?_
    obtain ⟨w_48, q_48, h⟩ := ob_b h
    refine G_callV [.int 4, .int (S 0 8)] [] (t_Mo_wrongAt q_48) (by decide) (by decide) mv_Mo_wrongAt rfl ml_Mo_155 km_0 sm_0 cl_12 rfl (Nat.le_of_ble_eq_true rfl) d_Mo_readsRule_48 ?_
    obtain ⟨g_51, h⟩ := ob_g h
    cases h
    exact G_zret g_51 rfl d_Mo_readsRule_51
def f_Mo_readsRule (S : St) : Option (Int32 × St) :=
    (f_Mo_here S).bind fun v_1 =>
    if v_1 = 100 then (
    f_Mo_readsRule_33 S v_1)
    else (
    if v_1 = 98 then (
    f_Mo_readsRule_33 S v_1)
    else (
    if v_1 = 120 then (
    f_Mo_readsRule_33 S v_1)
    else (
    (f_Mo_wrongAt S (1 : Int32) (S 0 8)).bind fun w_29 =>
    if w_29.1 = 0 ∨ w_29.1 = 1 then (
    some (w_29.1, w_29.2)) else none)))
set_option maxHeartbeats 4000000 in
set_option maxRecDepth 20000 in
theorem t_Mo_readsRule  {S : St} {w : Int32 × St} (h : f_Mo_readsRule S = some w) : Ct SM m_Mo_readsRule 8 [.ref 0] S (some w.1) w.2 := by
  unfold f_Mo_readsRule at h
  refine Ct.of pn_Mo (Nat.le_of_ble_eq_true rfl) ?_
  show G SM m_Mo_readsRule 8 (some w.1) w.2 0 [(0, .ref 0)] [] S
  refine G_aload_n 0 rfl d_Mo_readsRule_0 ?_
  obtain ⟨v_1, q_1, h⟩ := ob_b h
  refine G_callV [] [] (t_Mo_here q_1) (by decide) (by decide) mv_Mo_here rfl ml_Mo_148 km_0 sm_0 cl_12 rfl (Nat.le_of_ble_eq_true rfl) d_Mo_readsRule_1 ?_
  refine G_istore_n [(1, .int v_1), (0, .ref 0)] rfl rfl (by decide) d_Mo_readsRule_4 ?_
  refine G_iload_n 0 rfl d_Mo_readsRule_5 ?_
  refine G_bipush 100 (by decide) d_Mo_readsRule_6 ?_
  refine G_icmp_eq 33 (by decide) d_Mo_readsRule_8 (fun c_8 => ?_) (fun c_8 => ?_)
  · replace h := ob_t h c_8
    exact G_sub _ [1, 0] rfl (t_Mo_readsRule_33 S v_1 _ h)
  · replace h := ob_f h c_8
    refine G_iload_n 0 rfl d_Mo_readsRule_11 ?_
    refine G_bipush 98 (by decide) d_Mo_readsRule_12 ?_
    refine G_icmp_eq 33 (by decide) d_Mo_readsRule_14 (fun c_14 => ?_) (fun c_14 => ?_)
    · replace h := ob_t h c_14
      exact G_sub _ [1, 0] rfl (t_Mo_readsRule_33 S v_1 _ h)
    · replace h := ob_f h c_14
      refine G_iload_n 0 rfl d_Mo_readsRule_17 ?_
      refine G_bipush 120 (by decide) d_Mo_readsRule_18 ?_
      refine G_icmp_eq 33 (by decide) d_Mo_readsRule_20 (fun c_20 => ?_) (fun c_20 => ?_)
      · replace h := ob_t h c_20
        exact G_sub _ [1, 0] rfl (t_Mo_readsRule_33 S v_1 _ h)
      · replace h := ob_f h c_20
        refine G_aload_n 1 rfl d_Mo_readsRule_23 ?_
        refine G_iconst 1 (by decide) d_Mo_readsRule_24 ?_
        refine G_aload_n 1 rfl d_Mo_readsRule_25 ?_
        refine G_getI fl_Mo_142 km_0 sm_0 rfl d_Mo_readsRule_26 ?_
        obtain ⟨w_29, q_29, h⟩ := ob_b h
        refine G_callV [.int 1, .int (S 0 8)] [] (t_Mo_wrongAt q_29) (by decide) (by decide) mv_Mo_wrongAt rfl ml_Mo_155 km_0 sm_0 cl_12 rfl (Nat.le_of_ble_eq_true rfl) d_Mo_readsRule_29 ?_
        obtain ⟨g_32, h⟩ := ob_g h
        cases h
        exact G_zret g_32 rfl d_Mo_readsRule_32
theorem d_Mo_beginsText_0 : decode m_Mo_beginsText.2.1 0 = .ok (.aload_n 0, 1) := by decide +kernel
theorem d_Mo_beginsText_1 : decode m_Mo_beginsText.2.1 1 = .ok (.iconst 0, 1) := by decide +kernel
theorem d_Mo_beginsText_2 : decode m_Mo_beginsText.2.1 2 = .ok (.putfield 142, 3) := by decide +kernel
theorem d_Mo_beginsText_5 : decode m_Mo_beginsText.2.1 5 = .ok (.aload_n 0, 1) := by decide +kernel
theorem d_Mo_beginsText_6 : decode m_Mo_beginsText.2.1 6 = .ok (.iload_n 1, 1) := by decide +kernel
theorem d_Mo_beginsText_7 : decode m_Mo_beginsText.2.1 7 = .ok (.putfield 145, 3) := by decide +kernel
theorem d_Mo_beginsText_10 : decode m_Mo_beginsText.2.1 10 = .ok (.aload_n 0, 1) := by decide +kernel
theorem d_Mo_beginsText_11 : decode m_Mo_beginsText.2.1 11 = .ok (.iconst 0, 1) := by decide +kernel
theorem d_Mo_beginsText_12 : decode m_Mo_beginsText.2.1 12 = .ok (.putfield 166, 3) := by decide +kernel
theorem d_Mo_beginsText_15 : decode m_Mo_beginsText.2.1 15 = .ok (.aload_n 0, 1) := by decide +kernel
theorem d_Mo_beginsText_16 : decode m_Mo_beginsText.2.1 16 = .ok (.iconst 0, 1) := by decide +kernel
theorem d_Mo_beginsText_17 : decode m_Mo_beginsText.2.1 17 = .ok (.putfield 221, 3) := by decide +kernel
theorem d_Mo_beginsText_20 : decode m_Mo_beginsText.2.1 20 = .ok (.return_, 1) := by decide +kernel
def f_Mo_beginsText (S : St) (l1 : Int32) : Option (St) :=
    (some (sF S 0 8 0)).bind fun S_2 =>
    (some (sF S_2 0 9 l1)).bind fun S_7 =>
    (some (sF S_7 0 13 0)).bind fun S_12 =>
    (some (sF S_12 0 15 0)).bind fun S_17 =>
    some S_17
set_option maxHeartbeats 4000000 in
set_option maxRecDepth 20000 in
theorem t_Mo_beginsText  {S : St} {l1 : Int32} {w : St} (h : f_Mo_beginsText S l1 = some w) : Ct SM m_Mo_beginsText 1 [.ref 0, .int l1] S none w := by
  unfold f_Mo_beginsText at h
  refine Ct.of pn_Mo (Nat.le_of_ble_eq_true rfl) ?_
  show G SM m_Mo_beginsText 1 none w 0 [(0, .ref 0), (1, .int l1)] [] S
  refine G_aload_n 0 rfl d_Mo_beginsText_0 ?_
  refine G_iconst 0 (by decide) d_Mo_beginsText_1 ?_
  obtain ⟨S_2, e_2, h⟩ := ob_s h
  refine G_putI e_2 fp_Mo_142 km_0 sm_0 rfl d_Mo_beginsText_2 ?_
  refine G_aload_n 0 rfl d_Mo_beginsText_5 ?_
  refine G_iload_n 1 rfl d_Mo_beginsText_6 ?_
  obtain ⟨S_7, e_7, h⟩ := ob_s h
  refine G_putI e_7 fp_Mo_145 km_0 sm_0 rfl d_Mo_beginsText_7 ?_
  refine G_aload_n 0 rfl d_Mo_beginsText_10 ?_
  refine G_iconst 0 (by decide) d_Mo_beginsText_11 ?_
  obtain ⟨S_12, e_12, h⟩ := ob_s h
  refine G_putI e_12 fp_Mo_166 km_0 sm_0 rfl d_Mo_beginsText_12 ?_
  refine G_aload_n 0 rfl d_Mo_beginsText_15 ?_
  refine G_iconst 0 (by decide) d_Mo_beginsText_16 ?_
  obtain ⟨S_17, e_17, h⟩ := ob_s h
  refine G_putI e_17 fp_Mo_221 km_0 sm_0 rfl d_Mo_beginsText_17 ?_
  cases h
  exact G_vret rfl d_Mo_beginsText_20
theorem d_Mo_law_0 : decode m_Mo_law.2.1 0 = .ok (.iload_n 1, 1) := by decide +kernel
theorem d_Mo_law_1 : decode m_Mo_law.2.1 1 = .ok (.iconst 1, 1) := by decide +kernel
theorem d_Mo_law_2 : decode m_Mo_law.2.1 2 = .ok (.sipush 240, 3) := by decide +kernel
theorem d_Mo_law_5 : decode m_Mo_law.2.1 5 = .ok (.invokestatic 124, 3) := by decide +kernel
theorem d_Mo_law_8 : decode m_Mo_law.2.1 8 = .ok (.ifCond .eq 11, 3) := by decide +kernel
theorem d_Mo_law_11 : decode m_Mo_law.2.1 11 = .ok (.iload_n 1, 1) := by decide +kernel
theorem d_Mo_law_12 : decode m_Mo_law.2.1 12 = .ok (.aload_n 0, 1) := by decide +kernel
theorem d_Mo_law_13 : decode m_Mo_law.2.1 13 = .ok (.getfield 135, 3) := by decide +kernel
theorem d_Mo_law_16 : decode m_Mo_law.2.1 16 = .ok (.if_icmp .le 5, 3) := by decide +kernel
theorem d_Mo_law_19 : decode m_Mo_law.2.1 19 = .ok (.iconst (-1), 1) := by decide +kernel
theorem d_Mo_law_20 : decode m_Mo_law.2.1 20 = .ok (.ireturn, 1) := by decide +kernel
theorem d_Mo_law_21 : decode m_Mo_law.2.1 21 = .ok (.aload_n 0, 1) := by decide +kernel
theorem d_Mo_law_22 : decode m_Mo_law.2.1 22 = .ok (.iload_n 1, 1) := by decide +kernel
theorem d_Mo_law_23 : decode m_Mo_law.2.1 23 = .ok (.invokevirtual 227, 3) := by decide +kernel
theorem d_Mo_law_26 : decode m_Mo_law.2.1 26 = .ok (.aload_n 0, 1) := by decide +kernel
theorem d_Mo_law_27 : decode m_Mo_law.2.1 27 = .ok (.invokevirtual 230, 3) := by decide +kernel
theorem d_Mo_law_30 : decode m_Mo_law.2.1 30 = .ok (.istore_n 2, 1) := by decide +kernel
theorem d_Mo_law_31 : decode m_Mo_law.2.1 31 = .ok (.iload_n 2, 1) := by decide +kernel
theorem d_Mo_law_32 : decode m_Mo_law.2.1 32 = .ok (.ifCond .eq 39, 3) := by decide +kernel
theorem d_Mo_law_35 : decode m_Mo_law.2.1 35 = .ok (.aload_n 0, 1) := by decide +kernel
theorem d_Mo_law_36 : decode m_Mo_law.2.1 36 = .ok (.getfield 142, 3) := by decide +kernel
theorem d_Mo_law_39 : decode m_Mo_law.2.1 39 = .ok (.aload_n 0, 1) := by decide +kernel
theorem d_Mo_law_40 : decode m_Mo_law.2.1 40 = .ok (.getfield 145, 3) := by decide +kernel
theorem d_Mo_law_43 : decode m_Mo_law.2.1 43 = .ok (.if_icmp .ge 28, 3) := by decide +kernel
theorem d_Mo_law_46 : decode m_Mo_law.2.1 46 = .ok (.aload_n 0, 1) := by decide +kernel
theorem d_Mo_law_47 : decode m_Mo_law.2.1 47 = .ok (.bipush 59, 2) := by decide +kernel
theorem d_Mo_law_49 : decode m_Mo_law.2.1 49 = .ok (.invokevirtual 233, 3) := by decide +kernel
theorem d_Mo_law_52 : decode m_Mo_law.2.1 52 = .ok (.ifCond .eq 14, 3) := by decide +kernel
theorem d_Mo_law_55 : decode m_Mo_law.2.1 55 = .ok (.aload_n 0, 1) := by decide +kernel
theorem d_Mo_law_56 : decode m_Mo_law.2.1 56 = .ok (.invokevirtual 230, 3) := by decide +kernel
theorem d_Mo_law_59 : decode m_Mo_law.2.1 59 = .ok (.ifCond .eq 7, 3) := by decide +kernel
theorem d_Mo_law_62 : decode m_Mo_law.2.1 62 = .ok (.iconst 1, 1) := by decide +kernel
theorem d_Mo_law_63 : decode m_Mo_law.2.1 63 = .ok (.goto 4, 3) := by decide +kernel
theorem d_Mo_law_66 : decode m_Mo_law.2.1 66 = .ok (.iconst 0, 1) := by decide +kernel
theorem d_Mo_law_67 : decode m_Mo_law.2.1 67 = .ok (.istore_n 2, 1) := by decide +kernel
theorem d_Mo_law_68 : decode m_Mo_law.2.1 68 = .ok (.goto (-37), 3) := by decide +kernel
theorem d_Mo_law_71 : decode m_Mo_law.2.1 71 = .ok (.aload_n 0, 1) := by decide +kernel
theorem d_Mo_law_72 : decode m_Mo_law.2.1 72 = .ok (.iconst 0, 1) := by decide +kernel
theorem d_Mo_law_73 : decode m_Mo_law.2.1 73 = .ok (.putfield 135, 3) := by decide +kernel
theorem d_Mo_law_76 : decode m_Mo_law.2.1 76 = .ok (.iload_n 2, 1) := by decide +kernel
theorem d_Mo_law_77 : decode m_Mo_law.2.1 77 = .ok (.ifCond .ne 8, 3) := by decide +kernel
theorem d_Mo_law_80 : decode m_Mo_law.2.1 80 = .ok (.aload_n 0, 1) := by decide +kernel
theorem d_Mo_law_81 : decode m_Mo_law.2.1 81 = .ok (.getfield 152, 3) := by decide +kernel
theorem d_Mo_law_84 : decode m_Mo_law.2.1 84 = .ok (.ireturn, 1) := by decide +kernel
theorem d_Mo_law_85 : decode m_Mo_law.2.1 85 = .ok (.aload_n 0, 1) := by decide +kernel
theorem d_Mo_law_86 : decode m_Mo_law.2.1 86 = .ok (.aload_n 0, 1) := by decide +kernel
theorem d_Mo_law_87 : decode m_Mo_law.2.1 87 = .ok (.getfield 221, 3) := by decide +kernel
theorem d_Mo_law_90 : decode m_Mo_law.2.1 90 = .ok (.putfield 236, 3) := by decide +kernel
theorem d_Mo_law_93 : decode m_Mo_law.2.1 93 = .ok (.iconst 0, 1) := by decide +kernel
theorem d_Mo_law_94 : decode m_Mo_law.2.1 94 = .ok (.istore_n 3, 1) := by decide +kernel
theorem d_Mo_law_95 : decode m_Mo_law.2.1 95 = .ok (.iload_n 3, 1) := by decide +kernel
theorem d_Mo_law_96 : decode m_Mo_law.2.1 96 = .ok (.aload_n 0, 1) := by decide +kernel
theorem d_Mo_law_97 : decode m_Mo_law.2.1 97 = .ok (.getfield 166, 3) := by decide +kernel
theorem d_Mo_law_100 : decode m_Mo_law.2.1 100 = .ok (.if_icmp .ge 21, 3) := by decide +kernel
theorem d_Mo_law_103 : decode m_Mo_law.2.1 103 = .ok (.aload_n 0, 1) := by decide +kernel
theorem d_Mo_law_104 : decode m_Mo_law.2.1 104 = .ok (.getfield 47, 3) := by decide +kernel
theorem d_Mo_law_107 : decode m_Mo_law.2.1 107 = .ok (.iload_n 3, 1) := by decide +kernel
theorem d_Mo_law_108 : decode m_Mo_law.2.1 108 = .ok (.aload_n 0, 1) := by decide +kernel
theorem d_Mo_law_109 : decode m_Mo_law.2.1 109 = .ok (.getfield 29, 3) := by decide +kernel
theorem d_Mo_law_112 : decode m_Mo_law.2.1 112 = .ok (.iload_n 3, 1) := by decide +kernel
theorem d_Mo_law_113 : decode m_Mo_law.2.1 113 = .ok (.iaload, 1) := by decide +kernel
theorem d_Mo_law_114 : decode m_Mo_law.2.1 114 = .ok (.iastore, 1) := by decide +kernel
theorem d_Mo_law_115 : decode m_Mo_law.2.1 115 = .ok (.iinc 3 1, 3) := by decide +kernel
theorem d_Mo_law_118 : decode m_Mo_law.2.1 118 = .ok (.goto (-23), 3) := by decide +kernel
theorem d_Mo_law_121 : decode m_Mo_law.2.1 121 = .ok (.iconst 0, 1) := by decide +kernel
theorem d_Mo_law_122 : decode m_Mo_law.2.1 122 = .ok (.istore_n 3, 1) := by decide +kernel
theorem d_Mo_law_123 : decode m_Mo_law.2.1 123 = .ok (.iload_n 3, 1) := by decide +kernel
theorem d_Mo_law_124 : decode m_Mo_law.2.1 124 = .ok (.aload_n 0, 1) := by decide +kernel
theorem d_Mo_law_125 : decode m_Mo_law.2.1 125 = .ok (.getfield 221, 3) := by decide +kernel
theorem d_Mo_law_128 : decode m_Mo_law.2.1 128 = .ok (.if_icmp .ge 57, 3) := by decide +kernel
theorem d_Mo_law_131 : decode m_Mo_law.2.1 131 = .ok (.aload_n 0, 1) := by decide +kernel
theorem d_Mo_law_132 : decode m_Mo_law.2.1 132 = .ok (.getfield 50, 3) := by decide +kernel
theorem d_Mo_law_135 : decode m_Mo_law.2.1 135 = .ok (.iload_n 3, 1) := by decide +kernel
theorem d_Mo_law_136 : decode m_Mo_law.2.1 136 = .ok (.aload_n 0, 1) := by decide +kernel
theorem d_Mo_law_137 : decode m_Mo_law.2.1 137 = .ok (.getfield 35, 3) := by decide +kernel
theorem d_Mo_law_140 : decode m_Mo_law.2.1 140 = .ok (.iload_n 3, 1) := by decide +kernel
theorem d_Mo_law_141 : decode m_Mo_law.2.1 141 = .ok (.iaload, 1) := by decide +kernel
theorem d_Mo_law_142 : decode m_Mo_law.2.1 142 = .ok (.iastore, 1) := by decide +kernel
theorem d_Mo_law_143 : decode m_Mo_law.2.1 143 = .ok (.aload_n 0, 1) := by decide +kernel
theorem d_Mo_law_144 : decode m_Mo_law.2.1 144 = .ok (.getfield 53, 3) := by decide +kernel
theorem d_Mo_law_147 : decode m_Mo_law.2.1 147 = .ok (.iload_n 3, 1) := by decide +kernel
theorem d_Mo_law_148 : decode m_Mo_law.2.1 148 = .ok (.aload_n 0, 1) := by decide +kernel
theorem d_Mo_law_149 : decode m_Mo_law.2.1 149 = .ok (.getfield 38, 3) := by decide +kernel
theorem d_Mo_law_152 : decode m_Mo_law.2.1 152 = .ok (.iload_n 3, 1) := by decide +kernel
theorem d_Mo_law_153 : decode m_Mo_law.2.1 153 = .ok (.iaload, 1) := by decide +kernel
theorem d_Mo_law_154 : decode m_Mo_law.2.1 154 = .ok (.iastore, 1) := by decide +kernel
theorem d_Mo_law_155 : decode m_Mo_law.2.1 155 = .ok (.aload_n 0, 1) := by decide +kernel
theorem d_Mo_law_156 : decode m_Mo_law.2.1 156 = .ok (.getfield 56, 3) := by decide +kernel
theorem d_Mo_law_159 : decode m_Mo_law.2.1 159 = .ok (.iload_n 3, 1) := by decide +kernel
theorem d_Mo_law_160 : decode m_Mo_law.2.1 160 = .ok (.aload_n 0, 1) := by decide +kernel
theorem d_Mo_law_161 : decode m_Mo_law.2.1 161 = .ok (.getfield 41, 3) := by decide +kernel
theorem d_Mo_law_164 : decode m_Mo_law.2.1 164 = .ok (.iload_n 3, 1) := by decide +kernel
theorem d_Mo_law_165 : decode m_Mo_law.2.1 165 = .ok (.iaload, 1) := by decide +kernel
theorem d_Mo_law_166 : decode m_Mo_law.2.1 166 = .ok (.iastore, 1) := by decide +kernel
theorem d_Mo_law_167 : decode m_Mo_law.2.1 167 = .ok (.aload_n 0, 1) := by decide +kernel
theorem d_Mo_law_168 : decode m_Mo_law.2.1 168 = .ok (.getfield 59, 3) := by decide +kernel
theorem d_Mo_law_171 : decode m_Mo_law.2.1 171 = .ok (.iload_n 3, 1) := by decide +kernel
theorem d_Mo_law_172 : decode m_Mo_law.2.1 172 = .ok (.aload_n 0, 1) := by decide +kernel
theorem d_Mo_law_173 : decode m_Mo_law.2.1 173 = .ok (.getfield 44, 3) := by decide +kernel
theorem d_Mo_law_176 : decode m_Mo_law.2.1 176 = .ok (.iload_n 3, 1) := by decide +kernel
theorem d_Mo_law_177 : decode m_Mo_law.2.1 177 = .ok (.iaload, 1) := by decide +kernel
theorem d_Mo_law_178 : decode m_Mo_law.2.1 178 = .ok (.iastore, 1) := by decide +kernel
theorem d_Mo_law_179 : decode m_Mo_law.2.1 179 = .ok (.iinc 3 1, 3) := by decide +kernel
theorem d_Mo_law_182 : decode m_Mo_law.2.1 182 = .ok (.goto (-59), 3) := by decide +kernel
theorem d_Mo_law_185 : decode m_Mo_law.2.1 185 = .ok (.aload_n 0, 1) := by decide +kernel
theorem d_Mo_law_186 : decode m_Mo_law.2.1 186 = .ok (.getfield 221, 3) := by decide +kernel
theorem d_Mo_law_189 : decode m_Mo_law.2.1 189 = .ok (.ireturn, 1) := by decide +kernel
def f_Mo_law_67 (k_31 : St → Int32 → Option (Int32 × St)) (S : St) (s0 : Int32) : Option (Int32 × St) :=
    k_31 S s0
set_option maxHeartbeats 4000000 in
set_option maxRecDepth 20000 in
theorem t_Mo_law_67  {k_31 : St → Int32 → Option (Int32 × St)} (hk_31 : ∀ (S : St) (l2 : Int32) (w : Int32 × St), k_31 S l2 = some w → G SM m_Mo_law 9 (some w.1) w.2 31 [(0, .ref 0), (2, .int l2)] [] S) (S : St) (s0 : Int32) (w : Int32 × St) (h : f_Mo_law_67 k_31 S s0 = some w) : G SM m_Mo_law 9 (some w.1) w.2 67 [(0, .ref 0)] [.int s0] S := by
  unfold f_Mo_law_67 at h
  refine G_istore_n [(2, .int s0), (0, .ref 0)] rfl rfl (by decide) d_Mo_law_67 ?_
  refine G_goto 31 (by decide) d_Mo_law_68 ?_
  exact G_sub _ [1, 0] rfl (hk_31 S s0 _ h)
def f_Mo_law_66 (k_31 : St → Int32 → Option (Int32 × St)) (S : St) : Option (Int32 × St) :=
    f_Mo_law_67 k_31 S (0 : Int32)
set_option maxHeartbeats 4000000 in
set_option maxRecDepth 20000 in
theorem t_Mo_law_66  {k_31 : St → Int32 → Option (Int32 × St)} (hk_31 : ∀ (S : St) (l2 : Int32) (w : Int32 × St), k_31 S l2 = some w → G SM m_Mo_law 9 (some w.1) w.2 31 [(0, .ref 0), (2, .int l2)] [] S) (S : St) (w : Int32 × St) (h : f_Mo_law_66 k_31 S = some w) : G SM m_Mo_law 9 (some w.1) w.2 66 [(0, .ref 0)] [] S := by
  unfold f_Mo_law_66 at h
  refine G_iconst 0 (by decide) d_Mo_law_66 ?_
  exact G_sub _ [0] rfl (t_Mo_law_67 hk_31 S (0 : Int32) _ h)
def f_Mo_law_123 : Nat → St → Int32 → Option (Int32 × St)
  | 0, _, _ => none
  | n + 1, S, l3 =>
    if (S 0 15) ≤ l3 then (
    some ((S 0 15), S))
    else (
    if ig l3 16 then (
    if ig l3 16 then (
    (some (sF S 14 l3.toNatClampNeg (S 9 l3.toNatClampNeg))).bind fun S_142 =>
    if ig l3 16 then (
    if ig l3 16 then (
    (some (sF S_142 15 l3.toNatClampNeg (S_142 10 l3.toNatClampNeg))).bind fun S_154 =>
    if ig l3 16 then (
    if ig l3 16 then (
    (some (sF S_154 16 l3.toNatClampNeg (S_154 11 l3.toNatClampNeg))).bind fun S_166 =>
    if ig l3 16 then (
    if ig l3 16 then (
    (some (sF S_166 17 l3.toNatClampNeg (S_166 12 l3.toNatClampNeg))).bind fun S_178 =>
    (some (l3 + 1)).bind fun l3_179 =>
    f_Mo_law_123 n S_178 l3_179) else none) else none) else none) else none) else none) else none) else none) else none)
set_option maxHeartbeats 4000000 in
set_option maxRecDepth 20000 in
theorem t_Mo_law_123  : ∀ (n : Nat) (S : St) (l3 : Int32) (w : Int32 × St), f_Mo_law_123 n S l3 = some w → G SM m_Mo_law 9 (some w.1) w.2 123 [(0, .ref 0), (3, .int l3)] [] S := by
  intro n
  induction n with
  | zero =>
    intro S l3 w h
    rw [f_Mo_law_123] at h
    cases h
  | succ n ih =>
    intro S l3 w h
    rw [f_Mo_law_123] at h
    refine G_iload_n 1 rfl d_Mo_law_123 ?_
    refine G_aload_n 0 rfl d_Mo_law_124 ?_
    refine G_getI fl_Mo_221 km_0 sm_0 rfl d_Mo_law_125 ?_
    refine G_icmp_ge 185 (by decide) d_Mo_law_128 (fun c_128 => ?_) (fun c_128 => ?_)
    · replace h := ob_t h c_128
      refine G_aload_n 0 rfl d_Mo_law_185 ?_
      refine G_getI fl_Mo_221 km_0 sm_0 rfl d_Mo_law_186 ?_
      cases h
      exact G_iret rfl d_Mo_law_189
    · replace h := ob_f h c_128
      refine G_aload_n 0 rfl d_Mo_law_131 ?_
      refine G_getR fl_Mo_50 km_0 sm_0 rfl (by decide) d_Mo_law_132 ?_
      refine G_iload_n 1 rfl d_Mo_law_135 ?_
      refine G_aload_n 0 rfl d_Mo_law_136 ?_
      refine G_getR fl_Mo_35 km_0 sm_0 rfl (by decide) d_Mo_law_137 ?_
      refine G_iload_n 1 rfl d_Mo_law_140 ?_
      obtain ⟨g_141, h⟩ := ob_g h
      refine G_iaload km_9 sm_9 g_141 d_Mo_law_141 ?_
      obtain ⟨g_142, h⟩ := ob_g h
      obtain ⟨S_142, e_142, h⟩ := ob_s h
      refine G_iastore e_142 km_14 sm_14 g_142 d_Mo_law_142 ?_
      refine G_aload_n 0 rfl d_Mo_law_143 ?_
      refine G_getR fl_Mo_53 km_0 sm_0 rfl (by decide) d_Mo_law_144 ?_
      refine G_iload_n 1 rfl d_Mo_law_147 ?_
      refine G_aload_n 0 rfl d_Mo_law_148 ?_
      refine G_getR fl_Mo_38 km_0 sm_0 rfl (by decide) d_Mo_law_149 ?_
      refine G_iload_n 1 rfl d_Mo_law_152 ?_
      obtain ⟨g_153, h⟩ := ob_g h
      refine G_iaload km_10 sm_10 g_153 d_Mo_law_153 ?_
      obtain ⟨g_154, h⟩ := ob_g h
      obtain ⟨S_154, e_154, h⟩ := ob_s h
      refine G_iastore e_154 km_15 sm_15 g_154 d_Mo_law_154 ?_
      refine G_aload_n 0 rfl d_Mo_law_155 ?_
      refine G_getR fl_Mo_56 km_0 sm_0 rfl (by decide) d_Mo_law_156 ?_
      refine G_iload_n 1 rfl d_Mo_law_159 ?_
      refine G_aload_n 0 rfl d_Mo_law_160 ?_
      refine G_getR fl_Mo_41 km_0 sm_0 rfl (by decide) d_Mo_law_161 ?_
      refine G_iload_n 1 rfl d_Mo_law_164 ?_
      obtain ⟨g_165, h⟩ := ob_g h
      refine G_iaload km_11 sm_11 g_165 d_Mo_law_165 ?_
      obtain ⟨g_166, h⟩ := ob_g h
      obtain ⟨S_166, e_166, h⟩ := ob_s h
      refine G_iastore e_166 km_16 sm_16 g_166 d_Mo_law_166 ?_
      refine G_aload_n 0 rfl d_Mo_law_167 ?_
      refine G_getR fl_Mo_59 km_0 sm_0 rfl (by decide) d_Mo_law_168 ?_
      refine G_iload_n 1 rfl d_Mo_law_171 ?_
      refine G_aload_n 0 rfl d_Mo_law_172 ?_
      refine G_getR fl_Mo_44 km_0 sm_0 rfl (by decide) d_Mo_law_173 ?_
      refine G_iload_n 1 rfl d_Mo_law_176 ?_
      obtain ⟨g_177, h⟩ := ob_g h
      refine G_iaload km_12 sm_12 g_177 d_Mo_law_177 ?_
      obtain ⟨g_178, h⟩ := ob_g h
      obtain ⟨S_178, e_178, h⟩ := ob_s h
      refine G_iastore e_178 km_17 sm_17 g_178 d_Mo_law_178 ?_
      obtain ⟨l3_179, e_179, h⟩ := ob_s h
      refine G_iinc 1 1 [(3, .int l3_179), (0, .ref 0)] (by decide) rfl e_179 rfl (by decide) d_Mo_law_179 ?_
      refine G_goto 123 (by decide) d_Mo_law_182 ?_
      exact G_sub _ [1, 0] rfl (ih S_178 l3_179 _ h)
def f_Mo_law_95 : Nat → St → Int32 → Option (Int32 × St)
  | 0, _, _ => none
  | n + 1, S, l3 =>
    if (S 0 13) ≤ l3 then (
    (some (0 : Int32)).bind fun l3_122 =>
    f_Mo_law_123 FU S l3_122)
    else (
    if ig l3 260 then (
    if ig l3 260 then (
    (some (sF S 13 l3.toNatClampNeg (S 7 l3.toNatClampNeg))).bind fun S_114 =>
    (some (l3 + 1)).bind fun l3_115 =>
    f_Mo_law_95 n S_114 l3_115) else none) else none)
set_option maxHeartbeats 4000000 in
set_option maxRecDepth 20000 in
theorem t_Mo_law_95  : ∀ (n : Nat) (S : St) (l3 : Int32) (w : Int32 × St), f_Mo_law_95 n S l3 = some w → G SM m_Mo_law 9 (some w.1) w.2 95 [(0, .ref 0), (3, .int l3)] [] S := by
  intro n
  induction n with
  | zero =>
    intro S l3 w h
    rw [f_Mo_law_95] at h
    cases h
  | succ n ih =>
    intro S l3 w h
    rw [f_Mo_law_95] at h
    refine G_iload_n 1 rfl d_Mo_law_95 ?_
    refine G_aload_n 0 rfl d_Mo_law_96 ?_
    refine G_getI fl_Mo_166 km_0 sm_0 rfl d_Mo_law_97 ?_
    refine G_icmp_ge 121 (by decide) d_Mo_law_100 (fun c_100 => ?_) (fun c_100 => ?_)
    · replace h := ob_t h c_100
      refine G_iconst 0 (by decide) d_Mo_law_121 ?_
      obtain ⟨l3_122, e_122, h⟩ := ob_s h
      refine G_istore_n [(3, .int l3_122), (0, .ref 0)] e_122 rfl (by decide) d_Mo_law_122 ?_
      exact G_sub _ [1, 0] rfl (t_Mo_law_123 FU S l3_122 _ h)
    · replace h := ob_f h c_100
      refine G_aload_n 0 rfl d_Mo_law_103 ?_
      refine G_getR fl_Mo_47 km_0 sm_0 rfl (by decide) d_Mo_law_104 ?_
      refine G_iload_n 1 rfl d_Mo_law_107 ?_
      refine G_aload_n 0 rfl d_Mo_law_108 ?_
      refine G_getR fl_Mo_29 km_0 sm_0 rfl (by decide) d_Mo_law_109 ?_
      refine G_iload_n 1 rfl d_Mo_law_112 ?_
      obtain ⟨g_113, h⟩ := ob_g h
      refine G_iaload km_7 sm_7 g_113 d_Mo_law_113 ?_
      obtain ⟨g_114, h⟩ := ob_g h
      obtain ⟨S_114, e_114, h⟩ := ob_s h
      refine G_iastore e_114 km_13 sm_13 g_114 d_Mo_law_114 ?_
      obtain ⟨l3_115, e_115, h⟩ := ob_s h
      refine G_iinc 1 1 [(3, .int l3_115), (0, .ref 0)] (by decide) rfl e_115 rfl (by decide) d_Mo_law_115 ?_
      refine G_goto 95 (by decide) d_Mo_law_118 ?_
      exact G_sub _ [1, 0] rfl (ih S_114 l3_115 _ h)
def f_Mo_law_71 (S : St) (l2 : Int32) : Option (Int32 × St) :=
    (some (sF S 0 7 0)).bind fun S_73 =>
    if l2 = 0 then (
    some ((S_73 0 10), S_73))
    else (
    (some (sF S_73 0 16 (S_73 0 15))).bind fun S_90 =>
    (some (0 : Int32)).bind fun l3_94 =>
    f_Mo_law_95 FU S_90 l3_94)
set_option maxHeartbeats 4000000 in
set_option maxRecDepth 20000 in
theorem t_Mo_law_71  (S : St) (l2 : Int32) (w : Int32 × St) (h : f_Mo_law_71 S l2 = some w) : G SM m_Mo_law 9 (some w.1) w.2 71 [(0, .ref 0), (2, .int l2)] [] S := by
  unfold f_Mo_law_71 at h
  refine G_aload_n 0 rfl d_Mo_law_71 ?_
  refine G_iconst 0 (by decide) d_Mo_law_72 ?_
  obtain ⟨S_73, e_73, h⟩ := ob_s h
  refine G_putI e_73 fp_Mo_135 km_0 sm_0 rfl d_Mo_law_73 ?_
  refine G_iload_n 1 rfl d_Mo_law_76 ?_
  refine G_if_ne 85 (by decide) d_Mo_law_77 (fun c_77 => ?_) (fun c_77 => ?_)
  · replace h := ob_f h c_77
    refine G_aload_n 0 rfl d_Mo_law_85 ?_
    refine G_aload_n 0 rfl d_Mo_law_86 ?_
    refine G_getI fl_Mo_221 km_0 sm_0 rfl d_Mo_law_87 ?_
    obtain ⟨S_90, e_90, h⟩ := ob_s h
    refine G_putI e_90 fp_Mo_236 km_0 sm_0 rfl d_Mo_law_90 ?_
    refine G_iconst 0 (by decide) d_Mo_law_93 ?_
    obtain ⟨l3_94, e_94, h⟩ := ob_s h
    refine G_istore_n [(3, .int l3_94), (0, .ref 0), (2, .int l2)] e_94 rfl (by decide) d_Mo_law_94 ?_
    exact G_sub _ [1, 0] rfl (t_Mo_law_95 FU S_90 l3_94 _ h)
  · replace h := ob_t h c_77
    refine G_aload_n 0 rfl d_Mo_law_80 ?_
    refine G_getI fl_Mo_152 km_0 sm_0 rfl d_Mo_law_81 ?_
    cases h
    exact G_iret rfl d_Mo_law_84
def f_Mo_law_31 : Nat → St → Int32 → Option (Int32 × St)
  | 0, _, _ => none
  | n + 1, S, l2 =>
    if l2 = 0 then (
    f_Mo_law_71 S l2)
    else (
    if (S 0 9) ≤ (S 0 8) then (
    f_Mo_law_71 S l2)
    else (
    (f_Mo_takes S (59 : Int32)).bind fun w_49 =>
    if w_49.1 = 0 then (
    f_Mo_law_66 (f_Mo_law_31 n) w_49.2)
    else (
    (f_Mo_readsRule w_49.2).bind fun w_56 =>
    if w_56.1 = 0 then (
    f_Mo_law_66 (f_Mo_law_31 n) w_56.2)
    else (
    f_Mo_law_67 (f_Mo_law_31 n) w_56.2 (1 : Int32)))))
set_option maxHeartbeats 4000000 in
set_option maxRecDepth 20000 in
theorem t_Mo_law_31  : ∀ (n : Nat) (S : St) (l2 : Int32) (w : Int32 × St), f_Mo_law_31 n S l2 = some w → G SM m_Mo_law 9 (some w.1) w.2 31 [(0, .ref 0), (2, .int l2)] [] S := by
  intro n
  induction n with
  | zero =>
    intro S l2 w h
    rw [f_Mo_law_31] at h
    cases h
  | succ n ih =>
    intro S l2 w h
    rw [f_Mo_law_31] at h
    refine G_iload_n 1 rfl d_Mo_law_31 ?_
    refine G_if_eq 71 (by decide) d_Mo_law_32 (fun c_32 => ?_) (fun c_32 => ?_)
    · replace h := ob_t h c_32
      exact G_sub _ [0, 1] rfl (t_Mo_law_71 S l2 _ h)
    · replace h := ob_f h c_32
      refine G_aload_n 0 rfl d_Mo_law_35 ?_
      refine G_getI fl_Mo_142 km_0 sm_0 rfl d_Mo_law_36 ?_
      refine G_aload_n 0 rfl d_Mo_law_39 ?_
      refine G_getI fl_Mo_145 km_0 sm_0 rfl d_Mo_law_40 ?_
      refine G_icmp_ge 71 (by decide) d_Mo_law_43 (fun c_43 => ?_) (fun c_43 => ?_)
      · replace h := ob_t h c_43
        exact G_sub _ [0, 1] rfl (t_Mo_law_71 S l2 _ h)
      · replace h := ob_f h c_43
        refine G_aload_n 0 rfl d_Mo_law_46 ?_
        refine G_bipush 59 (by decide) d_Mo_law_47 ?_
        obtain ⟨w_49, q_49, h⟩ := ob_b h
        refine G_callV [.int 59] [] (t_Mo_takes q_49) (by decide) (by decide) mv_Mo_takes rfl ml_Mo_233 km_0 sm_0 cl_12 rfl (Nat.le_of_ble_eq_true rfl) d_Mo_law_49 ?_
        refine G_if_eq 66 (by decide) d_Mo_law_52 (fun c_52 => ?_) (fun c_52 => ?_)
        · replace h := ob_t h c_52
          exact G_sub _ [0] rfl (t_Mo_law_66 ih w_49.2 _ h)
        · replace h := ob_f h c_52
          refine G_aload_n 0 rfl d_Mo_law_55 ?_
          obtain ⟨w_56, q_56, h⟩ := ob_b h
          refine G_callV [] [] (t_Mo_readsRule q_56) (by decide) (by decide) mv_Mo_readsRule rfl ml_Mo_230 km_0 sm_0 cl_12 rfl (Nat.le_of_ble_eq_true rfl) d_Mo_law_56 ?_
          refine G_if_eq 66 (by decide) d_Mo_law_59 (fun c_59 => ?_) (fun c_59 => ?_)
          · replace h := ob_t h c_59
            exact G_sub _ [0] rfl (t_Mo_law_66 ih w_56.2 _ h)
          · replace h := ob_f h c_59
            refine G_iconst 1 (by decide) d_Mo_law_62 ?_
            refine G_goto 67 (by decide) d_Mo_law_63 ?_
            exact G_sub _ [0] rfl (t_Mo_law_67 ih w_56.2 (1 : Int32) _ h)
def f_Mo_law (S : St) (l1 : Int32) : Option (Int32 × St) :=
    (f_Mo_in S l1 (1 : Int32) (240 : Int32)).bind fun v_5 =>
    if v_5 = 0 then (
    some ((-1), S))
    else (
    if l1 ≤ (S 0 7) then (
    (f_Mo_beginsText S l1).bind fun w_23 =>
    (f_Mo_readsRule w_23).bind fun w_27 =>
    (some w_27.1).bind fun l2_30 =>
    f_Mo_law_31 FU w_27.2 l2_30)
    else (
    some ((-1), S)))
set_option maxHeartbeats 4000000 in
set_option maxRecDepth 20000 in
theorem t_Mo_law  {S : St} {l1 : Int32} {w : Int32 × St} (h : f_Mo_law S l1 = some w) : Ct SM m_Mo_law 9 [.ref 0, .int l1] S (some w.1) w.2 := by
  unfold f_Mo_law at h
  refine Ct.of pn_Mo (Nat.le_of_ble_eq_true rfl) ?_
  show G SM m_Mo_law 9 (some w.1) w.2 0 [(0, .ref 0), (1, .int l1)] [] S
  refine G_iload_n 1 rfl d_Mo_law_0 ?_
  refine G_iconst 1 (by decide) d_Mo_law_1 ?_
  refine G_sipush 240 (by decide) d_Mo_law_2 ?_
  obtain ⟨v_5, q_5, h⟩ := ob_b h
  refine G_callS [.int l1, .int 1, .int 240] [] (t_Mo_in q_5) (by decide) (by decide) mt_Mo_in rfl ml_Mo_124 rfl (Nat.le_of_ble_eq_true rfl) d_Mo_law_5 ?_
  refine G_if_eq 19 (by decide) d_Mo_law_8 (fun c_8 => ?_) (fun c_8 => ?_)
  · replace h := ob_t h c_8
    refine G_iconst (-1) (by decide) d_Mo_law_19 ?_
    cases h
    exact G_iret rfl d_Mo_law_20
  · replace h := ob_f h c_8
    refine G_iload_n 1 rfl d_Mo_law_11 ?_
    refine G_aload_n 0 rfl d_Mo_law_12 ?_
    refine G_getI fl_Mo_135 km_0 sm_0 rfl d_Mo_law_13 ?_
    refine G_icmp_le 21 (by decide) d_Mo_law_16 (fun c_16 => ?_) (fun c_16 => ?_)
    · replace h := ob_t h c_16
      refine G_aload_n 0 rfl d_Mo_law_21 ?_
      refine G_iload_n 1 rfl d_Mo_law_22 ?_
      obtain ⟨w_23, q_23, h⟩ := ob_b h
      refine G_callV [.int l1] [] (t_Mo_beginsText q_23) (by decide) (by decide) mv_Mo_beginsText rfl ml_Mo_227 km_0 sm_0 cl_12 rfl (Nat.le_of_ble_eq_true rfl) d_Mo_law_23 ?_
      refine G_aload_n 0 rfl d_Mo_law_26 ?_
      obtain ⟨w_27, q_27, h⟩ := ob_b h
      refine G_callV [] [] (t_Mo_readsRule q_27) (by decide) (by decide) mv_Mo_readsRule rfl ml_Mo_230 km_0 sm_0 cl_12 rfl (Nat.le_of_ble_eq_true rfl) d_Mo_law_27 ?_
      obtain ⟨l2_30, e_30, h⟩ := ob_s h
      refine G_istore_n [(2, .int l2_30), (0, .ref 0), (1, .int l1)] e_30 rfl (by decide) d_Mo_law_30 ?_
      exact G_sub _ [1, 0] rfl (t_Mo_law_31 FU w_27.2 l2_30 _ h)
    · replace h := ob_f h c_16
      refine G_iconst (-1) (by decide) d_Mo_law_19 ?_
      cases h
      exact G_iret rfl d_Mo_law_20
theorem d_Mo_reckon_0 : decode m_Mo_reckon.2.1 0 = .ok (.iload_n 0, 1) := by decide +kernel
theorem d_Mo_reckon_1 : decode m_Mo_reckon.2.1 1 = .ok (.tableswitch 85 2 8 #[43, 47, 51, 55, 59, 63, 74], 43) := by decide +kernel
theorem d_Mo_reckon_44 : decode m_Mo_reckon.2.1 44 = .ok (.iload_n 1, 1) := by decide +kernel
theorem d_Mo_reckon_45 : decode m_Mo_reckon.2.1 45 = .ok (.iload_n 2, 1) := by decide +kernel
theorem d_Mo_reckon_46 : decode m_Mo_reckon.2.1 46 = .ok (.iadd, 1) := by decide +kernel
theorem d_Mo_reckon_47 : decode m_Mo_reckon.2.1 47 = .ok (.ireturn, 1) := by decide +kernel
theorem d_Mo_reckon_48 : decode m_Mo_reckon.2.1 48 = .ok (.iload_n 1, 1) := by decide +kernel
theorem d_Mo_reckon_49 : decode m_Mo_reckon.2.1 49 = .ok (.iload_n 2, 1) := by decide +kernel
theorem d_Mo_reckon_50 : decode m_Mo_reckon.2.1 50 = .ok (.isub, 1) := by decide +kernel
theorem d_Mo_reckon_51 : decode m_Mo_reckon.2.1 51 = .ok (.ireturn, 1) := by decide +kernel
theorem d_Mo_reckon_52 : decode m_Mo_reckon.2.1 52 = .ok (.iload_n 1, 1) := by decide +kernel
theorem d_Mo_reckon_53 : decode m_Mo_reckon.2.1 53 = .ok (.iload_n 2, 1) := by decide +kernel
theorem d_Mo_reckon_54 : decode m_Mo_reckon.2.1 54 = .ok (.imul, 1) := by decide +kernel
theorem d_Mo_reckon_55 : decode m_Mo_reckon.2.1 55 = .ok (.ireturn, 1) := by decide +kernel
theorem d_Mo_reckon_56 : decode m_Mo_reckon.2.1 56 = .ok (.iload_n 1, 1) := by decide +kernel
theorem d_Mo_reckon_57 : decode m_Mo_reckon.2.1 57 = .ok (.iload_n 2, 1) := by decide +kernel
theorem d_Mo_reckon_58 : decode m_Mo_reckon.2.1 58 = .ok (.idiv, 1) := by decide +kernel
theorem d_Mo_reckon_59 : decode m_Mo_reckon.2.1 59 = .ok (.ireturn, 1) := by decide +kernel
theorem d_Mo_reckon_60 : decode m_Mo_reckon.2.1 60 = .ok (.iload_n 1, 1) := by decide +kernel
theorem d_Mo_reckon_61 : decode m_Mo_reckon.2.1 61 = .ok (.iload_n 2, 1) := by decide +kernel
theorem d_Mo_reckon_62 : decode m_Mo_reckon.2.1 62 = .ok (.irem, 1) := by decide +kernel
theorem d_Mo_reckon_63 : decode m_Mo_reckon.2.1 63 = .ok (.ireturn, 1) := by decide +kernel
theorem d_Mo_reckon_64 : decode m_Mo_reckon.2.1 64 = .ok (.iload_n 1, 1) := by decide +kernel
theorem d_Mo_reckon_65 : decode m_Mo_reckon.2.1 65 = .ok (.iload_n 2, 1) := by decide +kernel
theorem d_Mo_reckon_66 : decode m_Mo_reckon.2.1 66 = .ok (.if_icmp .ge 7, 3) := by decide +kernel
theorem d_Mo_reckon_69 : decode m_Mo_reckon.2.1 69 = .ok (.iconst 1, 1) := by decide +kernel
theorem d_Mo_reckon_70 : decode m_Mo_reckon.2.1 70 = .ok (.goto 4, 3) := by decide +kernel
theorem d_Mo_reckon_73 : decode m_Mo_reckon.2.1 73 = .ok (.iconst 0, 1) := by decide +kernel
theorem d_Mo_reckon_74 : decode m_Mo_reckon.2.1 74 = .ok (.ireturn, 1) := by decide +kernel
theorem d_Mo_reckon_75 : decode m_Mo_reckon.2.1 75 = .ok (.iload_n 1, 1) := by decide +kernel
theorem d_Mo_reckon_76 : decode m_Mo_reckon.2.1 76 = .ok (.iload_n 2, 1) := by decide +kernel
theorem d_Mo_reckon_77 : decode m_Mo_reckon.2.1 77 = .ok (.if_icmp .le 7, 3) := by decide +kernel
theorem d_Mo_reckon_80 : decode m_Mo_reckon.2.1 80 = .ok (.iconst 1, 1) := by decide +kernel
theorem d_Mo_reckon_81 : decode m_Mo_reckon.2.1 81 = .ok (.goto 4, 3) := by decide +kernel
theorem d_Mo_reckon_84 : decode m_Mo_reckon.2.1 84 = .ok (.iconst 0, 1) := by decide +kernel
theorem d_Mo_reckon_85 : decode m_Mo_reckon.2.1 85 = .ok (.ireturn, 1) := by decide +kernel
theorem d_Mo_reckon_86 : decode m_Mo_reckon.2.1 86 = .ok (.iload_n 1, 1) := by decide +kernel
theorem d_Mo_reckon_87 : decode m_Mo_reckon.2.1 87 = .ok (.iload_n 2, 1) := by decide +kernel
theorem d_Mo_reckon_88 : decode m_Mo_reckon.2.1 88 = .ok (.if_icmp .ne 7, 3) := by decide +kernel
theorem d_Mo_reckon_91 : decode m_Mo_reckon.2.1 91 = .ok (.iconst 1, 1) := by decide +kernel
theorem d_Mo_reckon_92 : decode m_Mo_reckon.2.1 92 = .ok (.goto 4, 3) := by decide +kernel
theorem d_Mo_reckon_95 : decode m_Mo_reckon.2.1 95 = .ok (.iconst 0, 1) := by decide +kernel
theorem d_Mo_reckon_96 : decode m_Mo_reckon.2.1 96 = .ok (.ireturn, 1) := by decide +kernel
def f_Mo_reckon (S : St) (l0 : Int32) (l1 : Int32) (l2 : Int32) : Option (Int32) :=
    if l0 = 2 then (
    some (l1 + l2))
    else if l0 = 3 then (
    some (l1 - l2))
    else if l0 = 4 then (
    some (l1 * l2))
    else if l0 = 5 then (
    if ¬ (l2 = 0) then (
    some (l1 / l2)) else none)
    else if l0 = 6 then (
    if ¬ (l2 = 0) then (
    some (jrem l1 l2)) else none)
    else if l0 = 7 then (
    if l2 ≤ l1 then (
    some (0 : Int32))
    else (
    some (1 : Int32)))
    else if l0 = 8 then (
    if l1 ≤ l2 then (
    some (0 : Int32))
    else (
    some (1 : Int32)))
    else (
    if l1 = l2 then (
    some (1 : Int32))
    else (
    some (0 : Int32)))
set_option maxHeartbeats 4000000 in
set_option maxRecDepth 20000 in
theorem t_Mo_reckon  {S : St} {l0 : Int32} {l1 : Int32} {l2 : Int32} {w : Int32} (h : f_Mo_reckon S l0 l1 l2 = some w) : Ct SM m_Mo_reckon 1 [.int l0, .int l1, .int l2] S (some w) S := by
  unfold f_Mo_reckon at h
  refine Ct.of pn_Mo (Nat.le_of_ble_eq_true rfl) ?_
  show G SM m_Mo_reckon 1 (some w) S 0 [(0, .int l0), (1, .int l1), (2, .int l2)] [] S
  refine G_iload_n 0 rfl d_Mo_reckon_0 ?_
  by_cases c_1_0 : l0 = 2
  · replace h := ob_t h c_1_0
    refine G_tin (2) (by rw [c_1_0]; decide) 44 (by decide) (by decide) rfl (by decide) d_Mo_reckon_1 ?_
    refine G_iload_n 1 rfl d_Mo_reckon_44 ?_
    refine G_iload_n 2 rfl d_Mo_reckon_45 ?_
    refine G_iadd d_Mo_reckon_46 ?_
    cases h
    exact G_iret rfl d_Mo_reckon_47
  replace h := ob_f h c_1_0
  by_cases c_1_1 : l0 = 3
  · replace h := ob_t h c_1_1
    refine G_tin (3) (by rw [c_1_1]; decide) 48 (by decide) (by decide) rfl (by decide) d_Mo_reckon_1 ?_
    refine G_iload_n 1 rfl d_Mo_reckon_48 ?_
    refine G_iload_n 2 rfl d_Mo_reckon_49 ?_
    refine G_isub d_Mo_reckon_50 ?_
    cases h
    exact G_iret rfl d_Mo_reckon_51
  replace h := ob_f h c_1_1
  by_cases c_1_2 : l0 = 4
  · replace h := ob_t h c_1_2
    refine G_tin (4) (by rw [c_1_2]; decide) 52 (by decide) (by decide) rfl (by decide) d_Mo_reckon_1 ?_
    refine G_iload_n 1 rfl d_Mo_reckon_52 ?_
    refine G_iload_n 2 rfl d_Mo_reckon_53 ?_
    refine G_imul d_Mo_reckon_54 ?_
    cases h
    exact G_iret rfl d_Mo_reckon_55
  replace h := ob_f h c_1_2
  by_cases c_1_3 : l0 = 5
  · replace h := ob_t h c_1_3
    refine G_tin (5) (by rw [c_1_3]; decide) 56 (by decide) (by decide) rfl (by decide) d_Mo_reckon_1 ?_
    refine G_iload_n 1 rfl d_Mo_reckon_56 ?_
    refine G_iload_n 2 rfl d_Mo_reckon_57 ?_
    obtain ⟨g_58, h⟩ := ob_g h
    refine G_idiv g_58 d_Mo_reckon_58 ?_
    cases h
    exact G_iret rfl d_Mo_reckon_59
  replace h := ob_f h c_1_3
  by_cases c_1_4 : l0 = 6
  · replace h := ob_t h c_1_4
    refine G_tin (6) (by rw [c_1_4]; decide) 60 (by decide) (by decide) rfl (by decide) d_Mo_reckon_1 ?_
    refine G_iload_n 1 rfl d_Mo_reckon_60 ?_
    refine G_iload_n 2 rfl d_Mo_reckon_61 ?_
    obtain ⟨g_62, h⟩ := ob_g h
    refine G_irem g_62 d_Mo_reckon_62 ?_
    cases h
    exact G_iret rfl d_Mo_reckon_63
  replace h := ob_f h c_1_4
  by_cases c_1_5 : l0 = 7
  · replace h := ob_t h c_1_5
    refine G_tin (7) (by rw [c_1_5]; decide) 64 (by decide) (by decide) rfl (by decide) d_Mo_reckon_1 ?_
    refine G_iload_n 1 rfl d_Mo_reckon_64 ?_
    refine G_iload_n 2 rfl d_Mo_reckon_65 ?_
    refine G_icmp_ge 73 (by decide) d_Mo_reckon_66 (fun c_66 => ?_) (fun c_66 => ?_)
    · replace h := ob_t h c_66
      refine G_iconst 0 (by decide) d_Mo_reckon_73 ?_
      cases h
      exact G_iret rfl d_Mo_reckon_74
    · replace h := ob_f h c_66
      refine G_iconst 1 (by decide) d_Mo_reckon_69 ?_
      refine G_goto 74 (by decide) d_Mo_reckon_70 ?_
      cases h
      exact G_iret rfl d_Mo_reckon_74
  replace h := ob_f h c_1_5
  by_cases c_1_6 : l0 = 8
  · replace h := ob_t h c_1_6
    refine G_tin (8) (by rw [c_1_6]; decide) 75 (by decide) (by decide) rfl (by decide) d_Mo_reckon_1 ?_
    refine G_iload_n 1 rfl d_Mo_reckon_75 ?_
    refine G_iload_n 2 rfl d_Mo_reckon_76 ?_
    refine G_icmp_le 84 (by decide) d_Mo_reckon_77 (fun c_77 => ?_) (fun c_77 => ?_)
    · replace h := ob_t h c_77
      refine G_iconst 0 (by decide) d_Mo_reckon_84 ?_
      cases h
      exact G_iret rfl d_Mo_reckon_85
    · replace h := ob_f h c_77
      refine G_iconst 1 (by decide) d_Mo_reckon_80 ?_
      refine G_goto 85 (by decide) d_Mo_reckon_81 ?_
      cases h
      exact G_iret rfl d_Mo_reckon_85
  replace h := ob_f h c_1_6
  have n_1_0 := lv_neT c_1_0 (a := 2) (by decide)
  have n_1_1 := lv_neT c_1_1 (a := 3) (by decide)
  have n_1_2 := lv_neT c_1_2 (a := 4) (by decide)
  have n_1_3 := lv_neT c_1_3 (a := 5) (by decide)
  have n_1_4 := lv_neT c_1_4 (a := 6) (by decide)
  have n_1_5 := lv_neT c_1_5 (a := 7) (by decide)
  have n_1_6 := lv_neT c_1_6 (a := 8) (by decide)
  refine G_tout (by omega) 86 (by decide) d_Mo_reckon_1 ?_
  refine G_iload_n 1 rfl d_Mo_reckon_86 ?_
  refine G_iload_n 2 rfl d_Mo_reckon_87 ?_
  refine G_icmp_ne 95 (by decide) d_Mo_reckon_88 (fun c_88 => ?_) (fun c_88 => ?_)
  · replace h := ob_f h c_88
    refine G_iconst 0 (by decide) d_Mo_reckon_95 ?_
    cases h
    exact G_iret rfl d_Mo_reckon_96
  · replace h := ob_t h c_88
    refine G_iconst 1 (by decide) d_Mo_reckon_91 ?_
    refine G_goto 96 (by decide) d_Mo_reckon_92 ?_
    cases h
    exact G_iret rfl d_Mo_reckon_96
theorem d_Mo_reckonsTo_0 : decode m_Mo_reckonsTo.2.1 0 = .ok (.iconst 0, 1) := by decide +kernel
theorem d_Mo_reckonsTo_1 : decode m_Mo_reckonsTo.2.1 1 = .ok (.istore_n 3, 1) := by decide +kernel
theorem d_Mo_reckonsTo_2 : decode m_Mo_reckonsTo.2.1 2 = .ok (.sipush 260, 3) := by decide +kernel
theorem d_Mo_reckonsTo_5 : decode m_Mo_reckonsTo.2.1 5 = .ok (.iload_n 1, 1) := by decide +kernel
theorem d_Mo_reckonsTo_6 : decode m_Mo_reckonsTo.2.1 6 = .ok (.sipush 260, 3) := by decide +kernel
theorem d_Mo_reckonsTo_9 : decode m_Mo_reckonsTo.2.1 9 = .ok (.idiv, 1) := by decide +kernel
theorem d_Mo_reckonsTo_10 : decode m_Mo_reckonsTo.2.1 10 = .ok (.imul, 1) := by decide +kernel
theorem d_Mo_reckonsTo_11 : decode m_Mo_reckonsTo.2.1 11 = .ok (.istore 4, 2) := by decide +kernel
theorem d_Mo_reckonsTo_13 : decode m_Mo_reckonsTo.2.1 13 = .ok (.iload_n 1, 1) := by decide +kernel
theorem d_Mo_reckonsTo_14 : decode m_Mo_reckonsTo.2.1 14 = .ok (.istore 5, 2) := by decide +kernel
theorem d_Mo_reckonsTo_16 : decode m_Mo_reckonsTo.2.1 16 = .ok (.iload 5, 2) := by decide +kernel
theorem d_Mo_reckonsTo_18 : decode m_Mo_reckonsTo.2.1 18 = .ok (.iload_n 2, 1) := by decide +kernel
theorem d_Mo_reckonsTo_19 : decode m_Mo_reckonsTo.2.1 19 = .ok (.if_icmp .ge 214, 3) := by decide +kernel
theorem d_Mo_reckonsTo_22 : decode m_Mo_reckonsTo.2.1 22 = .ok (.aload_n 0, 1) := by decide +kernel
theorem d_Mo_reckonsTo_23 : decode m_Mo_reckonsTo.2.1 23 = .ok (.getfield 47, 3) := by decide +kernel
theorem d_Mo_reckonsTo_26 : decode m_Mo_reckonsTo.2.1 26 = .ok (.iload 5, 2) := by decide +kernel
theorem d_Mo_reckonsTo_28 : decode m_Mo_reckonsTo.2.1 28 = .ok (.iaload, 1) := by decide +kernel
theorem d_Mo_reckonsTo_29 : decode m_Mo_reckonsTo.2.1 29 = .ok (.ldc 169, 2) := by decide +kernel
theorem d_Mo_reckonsTo_31 : decode m_Mo_reckonsTo.2.1 31 = .ok (.idiv, 1) := by decide +kernel
theorem d_Mo_reckonsTo_32 : decode m_Mo_reckonsTo.2.1 32 = .ok (.istore 6, 2) := by decide +kernel
theorem d_Mo_reckonsTo_34 : decode m_Mo_reckonsTo.2.1 34 = .ok (.aload_n 0, 1) := by decide +kernel
theorem d_Mo_reckonsTo_35 : decode m_Mo_reckonsTo.2.1 35 = .ok (.getfield 47, 3) := by decide +kernel
theorem d_Mo_reckonsTo_38 : decode m_Mo_reckonsTo.2.1 38 = .ok (.iload 5, 2) := by decide +kernel
theorem d_Mo_reckonsTo_40 : decode m_Mo_reckonsTo.2.1 40 = .ok (.iaload, 1) := by decide +kernel
theorem d_Mo_reckonsTo_41 : decode m_Mo_reckonsTo.2.1 41 = .ok (.ldc 169, 2) := by decide +kernel
theorem d_Mo_reckonsTo_43 : decode m_Mo_reckonsTo.2.1 43 = .ok (.irem, 1) := by decide +kernel
theorem d_Mo_reckonsTo_44 : decode m_Mo_reckonsTo.2.1 44 = .ok (.istore 7, 2) := by decide +kernel
theorem d_Mo_reckonsTo_46 : decode m_Mo_reckonsTo.2.1 46 = .ok (.iload 5, 2) := by decide +kernel
theorem d_Mo_reckonsTo_48 : decode m_Mo_reckonsTo.2.1 48 = .ok (.iconst 1, 1) := by decide +kernel
theorem d_Mo_reckonsTo_49 : decode m_Mo_reckonsTo.2.1 49 = .ok (.iadd, 1) := by decide +kernel
theorem d_Mo_reckonsTo_50 : decode m_Mo_reckonsTo.2.1 50 = .ok (.istore 5, 2) := by decide +kernel
theorem d_Mo_reckonsTo_52 : decode m_Mo_reckonsTo.2.1 52 = .ok (.iload 6, 2) := by decide +kernel
theorem d_Mo_reckonsTo_54 : decode m_Mo_reckonsTo.2.1 54 = .ok (.ifCond .eq 9, 3) := by decide +kernel
theorem d_Mo_reckonsTo_57 : decode m_Mo_reckonsTo.2.1 57 = .ok (.iload 6, 2) := by decide +kernel
theorem d_Mo_reckonsTo_59 : decode m_Mo_reckonsTo.2.1 59 = .ok (.iconst 1, 1) := by decide +kernel
theorem d_Mo_reckonsTo_60 : decode m_Mo_reckonsTo.2.1 60 = .ok (.if_icmp .ne 33, 3) := by decide +kernel
theorem d_Mo_reckonsTo_63 : decode m_Mo_reckonsTo.2.1 63 = .ok (.aload_n 0, 1) := by decide +kernel
theorem d_Mo_reckonsTo_64 : decode m_Mo_reckonsTo.2.1 64 = .ok (.getfield 62, 3) := by decide +kernel
theorem d_Mo_reckonsTo_67 : decode m_Mo_reckonsTo.2.1 67 = .ok (.iload_n 3, 1) := by decide +kernel
theorem d_Mo_reckonsTo_68 : decode m_Mo_reckonsTo.2.1 68 = .ok (.iload 6, 2) := by decide +kernel
theorem d_Mo_reckonsTo_70 : decode m_Mo_reckonsTo.2.1 70 = .ok (.ifCond .ne 8, 3) := by decide +kernel
theorem d_Mo_reckonsTo_73 : decode m_Mo_reckonsTo.2.1 73 = .ok (.iload 7, 2) := by decide +kernel
theorem d_Mo_reckonsTo_75 : decode m_Mo_reckonsTo.2.1 75 = .ok (.goto 10, 3) := by decide +kernel
theorem d_Mo_reckonsTo_78 : decode m_Mo_reckonsTo.2.1 78 = .ok (.aload_n 0, 1) := by decide +kernel
theorem d_Mo_reckonsTo_79 : decode m_Mo_reckonsTo.2.1 79 = .ok (.getfield 65, 3) := by decide +kernel
theorem d_Mo_reckonsTo_82 : decode m_Mo_reckonsTo.2.1 82 = .ok (.iload 7, 2) := by decide +kernel
theorem d_Mo_reckonsTo_84 : decode m_Mo_reckonsTo.2.1 84 = .ok (.iaload, 1) := by decide +kernel
theorem d_Mo_reckonsTo_85 : decode m_Mo_reckonsTo.2.1 85 = .ok (.iastore, 1) := by decide +kernel
theorem d_Mo_reckonsTo_86 : decode m_Mo_reckonsTo.2.1 86 = .ok (.iload_n 3, 1) := by decide +kernel
theorem d_Mo_reckonsTo_87 : decode m_Mo_reckonsTo.2.1 87 = .ok (.iconst 1, 1) := by decide +kernel
theorem d_Mo_reckonsTo_88 : decode m_Mo_reckonsTo.2.1 88 = .ok (.iadd, 1) := by decide +kernel
theorem d_Mo_reckonsTo_89 : decode m_Mo_reckonsTo.2.1 89 = .ok (.istore_n 3, 1) := by decide +kernel
theorem d_Mo_reckonsTo_90 : decode m_Mo_reckonsTo.2.1 90 = .ok (.goto 140, 3) := by decide +kernel
theorem d_Mo_reckonsTo_93 : decode m_Mo_reckonsTo.2.1 93 = .ok (.iload 6, 2) := by decide +kernel
theorem d_Mo_reckonsTo_95 : decode m_Mo_reckonsTo.2.1 95 = .ok (.bipush 10, 2) := by decide +kernel
theorem d_Mo_reckonsTo_97 : decode m_Mo_reckonsTo.2.1 97 = .ok (.if_icmp .ne 24, 3) := by decide +kernel
theorem d_Mo_reckonsTo_100 : decode m_Mo_reckonsTo.2.1 100 = .ok (.aload_n 0, 1) := by decide +kernel
theorem d_Mo_reckonsTo_101 : decode m_Mo_reckonsTo.2.1 101 = .ok (.getfield 62, 3) := by decide +kernel
theorem d_Mo_reckonsTo_104 : decode m_Mo_reckonsTo.2.1 104 = .ok (.iload_n 3, 1) := by decide +kernel
theorem d_Mo_reckonsTo_105 : decode m_Mo_reckonsTo.2.1 105 = .ok (.iconst 1, 1) := by decide +kernel
theorem d_Mo_reckonsTo_106 : decode m_Mo_reckonsTo.2.1 106 = .ok (.isub, 1) := by decide +kernel
theorem d_Mo_reckonsTo_107 : decode m_Mo_reckonsTo.2.1 107 = .ok (.iconst 1, 1) := by decide +kernel
theorem d_Mo_reckonsTo_108 : decode m_Mo_reckonsTo.2.1 108 = .ok (.aload_n 0, 1) := by decide +kernel
theorem d_Mo_reckonsTo_109 : decode m_Mo_reckonsTo.2.1 109 = .ok (.getfield 62, 3) := by decide +kernel
theorem d_Mo_reckonsTo_112 : decode m_Mo_reckonsTo.2.1 112 = .ok (.iload_n 3, 1) := by decide +kernel
theorem d_Mo_reckonsTo_113 : decode m_Mo_reckonsTo.2.1 113 = .ok (.iconst 1, 1) := by decide +kernel
theorem d_Mo_reckonsTo_114 : decode m_Mo_reckonsTo.2.1 114 = .ok (.isub, 1) := by decide +kernel
theorem d_Mo_reckonsTo_115 : decode m_Mo_reckonsTo.2.1 115 = .ok (.iaload, 1) := by decide +kernel
theorem d_Mo_reckonsTo_116 : decode m_Mo_reckonsTo.2.1 116 = .ok (.isub, 1) := by decide +kernel
theorem d_Mo_reckonsTo_117 : decode m_Mo_reckonsTo.2.1 117 = .ok (.iastore, 1) := by decide +kernel
theorem d_Mo_reckonsTo_118 : decode m_Mo_reckonsTo.2.1 118 = .ok (.goto 112, 3) := by decide +kernel
theorem d_Mo_reckonsTo_121 : decode m_Mo_reckonsTo.2.1 121 = .ok (.iload 6, 2) := by decide +kernel
theorem d_Mo_reckonsTo_123 : decode m_Mo_reckonsTo.2.1 123 = .ok (.bipush 11, 2) := by decide +kernel
theorem d_Mo_reckonsTo_125 : decode m_Mo_reckonsTo.2.1 125 = .ok (.if_icmp .eq 10, 3) := by decide +kernel
theorem d_Mo_reckonsTo_128 : decode m_Mo_reckonsTo.2.1 128 = .ok (.iload 6, 2) := by decide +kernel
theorem d_Mo_reckonsTo_130 : decode m_Mo_reckonsTo.2.1 130 = .ok (.bipush 12, 2) := by decide +kernel
theorem d_Mo_reckonsTo_132 : decode m_Mo_reckonsTo.2.1 132 = .ok (.if_icmp .ne 43, 3) := by decide +kernel
theorem d_Mo_reckonsTo_135 : decode m_Mo_reckonsTo.2.1 135 = .ok (.aload_n 0, 1) := by decide +kernel
theorem d_Mo_reckonsTo_136 : decode m_Mo_reckonsTo.2.1 136 = .ok (.getfield 62, 3) := by decide +kernel
theorem d_Mo_reckonsTo_139 : decode m_Mo_reckonsTo.2.1 139 = .ok (.iload_n 3, 1) := by decide +kernel
theorem d_Mo_reckonsTo_140 : decode m_Mo_reckonsTo.2.1 140 = .ok (.iconst 1, 1) := by decide +kernel
theorem d_Mo_reckonsTo_141 : decode m_Mo_reckonsTo.2.1 141 = .ok (.isub, 1) := by decide +kernel
theorem d_Mo_reckonsTo_142 : decode m_Mo_reckonsTo.2.1 142 = .ok (.iaload, 1) := by decide +kernel
theorem d_Mo_reckonsTo_143 : decode m_Mo_reckonsTo.2.1 143 = .ok (.iload 6, 2) := by decide +kernel
theorem d_Mo_reckonsTo_145 : decode m_Mo_reckonsTo.2.1 145 = .ok (.bipush 12, 2) := by decide +kernel
theorem d_Mo_reckonsTo_147 : decode m_Mo_reckonsTo.2.1 147 = .ok (.if_icmp .ne 7, 3) := by decide +kernel
theorem d_Mo_reckonsTo_150 : decode m_Mo_reckonsTo.2.1 150 = .ok (.iconst 1, 1) := by decide +kernel
theorem d_Mo_reckonsTo_151 : decode m_Mo_reckonsTo.2.1 151 = .ok (.goto 4, 3) := by decide +kernel
theorem d_Mo_reckonsTo_154 : decode m_Mo_reckonsTo.2.1 154 = .ok (.iconst 0, 1) := by decide +kernel
theorem d_Mo_reckonsTo_155 : decode m_Mo_reckonsTo.2.1 155 = .ok (.if_icmp .ne 13, 3) := by decide +kernel
theorem d_Mo_reckonsTo_158 : decode m_Mo_reckonsTo.2.1 158 = .ok (.iload 4, 2) := by decide +kernel
theorem d_Mo_reckonsTo_160 : decode m_Mo_reckonsTo.2.1 160 = .ok (.iload 7, 2) := by decide +kernel
theorem d_Mo_reckonsTo_162 : decode m_Mo_reckonsTo.2.1 162 = .ok (.iadd, 1) := by decide +kernel
theorem d_Mo_reckonsTo_163 : decode m_Mo_reckonsTo.2.1 163 = .ok (.istore 5, 2) := by decide +kernel
theorem d_Mo_reckonsTo_165 : decode m_Mo_reckonsTo.2.1 165 = .ok (.goto 65, 3) := by decide +kernel
theorem d_Mo_reckonsTo_168 : decode m_Mo_reckonsTo.2.1 168 = .ok (.iload_n 3, 1) := by decide +kernel
theorem d_Mo_reckonsTo_169 : decode m_Mo_reckonsTo.2.1 169 = .ok (.iconst 1, 1) := by decide +kernel
theorem d_Mo_reckonsTo_170 : decode m_Mo_reckonsTo.2.1 170 = .ok (.isub, 1) := by decide +kernel
theorem d_Mo_reckonsTo_171 : decode m_Mo_reckonsTo.2.1 171 = .ok (.istore_n 3, 1) := by decide +kernel
theorem d_Mo_reckonsTo_172 : decode m_Mo_reckonsTo.2.1 172 = .ok (.goto 58, 3) := by decide +kernel
theorem d_Mo_reckonsTo_175 : decode m_Mo_reckonsTo.2.1 175 = .ok (.iload_n 3, 1) := by decide +kernel
theorem d_Mo_reckonsTo_176 : decode m_Mo_reckonsTo.2.1 176 = .ok (.iconst 1, 1) := by decide +kernel
theorem d_Mo_reckonsTo_177 : decode m_Mo_reckonsTo.2.1 177 = .ok (.isub, 1) := by decide +kernel
theorem d_Mo_reckonsTo_178 : decode m_Mo_reckonsTo.2.1 178 = .ok (.istore_n 3, 1) := by decide +kernel
theorem d_Mo_reckonsTo_179 : decode m_Mo_reckonsTo.2.1 179 = .ok (.iload 6, 2) := by decide +kernel
theorem d_Mo_reckonsTo_181 : decode m_Mo_reckonsTo.2.1 181 = .ok (.iconst 5, 1) := by decide +kernel
theorem d_Mo_reckonsTo_182 : decode m_Mo_reckonsTo.2.1 182 = .ok (.if_icmp .eq 10, 3) := by decide +kernel
theorem d_Mo_reckonsTo_185 : decode m_Mo_reckonsTo.2.1 185 = .ok (.iload 6, 2) := by decide +kernel
theorem d_Mo_reckonsTo_187 : decode m_Mo_reckonsTo.2.1 187 = .ok (.bipush 6, 2) := by decide +kernel
theorem d_Mo_reckonsTo_189 : decode m_Mo_reckonsTo.2.1 189 = .ok (.if_icmp .ne 14, 3) := by decide +kernel
theorem d_Mo_reckonsTo_192 : decode m_Mo_reckonsTo.2.1 192 = .ok (.aload_n 0, 1) := by decide +kernel
theorem d_Mo_reckonsTo_193 : decode m_Mo_reckonsTo.2.1 193 = .ok (.getfield 62, 3) := by decide +kernel
theorem d_Mo_reckonsTo_196 : decode m_Mo_reckonsTo.2.1 196 = .ok (.iload_n 3, 1) := by decide +kernel
theorem d_Mo_reckonsTo_197 : decode m_Mo_reckonsTo.2.1 197 = .ok (.iaload, 1) := by decide +kernel
theorem d_Mo_reckonsTo_198 : decode m_Mo_reckonsTo.2.1 198 = .ok (.ifCond .ne 5, 3) := by decide +kernel
theorem d_Mo_reckonsTo_201 : decode m_Mo_reckonsTo.2.1 201 = .ok (.iconst 0, 1) := by decide +kernel
theorem d_Mo_reckonsTo_202 : decode m_Mo_reckonsTo.2.1 202 = .ok (.ireturn, 1) := by decide +kernel
theorem d_Mo_reckonsTo_203 : decode m_Mo_reckonsTo.2.1 203 = .ok (.aload_n 0, 1) := by decide +kernel
theorem d_Mo_reckonsTo_204 : decode m_Mo_reckonsTo.2.1 204 = .ok (.getfield 62, 3) := by decide +kernel
theorem d_Mo_reckonsTo_207 : decode m_Mo_reckonsTo.2.1 207 = .ok (.iload_n 3, 1) := by decide +kernel
theorem d_Mo_reckonsTo_208 : decode m_Mo_reckonsTo.2.1 208 = .ok (.iconst 1, 1) := by decide +kernel
theorem d_Mo_reckonsTo_209 : decode m_Mo_reckonsTo.2.1 209 = .ok (.isub, 1) := by decide +kernel
theorem d_Mo_reckonsTo_210 : decode m_Mo_reckonsTo.2.1 210 = .ok (.iload 6, 2) := by decide +kernel
theorem d_Mo_reckonsTo_212 : decode m_Mo_reckonsTo.2.1 212 = .ok (.aload_n 0, 1) := by decide +kernel
theorem d_Mo_reckonsTo_213 : decode m_Mo_reckonsTo.2.1 213 = .ok (.getfield 62, 3) := by decide +kernel
theorem d_Mo_reckonsTo_216 : decode m_Mo_reckonsTo.2.1 216 = .ok (.iload_n 3, 1) := by decide +kernel
theorem d_Mo_reckonsTo_217 : decode m_Mo_reckonsTo.2.1 217 = .ok (.iconst 1, 1) := by decide +kernel
theorem d_Mo_reckonsTo_218 : decode m_Mo_reckonsTo.2.1 218 = .ok (.isub, 1) := by decide +kernel
theorem d_Mo_reckonsTo_219 : decode m_Mo_reckonsTo.2.1 219 = .ok (.iaload, 1) := by decide +kernel
theorem d_Mo_reckonsTo_220 : decode m_Mo_reckonsTo.2.1 220 = .ok (.aload_n 0, 1) := by decide +kernel
theorem d_Mo_reckonsTo_221 : decode m_Mo_reckonsTo.2.1 221 = .ok (.getfield 62, 3) := by decide +kernel
theorem d_Mo_reckonsTo_224 : decode m_Mo_reckonsTo.2.1 224 = .ok (.iload_n 3, 1) := by decide +kernel
theorem d_Mo_reckonsTo_225 : decode m_Mo_reckonsTo.2.1 225 = .ok (.iaload, 1) := by decide +kernel
theorem d_Mo_reckonsTo_226 : decode m_Mo_reckonsTo.2.1 226 = .ok (.invokestatic 239, 3) := by decide +kernel
theorem d_Mo_reckonsTo_229 : decode m_Mo_reckonsTo.2.1 229 = .ok (.iastore, 1) := by decide +kernel
theorem d_Mo_reckonsTo_230 : decode m_Mo_reckonsTo.2.1 230 = .ok (.goto (-214), 3) := by decide +kernel
theorem d_Mo_reckonsTo_233 : decode m_Mo_reckonsTo.2.1 233 = .ok (.aload_n 0, 1) := by decide +kernel
theorem d_Mo_reckonsTo_234 : decode m_Mo_reckonsTo.2.1 234 = .ok (.getfield 62, 3) := by decide +kernel
theorem d_Mo_reckonsTo_237 : decode m_Mo_reckonsTo.2.1 237 = .ok (.iconst 0, 1) := by decide +kernel
theorem d_Mo_reckonsTo_238 : decode m_Mo_reckonsTo.2.1 238 = .ok (.iaload, 1) := by decide +kernel
theorem d_Mo_reckonsTo_239 : decode m_Mo_reckonsTo.2.1 239 = .ok (.ireturn, 1) := by decide +kernel
def f_Mo_reckonsTo_230 (k_16 : St → Int32 → Int32 → Int32 → Int32 → Option (Int32 × St)) (S : St) (l2 : Int32) (l3 : Int32) (l4 : Int32) (l5 : Int32) : Option (Int32 × St) :=
    k_16 S l2 l3 l4 l5
set_option maxHeartbeats 4000000 in
set_option maxRecDepth 20000 in
theorem t_Mo_reckonsTo_230  {k_16 : St → Int32 → Int32 → Int32 → Int32 → Option (Int32 × St)} (hk_16 : ∀ (S : St) (l2 : Int32) (l3 : Int32) (l4 : Int32) (l5 : Int32) (w : Int32 × St), k_16 S l2 l3 l4 l5 = some w → G SM m_Mo_reckonsTo 2 (some w.1) w.2 16 [(0, .ref 0), (2, .int l2), (3, .int l3), (4, .int l4), (5, .int l5)] [] S) (S : St) (l2 : Int32) (l3 : Int32) (l4 : Int32) (l5 : Int32) (w : Int32 × St) (h : f_Mo_reckonsTo_230 k_16 S l2 l3 l4 l5 = some w) : G SM m_Mo_reckonsTo 2 (some w.1) w.2 230 [(0, .ref 0), (2, .int l2), (3, .int l3), (4, .int l4), (5, .int l5)] [] S := by
  unfold f_Mo_reckonsTo_230 at h
  refine G_goto 16 (by decide) d_Mo_reckonsTo_230 ?_
  exact G_sub _ [0, 1, 2, 3, 4] rfl (hk_16 S l2 l3 l4 l5 _ h)
def f_Mo_reckonsTo_85 (k_16 : St → Int32 → Int32 → Int32 → Int32 → Option (Int32 × St)) (S : St) (l2 : Int32) (l3 : Int32) (l4 : Int32) (l5 : Int32) (s0 : Int32) (s1 : Int32) : Option (Int32 × St) :=
    if ig s1 260 then (
    (some (sF S 18 s1.toNatClampNeg s0)).bind fun S_85 =>
    (some (l3 + 1)).bind fun l3_89 =>
    f_Mo_reckonsTo_230 k_16 S_85 l2 l3_89 l4 l5) else none
set_option maxHeartbeats 4000000 in
set_option maxRecDepth 20000 in
theorem t_Mo_reckonsTo_85  {k_16 : St → Int32 → Int32 → Int32 → Int32 → Option (Int32 × St)} (hk_16 : ∀ (S : St) (l2 : Int32) (l3 : Int32) (l4 : Int32) (l5 : Int32) (w : Int32 × St), k_16 S l2 l3 l4 l5 = some w → G SM m_Mo_reckonsTo 2 (some w.1) w.2 16 [(0, .ref 0), (2, .int l2), (3, .int l3), (4, .int l4), (5, .int l5)] [] S) (S : St) (l2 : Int32) (l3 : Int32) (l4 : Int32) (l5 : Int32) (s0 : Int32) (s1 : Int32) (w : Int32 × St) (h : f_Mo_reckonsTo_85 k_16 S l2 l3 l4 l5 s0 s1 = some w) : G SM m_Mo_reckonsTo 2 (some w.1) w.2 85 [(0, .ref 0), (2, .int l2), (3, .int l3), (4, .int l4), (5, .int l5)] [.int s0, .int s1, .ref 18] S := by
  unfold f_Mo_reckonsTo_85 at h
  obtain ⟨g_85, h⟩ := ob_g h
  obtain ⟨S_85, e_85, h⟩ := ob_s h
  refine G_iastore e_85 km_18 sm_18 g_85 d_Mo_reckonsTo_85 ?_
  refine G_iload_n 2 rfl d_Mo_reckonsTo_86 ?_
  refine G_iconst 1 (by decide) d_Mo_reckonsTo_87 ?_
  refine G_iadd d_Mo_reckonsTo_88 ?_
  obtain ⟨l3_89, e_89, h⟩ := ob_s h
  refine G_istore_n [(3, .int l3_89), (0, .ref 0), (2, .int l2), (4, .int l4), (5, .int l5)] e_89 rfl (by decide) d_Mo_reckonsTo_89 ?_
  refine G_goto 230 (by decide) d_Mo_reckonsTo_90 ?_
  exact G_sub _ [1, 2, 0, 3, 4] rfl (t_Mo_reckonsTo_230 hk_16 S_85 l2 l3_89 l4 l5 _ h)
def f_Mo_reckonsTo_63 (k_16 : St → Int32 → Int32 → Int32 → Int32 → Option (Int32 × St)) (S : St) (l2 : Int32) (l3 : Int32) (l4 : Int32) (l5 : Int32) (l6 : Int32) (l7 : Int32) : Option (Int32 × St) :=
    if l6 = 0 then (
    f_Mo_reckonsTo_85 k_16 S l2 l3 l4 l5 l7 l3)
    else (
    if ig l7 9 then (
    f_Mo_reckonsTo_85 k_16 S l2 l3 l4 l5 (S 19 l7.toNatClampNeg) l3) else none)
set_option maxHeartbeats 4000000 in
set_option maxRecDepth 20000 in
theorem t_Mo_reckonsTo_63  {k_16 : St → Int32 → Int32 → Int32 → Int32 → Option (Int32 × St)} (hk_16 : ∀ (S : St) (l2 : Int32) (l3 : Int32) (l4 : Int32) (l5 : Int32) (w : Int32 × St), k_16 S l2 l3 l4 l5 = some w → G SM m_Mo_reckonsTo 2 (some w.1) w.2 16 [(0, .ref 0), (2, .int l2), (3, .int l3), (4, .int l4), (5, .int l5)] [] S) (S : St) (l2 : Int32) (l3 : Int32) (l4 : Int32) (l5 : Int32) (l6 : Int32) (l7 : Int32) (w : Int32 × St) (h : f_Mo_reckonsTo_63 k_16 S l2 l3 l4 l5 l6 l7 = some w) : G SM m_Mo_reckonsTo 2 (some w.1) w.2 63 [(0, .ref 0), (2, .int l2), (3, .int l3), (4, .int l4), (5, .int l5), (6, .int l6), (7, .int l7)] [] S := by
  unfold f_Mo_reckonsTo_63 at h
  refine G_aload_n 0 rfl d_Mo_reckonsTo_63 ?_
  refine G_getR fl_Mo_62 km_0 sm_0 rfl (by decide) d_Mo_reckonsTo_64 ?_
  refine G_iload_n 2 rfl d_Mo_reckonsTo_67 ?_
  refine G_iload 5 rfl d_Mo_reckonsTo_68 ?_
  refine G_if_ne 78 (by decide) d_Mo_reckonsTo_70 (fun c_70 => ?_) (fun c_70 => ?_)
  · replace h := ob_f h c_70
    refine G_aload_n 0 rfl d_Mo_reckonsTo_78 ?_
    refine G_getR fl_Mo_65 km_0 sm_0 rfl (by decide) d_Mo_reckonsTo_79 ?_
    refine G_iload 6 rfl d_Mo_reckonsTo_82 ?_
    obtain ⟨g_84, h⟩ := ob_g h
    refine G_iaload km_19 sm_19 g_84 d_Mo_reckonsTo_84 ?_
    exact G_sub _ [0, 1, 2, 3, 4] rfl (t_Mo_reckonsTo_85 hk_16 S l2 l3 l4 l5 (S 19 l7.toNatClampNeg) l3 _ h)
  · replace h := ob_t h c_70
    refine G_iload 6 rfl d_Mo_reckonsTo_73 ?_
    refine G_goto 85 (by decide) d_Mo_reckonsTo_75 ?_
    exact G_sub _ [0, 1, 2, 3, 4] rfl (t_Mo_reckonsTo_85 hk_16 S l2 l3 l4 l5 l7 l3 _ h)
def f_Mo_reckonsTo_155 (k_16 : St → Int32 → Int32 → Int32 → Int32 → Option (Int32 × St)) (S : St) (l2 : Int32) (l3 : Int32) (l4 : Int32) (l5 : Int32) (l7 : Int32) (s0 : Int32) (s1 : Int32) : Option (Int32 × St) :=
    if s1 = s0 then (
    (some (l4 + l7)).bind fun l5_163 =>
    f_Mo_reckonsTo_230 k_16 S l2 l3 l4 l5_163)
    else (
    (some (l3 - 1)).bind fun l3_171 =>
    f_Mo_reckonsTo_230 k_16 S l2 l3_171 l4 l5)
set_option maxHeartbeats 4000000 in
set_option maxRecDepth 20000 in
theorem t_Mo_reckonsTo_155  {k_16 : St → Int32 → Int32 → Int32 → Int32 → Option (Int32 × St)} (hk_16 : ∀ (S : St) (l2 : Int32) (l3 : Int32) (l4 : Int32) (l5 : Int32) (w : Int32 × St), k_16 S l2 l3 l4 l5 = some w → G SM m_Mo_reckonsTo 2 (some w.1) w.2 16 [(0, .ref 0), (2, .int l2), (3, .int l3), (4, .int l4), (5, .int l5)] [] S) (S : St) (l2 : Int32) (l3 : Int32) (l4 : Int32) (l5 : Int32) (l7 : Int32) (s0 : Int32) (s1 : Int32) (w : Int32 × St) (h : f_Mo_reckonsTo_155 k_16 S l2 l3 l4 l5 l7 s0 s1 = some w) : G SM m_Mo_reckonsTo 2 (some w.1) w.2 155 [(0, .ref 0), (2, .int l2), (3, .int l3), (4, .int l4), (5, .int l5), (7, .int l7)] [.int s0, .int s1] S := by
  unfold f_Mo_reckonsTo_155 at h
  refine G_icmp_ne 168 (by decide) d_Mo_reckonsTo_155 (fun c_155 => ?_) (fun c_155 => ?_)
  · replace h := ob_f h c_155
    refine G_iload_n 2 rfl d_Mo_reckonsTo_168 ?_
    refine G_iconst 1 (by decide) d_Mo_reckonsTo_169 ?_
    refine G_isub d_Mo_reckonsTo_170 ?_
    obtain ⟨l3_171, e_171, h⟩ := ob_s h
    refine G_istore_n [(3, .int l3_171), (0, .ref 0), (2, .int l2), (4, .int l4), (5, .int l5), (7, .int l7)] e_171 rfl (by decide) d_Mo_reckonsTo_171 ?_
    refine G_goto 230 (by decide) d_Mo_reckonsTo_172 ?_
    exact G_sub _ [1, 2, 0, 3, 4] rfl (t_Mo_reckonsTo_230 hk_16 S l2 l3_171 l4 l5 _ h)
  · replace h := ob_t h c_155
    refine G_iload 3 rfl d_Mo_reckonsTo_158 ?_
    refine G_iload 5 rfl d_Mo_reckonsTo_160 ?_
    refine G_iadd d_Mo_reckonsTo_162 ?_
    obtain ⟨l5_163, e_163, h⟩ := ob_s h
    refine G_istore [(5, .int l5_163), (0, .ref 0), (2, .int l2), (3, .int l3), (4, .int l4), (7, .int l7)] e_163 rfl (by decide) d_Mo_reckonsTo_163 ?_
    refine G_goto 230 (by decide) d_Mo_reckonsTo_165 ?_
    exact G_sub _ [1, 2, 3, 4, 0] rfl (t_Mo_reckonsTo_230 hk_16 S l2 l3 l4 l5_163 _ h)
def f_Mo_reckonsTo_135 (k_16 : St → Int32 → Int32 → Int32 → Int32 → Option (Int32 × St)) (S : St) (l2 : Int32) (l3 : Int32) (l4 : Int32) (l5 : Int32) (l6 : Int32) (l7 : Int32) : Option (Int32 × St) :=
    if ig (l3 - 1) 260 then (
    if l6 = 12 then (
    f_Mo_reckonsTo_155 k_16 S l2 l3 l4 l5 l7 (1 : Int32) (S 18 (l3 - 1).toNatClampNeg))
    else (
    f_Mo_reckonsTo_155 k_16 S l2 l3 l4 l5 l7 (0 : Int32) (S 18 (l3 - 1).toNatClampNeg))) else none
set_option maxHeartbeats 4000000 in
set_option maxRecDepth 20000 in
theorem t_Mo_reckonsTo_135  {k_16 : St → Int32 → Int32 → Int32 → Int32 → Option (Int32 × St)} (hk_16 : ∀ (S : St) (l2 : Int32) (l3 : Int32) (l4 : Int32) (l5 : Int32) (w : Int32 × St), k_16 S l2 l3 l4 l5 = some w → G SM m_Mo_reckonsTo 2 (some w.1) w.2 16 [(0, .ref 0), (2, .int l2), (3, .int l3), (4, .int l4), (5, .int l5)] [] S) (S : St) (l2 : Int32) (l3 : Int32) (l4 : Int32) (l5 : Int32) (l6 : Int32) (l7 : Int32) (w : Int32 × St) (h : f_Mo_reckonsTo_135 k_16 S l2 l3 l4 l5 l6 l7 = some w) : G SM m_Mo_reckonsTo 2 (some w.1) w.2 135 [(0, .ref 0), (2, .int l2), (3, .int l3), (4, .int l4), (5, .int l5), (6, .int l6), (7, .int l7)] [] S := by
  unfold f_Mo_reckonsTo_135 at h
  refine G_aload_n 0 rfl d_Mo_reckonsTo_135 ?_
  refine G_getR fl_Mo_62 km_0 sm_0 rfl (by decide) d_Mo_reckonsTo_136 ?_
  refine G_iload_n 2 rfl d_Mo_reckonsTo_139 ?_
  refine G_iconst 1 (by decide) d_Mo_reckonsTo_140 ?_
  refine G_isub d_Mo_reckonsTo_141 ?_
  obtain ⟨g_142, h⟩ := ob_g h
  refine G_iaload km_18 sm_18 g_142 d_Mo_reckonsTo_142 ?_
  refine G_iload 5 rfl d_Mo_reckonsTo_143 ?_
  refine G_bipush 12 (by decide) d_Mo_reckonsTo_145 ?_
  refine G_icmp_ne 154 (by decide) d_Mo_reckonsTo_147 (fun c_147 => ?_) (fun c_147 => ?_)
  · replace h := ob_f h c_147
    refine G_iconst 0 (by decide) d_Mo_reckonsTo_154 ?_
    exact G_sub _ [0, 1, 2, 3, 4, 6] rfl (t_Mo_reckonsTo_155 hk_16 S l2 l3 l4 l5 l7 (0 : Int32) (S 18 (l3 - 1).toNatClampNeg) _ h)
  · replace h := ob_t h c_147
    refine G_iconst 1 (by decide) d_Mo_reckonsTo_150 ?_
    refine G_goto 155 (by decide) d_Mo_reckonsTo_151 ?_
    exact G_sub _ [0, 1, 2, 3, 4, 6] rfl (t_Mo_reckonsTo_155 hk_16 S l2 l3 l4 l5 l7 (1 : Int32) (S 18 (l3 - 1).toNatClampNeg) _ h)
def f_Mo_reckonsTo_203 (k_16 : St → Int32 → Int32 → Int32 → Int32 → Option (Int32 × St)) (S : St) (l2 : Int32) (l3 : Int32) (l4 : Int32) (l5 : Int32) (l6 : Int32) : Option (Int32 × St) :=
    if ig (l3 - 1) 260 then (
    if ig l3 260 then (
    (f_Mo_reckon S l6 (S 18 (l3 - 1).toNatClampNeg) (S 18 l3.toNatClampNeg)).bind fun v_226 =>
    if ig (l3 - 1) 260 then (
    (some (sF S 18 (l3 - 1).toNatClampNeg v_226)).bind fun S_229 =>
    f_Mo_reckonsTo_230 k_16 S_229 l2 l3 l4 l5) else none) else none) else none
set_option maxHeartbeats 4000000 in
set_option maxRecDepth 20000 in
theorem t_Mo_reckonsTo_203  {k_16 : St → Int32 → Int32 → Int32 → Int32 → Option (Int32 × St)} (hk_16 : ∀ (S : St) (l2 : Int32) (l3 : Int32) (l4 : Int32) (l5 : Int32) (w : Int32 × St), k_16 S l2 l3 l4 l5 = some w → G SM m_Mo_reckonsTo 2 (some w.1) w.2 16 [(0, .ref 0), (2, .int l2), (3, .int l3), (4, .int l4), (5, .int l5)] [] S) (S : St) (l2 : Int32) (l3 : Int32) (l4 : Int32) (l5 : Int32) (l6 : Int32) (w : Int32 × St) (h : f_Mo_reckonsTo_203 k_16 S l2 l3 l4 l5 l6 = some w) : G SM m_Mo_reckonsTo 2 (some w.1) w.2 203 [(0, .ref 0), (2, .int l2), (3, .int l3), (4, .int l4), (5, .int l5), (6, .int l6)] [] S := by
  unfold f_Mo_reckonsTo_203 at h
  refine G_aload_n 0 rfl d_Mo_reckonsTo_203 ?_
  refine G_getR fl_Mo_62 km_0 sm_0 rfl (by decide) d_Mo_reckonsTo_204 ?_
  refine G_iload_n 2 rfl d_Mo_reckonsTo_207 ?_
  refine G_iconst 1 (by decide) d_Mo_reckonsTo_208 ?_
  refine G_isub d_Mo_reckonsTo_209 ?_
  refine G_iload 5 rfl d_Mo_reckonsTo_210 ?_
  refine G_aload_n 0 rfl d_Mo_reckonsTo_212 ?_
  refine G_getR fl_Mo_62 km_0 sm_0 rfl (by decide) d_Mo_reckonsTo_213 ?_
  refine G_iload_n 2 rfl d_Mo_reckonsTo_216 ?_
  refine G_iconst 1 (by decide) d_Mo_reckonsTo_217 ?_
  refine G_isub d_Mo_reckonsTo_218 ?_
  obtain ⟨g_219, h⟩ := ob_g h
  refine G_iaload km_18 sm_18 g_219 d_Mo_reckonsTo_219 ?_
  refine G_aload_n 0 rfl d_Mo_reckonsTo_220 ?_
  refine G_getR fl_Mo_62 km_0 sm_0 rfl (by decide) d_Mo_reckonsTo_221 ?_
  refine G_iload_n 2 rfl d_Mo_reckonsTo_224 ?_
  obtain ⟨g_225, h⟩ := ob_g h
  refine G_iaload km_18 sm_18 g_225 d_Mo_reckonsTo_225 ?_
  obtain ⟨v_226, q_226, h⟩ := ob_b h
  refine G_callS [.int l6, .int (S 18 (l3 - 1).toNatClampNeg), .int (S 18 l3.toNatClampNeg)] [.int (l3 - 1), .ref 18] (t_Mo_reckon q_226) (by decide) (by decide) mt_Mo_reckon rfl ml_Mo_239 rfl (Nat.le_of_ble_eq_true rfl) d_Mo_reckonsTo_226 ?_
  obtain ⟨g_229, h⟩ := ob_g h
  obtain ⟨S_229, e_229, h⟩ := ob_s h
  refine G_iastore e_229 km_18 sm_18 g_229 d_Mo_reckonsTo_229 ?_
  exact G_sub _ [0, 1, 2, 3, 4] rfl (t_Mo_reckonsTo_230 hk_16 S_229 l2 l3 l4 l5 _ h)
def f_Mo_reckonsTo_192 (k_16 : St → Int32 → Int32 → Int32 → Int32 → Option (Int32 × St)) (S : St) (l2 : Int32) (l3 : Int32) (l4 : Int32) (l5 : Int32) (l6 : Int32) : Option (Int32 × St) :=
    if ig l3 260 then (
    if (S 18 l3.toNatClampNeg) = 0 then (
    some (0, S))
    else (
    f_Mo_reckonsTo_203 k_16 S l2 l3 l4 l5 l6)) else none
set_option maxHeartbeats 4000000 in
set_option maxRecDepth 20000 in
theorem t_Mo_reckonsTo_192  {k_16 : St → Int32 → Int32 → Int32 → Int32 → Option (Int32 × St)} (hk_16 : ∀ (S : St) (l2 : Int32) (l3 : Int32) (l4 : Int32) (l5 : Int32) (w : Int32 × St), k_16 S l2 l3 l4 l5 = some w → G SM m_Mo_reckonsTo 2 (some w.1) w.2 16 [(0, .ref 0), (2, .int l2), (3, .int l3), (4, .int l4), (5, .int l5)] [] S) (S : St) (l2 : Int32) (l3 : Int32) (l4 : Int32) (l5 : Int32) (l6 : Int32) (w : Int32 × St) (h : f_Mo_reckonsTo_192 k_16 S l2 l3 l4 l5 l6 = some w) : G SM m_Mo_reckonsTo 2 (some w.1) w.2 192 [(0, .ref 0), (2, .int l2), (3, .int l3), (4, .int l4), (5, .int l5), (6, .int l6)] [] S := by
  unfold f_Mo_reckonsTo_192 at h
  refine G_aload_n 0 rfl d_Mo_reckonsTo_192 ?_
  refine G_getR fl_Mo_62 km_0 sm_0 rfl (by decide) d_Mo_reckonsTo_193 ?_
  refine G_iload_n 2 rfl d_Mo_reckonsTo_196 ?_
  obtain ⟨g_197, h⟩ := ob_g h
  refine G_iaload km_18 sm_18 g_197 d_Mo_reckonsTo_197 ?_
  refine G_if_ne 203 (by decide) d_Mo_reckonsTo_198 (fun c_198 => ?_) (fun c_198 => ?_)
  · replace h := ob_f h c_198
    exact G_sub _ [0, 1, 2, 3, 4, 5] rfl (t_Mo_reckonsTo_203 hk_16 S l2 l3 l4 l5 l6 _ h)
  · replace h := ob_t h c_198
    refine G_iconst 0 (by decide) d_Mo_reckonsTo_201 ?_
    cases h
    exact G_iret rfl d_Mo_reckonsTo_202
def f_Mo_reckonsTo_16 : Nat → St → Int32 → Int32 → Int32 → Int32 → Option (Int32 × St)
  | 0, _, _, _, _, _ => none
  | n + 1, S, l2, l3, l4, l5 =>
    if l2 ≤ l5 then (
    if ig (0 : Int32) 260 then (
    some ((S 18 (0 : Int32).toNatClampNeg), S)) else none)
    else (
    if ig l5 260 then (
    (some ((S 13 l5.toNatClampNeg) / 1048576)).bind fun l6_32 =>
    if ig l5 260 then (
    (some (jrem (S 13 l5.toNatClampNeg) 1048576)).bind fun l7_44 =>
    (some (l5 + 1)).bind fun l5_50 =>
    if l6_32 = 0 then (
    f_Mo_reckonsTo_63 (f_Mo_reckonsTo_16 n) S l2 l3 l4 l5_50 l6_32 l7_44)
    else (
    if l6_32 = 1 then (
    f_Mo_reckonsTo_63 (f_Mo_reckonsTo_16 n) S l2 l3 l4 l5_50 l6_32 l7_44)
    else (
    if l6_32 = 10 then (
    if ig (l3 - 1) 260 then (
    if ig (l3 - 1) 260 then (
    (some (sF S 18 (l3 - 1).toNatClampNeg (1 - (S 18 (l3 - 1).toNatClampNeg)))).bind fun S_117 =>
    f_Mo_reckonsTo_230 (f_Mo_reckonsTo_16 n) S_117 l2 l3 l4 l5_50) else none) else none)
    else (
    if l6_32 = 11 then (
    f_Mo_reckonsTo_135 (f_Mo_reckonsTo_16 n) S l2 l3 l4 l5_50 l6_32 l7_44)
    else (
    if l6_32 = 12 then (
    f_Mo_reckonsTo_135 (f_Mo_reckonsTo_16 n) S l2 l3 l4 l5_50 l6_32 l7_44)
    else (
    (some (l3 - 1)).bind fun l3_178 =>
    if l6_32 = 5 then (
    f_Mo_reckonsTo_192 (f_Mo_reckonsTo_16 n) S l2 l3_178 l4 l5_50 l6_32)
    else (
    if l6_32 = 6 then (
    f_Mo_reckonsTo_192 (f_Mo_reckonsTo_16 n) S l2 l3_178 l4 l5_50 l6_32)
    else (
    f_Mo_reckonsTo_203 (f_Mo_reckonsTo_16 n) S l2 l3_178 l4 l5_50 l6_32)))))))) else none) else none)
set_option maxHeartbeats 4000000 in
set_option maxRecDepth 20000 in
theorem t_Mo_reckonsTo_16  : ∀ (n : Nat) (S : St) (l2 : Int32) (l3 : Int32) (l4 : Int32) (l5 : Int32) (w : Int32 × St), f_Mo_reckonsTo_16 n S l2 l3 l4 l5 = some w → G SM m_Mo_reckonsTo 2 (some w.1) w.2 16 [(0, .ref 0), (2, .int l2), (3, .int l3), (4, .int l4), (5, .int l5)] [] S := by
  intro n
  induction n with
  | zero =>
    intro S l2 l3 l4 l5 w h
    rw [f_Mo_reckonsTo_16] at h
    cases h
  | succ n ih =>
    intro S l2 l3 l4 l5 w h
    rw [f_Mo_reckonsTo_16] at h
    refine G_iload 4 rfl d_Mo_reckonsTo_16 ?_
    refine G_iload_n 1 rfl d_Mo_reckonsTo_18 ?_
    refine G_icmp_ge 233 (by decide) d_Mo_reckonsTo_19 (fun c_19 => ?_) (fun c_19 => ?_)
    · replace h := ob_t h c_19
      refine G_aload_n 0 rfl d_Mo_reckonsTo_233 ?_
      refine G_getR fl_Mo_62 km_0 sm_0 rfl (by decide) d_Mo_reckonsTo_234 ?_
      refine G_iconst 0 (by decide) d_Mo_reckonsTo_237 ?_
      obtain ⟨g_238, h⟩ := ob_g h
      refine G_iaload km_18 sm_18 g_238 d_Mo_reckonsTo_238 ?_
      cases h
      exact G_iret rfl d_Mo_reckonsTo_239
    · replace h := ob_f h c_19
      refine G_aload_n 0 rfl d_Mo_reckonsTo_22 ?_
      refine G_getR fl_Mo_47 km_0 sm_0 rfl (by decide) d_Mo_reckonsTo_23 ?_
      refine G_iload 4 rfl d_Mo_reckonsTo_26 ?_
      obtain ⟨g_28, h⟩ := ob_g h
      refine G_iaload km_13 sm_13 g_28 d_Mo_reckonsTo_28 ?_
      refine G_ldc c_Mo_169 d_Mo_reckonsTo_29 ?_
      refine G_idiv (by decide) d_Mo_reckonsTo_31 ?_
      obtain ⟨l6_32, e_32, h⟩ := ob_s h
      refine G_istore [(6, .int l6_32), (0, .ref 0), (2, .int l2), (3, .int l3), (4, .int l4), (5, .int l5)] e_32 rfl (by decide) d_Mo_reckonsTo_32 ?_
      refine G_aload_n 1 rfl d_Mo_reckonsTo_34 ?_
      refine G_getR fl_Mo_47 km_0 sm_0 rfl (by decide) d_Mo_reckonsTo_35 ?_
      refine G_iload 5 rfl d_Mo_reckonsTo_38 ?_
      obtain ⟨g_40, h⟩ := ob_g h
      refine G_iaload km_13 sm_13 g_40 d_Mo_reckonsTo_40 ?_
      refine G_ldc c_Mo_169 d_Mo_reckonsTo_41 ?_
      refine G_irem (by decide) d_Mo_reckonsTo_43 ?_
      obtain ⟨l7_44, e_44, h⟩ := ob_s h
      refine G_istore [(7, .int l7_44), (6, .int l6_32), (0, .ref 0), (2, .int l2), (3, .int l3), (4, .int l4), (5, .int l5)] e_44 rfl (by decide) d_Mo_reckonsTo_44 ?_
      refine G_iload 6 rfl d_Mo_reckonsTo_46 ?_
      refine G_iconst 1 (by decide) d_Mo_reckonsTo_48 ?_
      refine G_iadd d_Mo_reckonsTo_49 ?_
      obtain ⟨l5_50, e_50, h⟩ := ob_s h
      refine G_istore [(5, .int l5_50), (7, .int l7_44), (6, .int l6_32), (0, .ref 0), (2, .int l2), (3, .int l3), (4, .int l4)] e_50 rfl (by decide) d_Mo_reckonsTo_50 ?_
      refine G_iload 2 rfl d_Mo_reckonsTo_52 ?_
      refine G_if_eq 63 (by decide) d_Mo_reckonsTo_54 (fun c_54 => ?_) (fun c_54 => ?_)
      · replace h := ob_t h c_54
        exact G_sub _ [3, 4, 5, 6, 0, 2, 1] rfl (t_Mo_reckonsTo_63 ih S l2 l3 l4 l5_50 l6_32 l7_44 _ h)
      · replace h := ob_f h c_54
        refine G_iload 2 rfl d_Mo_reckonsTo_57 ?_
        refine G_iconst 1 (by decide) d_Mo_reckonsTo_59 ?_
        refine G_icmp_ne 93 (by decide) d_Mo_reckonsTo_60 (fun c_60 => ?_) (fun c_60 => ?_)
        · replace h := ob_f h c_60
          refine G_iload 2 rfl d_Mo_reckonsTo_93 ?_
          refine G_bipush 10 (by decide) d_Mo_reckonsTo_95 ?_
          refine G_icmp_ne 121 (by decide) d_Mo_reckonsTo_97 (fun c_97 => ?_) (fun c_97 => ?_)
          · replace h := ob_f h c_97
            refine G_iload 2 rfl d_Mo_reckonsTo_121 ?_
            refine G_bipush 11 (by decide) d_Mo_reckonsTo_123 ?_
            refine G_icmp_eq 135 (by decide) d_Mo_reckonsTo_125 (fun c_125 => ?_) (fun c_125 => ?_)
            · replace h := ob_t h c_125
              exact G_sub _ [3, 4, 5, 6, 0, 2, 1] rfl (t_Mo_reckonsTo_135 ih S l2 l3 l4 l5_50 l6_32 l7_44 _ h)
            · replace h := ob_f h c_125
              refine G_iload 2 rfl d_Mo_reckonsTo_128 ?_
              refine G_bipush 12 (by decide) d_Mo_reckonsTo_130 ?_
              refine G_icmp_ne 175 (by decide) d_Mo_reckonsTo_132 (fun c_132 => ?_) (fun c_132 => ?_)
              · replace h := ob_f h c_132
                refine G_iload_n 5 rfl d_Mo_reckonsTo_175 ?_
                refine G_iconst 1 (by decide) d_Mo_reckonsTo_176 ?_
                refine G_isub d_Mo_reckonsTo_177 ?_
                obtain ⟨l3_178, e_178, h⟩ := ob_s h
                refine G_istore_n [(3, .int l3_178), (5, .int l5_50), (7, .int l7_44), (6, .int l6_32), (0, .ref 0), (2, .int l2), (4, .int l4)] e_178 rfl (by decide) d_Mo_reckonsTo_178 ?_
                refine G_iload 3 rfl d_Mo_reckonsTo_179 ?_
                refine G_iconst 5 (by decide) d_Mo_reckonsTo_181 ?_
                refine G_icmp_eq 192 (by decide) d_Mo_reckonsTo_182 (fun c_182 => ?_) (fun c_182 => ?_)
                · replace h := ob_t h c_182
                  exact G_sub _ [4, 5, 0, 6, 1, 3] rfl (t_Mo_reckonsTo_192 ih S l2 l3_178 l4 l5_50 l6_32 _ h)
                · replace h := ob_f h c_182
                  refine G_iload 3 rfl d_Mo_reckonsTo_185 ?_
                  refine G_bipush 6 (by decide) d_Mo_reckonsTo_187 ?_
                  refine G_icmp_ne 203 (by decide) d_Mo_reckonsTo_189 (fun c_189 => ?_) (fun c_189 => ?_)
                  · replace h := ob_f h c_189
                    exact G_sub _ [4, 5, 0, 6, 1, 3] rfl (t_Mo_reckonsTo_203 ih S l2 l3_178 l4 l5_50 l6_32 _ h)
                  · replace h := ob_t h c_189
                    exact G_sub _ [4, 5, 0, 6, 1, 3] rfl (t_Mo_reckonsTo_192 ih S l2 l3_178 l4 l5_50 l6_32 _ h)
              · replace h := ob_t h c_132
                exact G_sub _ [3, 4, 5, 6, 0, 2, 1] rfl (t_Mo_reckonsTo_135 ih S l2 l3 l4 l5_50 l6_32 l7_44 _ h)
          · replace h := ob_t h c_97
            refine G_aload_n 3 rfl d_Mo_reckonsTo_100 ?_
            refine G_getR fl_Mo_62 km_0 sm_0 rfl (by decide) d_Mo_reckonsTo_101 ?_
            refine G_iload_n 5 rfl d_Mo_reckonsTo_104 ?_
            refine G_iconst 1 (by decide) d_Mo_reckonsTo_105 ?_
            refine G_isub d_Mo_reckonsTo_106 ?_
            refine G_iconst 1 (by decide) d_Mo_reckonsTo_107 ?_
            refine G_aload_n 3 rfl d_Mo_reckonsTo_108 ?_
            refine G_getR fl_Mo_62 km_0 sm_0 rfl (by decide) d_Mo_reckonsTo_109 ?_
            refine G_iload_n 5 rfl d_Mo_reckonsTo_112 ?_
            refine G_iconst 1 (by decide) d_Mo_reckonsTo_113 ?_
            refine G_isub d_Mo_reckonsTo_114 ?_
            obtain ⟨g_115, h⟩ := ob_g h
            refine G_iaload km_18 sm_18 g_115 d_Mo_reckonsTo_115 ?_
            refine G_isub d_Mo_reckonsTo_116 ?_
            obtain ⟨g_117, h⟩ := ob_g h
            obtain ⟨S_117, e_117, h⟩ := ob_s h
            refine G_iastore e_117 km_18 sm_18 g_117 d_Mo_reckonsTo_117 ?_
            refine G_goto 230 (by decide) d_Mo_reckonsTo_118 ?_
            exact G_sub _ [3, 4, 5, 6, 0] rfl (t_Mo_reckonsTo_230 ih S_117 l2 l3 l4 l5_50 _ h)
        · replace h := ob_t h c_60
          exact G_sub _ [3, 4, 5, 6, 0, 2, 1] rfl (t_Mo_reckonsTo_63 ih S l2 l3 l4 l5_50 l6_32 l7_44 _ h)
def f_Mo_reckonsTo (S : St) (l1 : Int32) (l2 : Int32) : Option (Int32 × St) :=
    (some (0 : Int32)).bind fun l3_1 =>
    (some (260 * (l1 / 260))).bind fun l4_11 =>
    f_Mo_reckonsTo_16 FU S l2 l3_1 l4_11 l1
set_option maxHeartbeats 4000000 in
set_option maxRecDepth 20000 in
theorem t_Mo_reckonsTo  {S : St} {l1 : Int32} {l2 : Int32} {w : Int32 × St} (h : f_Mo_reckonsTo S l1 l2 = some w) : Ct SM m_Mo_reckonsTo 2 [.ref 0, .int l1, .int l2] S (some w.1) w.2 := by
  unfold f_Mo_reckonsTo at h
  refine Ct.of pn_Mo (Nat.le_of_ble_eq_true rfl) ?_
  show G SM m_Mo_reckonsTo 2 (some w.1) w.2 0 [(0, .ref 0), (1, .int l1), (2, .int l2)] [] S
  refine G_iconst 0 (by decide) d_Mo_reckonsTo_0 ?_
  obtain ⟨l3_1, e_1, h⟩ := ob_s h
  refine G_istore_n [(3, .int l3_1), (0, .ref 0), (1, .int l1), (2, .int l2)] e_1 rfl (by decide) d_Mo_reckonsTo_1 ?_
  refine G_sipush 260 (by decide) d_Mo_reckonsTo_2 ?_
  refine G_iload_n 2 rfl d_Mo_reckonsTo_5 ?_
  refine G_sipush 260 (by decide) d_Mo_reckonsTo_6 ?_
  refine G_idiv (by decide) d_Mo_reckonsTo_9 ?_
  refine G_imul d_Mo_reckonsTo_10 ?_
  obtain ⟨l4_11, e_11, h⟩ := ob_s h
  refine G_istore [(4, .int l4_11), (3, .int l3_1), (0, .ref 0), (1, .int l1), (2, .int l2)] e_11 rfl (by decide) d_Mo_reckonsTo_11 ?_
  refine G_iload_n 3 rfl d_Mo_reckonsTo_13 ?_
  refine G_istore [(5, .int l1), (4, .int l4_11), (3, .int l3_1), (0, .ref 0), (1, .int l1), (2, .int l2)] rfl rfl (by decide) d_Mo_reckonsTo_14 ?_
  exact G_sub _ [3, 5, 2, 1, 0] rfl (t_Mo_reckonsTo_16 FU S l2 l3_1 l4_11 l1 _ h)
theorem d_Mo_byLaw_0 : decode m_Mo_byLaw.2.1 0 = .ok (.iconst 0, 1) := by decide +kernel
theorem d_Mo_byLaw_1 : decode m_Mo_byLaw.2.1 1 = .ok (.istore 4, 2) := by decide +kernel
theorem d_Mo_byLaw_3 : decode m_Mo_byLaw.2.1 3 = .ok (.iload 4, 2) := by decide +kernel
theorem d_Mo_byLaw_5 : decode m_Mo_byLaw.2.1 5 = .ok (.aload_n 0, 1) := by decide +kernel
theorem d_Mo_byLaw_6 : decode m_Mo_byLaw.2.1 6 = .ok (.getfield 236, 3) := by decide +kernel
theorem d_Mo_byLaw_9 : decode m_Mo_byLaw.2.1 9 = .ok (.if_icmp .ge 87, 3) := by decide +kernel
theorem d_Mo_byLaw_12 : decode m_Mo_byLaw.2.1 12 = .ok (.aload_n 0, 1) := by decide +kernel
theorem d_Mo_byLaw_13 : decode m_Mo_byLaw.2.1 13 = .ok (.getfield 50, 3) := by decide +kernel
theorem d_Mo_byLaw_16 : decode m_Mo_byLaw.2.1 16 = .ok (.iload 4, 2) := by decide +kernel
theorem d_Mo_byLaw_18 : decode m_Mo_byLaw.2.1 18 = .ok (.iaload, 1) := by decide +kernel
theorem d_Mo_byLaw_19 : decode m_Mo_byLaw.2.1 19 = .ok (.iload_n 1, 1) := by decide +kernel
theorem d_Mo_byLaw_20 : decode m_Mo_byLaw.2.1 20 = .ok (.if_icmp .ne 70, 3) := by decide +kernel
theorem d_Mo_byLaw_23 : decode m_Mo_byLaw.2.1 23 = .ok (.aload_n 0, 1) := by decide +kernel
theorem d_Mo_byLaw_24 : decode m_Mo_byLaw.2.1 24 = .ok (.aload_n 0, 1) := by decide +kernel
theorem d_Mo_byLaw_25 : decode m_Mo_byLaw.2.1 25 = .ok (.getfield 56, 3) := by decide +kernel
theorem d_Mo_byLaw_28 : decode m_Mo_byLaw.2.1 28 = .ok (.iload 4, 2) := by decide +kernel
theorem d_Mo_byLaw_30 : decode m_Mo_byLaw.2.1 30 = .ok (.iaload, 1) := by decide +kernel
theorem d_Mo_byLaw_31 : decode m_Mo_byLaw.2.1 31 = .ok (.aload_n 0, 1) := by decide +kernel
theorem d_Mo_byLaw_32 : decode m_Mo_byLaw.2.1 32 = .ok (.getfield 59, 3) := by decide +kernel
theorem d_Mo_byLaw_35 : decode m_Mo_byLaw.2.1 35 = .ok (.iload 4, 2) := by decide +kernel
theorem d_Mo_byLaw_37 : decode m_Mo_byLaw.2.1 37 = .ok (.iaload, 1) := by decide +kernel
theorem d_Mo_byLaw_38 : decode m_Mo_byLaw.2.1 38 = .ok (.invokevirtual 243, 3) := by decide +kernel
theorem d_Mo_byLaw_41 : decode m_Mo_byLaw.2.1 41 = .ok (.iconst 1, 1) := by decide +kernel
theorem d_Mo_byLaw_42 : decode m_Mo_byLaw.2.1 42 = .ok (.if_icmp .eq 6, 3) := by decide +kernel
theorem d_Mo_byLaw_45 : decode m_Mo_byLaw.2.1 45 = .ok (.goto 45, 3) := by decide +kernel
theorem d_Mo_byLaw_48 : decode m_Mo_byLaw.2.1 48 = .ok (.aload_n 0, 1) := by decide +kernel
theorem d_Mo_byLaw_49 : decode m_Mo_byLaw.2.1 49 = .ok (.aload_n 0, 1) := by decide +kernel
theorem d_Mo_byLaw_50 : decode m_Mo_byLaw.2.1 50 = .ok (.getfield 53, 3) := by decide +kernel
theorem d_Mo_byLaw_53 : decode m_Mo_byLaw.2.1 53 = .ok (.iload 4, 2) := by decide +kernel
theorem d_Mo_byLaw_55 : decode m_Mo_byLaw.2.1 55 = .ok (.iaload, 1) := by decide +kernel
theorem d_Mo_byLaw_56 : decode m_Mo_byLaw.2.1 56 = .ok (.aload_n 0, 1) := by decide +kernel
theorem d_Mo_byLaw_57 : decode m_Mo_byLaw.2.1 57 = .ok (.getfield 56, 3) := by decide +kernel
theorem d_Mo_byLaw_60 : decode m_Mo_byLaw.2.1 60 = .ok (.iload 4, 2) := by decide +kernel
theorem d_Mo_byLaw_62 : decode m_Mo_byLaw.2.1 62 = .ok (.iaload, 1) := by decide +kernel
theorem d_Mo_byLaw_63 : decode m_Mo_byLaw.2.1 63 = .ok (.invokevirtual 243, 3) := by decide +kernel
theorem d_Mo_byLaw_66 : decode m_Mo_byLaw.2.1 66 = .ok (.istore 5, 2) := by decide +kernel
theorem d_Mo_byLaw_68 : decode m_Mo_byLaw.2.1 68 = .ok (.iload 5, 2) := by decide +kernel
theorem d_Mo_byLaw_70 : decode m_Mo_byLaw.2.1 70 = .ok (.ifCond .ge 7, 3) := by decide +kernel
theorem d_Mo_byLaw_73 : decode m_Mo_byLaw.2.1 73 = .ok (.iconst 0, 1) := by decide +kernel
theorem d_Mo_byLaw_74 : decode m_Mo_byLaw.2.1 74 = .ok (.goto 15, 3) := by decide +kernel
theorem d_Mo_byLaw_77 : decode m_Mo_byLaw.2.1 77 = .ok (.iload 5, 2) := by decide +kernel
theorem d_Mo_byLaw_79 : decode m_Mo_byLaw.2.1 79 = .ok (.iload_n 2, 1) := by decide +kernel
theorem d_Mo_byLaw_80 : decode m_Mo_byLaw.2.1 80 = .ok (.if_icmp .le 7, 3) := by decide +kernel
theorem d_Mo_byLaw_83 : decode m_Mo_byLaw.2.1 83 = .ok (.iload_n 2, 1) := by decide +kernel
theorem d_Mo_byLaw_84 : decode m_Mo_byLaw.2.1 84 = .ok (.goto 5, 3) := by decide +kernel
theorem d_Mo_byLaw_87 : decode m_Mo_byLaw.2.1 87 = .ok (.iload 5, 2) := by decide +kernel
theorem d_Mo_byLaw_89 : decode m_Mo_byLaw.2.1 89 = .ok (.ireturn, 1) := by decide +kernel
theorem d_Mo_byLaw_90 : decode m_Mo_byLaw.2.1 90 = .ok (.iinc 4 1, 3) := by decide +kernel
theorem d_Mo_byLaw_93 : decode m_Mo_byLaw.2.1 93 = .ok (.goto (-90), 3) := by decide +kernel
theorem d_Mo_byLaw_96 : decode m_Mo_byLaw.2.1 96 = .ok (.iload_n 3, 1) := by decide +kernel
theorem d_Mo_byLaw_97 : decode m_Mo_byLaw.2.1 97 = .ok (.ireturn, 1) := by decide +kernel
def f_Mo_byLaw_90 (k_3 : St → Int32 → Int32 → Int32 → Int32 → Option (Int32 × St)) (S : St) (l1 : Int32) (l2 : Int32) (l3 : Int32) (l4 : Int32) : Option (Int32 × St) :=
    (some (l4 + 1)).bind fun l4_90 =>
    k_3 S l1 l2 l3 l4_90
set_option maxHeartbeats 4000000 in
set_option maxRecDepth 20000 in
theorem t_Mo_byLaw_90  {k_3 : St → Int32 → Int32 → Int32 → Int32 → Option (Int32 × St)} (hk_3 : ∀ (S : St) (l1 : Int32) (l2 : Int32) (l3 : Int32) (l4 : Int32) (w : Int32 × St), k_3 S l1 l2 l3 l4 = some w → G SM m_Mo_byLaw 3 (some w.1) w.2 3 [(0, .ref 0), (1, .int l1), (2, .int l2), (3, .int l3), (4, .int l4)] [] S) (S : St) (l1 : Int32) (l2 : Int32) (l3 : Int32) (l4 : Int32) (w : Int32 × St) (h : f_Mo_byLaw_90 k_3 S l1 l2 l3 l4 = some w) : G SM m_Mo_byLaw 3 (some w.1) w.2 90 [(0, .ref 0), (1, .int l1), (2, .int l2), (3, .int l3), (4, .int l4)] [] S := by
  unfold f_Mo_byLaw_90 at h
  obtain ⟨l4_90, e_90, h⟩ := ob_s h
  refine G_iinc 1 4 [(4, .int l4_90), (0, .ref 0), (1, .int l1), (2, .int l2), (3, .int l3)] (by decide) rfl e_90 rfl (by decide) d_Mo_byLaw_90 ?_
  refine G_goto 3 (by decide) d_Mo_byLaw_93 ?_
  exact G_sub _ [1, 2, 3, 4, 0] rfl (hk_3 S l1 l2 l3 l4_90 _ h)
def f_Mo_byLaw_3 : Nat → St → Int32 → Int32 → Int32 → Int32 → Option (Int32 × St)
  | 0, _, _, _, _, _ => none
  | n + 1, S, l1, l2, l3, l4 =>
    if (S 0 16) ≤ l4 then (
    some (l3, S))
    else (
    if ig l4 16 then (
    if (S 14 l4.toNatClampNeg) = l1 then (
    if ig l4 16 then (
    if ig l4 16 then (
    (f_Mo_reckonsTo S (S 16 l4.toNatClampNeg) (S 17 l4.toNatClampNeg)).bind fun w_38 =>
    if w_38.1 = 1 then (
    if ig l4 16 then (
    if ig l4 16 then (
    (f_Mo_reckonsTo w_38.2 (w_38.2 15 l4.toNatClampNeg) (w_38.2 16 l4.toNatClampNeg)).bind fun w_63 =>
    (some w_63.1).bind fun l5_66 =>
    if 0 ≤ l5_66 then (
    if l5_66 ≤ l2 then (
    some (l5_66, w_63.2))
    else (
    some (l2, w_63.2)))
    else (
    some (0, w_63.2))) else none) else none)
    else (
    f_Mo_byLaw_90 (f_Mo_byLaw_3 n) w_38.2 l1 l2 l3 l4)) else none) else none)
    else (
    f_Mo_byLaw_90 (f_Mo_byLaw_3 n) S l1 l2 l3 l4)) else none)
set_option maxHeartbeats 4000000 in
set_option maxRecDepth 20000 in
theorem t_Mo_byLaw_3  : ∀ (n : Nat) (S : St) (l1 : Int32) (l2 : Int32) (l3 : Int32) (l4 : Int32) (w : Int32 × St), f_Mo_byLaw_3 n S l1 l2 l3 l4 = some w → G SM m_Mo_byLaw 3 (some w.1) w.2 3 [(0, .ref 0), (1, .int l1), (2, .int l2), (3, .int l3), (4, .int l4)] [] S := by
  intro n
  induction n with
  | zero =>
    intro S l1 l2 l3 l4 w h
    rw [f_Mo_byLaw_3] at h
    cases h
  | succ n ih =>
    intro S l1 l2 l3 l4 w h
    rw [f_Mo_byLaw_3] at h
    refine G_iload 4 rfl d_Mo_byLaw_3 ?_
    refine G_aload_n 0 rfl d_Mo_byLaw_5 ?_
    refine G_getI fl_Mo_236 km_0 sm_0 rfl d_Mo_byLaw_6 ?_
    refine G_icmp_ge 96 (by decide) d_Mo_byLaw_9 (fun c_9 => ?_) (fun c_9 => ?_)
    · replace h := ob_t h c_9
      refine G_iload_n 3 rfl d_Mo_byLaw_96 ?_
      cases h
      exact G_iret rfl d_Mo_byLaw_97
    · replace h := ob_f h c_9
      refine G_aload_n 0 rfl d_Mo_byLaw_12 ?_
      refine G_getR fl_Mo_50 km_0 sm_0 rfl (by decide) d_Mo_byLaw_13 ?_
      refine G_iload 4 rfl d_Mo_byLaw_16 ?_
      obtain ⟨g_18, h⟩ := ob_g h
      refine G_iaload km_14 sm_14 g_18 d_Mo_byLaw_18 ?_
      refine G_iload_n 1 rfl d_Mo_byLaw_19 ?_
      refine G_icmp_ne 90 (by decide) d_Mo_byLaw_20 (fun c_20 => ?_) (fun c_20 => ?_)
      · replace h := ob_f h c_20
        exact G_sub _ [0, 1, 2, 3, 4] rfl (t_Mo_byLaw_90 ih S l1 l2 l3 l4 _ h)
      · replace h := ob_t h c_20
        refine G_aload_n 0 rfl d_Mo_byLaw_23 ?_
        refine G_aload_n 0 rfl d_Mo_byLaw_24 ?_
        refine G_getR fl_Mo_56 km_0 sm_0 rfl (by decide) d_Mo_byLaw_25 ?_
        refine G_iload 4 rfl d_Mo_byLaw_28 ?_
        obtain ⟨g_30, h⟩ := ob_g h
        refine G_iaload km_16 sm_16 g_30 d_Mo_byLaw_30 ?_
        refine G_aload_n 0 rfl d_Mo_byLaw_31 ?_
        refine G_getR fl_Mo_59 km_0 sm_0 rfl (by decide) d_Mo_byLaw_32 ?_
        refine G_iload 4 rfl d_Mo_byLaw_35 ?_
        obtain ⟨g_37, h⟩ := ob_g h
        refine G_iaload km_17 sm_17 g_37 d_Mo_byLaw_37 ?_
        obtain ⟨w_38, q_38, h⟩ := ob_b h
        refine G_callV [.int (S 16 l4.toNatClampNeg), .int (S 17 l4.toNatClampNeg)] [] (t_Mo_reckonsTo q_38) (by decide) (by decide) mv_Mo_reckonsTo rfl ml_Mo_243 km_0 sm_0 cl_12 rfl (Nat.le_of_ble_eq_true rfl) d_Mo_byLaw_38 ?_
        refine G_iconst 1 (by decide) d_Mo_byLaw_41 ?_
        refine G_icmp_eq 48 (by decide) d_Mo_byLaw_42 (fun c_42 => ?_) (fun c_42 => ?_)
        · replace h := ob_t h c_42
          refine G_aload_n 0 rfl d_Mo_byLaw_48 ?_
          refine G_aload_n 0 rfl d_Mo_byLaw_49 ?_
          refine G_getR fl_Mo_53 km_0 sm_0 rfl (by decide) d_Mo_byLaw_50 ?_
          refine G_iload 4 rfl d_Mo_byLaw_53 ?_
          obtain ⟨g_55, h⟩ := ob_g h
          refine G_iaload km_15 sm_15 g_55 d_Mo_byLaw_55 ?_
          refine G_aload_n 0 rfl d_Mo_byLaw_56 ?_
          refine G_getR fl_Mo_56 km_0 sm_0 rfl (by decide) d_Mo_byLaw_57 ?_
          refine G_iload 4 rfl d_Mo_byLaw_60 ?_
          obtain ⟨g_62, h⟩ := ob_g h
          refine G_iaload km_16 sm_16 g_62 d_Mo_byLaw_62 ?_
          obtain ⟨w_63, q_63, h⟩ := ob_b h
          refine G_callV [.int (w_38.2 15 l4.toNatClampNeg), .int (w_38.2 16 l4.toNatClampNeg)] [] (t_Mo_reckonsTo q_63) (by decide) (by decide) mv_Mo_reckonsTo rfl ml_Mo_243 km_0 sm_0 cl_12 rfl (Nat.le_of_ble_eq_true rfl) d_Mo_byLaw_63 ?_
          obtain ⟨l5_66, e_66, h⟩ := ob_s h
          refine G_istore [(5, .int l5_66), (0, .ref 0), (1, .int l1), (2, .int l2), (3, .int l3), (4, .int l4)] e_66 rfl (by decide) d_Mo_byLaw_66 ?_
          refine G_iload 0 rfl d_Mo_byLaw_68 ?_
          refine G_if_ge 77 (by decide) d_Mo_byLaw_70 (fun c_70 => ?_) (fun c_70 => ?_)
          · replace h := ob_t h c_70
            refine G_iload 0 rfl d_Mo_byLaw_77 ?_
            refine G_iload_n 3 rfl d_Mo_byLaw_79 ?_
            refine G_icmp_le 87 (by decide) d_Mo_byLaw_80 (fun c_80 => ?_) (fun c_80 => ?_)
            · replace h := ob_t h c_80
              refine G_iload 0 rfl d_Mo_byLaw_87 ?_
              cases h
              exact G_iret rfl d_Mo_byLaw_89
            · replace h := ob_f h c_80
              refine G_iload_n 3 rfl d_Mo_byLaw_83 ?_
              refine G_goto 89 (by decide) d_Mo_byLaw_84 ?_
              cases h
              exact G_iret rfl d_Mo_byLaw_89
          · replace h := ob_f h c_70
            refine G_iconst 0 (by decide) d_Mo_byLaw_73 ?_
            refine G_goto 89 (by decide) d_Mo_byLaw_74 ?_
            cases h
            exact G_iret rfl d_Mo_byLaw_89
        · replace h := ob_f h c_42
          refine G_goto 90 (by decide) d_Mo_byLaw_45 ?_
          exact G_sub _ [0, 1, 2, 3, 4] rfl (t_Mo_byLaw_90 ih w_38.2 l1 l2 l3 l4 _ h)
def f_Mo_byLaw (S : St) (l1 : Int32) (l2 : Int32) (l3 : Int32) : Option (Int32 × St) :=
    (some (0 : Int32)).bind fun l4_1 =>
    f_Mo_byLaw_3 FU S l1 l2 l3 l4_1
set_option maxHeartbeats 4000000 in
set_option maxRecDepth 20000 in
theorem t_Mo_byLaw  {S : St} {l1 : Int32} {l2 : Int32} {l3 : Int32} {w : Int32 × St} (h : f_Mo_byLaw S l1 l2 l3 = some w) : Ct SM m_Mo_byLaw 3 [.ref 0, .int l1, .int l2, .int l3] S (some w.1) w.2 := by
  unfold f_Mo_byLaw at h
  refine Ct.of pn_Mo (Nat.le_of_ble_eq_true rfl) ?_
  show G SM m_Mo_byLaw 3 (some w.1) w.2 0 [(0, .ref 0), (1, .int l1), (2, .int l2), (3, .int l3)] [] S
  refine G_iconst 0 (by decide) d_Mo_byLaw_0 ?_
  obtain ⟨l4_1, e_1, h⟩ := ob_s h
  refine G_istore [(4, .int l4_1), (0, .ref 0), (1, .int l1), (2, .int l2), (3, .int l3)] e_1 rfl (by decide) d_Mo_byLaw_1 ?_
  exact G_sub _ [1, 2, 3, 4, 0] rfl (t_Mo_byLaw_3 FU S l1 l2 l3 l4_1 _ h)
theorem d_Mo_holdsAny_0 : decode m_Mo_holdsAny.2.1 0 = .ok (.iconst 0, 1) := by decide +kernel
theorem d_Mo_holdsAny_1 : decode m_Mo_holdsAny.2.1 1 = .ok (.istore_n 2, 1) := by decide +kernel
theorem d_Mo_holdsAny_2 : decode m_Mo_holdsAny.2.1 2 = .ok (.iload_n 2, 1) := by decide +kernel
theorem d_Mo_holdsAny_3 : decode m_Mo_holdsAny.2.1 3 = .ok (.aload_n 0, 1) := by decide +kernel
theorem d_Mo_holdsAny_4 : decode m_Mo_holdsAny.2.1 4 = .ok (.getfield 236, 3) := by decide +kernel
theorem d_Mo_holdsAny_7 : decode m_Mo_holdsAny.2.1 7 = .ok (.if_icmp .ge 41, 3) := by decide +kernel
theorem d_Mo_holdsAny_10 : decode m_Mo_holdsAny.2.1 10 = .ok (.aload_n 0, 1) := by decide +kernel
theorem d_Mo_holdsAny_11 : decode m_Mo_holdsAny.2.1 11 = .ok (.getfield 50, 3) := by decide +kernel
theorem d_Mo_holdsAny_14 : decode m_Mo_holdsAny.2.1 14 = .ok (.iload_n 2, 1) := by decide +kernel
theorem d_Mo_holdsAny_15 : decode m_Mo_holdsAny.2.1 15 = .ok (.iaload, 1) := by decide +kernel
theorem d_Mo_holdsAny_16 : decode m_Mo_holdsAny.2.1 16 = .ok (.iload_n 1, 1) := by decide +kernel
theorem d_Mo_holdsAny_17 : decode m_Mo_holdsAny.2.1 17 = .ok (.if_icmp .ne 25, 3) := by decide +kernel
theorem d_Mo_holdsAny_20 : decode m_Mo_holdsAny.2.1 20 = .ok (.aload_n 0, 1) := by decide +kernel
theorem d_Mo_holdsAny_21 : decode m_Mo_holdsAny.2.1 21 = .ok (.aload_n 0, 1) := by decide +kernel
theorem d_Mo_holdsAny_22 : decode m_Mo_holdsAny.2.1 22 = .ok (.getfield 56, 3) := by decide +kernel
theorem d_Mo_holdsAny_25 : decode m_Mo_holdsAny.2.1 25 = .ok (.iload_n 2, 1) := by decide +kernel
theorem d_Mo_holdsAny_26 : decode m_Mo_holdsAny.2.1 26 = .ok (.iaload, 1) := by decide +kernel
theorem d_Mo_holdsAny_27 : decode m_Mo_holdsAny.2.1 27 = .ok (.aload_n 0, 1) := by decide +kernel
theorem d_Mo_holdsAny_28 : decode m_Mo_holdsAny.2.1 28 = .ok (.getfield 59, 3) := by decide +kernel
theorem d_Mo_holdsAny_31 : decode m_Mo_holdsAny.2.1 31 = .ok (.iload_n 2, 1) := by decide +kernel
theorem d_Mo_holdsAny_32 : decode m_Mo_holdsAny.2.1 32 = .ok (.iaload, 1) := by decide +kernel
theorem d_Mo_holdsAny_33 : decode m_Mo_holdsAny.2.1 33 = .ok (.invokevirtual 243, 3) := by decide +kernel
theorem d_Mo_holdsAny_36 : decode m_Mo_holdsAny.2.1 36 = .ok (.iconst 1, 1) := by decide +kernel
theorem d_Mo_holdsAny_37 : decode m_Mo_holdsAny.2.1 37 = .ok (.if_icmp .ne 5, 3) := by decide +kernel
theorem d_Mo_holdsAny_40 : decode m_Mo_holdsAny.2.1 40 = .ok (.iconst 1, 1) := by decide +kernel
theorem d_Mo_holdsAny_41 : decode m_Mo_holdsAny.2.1 41 = .ok (.ireturn, 1) := by decide +kernel
theorem d_Mo_holdsAny_42 : decode m_Mo_holdsAny.2.1 42 = .ok (.iinc 2 1, 3) := by decide +kernel
theorem d_Mo_holdsAny_45 : decode m_Mo_holdsAny.2.1 45 = .ok (.goto (-43), 3) := by decide +kernel
theorem d_Mo_holdsAny_48 : decode m_Mo_holdsAny.2.1 48 = .ok (.iconst 0, 1) := by decide +kernel
theorem d_Mo_holdsAny_49 : decode m_Mo_holdsAny.2.1 49 = .ok (.ireturn, 1) := by decide +kernel
def f_Mo_holdsAny_42 (k_2 : St → Int32 → Int32 → Option (Int32 × St)) (S : St) (l1 : Int32) (l2 : Int32) : Option (Int32 × St) :=
    (some (l2 + 1)).bind fun l2_42 =>
    k_2 S l1 l2_42
set_option maxHeartbeats 4000000 in
set_option maxRecDepth 20000 in
theorem t_Mo_holdsAny_42  {k_2 : St → Int32 → Int32 → Option (Int32 × St)} (hk_2 : ∀ (S : St) (l1 : Int32) (l2 : Int32) (w : Int32 × St), k_2 S l1 l2 = some w → G SM m_Mo_holdsAny 3 (some w.1) w.2 2 [(0, .ref 0), (1, .int l1), (2, .int l2)] [] S) (S : St) (l1 : Int32) (l2 : Int32) (w : Int32 × St) (h : f_Mo_holdsAny_42 k_2 S l1 l2 = some w) : G SM m_Mo_holdsAny 3 (some w.1) w.2 42 [(0, .ref 0), (1, .int l1), (2, .int l2)] [] S := by
  unfold f_Mo_holdsAny_42 at h
  obtain ⟨l2_42, e_42, h⟩ := ob_s h
  refine G_iinc 1 2 [(2, .int l2_42), (0, .ref 0), (1, .int l1)] (by decide) rfl e_42 rfl (by decide) d_Mo_holdsAny_42 ?_
  refine G_goto 2 (by decide) d_Mo_holdsAny_45 ?_
  exact G_sub _ [1, 2, 0] rfl (hk_2 S l1 l2_42 _ h)
def f_Mo_holdsAny_2 : Nat → St → Int32 → Int32 → Option (Int32 × St)
  | 0, _, _, _ => none
  | n + 1, S, l1, l2 =>
    if (S 0 16) ≤ l2 then (
    some (0, S))
    else (
    if ig l2 16 then (
    if (S 14 l2.toNatClampNeg) = l1 then (
    if ig l2 16 then (
    if ig l2 16 then (
    (f_Mo_reckonsTo S (S 16 l2.toNatClampNeg) (S 17 l2.toNatClampNeg)).bind fun w_33 =>
    if w_33.1 = 1 then (
    some (1, w_33.2))
    else (
    f_Mo_holdsAny_42 (f_Mo_holdsAny_2 n) w_33.2 l1 l2)) else none) else none)
    else (
    f_Mo_holdsAny_42 (f_Mo_holdsAny_2 n) S l1 l2)) else none)
set_option maxHeartbeats 4000000 in
set_option maxRecDepth 20000 in
theorem t_Mo_holdsAny_2  : ∀ (n : Nat) (S : St) (l1 : Int32) (l2 : Int32) (w : Int32 × St), f_Mo_holdsAny_2 n S l1 l2 = some w → G SM m_Mo_holdsAny 3 (some w.1) w.2 2 [(0, .ref 0), (1, .int l1), (2, .int l2)] [] S := by
  intro n
  induction n with
  | zero =>
    intro S l1 l2 w h
    rw [f_Mo_holdsAny_2] at h
    cases h
  | succ n ih =>
    intro S l1 l2 w h
    rw [f_Mo_holdsAny_2] at h
    refine G_iload_n 2 rfl d_Mo_holdsAny_2 ?_
    refine G_aload_n 0 rfl d_Mo_holdsAny_3 ?_
    refine G_getI fl_Mo_236 km_0 sm_0 rfl d_Mo_holdsAny_4 ?_
    refine G_icmp_ge 48 (by decide) d_Mo_holdsAny_7 (fun c_7 => ?_) (fun c_7 => ?_)
    · replace h := ob_t h c_7
      refine G_iconst 0 (by decide) d_Mo_holdsAny_48 ?_
      cases h
      exact G_zret (Or.inl rfl) rfl d_Mo_holdsAny_49
    · replace h := ob_f h c_7
      refine G_aload_n 0 rfl d_Mo_holdsAny_10 ?_
      refine G_getR fl_Mo_50 km_0 sm_0 rfl (by decide) d_Mo_holdsAny_11 ?_
      refine G_iload_n 2 rfl d_Mo_holdsAny_14 ?_
      obtain ⟨g_15, h⟩ := ob_g h
      refine G_iaload km_14 sm_14 g_15 d_Mo_holdsAny_15 ?_
      refine G_iload_n 1 rfl d_Mo_holdsAny_16 ?_
      refine G_icmp_ne 42 (by decide) d_Mo_holdsAny_17 (fun c_17 => ?_) (fun c_17 => ?_)
      · replace h := ob_f h c_17
        exact G_sub _ [0, 1, 2] rfl (t_Mo_holdsAny_42 ih S l1 l2 _ h)
      · replace h := ob_t h c_17
        refine G_aload_n 0 rfl d_Mo_holdsAny_20 ?_
        refine G_aload_n 0 rfl d_Mo_holdsAny_21 ?_
        refine G_getR fl_Mo_56 km_0 sm_0 rfl (by decide) d_Mo_holdsAny_22 ?_
        refine G_iload_n 2 rfl d_Mo_holdsAny_25 ?_
        obtain ⟨g_26, h⟩ := ob_g h
        refine G_iaload km_16 sm_16 g_26 d_Mo_holdsAny_26 ?_
        refine G_aload_n 0 rfl d_Mo_holdsAny_27 ?_
        refine G_getR fl_Mo_59 km_0 sm_0 rfl (by decide) d_Mo_holdsAny_28 ?_
        refine G_iload_n 2 rfl d_Mo_holdsAny_31 ?_
        obtain ⟨g_32, h⟩ := ob_g h
        refine G_iaload km_17 sm_17 g_32 d_Mo_holdsAny_32 ?_
        obtain ⟨w_33, q_33, h⟩ := ob_b h
        refine G_callV [.int (S 16 l2.toNatClampNeg), .int (S 17 l2.toNatClampNeg)] [] (t_Mo_reckonsTo q_33) (by decide) (by decide) mv_Mo_reckonsTo rfl ml_Mo_243 km_0 sm_0 cl_12 rfl (Nat.le_of_ble_eq_true rfl) d_Mo_holdsAny_33 ?_
        refine G_iconst 1 (by decide) d_Mo_holdsAny_36 ?_
        refine G_icmp_ne 42 (by decide) d_Mo_holdsAny_37 (fun c_37 => ?_) (fun c_37 => ?_)
        · replace h := ob_f h c_37
          exact G_sub _ [0, 1, 2] rfl (t_Mo_holdsAny_42 ih w_33.2 l1 l2 _ h)
        · replace h := ob_t h c_37
          refine G_iconst 1 (by decide) d_Mo_holdsAny_40 ?_
          cases h
          exact G_zret (Or.inr rfl) rfl d_Mo_holdsAny_41
def f_Mo_holdsAny (S : St) (l1 : Int32) : Option (Int32 × St) :=
    (some (0 : Int32)).bind fun l2_1 =>
    f_Mo_holdsAny_2 FU S l1 l2_1
set_option maxHeartbeats 4000000 in
set_option maxRecDepth 20000 in
theorem t_Mo_holdsAny  {S : St} {l1 : Int32} {w : Int32 × St} (h : f_Mo_holdsAny S l1 = some w) : Ct SM m_Mo_holdsAny 3 [.ref 0, .int l1] S (some w.1) w.2 := by
  unfold f_Mo_holdsAny at h
  refine Ct.of pn_Mo (Nat.le_of_ble_eq_true rfl) ?_
  show G SM m_Mo_holdsAny 3 (some w.1) w.2 0 [(0, .ref 0), (1, .int l1)] [] S
  refine G_iconst 0 (by decide) d_Mo_holdsAny_0 ?_
  obtain ⟨l2_1, e_1, h⟩ := ob_s h
  refine G_istore_n [(2, .int l2_1), (0, .ref 0), (1, .int l1)] e_1 rfl (by decide) d_Mo_holdsAny_1 ?_
  exact G_sub _ [1, 2, 0] rfl (t_Mo_holdsAny_2 FU S l1 l2_1 _ h)
theorem d_Mo_readsAmount_0 : decode m_Mo_readsAmount.2.1 0 = .ok (.aload_n 0, 1) := by decide +kernel
theorem d_Mo_readsAmount_1 : decode m_Mo_readsAmount.2.1 1 = .ok (.getfield 142, 3) := by decide +kernel
theorem d_Mo_readsAmount_4 : decode m_Mo_readsAmount.2.1 4 = .ok (.istore_n 2, 1) := by decide +kernel
theorem d_Mo_readsAmount_5 : decode m_Mo_readsAmount.2.1 5 = .ok (.aload_n 0, 1) := by decide +kernel
theorem d_Mo_readsAmount_6 : decode m_Mo_readsAmount.2.1 6 = .ok (.invokevirtual 162, 3) := by decide +kernel
theorem d_Mo_readsAmount_9 : decode m_Mo_readsAmount.2.1 9 = .ok (.ifCond .ne 13, 3) := by decide +kernel
theorem d_Mo_readsAmount_12 : decode m_Mo_readsAmount.2.1 12 = .ok (.aload_n 0, 1) := by decide +kernel
theorem d_Mo_readsAmount_13 : decode m_Mo_readsAmount.2.1 13 = .ok (.iconst 1, 1) := by decide +kernel
theorem d_Mo_readsAmount_14 : decode m_Mo_readsAmount.2.1 14 = .ok (.aload_n 0, 1) := by decide +kernel
theorem d_Mo_readsAmount_15 : decode m_Mo_readsAmount.2.1 15 = .ok (.getfield 142, 3) := by decide +kernel
theorem d_Mo_readsAmount_18 : decode m_Mo_readsAmount.2.1 18 = .ok (.invokevirtual 155, 3) := by decide +kernel
theorem d_Mo_readsAmount_21 : decode m_Mo_readsAmount.2.1 21 = .ok (.ireturn, 1) := by decide +kernel
theorem d_Mo_readsAmount_22 : decode m_Mo_readsAmount.2.1 22 = .ok (.aload_n 0, 1) := by decide +kernel
theorem d_Mo_readsAmount_23 : decode m_Mo_readsAmount.2.1 23 = .ok (.iconst 0, 1) := by decide +kernel
theorem d_Mo_readsAmount_24 : decode m_Mo_readsAmount.2.1 24 = .ok (.putfield 159, 3) := by decide +kernel
theorem d_Mo_readsAmount_27 : decode m_Mo_readsAmount.2.1 27 = .ok (.aload_n 0, 1) := by decide +kernel
theorem d_Mo_readsAmount_28 : decode m_Mo_readsAmount.2.1 28 = .ok (.invokevirtual 162, 3) := by decide +kernel
theorem d_Mo_readsAmount_31 : decode m_Mo_readsAmount.2.1 31 = .ok (.ifCond .eq 55, 3) := by decide +kernel
theorem d_Mo_readsAmount_34 : decode m_Mo_readsAmount.2.1 34 = .ok (.aload_n 0, 1) := by decide +kernel
theorem d_Mo_readsAmount_35 : decode m_Mo_readsAmount.2.1 35 = .ok (.getfield 142, 3) := by decide +kernel
theorem d_Mo_readsAmount_38 : decode m_Mo_readsAmount.2.1 38 = .ok (.iload_n 2, 1) := by decide +kernel
theorem d_Mo_readsAmount_39 : decode m_Mo_readsAmount.2.1 39 = .ok (.iload_n 1, 1) := by decide +kernel
theorem d_Mo_readsAmount_40 : decode m_Mo_readsAmount.2.1 40 = .ok (.iadd, 1) := by decide +kernel
theorem d_Mo_readsAmount_41 : decode m_Mo_readsAmount.2.1 41 = .ok (.if_icmp .ne 13, 3) := by decide +kernel
theorem d_Mo_readsAmount_44 : decode m_Mo_readsAmount.2.1 44 = .ok (.aload_n 0, 1) := by decide +kernel
theorem d_Mo_readsAmount_45 : decode m_Mo_readsAmount.2.1 45 = .ok (.iconst 2, 1) := by decide +kernel
theorem d_Mo_readsAmount_46 : decode m_Mo_readsAmount.2.1 46 = .ok (.aload_n 0, 1) := by decide +kernel
theorem d_Mo_readsAmount_47 : decode m_Mo_readsAmount.2.1 47 = .ok (.getfield 142, 3) := by decide +kernel
theorem d_Mo_readsAmount_50 : decode m_Mo_readsAmount.2.1 50 = .ok (.invokevirtual 155, 3) := by decide +kernel
theorem d_Mo_readsAmount_53 : decode m_Mo_readsAmount.2.1 53 = .ok (.ireturn, 1) := by decide +kernel
theorem d_Mo_readsAmount_54 : decode m_Mo_readsAmount.2.1 54 = .ok (.aload_n 0, 1) := by decide +kernel
theorem d_Mo_readsAmount_55 : decode m_Mo_readsAmount.2.1 55 = .ok (.bipush 10, 2) := by decide +kernel
theorem d_Mo_readsAmount_57 : decode m_Mo_readsAmount.2.1 57 = .ok (.aload_n 0, 1) := by decide +kernel
theorem d_Mo_readsAmount_58 : decode m_Mo_readsAmount.2.1 58 = .ok (.getfield 159, 3) := by decide +kernel
theorem d_Mo_readsAmount_61 : decode m_Mo_readsAmount.2.1 61 = .ok (.imul, 1) := by decide +kernel
theorem d_Mo_readsAmount_62 : decode m_Mo_readsAmount.2.1 62 = .ok (.aload_n 0, 1) := by decide +kernel
theorem d_Mo_readsAmount_63 : decode m_Mo_readsAmount.2.1 63 = .ok (.invokevirtual 148, 3) := by decide +kernel
theorem d_Mo_readsAmount_66 : decode m_Mo_readsAmount.2.1 66 = .ok (.iadd, 1) := by decide +kernel
theorem d_Mo_readsAmount_67 : decode m_Mo_readsAmount.2.1 67 = .ok (.bipush 48, 2) := by decide +kernel
theorem d_Mo_readsAmount_69 : decode m_Mo_readsAmount.2.1 69 = .ok (.isub, 1) := by decide +kernel
theorem d_Mo_readsAmount_70 : decode m_Mo_readsAmount.2.1 70 = .ok (.putfield 159, 3) := by decide +kernel
theorem d_Mo_readsAmount_73 : decode m_Mo_readsAmount.2.1 73 = .ok (.aload_n 0, 1) := by decide +kernel
theorem d_Mo_readsAmount_74 : decode m_Mo_readsAmount.2.1 74 = .ok (.aload_n 0, 1) := by decide +kernel
theorem d_Mo_readsAmount_75 : decode m_Mo_readsAmount.2.1 75 = .ok (.getfield 142, 3) := by decide +kernel
theorem d_Mo_readsAmount_78 : decode m_Mo_readsAmount.2.1 78 = .ok (.iconst 1, 1) := by decide +kernel
theorem d_Mo_readsAmount_79 : decode m_Mo_readsAmount.2.1 79 = .ok (.iadd, 1) := by decide +kernel
theorem d_Mo_readsAmount_80 : decode m_Mo_readsAmount.2.1 80 = .ok (.putfield 142, 3) := by decide +kernel
theorem d_Mo_readsAmount_83 : decode m_Mo_readsAmount.2.1 83 = .ok (.goto (-56), 3) := by decide +kernel
theorem d_Mo_readsAmount_86 : decode m_Mo_readsAmount.2.1 86 = .ok (.iconst 1, 1) := by decide +kernel
theorem d_Mo_readsAmount_87 : decode m_Mo_readsAmount.2.1 87 = .ok (.ireturn, 1) := by decide +kernel
def f_Mo_readsAmount_27 : Nat → St → Int32 → Int32 → Option (Int32 × St)
  | 0, _, _, _ => none
  | n + 1, S, l1, l2 =>
    (f_Mo_isDigit S).bind fun v_28 =>
    if v_28 = 0 then (
    some (1, S))
    else (
    if (S 0 8) = (l2 + l1) then (
    (f_Mo_wrongAt S (2 : Int32) (S 0 8)).bind fun w_50 =>
    if w_50.1 = 0 ∨ w_50.1 = 1 then (
    some (w_50.1, w_50.2)) else none)
    else (
    (f_Mo_here S).bind fun v_63 =>
    (some (sF S 0 11 (((10 * (S 0 11)) + v_63) - 48))).bind fun S_70 =>
    (some (sF S_70 0 8 ((S_70 0 8) + 1))).bind fun S_80 =>
    f_Mo_readsAmount_27 n S_80 l1 l2))
set_option maxHeartbeats 4000000 in
set_option maxRecDepth 20000 in
theorem t_Mo_readsAmount_27  : ∀ (n : Nat) (S : St) (l1 : Int32) (l2 : Int32) (w : Int32 × St), f_Mo_readsAmount_27 n S l1 l2 = some w → G SM m_Mo_readsAmount 3 (some w.1) w.2 27 [(0, .ref 0), (1, .int l1), (2, .int l2)] [] S := by
  intro n
  induction n with
  | zero =>
    intro S l1 l2 w h
    rw [f_Mo_readsAmount_27] at h
    cases h
  | succ n ih =>
    intro S l1 l2 w h
    rw [f_Mo_readsAmount_27] at h
    refine G_aload_n 0 rfl d_Mo_readsAmount_27 ?_
    obtain ⟨v_28, q_28, h⟩ := ob_b h
    refine G_callV [] [] (t_Mo_isDigit q_28) (by decide) (by decide) mv_Mo_isDigit rfl ml_Mo_162 km_0 sm_0 cl_12 rfl (Nat.le_of_ble_eq_true rfl) d_Mo_readsAmount_28 ?_
    refine G_if_eq 86 (by decide) d_Mo_readsAmount_31 (fun c_31 => ?_) (fun c_31 => ?_)
    · replace h := ob_t h c_31
      refine G_iconst 1 (by decide) d_Mo_readsAmount_86 ?_
      cases h
      exact G_zret (Or.inr rfl) rfl d_Mo_readsAmount_87
    · replace h := ob_f h c_31
      refine G_aload_n 0 rfl d_Mo_readsAmount_34 ?_
      refine G_getI fl_Mo_142 km_0 sm_0 rfl d_Mo_readsAmount_35 ?_
      refine G_iload_n 2 rfl d_Mo_readsAmount_38 ?_
      refine G_iload_n 1 rfl d_Mo_readsAmount_39 ?_
      refine G_iadd d_Mo_readsAmount_40 ?_
      refine G_icmp_ne 54 (by decide) d_Mo_readsAmount_41 (fun c_41 => ?_) (fun c_41 => ?_)
      · replace h := ob_f h c_41
        refine G_aload_n 0 rfl d_Mo_readsAmount_54 ?_
        refine G_bipush 10 (by decide) d_Mo_readsAmount_55 ?_
        refine G_aload_n 0 rfl d_Mo_readsAmount_57 ?_
        refine G_getI fl_Mo_159 km_0 sm_0 rfl d_Mo_readsAmount_58 ?_
        refine G_imul d_Mo_readsAmount_61 ?_
        refine G_aload_n 0 rfl d_Mo_readsAmount_62 ?_
        obtain ⟨v_63, q_63, h⟩ := ob_b h
        refine G_callV [] [.int (10 * (S 0 11)), .ref 0] (t_Mo_here q_63) (by decide) (by decide) mv_Mo_here rfl ml_Mo_148 km_0 sm_0 cl_12 rfl (Nat.le_of_ble_eq_true rfl) d_Mo_readsAmount_63 ?_
        refine G_iadd d_Mo_readsAmount_66 ?_
        refine G_bipush 48 (by decide) d_Mo_readsAmount_67 ?_
        refine G_isub d_Mo_readsAmount_69 ?_
        obtain ⟨S_70, e_70, h⟩ := ob_s h
        refine G_putI e_70 fp_Mo_159 km_0 sm_0 rfl d_Mo_readsAmount_70 ?_
        refine G_aload_n 0 rfl d_Mo_readsAmount_73 ?_
        refine G_aload_n 0 rfl d_Mo_readsAmount_74 ?_
        refine G_getI fl_Mo_142 km_0 sm_0 rfl d_Mo_readsAmount_75 ?_
        refine G_iconst 1 (by decide) d_Mo_readsAmount_78 ?_
        refine G_iadd d_Mo_readsAmount_79 ?_
        obtain ⟨S_80, e_80, h⟩ := ob_s h
        refine G_putI e_80 fp_Mo_142 km_0 sm_0 rfl d_Mo_readsAmount_80 ?_
        refine G_goto 27 (by decide) d_Mo_readsAmount_83 ?_
        exact G_sub _ [0, 1, 2] rfl (ih S_80 l1 l2 _ h)
      · replace h := ob_t h c_41
        refine G_aload_n 0 rfl d_Mo_readsAmount_44 ?_
        refine G_iconst 2 (by decide) d_Mo_readsAmount_45 ?_
        refine G_aload_n 0 rfl d_Mo_readsAmount_46 ?_
        refine G_getI fl_Mo_142 km_0 sm_0 rfl d_Mo_readsAmount_47 ?_
        obtain ⟨w_50, q_50, h⟩ := ob_b h
        refine G_callV [.int 2, .int (S 0 8)] [] (t_Mo_wrongAt q_50) (by decide) (by decide) mv_Mo_wrongAt rfl ml_Mo_155 km_0 sm_0 cl_12 rfl (Nat.le_of_ble_eq_true rfl) d_Mo_readsAmount_50 ?_
        obtain ⟨g_53, h⟩ := ob_g h
        cases h
        exact G_zret g_53 rfl d_Mo_readsAmount_53
def f_Mo_readsAmount (S : St) (l1 : Int32) : Option (Int32 × St) :=
    (some (S 0 8)).bind fun l2_4 =>
    (f_Mo_isDigit S).bind fun v_6 =>
    if v_6 = 0 then (
    (f_Mo_wrongAt S (1 : Int32) (S 0 8)).bind fun w_18 =>
    if w_18.1 = 0 ∨ w_18.1 = 1 then (
    some (w_18.1, w_18.2)) else none)
    else (
    (some (sF S 0 11 0)).bind fun S_24 =>
    f_Mo_readsAmount_27 FU S_24 l1 l2_4)
set_option maxHeartbeats 4000000 in
set_option maxRecDepth 20000 in
theorem t_Mo_readsAmount  {S : St} {l1 : Int32} {w : Int32 × St} (h : f_Mo_readsAmount S l1 = some w) : Ct SM m_Mo_readsAmount 3 [.ref 0, .int l1] S (some w.1) w.2 := by
  unfold f_Mo_readsAmount at h
  refine Ct.of pn_Mo (Nat.le_of_ble_eq_true rfl) ?_
  show G SM m_Mo_readsAmount 3 (some w.1) w.2 0 [(0, .ref 0), (1, .int l1)] [] S
  refine G_aload_n 0 rfl d_Mo_readsAmount_0 ?_
  refine G_getI fl_Mo_142 km_0 sm_0 rfl d_Mo_readsAmount_1 ?_
  obtain ⟨l2_4, e_4, h⟩ := ob_s h
  refine G_istore_n [(2, .int l2_4), (0, .ref 0), (1, .int l1)] e_4 rfl (by decide) d_Mo_readsAmount_4 ?_
  refine G_aload_n 1 rfl d_Mo_readsAmount_5 ?_
  obtain ⟨v_6, q_6, h⟩ := ob_b h
  refine G_callV [] [] (t_Mo_isDigit q_6) (by decide) (by decide) mv_Mo_isDigit rfl ml_Mo_162 km_0 sm_0 cl_12 rfl (Nat.le_of_ble_eq_true rfl) d_Mo_readsAmount_6 ?_
  refine G_if_ne 22 (by decide) d_Mo_readsAmount_9 (fun c_9 => ?_) (fun c_9 => ?_)
  · replace h := ob_f h c_9
    refine G_aload_n 1 rfl d_Mo_readsAmount_22 ?_
    refine G_iconst 0 (by decide) d_Mo_readsAmount_23 ?_
    obtain ⟨S_24, e_24, h⟩ := ob_s h
    refine G_putI e_24 fp_Mo_159 km_0 sm_0 rfl d_Mo_readsAmount_24 ?_
    exact G_sub _ [1, 2, 0] rfl (t_Mo_readsAmount_27 FU S_24 l1 l2_4 _ h)
  · replace h := ob_t h c_9
    refine G_aload_n 1 rfl d_Mo_readsAmount_12 ?_
    refine G_iconst 1 (by decide) d_Mo_readsAmount_13 ?_
    refine G_aload_n 1 rfl d_Mo_readsAmount_14 ?_
    refine G_getI fl_Mo_142 km_0 sm_0 rfl d_Mo_readsAmount_15 ?_
    obtain ⟨w_18, q_18, h⟩ := ob_b h
    refine G_callV [.int 1, .int (S 0 8)] [] (t_Mo_wrongAt q_18) (by decide) (by decide) mv_Mo_wrongAt rfl ml_Mo_155 km_0 sm_0 cl_12 rfl (Nat.le_of_ble_eq_true rfl) d_Mo_readsAmount_18 ?_
    obtain ⟨g_21, h⟩ := ob_g h
    cases h
    exact G_zret g_21 rfl d_Mo_readsAmount_21
theorem d_Mo_readsThing_0 : decode m_Mo_readsThing.2.1 0 = .ok (.aload_n 0, 1) := by decide +kernel
theorem d_Mo_readsThing_1 : decode m_Mo_readsThing.2.1 1 = .ok (.invokevirtual 148, 3) := by decide +kernel
theorem d_Mo_readsThing_4 : decode m_Mo_readsThing.2.1 4 = .ok (.bipush 97, 2) := by decide +kernel
theorem d_Mo_readsThing_6 : decode m_Mo_readsThing.2.1 6 = .ok (.isub, 1) := by decide +kernel
theorem d_Mo_readsThing_7 : decode m_Mo_readsThing.2.1 7 = .ok (.iconst 0, 1) := by decide +kernel
theorem d_Mo_readsThing_8 : decode m_Mo_readsThing.2.1 8 = .ok (.bipush 15, 2) := by decide +kernel
theorem d_Mo_readsThing_10 : decode m_Mo_readsThing.2.1 10 = .ok (.invokestatic 124, 3) := by decide +kernel
theorem d_Mo_readsThing_13 : decode m_Mo_readsThing.2.1 13 = .ok (.ifCond .ne 13, 3) := by decide +kernel
theorem d_Mo_readsThing_16 : decode m_Mo_readsThing.2.1 16 = .ok (.aload_n 0, 1) := by decide +kernel
theorem d_Mo_readsThing_17 : decode m_Mo_readsThing.2.1 17 = .ok (.iconst 1, 1) := by decide +kernel
theorem d_Mo_readsThing_18 : decode m_Mo_readsThing.2.1 18 = .ok (.aload_n 0, 1) := by decide +kernel
theorem d_Mo_readsThing_19 : decode m_Mo_readsThing.2.1 19 = .ok (.getfield 142, 3) := by decide +kernel
theorem d_Mo_readsThing_22 : decode m_Mo_readsThing.2.1 22 = .ok (.invokevirtual 155, 3) := by decide +kernel
theorem d_Mo_readsThing_25 : decode m_Mo_readsThing.2.1 25 = .ok (.ireturn, 1) := by decide +kernel
theorem d_Mo_readsThing_26 : decode m_Mo_readsThing.2.1 26 = .ok (.aload_n 0, 1) := by decide +kernel
theorem d_Mo_readsThing_27 : decode m_Mo_readsThing.2.1 27 = .ok (.getfield 247, 3) := by decide +kernel
theorem d_Mo_readsThing_30 : decode m_Mo_readsThing.2.1 30 = .ok (.bipush 24, 2) := by decide +kernel
theorem d_Mo_readsThing_32 : decode m_Mo_readsThing.2.1 32 = .ok (.if_icmp .ne 13, 3) := by decide +kernel
theorem d_Mo_readsThing_35 : decode m_Mo_readsThing.2.1 35 = .ok (.aload_n 0, 1) := by decide +kernel
theorem d_Mo_readsThing_36 : decode m_Mo_readsThing.2.1 36 = .ok (.iconst 4, 1) := by decide +kernel
theorem d_Mo_readsThing_37 : decode m_Mo_readsThing.2.1 37 = .ok (.aload_n 0, 1) := by decide +kernel
theorem d_Mo_readsThing_38 : decode m_Mo_readsThing.2.1 38 = .ok (.getfield 142, 3) := by decide +kernel
theorem d_Mo_readsThing_41 : decode m_Mo_readsThing.2.1 41 = .ok (.invokevirtual 155, 3) := by decide +kernel
theorem d_Mo_readsThing_44 : decode m_Mo_readsThing.2.1 44 = .ok (.ireturn, 1) := by decide +kernel
theorem d_Mo_readsThing_45 : decode m_Mo_readsThing.2.1 45 = .ok (.aload_n 0, 1) := by decide +kernel
theorem d_Mo_readsThing_46 : decode m_Mo_readsThing.2.1 46 = .ok (.getfield 68, 3) := by decide +kernel
theorem d_Mo_readsThing_49 : decode m_Mo_readsThing.2.1 49 = .ok (.aload_n 0, 1) := by decide +kernel
theorem d_Mo_readsThing_50 : decode m_Mo_readsThing.2.1 50 = .ok (.getfield 247, 3) := by decide +kernel
theorem d_Mo_readsThing_53 : decode m_Mo_readsThing.2.1 53 = .ok (.aload_n 0, 1) := by decide +kernel
theorem d_Mo_readsThing_54 : decode m_Mo_readsThing.2.1 54 = .ok (.invokevirtual 148, 3) := by decide +kernel
theorem d_Mo_readsThing_57 : decode m_Mo_readsThing.2.1 57 = .ok (.bipush 97, 2) := by decide +kernel
theorem d_Mo_readsThing_59 : decode m_Mo_readsThing.2.1 59 = .ok (.isub, 1) := by decide +kernel
theorem d_Mo_readsThing_60 : decode m_Mo_readsThing.2.1 60 = .ok (.iastore, 1) := by decide +kernel
theorem d_Mo_readsThing_61 : decode m_Mo_readsThing.2.1 61 = .ok (.aload_n 0, 1) := by decide +kernel
theorem d_Mo_readsThing_62 : decode m_Mo_readsThing.2.1 62 = .ok (.aload_n 0, 1) := by decide +kernel
theorem d_Mo_readsThing_63 : decode m_Mo_readsThing.2.1 63 = .ok (.getfield 142, 3) := by decide +kernel
theorem d_Mo_readsThing_66 : decode m_Mo_readsThing.2.1 66 = .ok (.iconst 1, 1) := by decide +kernel
theorem d_Mo_readsThing_67 : decode m_Mo_readsThing.2.1 67 = .ok (.iadd, 1) := by decide +kernel
theorem d_Mo_readsThing_68 : decode m_Mo_readsThing.2.1 68 = .ok (.putfield 142, 3) := by decide +kernel
theorem d_Mo_readsThing_71 : decode m_Mo_readsThing.2.1 71 = .ok (.aload_n 0, 1) := by decide +kernel
theorem d_Mo_readsThing_72 : decode m_Mo_readsThing.2.1 72 = .ok (.iconst 3, 1) := by decide +kernel
theorem d_Mo_readsThing_73 : decode m_Mo_readsThing.2.1 73 = .ok (.invokevirtual 250, 3) := by decide +kernel
theorem d_Mo_readsThing_76 : decode m_Mo_readsThing.2.1 76 = .ok (.ifCond .ne 5, 3) := by decide +kernel
theorem d_Mo_readsThing_79 : decode m_Mo_readsThing.2.1 79 = .ok (.iconst 0, 1) := by decide +kernel
theorem d_Mo_readsThing_80 : decode m_Mo_readsThing.2.1 80 = .ok (.ireturn, 1) := by decide +kernel
theorem d_Mo_readsThing_81 : decode m_Mo_readsThing.2.1 81 = .ok (.aload_n 0, 1) := by decide +kernel
theorem d_Mo_readsThing_82 : decode m_Mo_readsThing.2.1 82 = .ok (.getfield 71, 3) := by decide +kernel
theorem d_Mo_readsThing_85 : decode m_Mo_readsThing.2.1 85 = .ok (.aload_n 0, 1) := by decide +kernel
theorem d_Mo_readsThing_86 : decode m_Mo_readsThing.2.1 86 = .ok (.getfield 247, 3) := by decide +kernel
theorem d_Mo_readsThing_89 : decode m_Mo_readsThing.2.1 89 = .ok (.aload_n 0, 1) := by decide +kernel
theorem d_Mo_readsThing_90 : decode m_Mo_readsThing.2.1 90 = .ok (.getfield 159, 3) := by decide +kernel
theorem d_Mo_readsThing_93 : decode m_Mo_readsThing.2.1 93 = .ok (.iastore, 1) := by decide +kernel
theorem d_Mo_readsThing_94 : decode m_Mo_readsThing.2.1 94 = .ok (.aload_n 0, 1) := by decide +kernel
theorem d_Mo_readsThing_95 : decode m_Mo_readsThing.2.1 95 = .ok (.getfield 74, 3) := by decide +kernel
theorem d_Mo_readsThing_98 : decode m_Mo_readsThing.2.1 98 = .ok (.aload_n 0, 1) := by decide +kernel
theorem d_Mo_readsThing_99 : decode m_Mo_readsThing.2.1 99 = .ok (.getfield 247, 3) := by decide +kernel
theorem d_Mo_readsThing_102 : decode m_Mo_readsThing.2.1 102 = .ok (.iconst 0, 1) := by decide +kernel
theorem d_Mo_readsThing_103 : decode m_Mo_readsThing.2.1 103 = .ok (.iastore, 1) := by decide +kernel
theorem d_Mo_readsThing_104 : decode m_Mo_readsThing.2.1 104 = .ok (.aload_n 0, 1) := by decide +kernel
theorem d_Mo_readsThing_105 : decode m_Mo_readsThing.2.1 105 = .ok (.getfield 77, 3) := by decide +kernel
theorem d_Mo_readsThing_108 : decode m_Mo_readsThing.2.1 108 = .ok (.aload_n 0, 1) := by decide +kernel
theorem d_Mo_readsThing_109 : decode m_Mo_readsThing.2.1 109 = .ok (.getfield 247, 3) := by decide +kernel
theorem d_Mo_readsThing_112 : decode m_Mo_readsThing.2.1 112 = .ok (.iconst (-1), 1) := by decide +kernel
theorem d_Mo_readsThing_113 : decode m_Mo_readsThing.2.1 113 = .ok (.iastore, 1) := by decide +kernel
theorem d_Mo_readsThing_114 : decode m_Mo_readsThing.2.1 114 = .ok (.aload_n 0, 1) := by decide +kernel
theorem d_Mo_readsThing_115 : decode m_Mo_readsThing.2.1 115 = .ok (.invokevirtual 148, 3) := by decide +kernel
theorem d_Mo_readsThing_118 : decode m_Mo_readsThing.2.1 118 = .ok (.bipush 42, 2) := by decide +kernel
theorem d_Mo_readsThing_120 : decode m_Mo_readsThing.2.1 120 = .ok (.if_icmp .ne 39, 3) := by decide +kernel
theorem d_Mo_readsThing_123 : decode m_Mo_readsThing.2.1 123 = .ok (.aload_n 0, 1) := by decide +kernel
theorem d_Mo_readsThing_124 : decode m_Mo_readsThing.2.1 124 = .ok (.aload_n 0, 1) := by decide +kernel
theorem d_Mo_readsThing_125 : decode m_Mo_readsThing.2.1 125 = .ok (.getfield 142, 3) := by decide +kernel
theorem d_Mo_readsThing_128 : decode m_Mo_readsThing.2.1 128 = .ok (.iconst 1, 1) := by decide +kernel
theorem d_Mo_readsThing_129 : decode m_Mo_readsThing.2.1 129 = .ok (.iadd, 1) := by decide +kernel
theorem d_Mo_readsThing_130 : decode m_Mo_readsThing.2.1 130 = .ok (.putfield 142, 3) := by decide +kernel
theorem d_Mo_readsThing_133 : decode m_Mo_readsThing.2.1 133 = .ok (.aload_n 0, 1) := by decide +kernel
theorem d_Mo_readsThing_134 : decode m_Mo_readsThing.2.1 134 = .ok (.getfield 74, 3) := by decide +kernel
theorem d_Mo_readsThing_137 : decode m_Mo_readsThing.2.1 137 = .ok (.aload_n 0, 1) := by decide +kernel
theorem d_Mo_readsThing_138 : decode m_Mo_readsThing.2.1 138 = .ok (.getfield 247, 3) := by decide +kernel
theorem d_Mo_readsThing_141 : decode m_Mo_readsThing.2.1 141 = .ok (.aload_n 0, 1) := by decide +kernel
theorem d_Mo_readsThing_142 : decode m_Mo_readsThing.2.1 142 = .ok (.getfield 71, 3) := by decide +kernel
theorem d_Mo_readsThing_145 : decode m_Mo_readsThing.2.1 145 = .ok (.aload_n 0, 1) := by decide +kernel
theorem d_Mo_readsThing_146 : decode m_Mo_readsThing.2.1 146 = .ok (.getfield 247, 3) := by decide +kernel
theorem d_Mo_readsThing_149 : decode m_Mo_readsThing.2.1 149 = .ok (.iaload, 1) := by decide +kernel
theorem d_Mo_readsThing_150 : decode m_Mo_readsThing.2.1 150 = .ok (.ifCond .le 7, 3) := by decide +kernel
theorem d_Mo_readsThing_153 : decode m_Mo_readsThing.2.1 153 = .ok (.iconst 1, 1) := by decide +kernel
theorem d_Mo_readsThing_154 : decode m_Mo_readsThing.2.1 154 = .ok (.goto 4, 3) := by decide +kernel
theorem d_Mo_readsThing_157 : decode m_Mo_readsThing.2.1 157 = .ok (.iconst 0, 1) := by decide +kernel
theorem d_Mo_readsThing_158 : decode m_Mo_readsThing.2.1 158 = .ok (.iastore, 1) := by decide +kernel
theorem d_Mo_readsThing_159 : decode m_Mo_readsThing.2.1 159 = .ok (.aload_n 0, 1) := by decide +kernel
theorem d_Mo_readsThing_160 : decode m_Mo_readsThing.2.1 160 = .ok (.invokevirtual 148, 3) := by decide +kernel
theorem d_Mo_readsThing_163 : decode m_Mo_readsThing.2.1 163 = .ok (.bipush 60, 2) := by decide +kernel
theorem d_Mo_readsThing_165 : decode m_Mo_readsThing.2.1 165 = .ok (.if_icmp .ne 59, 3) := by decide +kernel
theorem d_Mo_readsThing_168 : decode m_Mo_readsThing.2.1 168 = .ok (.aload_n 0, 1) := by decide +kernel
theorem d_Mo_readsThing_169 : decode m_Mo_readsThing.2.1 169 = .ok (.aload_n 0, 1) := by decide +kernel
theorem d_Mo_readsThing_170 : decode m_Mo_readsThing.2.1 170 = .ok (.getfield 142, 3) := by decide +kernel
theorem d_Mo_readsThing_173 : decode m_Mo_readsThing.2.1 173 = .ok (.iconst 1, 1) := by decide +kernel
theorem d_Mo_readsThing_174 : decode m_Mo_readsThing.2.1 174 = .ok (.iadd, 1) := by decide +kernel
theorem d_Mo_readsThing_175 : decode m_Mo_readsThing.2.1 175 = .ok (.putfield 142, 3) := by decide +kernel
theorem d_Mo_readsThing_178 : decode m_Mo_readsThing.2.1 178 = .ok (.aload_n 0, 1) := by decide +kernel
theorem d_Mo_readsThing_179 : decode m_Mo_readsThing.2.1 179 = .ok (.getfield 142, 3) := by decide +kernel
theorem d_Mo_readsThing_182 : decode m_Mo_readsThing.2.1 182 = .ok (.istore_n 1, 1) := by decide +kernel
theorem d_Mo_readsThing_183 : decode m_Mo_readsThing.2.1 183 = .ok (.aload_n 0, 1) := by decide +kernel
theorem d_Mo_readsThing_184 : decode m_Mo_readsThing.2.1 184 = .ok (.iconst 2, 1) := by decide +kernel
theorem d_Mo_readsThing_185 : decode m_Mo_readsThing.2.1 185 = .ok (.invokevirtual 250, 3) := by decide +kernel
theorem d_Mo_readsThing_188 : decode m_Mo_readsThing.2.1 188 = .ok (.ifCond .ne 5, 3) := by decide +kernel
theorem d_Mo_readsThing_191 : decode m_Mo_readsThing.2.1 191 = .ok (.iconst 0, 1) := by decide +kernel
theorem d_Mo_readsThing_192 : decode m_Mo_readsThing.2.1 192 = .ok (.ireturn, 1) := by decide +kernel
theorem d_Mo_readsThing_193 : decode m_Mo_readsThing.2.1 193 = .ok (.aload_n 0, 1) := by decide +kernel
theorem d_Mo_readsThing_194 : decode m_Mo_readsThing.2.1 194 = .ok (.getfield 159, 3) := by decide +kernel
theorem d_Mo_readsThing_197 : decode m_Mo_readsThing.2.1 197 = .ok (.aload_n 0, 1) := by decide +kernel
theorem d_Mo_readsThing_198 : decode m_Mo_readsThing.2.1 198 = .ok (.getfield 247, 3) := by decide +kernel
theorem d_Mo_readsThing_201 : decode m_Mo_readsThing.2.1 201 = .ok (.if_icmp .lt 10, 3) := by decide +kernel
theorem d_Mo_readsThing_204 : decode m_Mo_readsThing.2.1 204 = .ok (.aload_n 0, 1) := by decide +kernel
theorem d_Mo_readsThing_205 : decode m_Mo_readsThing.2.1 205 = .ok (.iconst 3, 1) := by decide +kernel
theorem d_Mo_readsThing_206 : decode m_Mo_readsThing.2.1 206 = .ok (.iload_n 1, 1) := by decide +kernel
theorem d_Mo_readsThing_207 : decode m_Mo_readsThing.2.1 207 = .ok (.invokevirtual 155, 3) := by decide +kernel
theorem d_Mo_readsThing_210 : decode m_Mo_readsThing.2.1 210 = .ok (.ireturn, 1) := by decide +kernel
theorem d_Mo_readsThing_211 : decode m_Mo_readsThing.2.1 211 = .ok (.aload_n 0, 1) := by decide +kernel
theorem d_Mo_readsThing_212 : decode m_Mo_readsThing.2.1 212 = .ok (.getfield 77, 3) := by decide +kernel
theorem d_Mo_readsThing_215 : decode m_Mo_readsThing.2.1 215 = .ok (.aload_n 0, 1) := by decide +kernel
theorem d_Mo_readsThing_216 : decode m_Mo_readsThing.2.1 216 = .ok (.getfield 247, 3) := by decide +kernel
theorem d_Mo_readsThing_219 : decode m_Mo_readsThing.2.1 219 = .ok (.aload_n 0, 1) := by decide +kernel
theorem d_Mo_readsThing_220 : decode m_Mo_readsThing.2.1 220 = .ok (.getfield 159, 3) := by decide +kernel
theorem d_Mo_readsThing_223 : decode m_Mo_readsThing.2.1 223 = .ok (.iastore, 1) := by decide +kernel
theorem d_Mo_readsThing_224 : decode m_Mo_readsThing.2.1 224 = .ok (.aload_n 0, 1) := by decide +kernel
theorem d_Mo_readsThing_225 : decode m_Mo_readsThing.2.1 225 = .ok (.aload_n 0, 1) := by decide +kernel
theorem d_Mo_readsThing_226 : decode m_Mo_readsThing.2.1 226 = .ok (.getfield 247, 3) := by decide +kernel
theorem d_Mo_readsThing_229 : decode m_Mo_readsThing.2.1 229 = .ok (.iconst 1, 1) := by decide +kernel
theorem d_Mo_readsThing_230 : decode m_Mo_readsThing.2.1 230 = .ok (.iadd, 1) := by decide +kernel
theorem d_Mo_readsThing_231 : decode m_Mo_readsThing.2.1 231 = .ok (.putfield 247, 3) := by decide +kernel
theorem d_Mo_readsThing_234 : decode m_Mo_readsThing.2.1 234 = .ok (.iconst 1, 1) := by decide +kernel
theorem d_Mo_readsThing_235 : decode m_Mo_readsThing.2.1 235 = .ok (.ireturn, 1) := by decide +kernel
def f_Mo_readsThing_224 (S : St) : Option (Int32 × St) :=
    (some (sF S 0 34 ((S 0 34) + 1))).bind fun S_231 =>
    some (1, S_231)
set_option maxHeartbeats 4000000 in
set_option maxRecDepth 20000 in
theorem t_Mo_readsThing_224  (S : St) (w : Int32 × St) (h : f_Mo_readsThing_224 S = some w) : G SM m_Mo_readsThing 4 (some w.1) w.2 224 [(0, .ref 0)] [] S := by
  unfold f_Mo_readsThing_224 at h
  refine G_aload_n 0 rfl d_Mo_readsThing_224 ?_
  refine G_aload_n 0 rfl d_Mo_readsThing_225 ?_
  refine G_getI fl_Mo_247 km_0 sm_0 rfl d_Mo_readsThing_226 ?_
  refine G_iconst 1 (by decide) d_Mo_readsThing_229 ?_
  refine G_iadd d_Mo_readsThing_230 ?_
  obtain ⟨S_231, e_231, h⟩ := ob_s h
  refine G_putI e_231 fp_Mo_247 km_0 sm_0 rfl d_Mo_readsThing_231 ?_
  refine G_iconst 1 (by decide) d_Mo_readsThing_234 ?_
  cases h
  exact G_zret (Or.inr rfl) rfl d_Mo_readsThing_235
def f_Mo_readsThing_159 (S : St) : Option (Int32 × St) :=
    (f_Mo_here S).bind fun v_160 =>
    if v_160 = 60 then (
    (some (sF S 0 8 ((S 0 8) + 1))).bind fun S_175 =>
    (some (S_175 0 8)).bind fun l1_182 =>
    (f_Mo_readsAmount S_175 (2 : Int32)).bind fun w_185 =>
    if w_185.1 = 0 then (
    some (0, w_185.2))
    else (
    if (w_185.2 0 11) < (w_185.2 0 34) then (
    if ig (w_185.2 0 34) 24 then (
    (some (sF w_185.2 23 (w_185.2 0 34).toNatClampNeg (w_185.2 0 11))).bind fun S_223 =>
    f_Mo_readsThing_224 S_223) else none)
    else (
    (f_Mo_wrongAt w_185.2 (3 : Int32) l1_182).bind fun w_207 =>
    if w_207.1 = 0 ∨ w_207.1 = 1 then (
    some (w_207.1, w_207.2)) else none)))
    else (
    f_Mo_readsThing_224 S)
set_option maxHeartbeats 4000000 in
set_option maxRecDepth 20000 in
theorem t_Mo_readsThing_159  (S : St) (w : Int32 × St) (h : f_Mo_readsThing_159 S = some w) : G SM m_Mo_readsThing 4 (some w.1) w.2 159 [(0, .ref 0)] [] S := by
  unfold f_Mo_readsThing_159 at h
  refine G_aload_n 0 rfl d_Mo_readsThing_159 ?_
  obtain ⟨v_160, q_160, h⟩ := ob_b h
  refine G_callV [] [] (t_Mo_here q_160) (by decide) (by decide) mv_Mo_here rfl ml_Mo_148 km_0 sm_0 cl_12 rfl (Nat.le_of_ble_eq_true rfl) d_Mo_readsThing_160 ?_
  refine G_bipush 60 (by decide) d_Mo_readsThing_163 ?_
  refine G_icmp_ne 224 (by decide) d_Mo_readsThing_165 (fun c_165 => ?_) (fun c_165 => ?_)
  · replace h := ob_f h c_165
    exact G_sub _ [0] rfl (t_Mo_readsThing_224 S _ h)
  · replace h := ob_t h c_165
    refine G_aload_n 0 rfl d_Mo_readsThing_168 ?_
    refine G_aload_n 0 rfl d_Mo_readsThing_169 ?_
    refine G_getI fl_Mo_142 km_0 sm_0 rfl d_Mo_readsThing_170 ?_
    refine G_iconst 1 (by decide) d_Mo_readsThing_173 ?_
    refine G_iadd d_Mo_readsThing_174 ?_
    obtain ⟨S_175, e_175, h⟩ := ob_s h
    refine G_putI e_175 fp_Mo_142 km_0 sm_0 rfl d_Mo_readsThing_175 ?_
    refine G_aload_n 0 rfl d_Mo_readsThing_178 ?_
    refine G_getI fl_Mo_142 km_0 sm_0 rfl d_Mo_readsThing_179 ?_
    obtain ⟨l1_182, e_182, h⟩ := ob_s h
    refine G_istore_n [(1, .int l1_182), (0, .ref 0)] e_182 rfl (by decide) d_Mo_readsThing_182 ?_
    refine G_aload_n 1 rfl d_Mo_readsThing_183 ?_
    refine G_iconst 2 (by decide) d_Mo_readsThing_184 ?_
    obtain ⟨w_185, q_185, h⟩ := ob_b h
    refine G_callV [.int 2] [] (t_Mo_readsAmount q_185) (by decide) (by decide) mv_Mo_readsAmount rfl ml_Mo_250 km_0 sm_0 cl_12 rfl (Nat.le_of_ble_eq_true rfl) d_Mo_readsThing_185 ?_
    refine G_if_ne 193 (by decide) d_Mo_readsThing_188 (fun c_188 => ?_) (fun c_188 => ?_)
    · replace h := ob_f h c_188
      refine G_aload_n 1 rfl d_Mo_readsThing_193 ?_
      refine G_getI fl_Mo_159 km_0 sm_0 rfl d_Mo_readsThing_194 ?_
      refine G_aload_n 1 rfl d_Mo_readsThing_197 ?_
      refine G_getI fl_Mo_247 km_0 sm_0 rfl d_Mo_readsThing_198 ?_
      refine G_icmp_lt 211 (by decide) d_Mo_readsThing_201 (fun c_201 => ?_) (fun c_201 => ?_)
      · replace h := ob_t h c_201
        refine G_aload_n 1 rfl d_Mo_readsThing_211 ?_
        refine G_getR fl_Mo_77 km_0 sm_0 rfl (by decide) d_Mo_readsThing_212 ?_
        refine G_aload_n 1 rfl d_Mo_readsThing_215 ?_
        refine G_getI fl_Mo_247 km_0 sm_0 rfl d_Mo_readsThing_216 ?_
        refine G_aload_n 1 rfl d_Mo_readsThing_219 ?_
        refine G_getI fl_Mo_159 km_0 sm_0 rfl d_Mo_readsThing_220 ?_
        obtain ⟨g_223, h⟩ := ob_g h
        obtain ⟨S_223, e_223, h⟩ := ob_s h
        refine G_iastore e_223 km_23 sm_23 g_223 d_Mo_readsThing_223 ?_
        exact G_sub _ [1] rfl (t_Mo_readsThing_224 S_223 _ h)
      · replace h := ob_f h c_201
        refine G_aload_n 1 rfl d_Mo_readsThing_204 ?_
        refine G_iconst 3 (by decide) d_Mo_readsThing_205 ?_
        refine G_iload_n 0 rfl d_Mo_readsThing_206 ?_
        obtain ⟨w_207, q_207, h⟩ := ob_b h
        refine G_callV [.int 3, .int l1_182] [] (t_Mo_wrongAt q_207) (by decide) (by decide) mv_Mo_wrongAt rfl ml_Mo_155 km_0 sm_0 cl_12 rfl (Nat.le_of_ble_eq_true rfl) d_Mo_readsThing_207 ?_
        obtain ⟨g_210, h⟩ := ob_g h
        cases h
        exact G_zret g_210 rfl d_Mo_readsThing_210
    · replace h := ob_t h c_188
      refine G_iconst 0 (by decide) d_Mo_readsThing_191 ?_
      cases h
      exact G_zret (Or.inl rfl) rfl d_Mo_readsThing_192
def f_Mo_readsThing_158 (S : St) (s0 : Int32) (s1 : Int32) : Option (Int32 × St) :=
    if ig s1 24 then (
    (some (sF S 22 s1.toNatClampNeg s0)).bind fun S_158 =>
    f_Mo_readsThing_159 S_158) else none
set_option maxHeartbeats 4000000 in
set_option maxRecDepth 20000 in
theorem t_Mo_readsThing_158  (S : St) (s0 : Int32) (s1 : Int32) (w : Int32 × St) (h : f_Mo_readsThing_158 S s0 s1 = some w) : G SM m_Mo_readsThing 4 (some w.1) w.2 158 [(0, .ref 0)] [.int s0, .int s1, .ref 22] S := by
  unfold f_Mo_readsThing_158 at h
  obtain ⟨g_158, h⟩ := ob_g h
  obtain ⟨S_158, e_158, h⟩ := ob_s h
  refine G_iastore e_158 km_22 sm_22 g_158 d_Mo_readsThing_158 ?_
  exact G_sub _ [0] rfl (t_Mo_readsThing_159 S_158 _ h)
def f_Mo_readsThing (S : St) : Option (Int32 × St) :=
    (f_Mo_here S).bind fun v_1 =>
    (f_Mo_in S (v_1 - 97) (0 : Int32) (15 : Int32)).bind fun v_10 =>
    if v_10 = 0 then (
    (f_Mo_wrongAt S (1 : Int32) (S 0 8)).bind fun w_22 =>
    if w_22.1 = 0 ∨ w_22.1 = 1 then (
    some (w_22.1, w_22.2)) else none)
    else (
    if (S 0 34) = 24 then (
    (f_Mo_wrongAt S (4 : Int32) (S 0 8)).bind fun w_41 =>
    if w_41.1 = 0 ∨ w_41.1 = 1 then (
    some (w_41.1, w_41.2)) else none)
    else (
    (f_Mo_here S).bind fun v_54 =>
    if ig (S 0 34) 24 then (
    (some (sF S 20 (S 0 34).toNatClampNeg (v_54 - 97))).bind fun S_60 =>
    (some (sF S_60 0 8 ((S_60 0 8) + 1))).bind fun S_68 =>
    (f_Mo_readsAmount S_68 (3 : Int32)).bind fun w_73 =>
    if w_73.1 = 0 then (
    some (0, w_73.2))
    else (
    if ig (w_73.2 0 34) 24 then (
    (some (sF w_73.2 21 (w_73.2 0 34).toNatClampNeg (w_73.2 0 11))).bind fun S_93 =>
    if ig (S_93 0 34) 24 then (
    (some (sF S_93 22 (S_93 0 34).toNatClampNeg 0)).bind fun S_103 =>
    if ig (S_103 0 34) 24 then (
    (some (sF S_103 23 (S_103 0 34).toNatClampNeg (-1))).bind fun S_113 =>
    (f_Mo_here S_113).bind fun v_115 =>
    if v_115 = 42 then (
    (some (sF S_113 0 8 ((S_113 0 8) + 1))).bind fun S_130 =>
    if ig (S_130 0 34) 24 then (
    if (S_130 21 (S_130 0 34).toNatClampNeg) ≤ 0 then (
    f_Mo_readsThing_158 S_130 (0 : Int32) (S_130 0 34))
    else (
    f_Mo_readsThing_158 S_130 (1 : Int32) (S_130 0 34))) else none)
    else (
    f_Mo_readsThing_159 S_113)) else none) else none) else none)) else none))
set_option maxHeartbeats 4000000 in
set_option maxRecDepth 20000 in
theorem t_Mo_readsThing  {S : St} {w : Int32 × St} (h : f_Mo_readsThing S = some w) : Ct SM m_Mo_readsThing 4 [.ref 0] S (some w.1) w.2 := by
  unfold f_Mo_readsThing at h
  refine Ct.of pn_Mo (Nat.le_of_ble_eq_true rfl) ?_
  show G SM m_Mo_readsThing 4 (some w.1) w.2 0 [(0, .ref 0)] [] S
  refine G_aload_n 0 rfl d_Mo_readsThing_0 ?_
  obtain ⟨v_1, q_1, h⟩ := ob_b h
  refine G_callV [] [] (t_Mo_here q_1) (by decide) (by decide) mv_Mo_here rfl ml_Mo_148 km_0 sm_0 cl_12 rfl (Nat.le_of_ble_eq_true rfl) d_Mo_readsThing_1 ?_
  refine G_bipush 97 (by decide) d_Mo_readsThing_4 ?_
  refine G_isub d_Mo_readsThing_6 ?_
  refine G_iconst 0 (by decide) d_Mo_readsThing_7 ?_
  refine G_bipush 15 (by decide) d_Mo_readsThing_8 ?_
  obtain ⟨v_10, q_10, h⟩ := ob_b h
  refine G_callS [.int (v_1 - 97), .int 0, .int 15] [] (t_Mo_in q_10) (by decide) (by decide) mt_Mo_in rfl ml_Mo_124 rfl (Nat.le_of_ble_eq_true rfl) d_Mo_readsThing_10 ?_
  refine G_if_ne 26 (by decide) d_Mo_readsThing_13 (fun c_13 => ?_) (fun c_13 => ?_)
  · replace h := ob_f h c_13
    refine G_aload_n 0 rfl d_Mo_readsThing_26 ?_
    refine G_getI fl_Mo_247 km_0 sm_0 rfl d_Mo_readsThing_27 ?_
    refine G_bipush 24 (by decide) d_Mo_readsThing_30 ?_
    refine G_icmp_ne 45 (by decide) d_Mo_readsThing_32 (fun c_32 => ?_) (fun c_32 => ?_)
    · replace h := ob_f h c_32
      refine G_aload_n 0 rfl d_Mo_readsThing_45 ?_
      refine G_getR fl_Mo_68 km_0 sm_0 rfl (by decide) d_Mo_readsThing_46 ?_
      refine G_aload_n 0 rfl d_Mo_readsThing_49 ?_
      refine G_getI fl_Mo_247 km_0 sm_0 rfl d_Mo_readsThing_50 ?_
      refine G_aload_n 0 rfl d_Mo_readsThing_53 ?_
      obtain ⟨v_54, q_54, h⟩ := ob_b h
      refine G_callV [] [.int (S 0 34), .ref 20] (t_Mo_here q_54) (by decide) (by decide) mv_Mo_here rfl ml_Mo_148 km_0 sm_0 cl_12 rfl (Nat.le_of_ble_eq_true rfl) d_Mo_readsThing_54 ?_
      refine G_bipush 97 (by decide) d_Mo_readsThing_57 ?_
      refine G_isub d_Mo_readsThing_59 ?_
      obtain ⟨g_60, h⟩ := ob_g h
      obtain ⟨S_60, e_60, h⟩ := ob_s h
      refine G_iastore e_60 km_20 sm_20 g_60 d_Mo_readsThing_60 ?_
      refine G_aload_n 0 rfl d_Mo_readsThing_61 ?_
      refine G_aload_n 0 rfl d_Mo_readsThing_62 ?_
      refine G_getI fl_Mo_142 km_0 sm_0 rfl d_Mo_readsThing_63 ?_
      refine G_iconst 1 (by decide) d_Mo_readsThing_66 ?_
      refine G_iadd d_Mo_readsThing_67 ?_
      obtain ⟨S_68, e_68, h⟩ := ob_s h
      refine G_putI e_68 fp_Mo_142 km_0 sm_0 rfl d_Mo_readsThing_68 ?_
      refine G_aload_n 0 rfl d_Mo_readsThing_71 ?_
      refine G_iconst 3 (by decide) d_Mo_readsThing_72 ?_
      obtain ⟨w_73, q_73, h⟩ := ob_b h
      refine G_callV [.int 3] [] (t_Mo_readsAmount q_73) (by decide) (by decide) mv_Mo_readsAmount rfl ml_Mo_250 km_0 sm_0 cl_12 rfl (Nat.le_of_ble_eq_true rfl) d_Mo_readsThing_73 ?_
      refine G_if_ne 81 (by decide) d_Mo_readsThing_76 (fun c_76 => ?_) (fun c_76 => ?_)
      · replace h := ob_f h c_76
        refine G_aload_n 0 rfl d_Mo_readsThing_81 ?_
        refine G_getR fl_Mo_71 km_0 sm_0 rfl (by decide) d_Mo_readsThing_82 ?_
        refine G_aload_n 0 rfl d_Mo_readsThing_85 ?_
        refine G_getI fl_Mo_247 km_0 sm_0 rfl d_Mo_readsThing_86 ?_
        refine G_aload_n 0 rfl d_Mo_readsThing_89 ?_
        refine G_getI fl_Mo_159 km_0 sm_0 rfl d_Mo_readsThing_90 ?_
        obtain ⟨g_93, h⟩ := ob_g h
        obtain ⟨S_93, e_93, h⟩ := ob_s h
        refine G_iastore e_93 km_21 sm_21 g_93 d_Mo_readsThing_93 ?_
        refine G_aload_n 0 rfl d_Mo_readsThing_94 ?_
        refine G_getR fl_Mo_74 km_0 sm_0 rfl (by decide) d_Mo_readsThing_95 ?_
        refine G_aload_n 0 rfl d_Mo_readsThing_98 ?_
        refine G_getI fl_Mo_247 km_0 sm_0 rfl d_Mo_readsThing_99 ?_
        refine G_iconst 0 (by decide) d_Mo_readsThing_102 ?_
        obtain ⟨g_103, h⟩ := ob_g h
        obtain ⟨S_103, e_103, h⟩ := ob_s h
        refine G_iastore e_103 km_22 sm_22 g_103 d_Mo_readsThing_103 ?_
        refine G_aload_n 0 rfl d_Mo_readsThing_104 ?_
        refine G_getR fl_Mo_77 km_0 sm_0 rfl (by decide) d_Mo_readsThing_105 ?_
        refine G_aload_n 0 rfl d_Mo_readsThing_108 ?_
        refine G_getI fl_Mo_247 km_0 sm_0 rfl d_Mo_readsThing_109 ?_
        refine G_iconst (-1) (by decide) d_Mo_readsThing_112 ?_
        obtain ⟨g_113, h⟩ := ob_g h
        obtain ⟨S_113, e_113, h⟩ := ob_s h
        refine G_iastore e_113 km_23 sm_23 g_113 d_Mo_readsThing_113 ?_
        refine G_aload_n 0 rfl d_Mo_readsThing_114 ?_
        obtain ⟨v_115, q_115, h⟩ := ob_b h
        refine G_callV [] [] (t_Mo_here q_115) (by decide) (by decide) mv_Mo_here rfl ml_Mo_148 km_0 sm_0 cl_12 rfl (Nat.le_of_ble_eq_true rfl) d_Mo_readsThing_115 ?_
        refine G_bipush 42 (by decide) d_Mo_readsThing_118 ?_
        refine G_icmp_ne 159 (by decide) d_Mo_readsThing_120 (fun c_120 => ?_) (fun c_120 => ?_)
        · replace h := ob_f h c_120
          exact G_sub _ [0] rfl (t_Mo_readsThing_159 S_113 _ h)
        · replace h := ob_t h c_120
          refine G_aload_n 0 rfl d_Mo_readsThing_123 ?_
          refine G_aload_n 0 rfl d_Mo_readsThing_124 ?_
          refine G_getI fl_Mo_142 km_0 sm_0 rfl d_Mo_readsThing_125 ?_
          refine G_iconst 1 (by decide) d_Mo_readsThing_128 ?_
          refine G_iadd d_Mo_readsThing_129 ?_
          obtain ⟨S_130, e_130, h⟩ := ob_s h
          refine G_putI e_130 fp_Mo_142 km_0 sm_0 rfl d_Mo_readsThing_130 ?_
          refine G_aload_n 0 rfl d_Mo_readsThing_133 ?_
          refine G_getR fl_Mo_74 km_0 sm_0 rfl (by decide) d_Mo_readsThing_134 ?_
          refine G_aload_n 0 rfl d_Mo_readsThing_137 ?_
          refine G_getI fl_Mo_247 km_0 sm_0 rfl d_Mo_readsThing_138 ?_
          refine G_aload_n 0 rfl d_Mo_readsThing_141 ?_
          refine G_getR fl_Mo_71 km_0 sm_0 rfl (by decide) d_Mo_readsThing_142 ?_
          refine G_aload_n 0 rfl d_Mo_readsThing_145 ?_
          refine G_getI fl_Mo_247 km_0 sm_0 rfl d_Mo_readsThing_146 ?_
          obtain ⟨g_149, h⟩ := ob_g h
          refine G_iaload km_21 sm_21 g_149 d_Mo_readsThing_149 ?_
          refine G_if_le 157 (by decide) d_Mo_readsThing_150 (fun c_150 => ?_) (fun c_150 => ?_)
          · replace h := ob_t h c_150
            refine G_iconst 0 (by decide) d_Mo_readsThing_157 ?_
            exact G_sub _ [0] rfl (t_Mo_readsThing_158 S_130 (0 : Int32) (S_130 0 34) _ h)
          · replace h := ob_f h c_150
            refine G_iconst 1 (by decide) d_Mo_readsThing_153 ?_
            refine G_goto 158 (by decide) d_Mo_readsThing_154 ?_
            exact G_sub _ [0] rfl (t_Mo_readsThing_158 S_130 (1 : Int32) (S_130 0 34) _ h)
      · replace h := ob_t h c_76
        refine G_iconst 0 (by decide) d_Mo_readsThing_79 ?_
        cases h
        exact G_zret (Or.inl rfl) rfl d_Mo_readsThing_80
    · replace h := ob_t h c_32
      refine G_aload_n 0 rfl d_Mo_readsThing_35 ?_
      refine G_iconst 4 (by decide) d_Mo_readsThing_36 ?_
      refine G_aload_n 0 rfl d_Mo_readsThing_37 ?_
      refine G_getI fl_Mo_142 km_0 sm_0 rfl d_Mo_readsThing_38 ?_
      obtain ⟨w_41, q_41, h⟩ := ob_b h
      refine G_callV [.int 4, .int (S 0 8)] [] (t_Mo_wrongAt q_41) (by decide) (by decide) mv_Mo_wrongAt rfl ml_Mo_155 km_0 sm_0 cl_12 rfl (Nat.le_of_ble_eq_true rfl) d_Mo_readsThing_41 ?_
      obtain ⟨g_44, h⟩ := ob_g h
      cases h
      exact G_zret g_44 rfl d_Mo_readsThing_44
  · replace h := ob_t h c_13
    refine G_aload_n 0 rfl d_Mo_readsThing_16 ?_
    refine G_iconst 1 (by decide) d_Mo_readsThing_17 ?_
    refine G_aload_n 0 rfl d_Mo_readsThing_18 ?_
    refine G_getI fl_Mo_142 km_0 sm_0 rfl d_Mo_readsThing_19 ?_
    obtain ⟨w_22, q_22, h⟩ := ob_b h
    refine G_callV [.int 1, .int (S 0 8)] [] (t_Mo_wrongAt q_22) (by decide) (by decide) mv_Mo_wrongAt rfl ml_Mo_155 km_0 sm_0 cl_12 rfl (Nat.le_of_ble_eq_true rfl) d_Mo_readsThing_22 ?_
    obtain ⟨g_25, h⟩ := ob_g h
    cases h
    exact G_zret g_25 rfl d_Mo_readsThing_25
theorem d_Mo_parish_0 : decode m_Mo_parish.2.1 0 = .ok (.iload_n 1, 1) := by decide +kernel
theorem d_Mo_parish_1 : decode m_Mo_parish.2.1 1 = .ok (.iconst 1, 1) := by decide +kernel
theorem d_Mo_parish_2 : decode m_Mo_parish.2.1 2 = .ok (.sipush 200, 3) := by decide +kernel
theorem d_Mo_parish_5 : decode m_Mo_parish.2.1 5 = .ok (.invokestatic 124, 3) := by decide +kernel
theorem d_Mo_parish_8 : decode m_Mo_parish.2.1 8 = .ok (.ifCond .eq 11, 3) := by decide +kernel
theorem d_Mo_parish_11 : decode m_Mo_parish.2.1 11 = .ok (.iload_n 1, 1) := by decide +kernel
theorem d_Mo_parish_12 : decode m_Mo_parish.2.1 12 = .ok (.aload_n 0, 1) := by decide +kernel
theorem d_Mo_parish_13 : decode m_Mo_parish.2.1 13 = .ok (.getfield 135, 3) := by decide +kernel
theorem d_Mo_parish_16 : decode m_Mo_parish.2.1 16 = .ok (.if_icmp .le 5, 3) := by decide +kernel
theorem d_Mo_parish_19 : decode m_Mo_parish.2.1 19 = .ok (.iconst (-1), 1) := by decide +kernel
theorem d_Mo_parish_20 : decode m_Mo_parish.2.1 20 = .ok (.ireturn, 1) := by decide +kernel
theorem d_Mo_parish_21 : decode m_Mo_parish.2.1 21 = .ok (.aload_n 0, 1) := by decide +kernel
theorem d_Mo_parish_22 : decode m_Mo_parish.2.1 22 = .ok (.iload_n 1, 1) := by decide +kernel
theorem d_Mo_parish_23 : decode m_Mo_parish.2.1 23 = .ok (.invokevirtual 227, 3) := by decide +kernel
theorem d_Mo_parish_26 : decode m_Mo_parish.2.1 26 = .ok (.aload_n 0, 1) := by decide +kernel
theorem d_Mo_parish_27 : decode m_Mo_parish.2.1 27 = .ok (.iconst 0, 1) := by decide +kernel
theorem d_Mo_parish_28 : decode m_Mo_parish.2.1 28 = .ok (.putfield 247, 3) := by decide +kernel
theorem d_Mo_parish_31 : decode m_Mo_parish.2.1 31 = .ok (.aload_n 0, 1) := by decide +kernel
theorem d_Mo_parish_32 : decode m_Mo_parish.2.1 32 = .ok (.invokevirtual 253, 3) := by decide +kernel
theorem d_Mo_parish_35 : decode m_Mo_parish.2.1 35 = .ok (.istore_n 2, 1) := by decide +kernel
theorem d_Mo_parish_36 : decode m_Mo_parish.2.1 36 = .ok (.iload_n 2, 1) := by decide +kernel
theorem d_Mo_parish_37 : decode m_Mo_parish.2.1 37 = .ok (.ifCond .eq 39, 3) := by decide +kernel
theorem d_Mo_parish_40 : decode m_Mo_parish.2.1 40 = .ok (.aload_n 0, 1) := by decide +kernel
theorem d_Mo_parish_41 : decode m_Mo_parish.2.1 41 = .ok (.getfield 142, 3) := by decide +kernel
theorem d_Mo_parish_44 : decode m_Mo_parish.2.1 44 = .ok (.aload_n 0, 1) := by decide +kernel
theorem d_Mo_parish_45 : decode m_Mo_parish.2.1 45 = .ok (.getfield 145, 3) := by decide +kernel
theorem d_Mo_parish_48 : decode m_Mo_parish.2.1 48 = .ok (.if_icmp .ge 28, 3) := by decide +kernel
theorem d_Mo_parish_51 : decode m_Mo_parish.2.1 51 = .ok (.aload_n 0, 1) := by decide +kernel
theorem d_Mo_parish_52 : decode m_Mo_parish.2.1 52 = .ok (.bipush 59, 2) := by decide +kernel
theorem d_Mo_parish_54 : decode m_Mo_parish.2.1 54 = .ok (.invokevirtual 233, 3) := by decide +kernel
theorem d_Mo_parish_57 : decode m_Mo_parish.2.1 57 = .ok (.ifCond .eq 14, 3) := by decide +kernel
theorem d_Mo_parish_60 : decode m_Mo_parish.2.1 60 = .ok (.aload_n 0, 1) := by decide +kernel
theorem d_Mo_parish_61 : decode m_Mo_parish.2.1 61 = .ok (.invokevirtual 253, 3) := by decide +kernel
theorem d_Mo_parish_64 : decode m_Mo_parish.2.1 64 = .ok (.ifCond .eq 7, 3) := by decide +kernel
theorem d_Mo_parish_67 : decode m_Mo_parish.2.1 67 = .ok (.iconst 1, 1) := by decide +kernel
theorem d_Mo_parish_68 : decode m_Mo_parish.2.1 68 = .ok (.goto 4, 3) := by decide +kernel
theorem d_Mo_parish_71 : decode m_Mo_parish.2.1 71 = .ok (.iconst 0, 1) := by decide +kernel
theorem d_Mo_parish_72 : decode m_Mo_parish.2.1 72 = .ok (.istore_n 2, 1) := by decide +kernel
theorem d_Mo_parish_73 : decode m_Mo_parish.2.1 73 = .ok (.goto (-37), 3) := by decide +kernel
theorem d_Mo_parish_76 : decode m_Mo_parish.2.1 76 = .ok (.aload_n 0, 1) := by decide +kernel
theorem d_Mo_parish_77 : decode m_Mo_parish.2.1 77 = .ok (.iconst 0, 1) := by decide +kernel
theorem d_Mo_parish_78 : decode m_Mo_parish.2.1 78 = .ok (.putfield 135, 3) := by decide +kernel
theorem d_Mo_parish_81 : decode m_Mo_parish.2.1 81 = .ok (.iload_n 2, 1) := by decide +kernel
theorem d_Mo_parish_82 : decode m_Mo_parish.2.1 82 = .ok (.ifCond .ne 8, 3) := by decide +kernel
theorem d_Mo_parish_85 : decode m_Mo_parish.2.1 85 = .ok (.aload_n 0, 1) := by decide +kernel
theorem d_Mo_parish_86 : decode m_Mo_parish.2.1 86 = .ok (.getfield 152, 3) := by decide +kernel
theorem d_Mo_parish_89 : decode m_Mo_parish.2.1 89 = .ok (.ireturn, 1) := by decide +kernel
theorem d_Mo_parish_90 : decode m_Mo_parish.2.1 90 = .ok (.aload_n 0, 1) := by decide +kernel
theorem d_Mo_parish_91 : decode m_Mo_parish.2.1 91 = .ok (.aload_n 0, 1) := by decide +kernel
theorem d_Mo_parish_92 : decode m_Mo_parish.2.1 92 = .ok (.getfield 247, 3) := by decide +kernel
theorem d_Mo_parish_95 : decode m_Mo_parish.2.1 95 = .ok (.putfield 120, 3) := by decide +kernel
theorem d_Mo_parish_98 : decode m_Mo_parish.2.1 98 = .ok (.aload_n 0, 1) := by decide +kernel
theorem d_Mo_parish_99 : decode m_Mo_parish.2.1 99 = .ok (.getfield 7, 3) := by decide +kernel
theorem d_Mo_parish_102 : decode m_Mo_parish.2.1 102 = .ok (.bipush 96, 2) := by decide +kernel
theorem d_Mo_parish_104 : decode m_Mo_parish.2.1 104 = .ok (.iconst 0, 1) := by decide +kernel
theorem d_Mo_parish_105 : decode m_Mo_parish.2.1 105 = .ok (.iastore, 1) := by decide +kernel
theorem d_Mo_parish_106 : decode m_Mo_parish.2.1 106 = .ok (.iconst 0, 1) := by decide +kernel
theorem d_Mo_parish_107 : decode m_Mo_parish.2.1 107 = .ok (.istore_n 3, 1) := by decide +kernel
theorem d_Mo_parish_108 : decode m_Mo_parish.2.1 108 = .ok (.iload_n 3, 1) := by decide +kernel
theorem d_Mo_parish_109 : decode m_Mo_parish.2.1 109 = .ok (.aload_n 0, 1) := by decide +kernel
theorem d_Mo_parish_110 : decode m_Mo_parish.2.1 110 = .ok (.getfield 120, 3) := by decide +kernel
theorem d_Mo_parish_113 : decode m_Mo_parish.2.1 113 = .ok (.if_icmp .ge 82, 3) := by decide +kernel
theorem d_Mo_parish_116 : decode m_Mo_parish.2.1 116 = .ok (.aload_n 0, 1) := by decide +kernel
theorem d_Mo_parish_117 : decode m_Mo_parish.2.1 117 = .ok (.getfield 19, 3) := by decide +kernel
theorem d_Mo_parish_120 : decode m_Mo_parish.2.1 120 = .ok (.iload_n 3, 1) := by decide +kernel
theorem d_Mo_parish_121 : decode m_Mo_parish.2.1 121 = .ok (.aload_n 0, 1) := by decide +kernel
theorem d_Mo_parish_122 : decode m_Mo_parish.2.1 122 = .ok (.getfield 68, 3) := by decide +kernel
theorem d_Mo_parish_125 : decode m_Mo_parish.2.1 125 = .ok (.iload_n 3, 1) := by decide +kernel
theorem d_Mo_parish_126 : decode m_Mo_parish.2.1 126 = .ok (.iaload, 1) := by decide +kernel
theorem d_Mo_parish_127 : decode m_Mo_parish.2.1 127 = .ok (.iastore, 1) := by decide +kernel
theorem d_Mo_parish_128 : decode m_Mo_parish.2.1 128 = .ok (.aload_n 0, 1) := by decide +kernel
theorem d_Mo_parish_129 : decode m_Mo_parish.2.1 129 = .ok (.getfield 22, 3) := by decide +kernel
theorem d_Mo_parish_132 : decode m_Mo_parish.2.1 132 = .ok (.iload_n 3, 1) := by decide +kernel
theorem d_Mo_parish_133 : decode m_Mo_parish.2.1 133 = .ok (.aload_n 0, 1) := by decide +kernel
theorem d_Mo_parish_134 : decode m_Mo_parish.2.1 134 = .ok (.getfield 77, 3) := by decide +kernel
theorem d_Mo_parish_137 : decode m_Mo_parish.2.1 137 = .ok (.iload_n 3, 1) := by decide +kernel
theorem d_Mo_parish_138 : decode m_Mo_parish.2.1 138 = .ok (.iaload, 1) := by decide +kernel
theorem d_Mo_parish_139 : decode m_Mo_parish.2.1 139 = .ok (.iastore, 1) := by decide +kernel
theorem d_Mo_parish_140 : decode m_Mo_parish.2.1 140 = .ok (.aload_n 0, 1) := by decide +kernel
theorem d_Mo_parish_141 : decode m_Mo_parish.2.1 141 = .ok (.getfield 7, 3) := by decide +kernel
theorem d_Mo_parish_144 : decode m_Mo_parish.2.1 144 = .ok (.iconst 0, 1) := by decide +kernel
theorem d_Mo_parish_145 : decode m_Mo_parish.2.1 145 = .ok (.iload_n 3, 1) := by decide +kernel
theorem d_Mo_parish_146 : decode m_Mo_parish.2.1 146 = .ok (.iadd, 1) := by decide +kernel
theorem d_Mo_parish_147 : decode m_Mo_parish.2.1 147 = .ok (.aload_n 0, 1) := by decide +kernel
theorem d_Mo_parish_148 : decode m_Mo_parish.2.1 148 = .ok (.getfield 71, 3) := by decide +kernel
theorem d_Mo_parish_151 : decode m_Mo_parish.2.1 151 = .ok (.iload_n 3, 1) := by decide +kernel
theorem d_Mo_parish_152 : decode m_Mo_parish.2.1 152 = .ok (.iaload, 1) := by decide +kernel
theorem d_Mo_parish_153 : decode m_Mo_parish.2.1 153 = .ok (.iastore, 1) := by decide +kernel
theorem d_Mo_parish_154 : decode m_Mo_parish.2.1 154 = .ok (.aload_n 0, 1) := by decide +kernel
theorem d_Mo_parish_155 : decode m_Mo_parish.2.1 155 = .ok (.getfield 7, 3) := by decide +kernel
theorem d_Mo_parish_158 : decode m_Mo_parish.2.1 158 = .ok (.bipush 24, 2) := by decide +kernel
theorem d_Mo_parish_160 : decode m_Mo_parish.2.1 160 = .ok (.iload_n 3, 1) := by decide +kernel
theorem d_Mo_parish_161 : decode m_Mo_parish.2.1 161 = .ok (.iadd, 1) := by decide +kernel
theorem d_Mo_parish_162 : decode m_Mo_parish.2.1 162 = .ok (.aload_n 0, 1) := by decide +kernel
theorem d_Mo_parish_163 : decode m_Mo_parish.2.1 163 = .ok (.getfield 74, 3) := by decide +kernel
theorem d_Mo_parish_166 : decode m_Mo_parish.2.1 166 = .ok (.iload_n 3, 1) := by decide +kernel
theorem d_Mo_parish_167 : decode m_Mo_parish.2.1 167 = .ok (.iaload, 1) := by decide +kernel
theorem d_Mo_parish_168 : decode m_Mo_parish.2.1 168 = .ok (.iastore, 1) := by decide +kernel
theorem d_Mo_parish_169 : decode m_Mo_parish.2.1 169 = .ok (.aload_n 0, 1) := by decide +kernel
theorem d_Mo_parish_170 : decode m_Mo_parish.2.1 170 = .ok (.getfield 7, 3) := by decide +kernel
theorem d_Mo_parish_173 : decode m_Mo_parish.2.1 173 = .ok (.bipush 48, 2) := by decide +kernel
theorem d_Mo_parish_175 : decode m_Mo_parish.2.1 175 = .ok (.iload_n 3, 1) := by decide +kernel
theorem d_Mo_parish_176 : decode m_Mo_parish.2.1 176 = .ok (.iadd, 1) := by decide +kernel
theorem d_Mo_parish_177 : decode m_Mo_parish.2.1 177 = .ok (.iconst 0, 1) := by decide +kernel
theorem d_Mo_parish_178 : decode m_Mo_parish.2.1 178 = .ok (.iastore, 1) := by decide +kernel
theorem d_Mo_parish_179 : decode m_Mo_parish.2.1 179 = .ok (.aload_n 0, 1) := by decide +kernel
theorem d_Mo_parish_180 : decode m_Mo_parish.2.1 180 = .ok (.getfield 7, 3) := by decide +kernel
theorem d_Mo_parish_183 : decode m_Mo_parish.2.1 183 = .ok (.bipush 72, 2) := by decide +kernel
theorem d_Mo_parish_185 : decode m_Mo_parish.2.1 185 = .ok (.iload_n 3, 1) := by decide +kernel
theorem d_Mo_parish_186 : decode m_Mo_parish.2.1 186 = .ok (.iadd, 1) := by decide +kernel
theorem d_Mo_parish_187 : decode m_Mo_parish.2.1 187 = .ok (.iconst 0, 1) := by decide +kernel
theorem d_Mo_parish_188 : decode m_Mo_parish.2.1 188 = .ok (.iastore, 1) := by decide +kernel
theorem d_Mo_parish_189 : decode m_Mo_parish.2.1 189 = .ok (.iinc 3 1, 3) := by decide +kernel
theorem d_Mo_parish_192 : decode m_Mo_parish.2.1 192 = .ok (.goto (-84), 3) := by decide +kernel
theorem d_Mo_parish_195 : decode m_Mo_parish.2.1 195 = .ok (.aload_n 0, 1) := by decide +kernel
theorem d_Mo_parish_196 : decode m_Mo_parish.2.1 196 = .ok (.getfield 120, 3) := by decide +kernel
theorem d_Mo_parish_199 : decode m_Mo_parish.2.1 199 = .ok (.ireturn, 1) := by decide +kernel
def f_Mo_parish_72 (k_36 : St → Int32 → Option (Int32 × St)) (S : St) (s0 : Int32) : Option (Int32 × St) :=
    k_36 S s0
set_option maxHeartbeats 4000000 in
set_option maxRecDepth 20000 in
theorem t_Mo_parish_72  {k_36 : St → Int32 → Option (Int32 × St)} (hk_36 : ∀ (S : St) (l2 : Int32) (w : Int32 × St), k_36 S l2 = some w → G SM m_Mo_parish 5 (some w.1) w.2 36 [(0, .ref 0), (2, .int l2)] [] S) (S : St) (s0 : Int32) (w : Int32 × St) (h : f_Mo_parish_72 k_36 S s0 = some w) : G SM m_Mo_parish 5 (some w.1) w.2 72 [(0, .ref 0)] [.int s0] S := by
  unfold f_Mo_parish_72 at h
  refine G_istore_n [(2, .int s0), (0, .ref 0)] rfl rfl (by decide) d_Mo_parish_72 ?_
  refine G_goto 36 (by decide) d_Mo_parish_73 ?_
  exact G_sub _ [1, 0] rfl (hk_36 S s0 _ h)
def f_Mo_parish_71 (k_36 : St → Int32 → Option (Int32 × St)) (S : St) : Option (Int32 × St) :=
    f_Mo_parish_72 k_36 S (0 : Int32)
set_option maxHeartbeats 4000000 in
set_option maxRecDepth 20000 in
theorem t_Mo_parish_71  {k_36 : St → Int32 → Option (Int32 × St)} (hk_36 : ∀ (S : St) (l2 : Int32) (w : Int32 × St), k_36 S l2 = some w → G SM m_Mo_parish 5 (some w.1) w.2 36 [(0, .ref 0), (2, .int l2)] [] S) (S : St) (w : Int32 × St) (h : f_Mo_parish_71 k_36 S = some w) : G SM m_Mo_parish 5 (some w.1) w.2 71 [(0, .ref 0)] [] S := by
  unfold f_Mo_parish_71 at h
  refine G_iconst 0 (by decide) d_Mo_parish_71 ?_
  exact G_sub _ [0] rfl (t_Mo_parish_72 hk_36 S (0 : Int32) _ h)
def f_Mo_parish_108 : Nat → St → Int32 → Option (Int32 × St)
  | 0, _, _ => none
  | n + 1, S, l3 =>
    if (S 0 5) ≤ l3 then (
    some ((S 0 5), S))
    else (
    if ig l3 24 then (
    if ig l3 24 then (
    (some (sF S 4 l3.toNatClampNeg (S 20 l3.toNatClampNeg))).bind fun S_127 =>
    if ig l3 24 then (
    if ig l3 24 then (
    (some (sF S_127 5 l3.toNatClampNeg (S_127 23 l3.toNatClampNeg))).bind fun S_139 =>
    if ig l3 24 then (
    if ig (0 + l3) 99 then (
    (some (sF S_139 1 (0 + l3).toNatClampNeg (S_139 21 l3.toNatClampNeg))).bind fun S_153 =>
    if ig l3 24 then (
    if ig (24 + l3) 99 then (
    (some (sF S_153 1 (24 + l3).toNatClampNeg (S_153 22 l3.toNatClampNeg))).bind fun S_168 =>
    if ig (48 + l3) 99 then (
    (some (sF S_168 1 (48 + l3).toNatClampNeg 0)).bind fun S_178 =>
    if ig (72 + l3) 99 then (
    (some (sF S_178 1 (72 + l3).toNatClampNeg 0)).bind fun S_188 =>
    (some (l3 + 1)).bind fun l3_189 =>
    f_Mo_parish_108 n S_188 l3_189) else none) else none) else none) else none) else none) else none) else none) else none) else none) else none)
set_option maxHeartbeats 4000000 in
set_option maxRecDepth 20000 in
theorem t_Mo_parish_108  : ∀ (n : Nat) (S : St) (l3 : Int32) (w : Int32 × St), f_Mo_parish_108 n S l3 = some w → G SM m_Mo_parish 5 (some w.1) w.2 108 [(0, .ref 0), (3, .int l3)] [] S := by
  intro n
  induction n with
  | zero =>
    intro S l3 w h
    rw [f_Mo_parish_108] at h
    cases h
  | succ n ih =>
    intro S l3 w h
    rw [f_Mo_parish_108] at h
    refine G_iload_n 1 rfl d_Mo_parish_108 ?_
    refine G_aload_n 0 rfl d_Mo_parish_109 ?_
    refine G_getI fl_Mo_120 km_0 sm_0 rfl d_Mo_parish_110 ?_
    refine G_icmp_ge 195 (by decide) d_Mo_parish_113 (fun c_113 => ?_) (fun c_113 => ?_)
    · replace h := ob_t h c_113
      refine G_aload_n 0 rfl d_Mo_parish_195 ?_
      refine G_getI fl_Mo_120 km_0 sm_0 rfl d_Mo_parish_196 ?_
      cases h
      exact G_iret rfl d_Mo_parish_199
    · replace h := ob_f h c_113
      refine G_aload_n 0 rfl d_Mo_parish_116 ?_
      refine G_getR fl_Mo_19 km_0 sm_0 rfl (by decide) d_Mo_parish_117 ?_
      refine G_iload_n 1 rfl d_Mo_parish_120 ?_
      refine G_aload_n 0 rfl d_Mo_parish_121 ?_
      refine G_getR fl_Mo_68 km_0 sm_0 rfl (by decide) d_Mo_parish_122 ?_
      refine G_iload_n 1 rfl d_Mo_parish_125 ?_
      obtain ⟨g_126, h⟩ := ob_g h
      refine G_iaload km_20 sm_20 g_126 d_Mo_parish_126 ?_
      obtain ⟨g_127, h⟩ := ob_g h
      obtain ⟨S_127, e_127, h⟩ := ob_s h
      refine G_iastore e_127 km_4 sm_4 g_127 d_Mo_parish_127 ?_
      refine G_aload_n 0 rfl d_Mo_parish_128 ?_
      refine G_getR fl_Mo_22 km_0 sm_0 rfl (by decide) d_Mo_parish_129 ?_
      refine G_iload_n 1 rfl d_Mo_parish_132 ?_
      refine G_aload_n 0 rfl d_Mo_parish_133 ?_
      refine G_getR fl_Mo_77 km_0 sm_0 rfl (by decide) d_Mo_parish_134 ?_
      refine G_iload_n 1 rfl d_Mo_parish_137 ?_
      obtain ⟨g_138, h⟩ := ob_g h
      refine G_iaload km_23 sm_23 g_138 d_Mo_parish_138 ?_
      obtain ⟨g_139, h⟩ := ob_g h
      obtain ⟨S_139, e_139, h⟩ := ob_s h
      refine G_iastore e_139 km_5 sm_5 g_139 d_Mo_parish_139 ?_
      refine G_aload_n 0 rfl d_Mo_parish_140 ?_
      refine G_getR fl_Mo_7 km_0 sm_0 rfl (by decide) d_Mo_parish_141 ?_
      refine G_iconst 0 (by decide) d_Mo_parish_144 ?_
      refine G_iload_n 1 rfl d_Mo_parish_145 ?_
      refine G_iadd d_Mo_parish_146 ?_
      refine G_aload_n 0 rfl d_Mo_parish_147 ?_
      refine G_getR fl_Mo_71 km_0 sm_0 rfl (by decide) d_Mo_parish_148 ?_
      refine G_iload_n 1 rfl d_Mo_parish_151 ?_
      obtain ⟨g_152, h⟩ := ob_g h
      refine G_iaload km_21 sm_21 g_152 d_Mo_parish_152 ?_
      obtain ⟨g_153, h⟩ := ob_g h
      obtain ⟨S_153, e_153, h⟩ := ob_s h
      refine G_iastore e_153 km_1 sm_1 g_153 d_Mo_parish_153 ?_
      refine G_aload_n 0 rfl d_Mo_parish_154 ?_
      refine G_getR fl_Mo_7 km_0 sm_0 rfl (by decide) d_Mo_parish_155 ?_
      refine G_bipush 24 (by decide) d_Mo_parish_158 ?_
      refine G_iload_n 1 rfl d_Mo_parish_160 ?_
      refine G_iadd d_Mo_parish_161 ?_
      refine G_aload_n 0 rfl d_Mo_parish_162 ?_
      refine G_getR fl_Mo_74 km_0 sm_0 rfl (by decide) d_Mo_parish_163 ?_
      refine G_iload_n 1 rfl d_Mo_parish_166 ?_
      obtain ⟨g_167, h⟩ := ob_g h
      refine G_iaload km_22 sm_22 g_167 d_Mo_parish_167 ?_
      obtain ⟨g_168, h⟩ := ob_g h
      obtain ⟨S_168, e_168, h⟩ := ob_s h
      refine G_iastore e_168 km_1 sm_1 g_168 d_Mo_parish_168 ?_
      refine G_aload_n 0 rfl d_Mo_parish_169 ?_
      refine G_getR fl_Mo_7 km_0 sm_0 rfl (by decide) d_Mo_parish_170 ?_
      refine G_bipush 48 (by decide) d_Mo_parish_173 ?_
      refine G_iload_n 1 rfl d_Mo_parish_175 ?_
      refine G_iadd d_Mo_parish_176 ?_
      refine G_iconst 0 (by decide) d_Mo_parish_177 ?_
      obtain ⟨g_178, h⟩ := ob_g h
      obtain ⟨S_178, e_178, h⟩ := ob_s h
      refine G_iastore e_178 km_1 sm_1 g_178 d_Mo_parish_178 ?_
      refine G_aload_n 0 rfl d_Mo_parish_179 ?_
      refine G_getR fl_Mo_7 km_0 sm_0 rfl (by decide) d_Mo_parish_180 ?_
      refine G_bipush 72 (by decide) d_Mo_parish_183 ?_
      refine G_iload_n 1 rfl d_Mo_parish_185 ?_
      refine G_iadd d_Mo_parish_186 ?_
      refine G_iconst 0 (by decide) d_Mo_parish_187 ?_
      obtain ⟨g_188, h⟩ := ob_g h
      obtain ⟨S_188, e_188, h⟩ := ob_s h
      refine G_iastore e_188 km_1 sm_1 g_188 d_Mo_parish_188 ?_
      obtain ⟨l3_189, e_189, h⟩ := ob_s h
      refine G_iinc 1 1 [(3, .int l3_189), (0, .ref 0)] (by decide) rfl e_189 rfl (by decide) d_Mo_parish_189 ?_
      refine G_goto 108 (by decide) d_Mo_parish_192 ?_
      exact G_sub _ [1, 0] rfl (ih S_188 l3_189 _ h)
def f_Mo_parish_76 (S : St) (l2 : Int32) : Option (Int32 × St) :=
    (some (sF S 0 7 0)).bind fun S_78 =>
    if l2 = 0 then (
    some ((S_78 0 10), S_78))
    else (
    (some (sF S_78 0 5 (S_78 0 34))).bind fun S_95 =>
    if ig (96 : Int32) 99 then (
    (some (sF S_95 1 (96 : Int32).toNatClampNeg 0)).bind fun S_105 =>
    (some (0 : Int32)).bind fun l3_107 =>
    f_Mo_parish_108 FU S_105 l3_107) else none)
set_option maxHeartbeats 4000000 in
set_option maxRecDepth 20000 in
theorem t_Mo_parish_76  (S : St) (l2 : Int32) (w : Int32 × St) (h : f_Mo_parish_76 S l2 = some w) : G SM m_Mo_parish 5 (some w.1) w.2 76 [(0, .ref 0), (2, .int l2)] [] S := by
  unfold f_Mo_parish_76 at h
  refine G_aload_n 0 rfl d_Mo_parish_76 ?_
  refine G_iconst 0 (by decide) d_Mo_parish_77 ?_
  obtain ⟨S_78, e_78, h⟩ := ob_s h
  refine G_putI e_78 fp_Mo_135 km_0 sm_0 rfl d_Mo_parish_78 ?_
  refine G_iload_n 1 rfl d_Mo_parish_81 ?_
  refine G_if_ne 90 (by decide) d_Mo_parish_82 (fun c_82 => ?_) (fun c_82 => ?_)
  · replace h := ob_f h c_82
    refine G_aload_n 0 rfl d_Mo_parish_90 ?_
    refine G_aload_n 0 rfl d_Mo_parish_91 ?_
    refine G_getI fl_Mo_247 km_0 sm_0 rfl d_Mo_parish_92 ?_
    obtain ⟨S_95, e_95, h⟩ := ob_s h
    refine G_putI e_95 fp_Mo_120 km_0 sm_0 rfl d_Mo_parish_95 ?_
    refine G_aload_n 0 rfl d_Mo_parish_98 ?_
    refine G_getR fl_Mo_7 km_0 sm_0 rfl (by decide) d_Mo_parish_99 ?_
    refine G_bipush 96 (by decide) d_Mo_parish_102 ?_
    refine G_iconst 0 (by decide) d_Mo_parish_104 ?_
    obtain ⟨g_105, h⟩ := ob_g h
    obtain ⟨S_105, e_105, h⟩ := ob_s h
    refine G_iastore e_105 km_1 sm_1 g_105 d_Mo_parish_105 ?_
    refine G_iconst 0 (by decide) d_Mo_parish_106 ?_
    obtain ⟨l3_107, e_107, h⟩ := ob_s h
    refine G_istore_n [(3, .int l3_107), (0, .ref 0), (2, .int l2)] e_107 rfl (by decide) d_Mo_parish_107 ?_
    exact G_sub _ [1, 0] rfl (t_Mo_parish_108 FU S_105 l3_107 _ h)
  · replace h := ob_t h c_82
    refine G_aload_n 0 rfl d_Mo_parish_85 ?_
    refine G_getI fl_Mo_152 km_0 sm_0 rfl d_Mo_parish_86 ?_
    cases h
    exact G_iret rfl d_Mo_parish_89
def f_Mo_parish_36 : Nat → St → Int32 → Option (Int32 × St)
  | 0, _, _ => none
  | n + 1, S, l2 =>
    if l2 = 0 then (
    f_Mo_parish_76 S l2)
    else (
    if (S 0 9) ≤ (S 0 8) then (
    f_Mo_parish_76 S l2)
    else (
    (f_Mo_takes S (59 : Int32)).bind fun w_54 =>
    if w_54.1 = 0 then (
    f_Mo_parish_71 (f_Mo_parish_36 n) w_54.2)
    else (
    (f_Mo_readsThing w_54.2).bind fun w_61 =>
    if w_61.1 = 0 then (
    f_Mo_parish_71 (f_Mo_parish_36 n) w_61.2)
    else (
    f_Mo_parish_72 (f_Mo_parish_36 n) w_61.2 (1 : Int32)))))
set_option maxHeartbeats 4000000 in
set_option maxRecDepth 20000 in
theorem t_Mo_parish_36  : ∀ (n : Nat) (S : St) (l2 : Int32) (w : Int32 × St), f_Mo_parish_36 n S l2 = some w → G SM m_Mo_parish 5 (some w.1) w.2 36 [(0, .ref 0), (2, .int l2)] [] S := by
  intro n
  induction n with
  | zero =>
    intro S l2 w h
    rw [f_Mo_parish_36] at h
    cases h
  | succ n ih =>
    intro S l2 w h
    rw [f_Mo_parish_36] at h
    refine G_iload_n 1 rfl d_Mo_parish_36 ?_
    refine G_if_eq 76 (by decide) d_Mo_parish_37 (fun c_37 => ?_) (fun c_37 => ?_)
    · replace h := ob_t h c_37
      exact G_sub _ [0, 1] rfl (t_Mo_parish_76 S l2 _ h)
    · replace h := ob_f h c_37
      refine G_aload_n 0 rfl d_Mo_parish_40 ?_
      refine G_getI fl_Mo_142 km_0 sm_0 rfl d_Mo_parish_41 ?_
      refine G_aload_n 0 rfl d_Mo_parish_44 ?_
      refine G_getI fl_Mo_145 km_0 sm_0 rfl d_Mo_parish_45 ?_
      refine G_icmp_ge 76 (by decide) d_Mo_parish_48 (fun c_48 => ?_) (fun c_48 => ?_)
      · replace h := ob_t h c_48
        exact G_sub _ [0, 1] rfl (t_Mo_parish_76 S l2 _ h)
      · replace h := ob_f h c_48
        refine G_aload_n 0 rfl d_Mo_parish_51 ?_
        refine G_bipush 59 (by decide) d_Mo_parish_52 ?_
        obtain ⟨w_54, q_54, h⟩ := ob_b h
        refine G_callV [.int 59] [] (t_Mo_takes q_54) (by decide) (by decide) mv_Mo_takes rfl ml_Mo_233 km_0 sm_0 cl_12 rfl (Nat.le_of_ble_eq_true rfl) d_Mo_parish_54 ?_
        refine G_if_eq 71 (by decide) d_Mo_parish_57 (fun c_57 => ?_) (fun c_57 => ?_)
        · replace h := ob_t h c_57
          exact G_sub _ [0] rfl (t_Mo_parish_71 ih w_54.2 _ h)
        · replace h := ob_f h c_57
          refine G_aload_n 0 rfl d_Mo_parish_60 ?_
          obtain ⟨w_61, q_61, h⟩ := ob_b h
          refine G_callV [] [] (t_Mo_readsThing q_61) (by decide) (by decide) mv_Mo_readsThing rfl ml_Mo_253 km_0 sm_0 cl_12 rfl (Nat.le_of_ble_eq_true rfl) d_Mo_parish_61 ?_
          refine G_if_eq 71 (by decide) d_Mo_parish_64 (fun c_64 => ?_) (fun c_64 => ?_)
          · replace h := ob_t h c_64
            exact G_sub _ [0] rfl (t_Mo_parish_71 ih w_61.2 _ h)
          · replace h := ob_f h c_64
            refine G_iconst 1 (by decide) d_Mo_parish_67 ?_
            refine G_goto 72 (by decide) d_Mo_parish_68 ?_
            exact G_sub _ [0] rfl (t_Mo_parish_72 ih w_61.2 (1 : Int32) _ h)
def f_Mo_parish (S : St) (l1 : Int32) : Option (Int32 × St) :=
    (f_Mo_in S l1 (1 : Int32) (200 : Int32)).bind fun v_5 =>
    if v_5 = 0 then (
    some ((-1), S))
    else (
    if l1 ≤ (S 0 7) then (
    (f_Mo_beginsText S l1).bind fun w_23 =>
    (some (sF w_23 0 34 0)).bind fun S_28 =>
    (f_Mo_readsThing S_28).bind fun w_32 =>
    (some w_32.1).bind fun l2_35 =>
    f_Mo_parish_36 FU w_32.2 l2_35)
    else (
    some ((-1), S)))
set_option maxHeartbeats 4000000 in
set_option maxRecDepth 20000 in
theorem t_Mo_parish  {S : St} {l1 : Int32} {w : Int32 × St} (h : f_Mo_parish S l1 = some w) : Ct SM m_Mo_parish 5 [.ref 0, .int l1] S (some w.1) w.2 := by
  unfold f_Mo_parish at h
  refine Ct.of pn_Mo (Nat.le_of_ble_eq_true rfl) ?_
  show G SM m_Mo_parish 5 (some w.1) w.2 0 [(0, .ref 0), (1, .int l1)] [] S
  refine G_iload_n 1 rfl d_Mo_parish_0 ?_
  refine G_iconst 1 (by decide) d_Mo_parish_1 ?_
  refine G_sipush 200 (by decide) d_Mo_parish_2 ?_
  obtain ⟨v_5, q_5, h⟩ := ob_b h
  refine G_callS [.int l1, .int 1, .int 200] [] (t_Mo_in q_5) (by decide) (by decide) mt_Mo_in rfl ml_Mo_124 rfl (Nat.le_of_ble_eq_true rfl) d_Mo_parish_5 ?_
  refine G_if_eq 19 (by decide) d_Mo_parish_8 (fun c_8 => ?_) (fun c_8 => ?_)
  · replace h := ob_t h c_8
    refine G_iconst (-1) (by decide) d_Mo_parish_19 ?_
    cases h
    exact G_iret rfl d_Mo_parish_20
  · replace h := ob_f h c_8
    refine G_iload_n 1 rfl d_Mo_parish_11 ?_
    refine G_aload_n 0 rfl d_Mo_parish_12 ?_
    refine G_getI fl_Mo_135 km_0 sm_0 rfl d_Mo_parish_13 ?_
    refine G_icmp_le 21 (by decide) d_Mo_parish_16 (fun c_16 => ?_) (fun c_16 => ?_)
    · replace h := ob_t h c_16
      refine G_aload_n 0 rfl d_Mo_parish_21 ?_
      refine G_iload_n 1 rfl d_Mo_parish_22 ?_
      obtain ⟨w_23, q_23, h⟩ := ob_b h
      refine G_callV [.int l1] [] (t_Mo_beginsText q_23) (by decide) (by decide) mv_Mo_beginsText rfl ml_Mo_227 km_0 sm_0 cl_12 rfl (Nat.le_of_ble_eq_true rfl) d_Mo_parish_23 ?_
      refine G_aload_n 0 rfl d_Mo_parish_26 ?_
      refine G_iconst 0 (by decide) d_Mo_parish_27 ?_
      obtain ⟨S_28, e_28, h⟩ := ob_s h
      refine G_putI e_28 fp_Mo_247 km_0 sm_0 rfl d_Mo_parish_28 ?_
      refine G_aload_n 0 rfl d_Mo_parish_31 ?_
      obtain ⟨w_32, q_32, h⟩ := ob_b h
      refine G_callV [] [] (t_Mo_readsThing q_32) (by decide) (by decide) mv_Mo_readsThing rfl ml_Mo_253 km_0 sm_0 cl_12 rfl (Nat.le_of_ble_eq_true rfl) d_Mo_parish_32 ?_
      obtain ⟨l2_35, e_35, h⟩ := ob_s h
      refine G_istore_n [(2, .int l2_35), (0, .ref 0), (1, .int l1)] e_35 rfl (by decide) d_Mo_parish_35 ?_
      exact G_sub _ [1, 0] rfl (t_Mo_parish_36 FU w_32.2 l2_35 _ h)
    · replace h := ob_f h c_16
      refine G_iconst (-1) (by decide) d_Mo_parish_19 ?_
      cases h
      exact G_iret rfl d_Mo_parish_20
theorem d_Mo_draws_0 : decode m_Mo_draws.2.1 0 = .ok (.aload_n 0, 1) := by decide +kernel
theorem d_Mo_draws_1 : decode m_Mo_draws.2.1 1 = .ok (.getfield 7, 3) := by decide +kernel
theorem d_Mo_draws_4 : decode m_Mo_draws.2.1 4 = .ok (.bipush 98, 2) := by decide +kernel
theorem d_Mo_draws_6 : decode m_Mo_draws.2.1 6 = .ok (.sipush 25173, 3) := by decide +kernel
theorem d_Mo_draws_9 : decode m_Mo_draws.2.1 9 = .ok (.aload_n 0, 1) := by decide +kernel
theorem d_Mo_draws_10 : decode m_Mo_draws.2.1 10 = .ok (.getfield 7, 3) := by decide +kernel
theorem d_Mo_draws_13 : decode m_Mo_draws.2.1 13 = .ok (.bipush 98, 2) := by decide +kernel
theorem d_Mo_draws_15 : decode m_Mo_draws.2.1 15 = .ok (.iaload, 1) := by decide +kernel
theorem d_Mo_draws_16 : decode m_Mo_draws.2.1 16 = .ok (.imul, 1) := by decide +kernel
theorem d_Mo_draws_17 : decode m_Mo_draws.2.1 17 = .ok (.sipush 13849, 3) := by decide +kernel
theorem d_Mo_draws_20 : decode m_Mo_draws.2.1 20 = .ok (.iadd, 1) := by decide +kernel
theorem d_Mo_draws_21 : decode m_Mo_draws.2.1 21 = .ok (.ldc 110, 2) := by decide +kernel
theorem d_Mo_draws_23 : decode m_Mo_draws.2.1 23 = .ok (.irem, 1) := by decide +kernel
theorem d_Mo_draws_24 : decode m_Mo_draws.2.1 24 = .ok (.iastore, 1) := by decide +kernel
theorem d_Mo_draws_25 : decode m_Mo_draws.2.1 25 = .ok (.aload_n 0, 1) := by decide +kernel
theorem d_Mo_draws_26 : decode m_Mo_draws.2.1 26 = .ok (.getfield 7, 3) := by decide +kernel
theorem d_Mo_draws_29 : decode m_Mo_draws.2.1 29 = .ok (.bipush 98, 2) := by decide +kernel
theorem d_Mo_draws_31 : decode m_Mo_draws.2.1 31 = .ok (.iaload, 1) := by decide +kernel
theorem d_Mo_draws_32 : decode m_Mo_draws.2.1 32 = .ok (.bipush 10, 2) := by decide +kernel
theorem d_Mo_draws_34 : decode m_Mo_draws.2.1 34 = .ok (.irem, 1) := by decide +kernel
theorem d_Mo_draws_35 : decode m_Mo_draws.2.1 35 = .ok (.ireturn, 1) := by decide +kernel
def f_Mo_draws (S : St) : Option (Int32 × St) :=
    if ig (98 : Int32) 99 then (
    if ig (98 : Int32) 99 then (
    (some (sF S 1 (98 : Int32).toNatClampNeg (jrem ((25173 * (S 1 (98 : Int32).toNatClampNeg)) + 13849) 65536))).bind fun S_24 =>
    if ig (98 : Int32) 99 then (
    some ((jrem (S_24 1 (98 : Int32).toNatClampNeg) 10), S_24)) else none) else none) else none
set_option maxHeartbeats 4000000 in
set_option maxRecDepth 20000 in
theorem t_Mo_draws  {S : St} {w : Int32 × St} (h : f_Mo_draws S = some w) : Ct SM m_Mo_draws 1 [.ref 0] S (some w.1) w.2 := by
  unfold f_Mo_draws at h
  refine Ct.of pn_Mo (Nat.le_of_ble_eq_true rfl) ?_
  show G SM m_Mo_draws 1 (some w.1) w.2 0 [(0, .ref 0)] [] S
  refine G_aload_n 0 rfl d_Mo_draws_0 ?_
  refine G_getR fl_Mo_7 km_0 sm_0 rfl (by decide) d_Mo_draws_1 ?_
  refine G_bipush 98 (by decide) d_Mo_draws_4 ?_
  refine G_sipush 25173 (by decide) d_Mo_draws_6 ?_
  refine G_aload_n 0 rfl d_Mo_draws_9 ?_
  refine G_getR fl_Mo_7 km_0 sm_0 rfl (by decide) d_Mo_draws_10 ?_
  refine G_bipush 98 (by decide) d_Mo_draws_13 ?_
  obtain ⟨g_15, h⟩ := ob_g h
  refine G_iaload km_1 sm_1 g_15 d_Mo_draws_15 ?_
  refine G_imul d_Mo_draws_16 ?_
  refine G_sipush 13849 (by decide) d_Mo_draws_17 ?_
  refine G_iadd d_Mo_draws_20 ?_
  refine G_ldc c_Mo_110 d_Mo_draws_21 ?_
  refine G_irem (by decide) d_Mo_draws_23 ?_
  obtain ⟨g_24, h⟩ := ob_g h
  obtain ⟨S_24, e_24, h⟩ := ob_s h
  refine G_iastore e_24 km_1 sm_1 g_24 d_Mo_draws_24 ?_
  refine G_aload_n 0 rfl d_Mo_draws_25 ?_
  refine G_getR fl_Mo_7 km_0 sm_0 rfl (by decide) d_Mo_draws_26 ?_
  refine G_bipush 98 (by decide) d_Mo_draws_29 ?_
  obtain ⟨g_31, h⟩ := ob_g h
  refine G_iaload km_1 sm_1 g_31 d_Mo_draws_31 ?_
  refine G_bipush 10 (by decide) d_Mo_draws_32 ?_
  refine G_irem (by decide) d_Mo_draws_34 ?_
  cases h
  exact G_iret rfl d_Mo_draws_35
theorem d_Mo_leftOf_0 : decode m_Mo_leftOf.2.1 0 = .ok (.iconst 0, 1) := by decide +kernel
theorem d_Mo_leftOf_1 : decode m_Mo_leftOf.2.1 1 = .ok (.istore_n 2, 1) := by decide +kernel
theorem d_Mo_leftOf_2 : decode m_Mo_leftOf.2.1 2 = .ok (.iconst 0, 1) := by decide +kernel
theorem d_Mo_leftOf_3 : decode m_Mo_leftOf.2.1 3 = .ok (.istore_n 3, 1) := by decide +kernel
theorem d_Mo_leftOf_4 : decode m_Mo_leftOf.2.1 4 = .ok (.iload_n 3, 1) := by decide +kernel
theorem d_Mo_leftOf_5 : decode m_Mo_leftOf.2.1 5 = .ok (.aload_n 0, 1) := by decide +kernel
theorem d_Mo_leftOf_6 : decode m_Mo_leftOf.2.1 6 = .ok (.getfield 120, 3) := by decide +kernel
theorem d_Mo_leftOf_9 : decode m_Mo_leftOf.2.1 9 = .ok (.if_icmp .ge 31, 3) := by decide +kernel
theorem d_Mo_leftOf_12 : decode m_Mo_leftOf.2.1 12 = .ok (.aload_n 0, 1) := by decide +kernel
theorem d_Mo_leftOf_13 : decode m_Mo_leftOf.2.1 13 = .ok (.iload_n 3, 1) := by decide +kernel
theorem d_Mo_leftOf_14 : decode m_Mo_leftOf.2.1 14 = .ok (.invokevirtual 132, 3) := by decide +kernel
theorem d_Mo_leftOf_17 : decode m_Mo_leftOf.2.1 17 = .ok (.ifCond .eq 17, 3) := by decide +kernel
theorem d_Mo_leftOf_20 : decode m_Mo_leftOf.2.1 20 = .ok (.aload_n 0, 1) := by decide +kernel
theorem d_Mo_leftOf_21 : decode m_Mo_leftOf.2.1 21 = .ok (.getfield 19, 3) := by decide +kernel
theorem d_Mo_leftOf_24 : decode m_Mo_leftOf.2.1 24 = .ok (.iload_n 3, 1) := by decide +kernel
theorem d_Mo_leftOf_25 : decode m_Mo_leftOf.2.1 25 = .ok (.iaload, 1) := by decide +kernel
theorem d_Mo_leftOf_26 : decode m_Mo_leftOf.2.1 26 = .ok (.iload_n 1, 1) := by decide +kernel
theorem d_Mo_leftOf_27 : decode m_Mo_leftOf.2.1 27 = .ok (.if_icmp .ne 7, 3) := by decide +kernel
theorem d_Mo_leftOf_30 : decode m_Mo_leftOf.2.1 30 = .ok (.iload_n 2, 1) := by decide +kernel
theorem d_Mo_leftOf_31 : decode m_Mo_leftOf.2.1 31 = .ok (.iconst 1, 1) := by decide +kernel
theorem d_Mo_leftOf_32 : decode m_Mo_leftOf.2.1 32 = .ok (.iadd, 1) := by decide +kernel
theorem d_Mo_leftOf_33 : decode m_Mo_leftOf.2.1 33 = .ok (.istore_n 2, 1) := by decide +kernel
theorem d_Mo_leftOf_34 : decode m_Mo_leftOf.2.1 34 = .ok (.iinc 3 1, 3) := by decide +kernel
theorem d_Mo_leftOf_37 : decode m_Mo_leftOf.2.1 37 = .ok (.goto (-33), 3) := by decide +kernel
theorem d_Mo_leftOf_40 : decode m_Mo_leftOf.2.1 40 = .ok (.iload_n 2, 1) := by decide +kernel
theorem d_Mo_leftOf_41 : decode m_Mo_leftOf.2.1 41 = .ok (.ireturn, 1) := by decide +kernel
def f_Mo_leftOf_34 (k_4 : St → Int32 → Int32 → Int32 → Option (Int32)) (S : St) (l1 : Int32) (l2 : Int32) (l3 : Int32) : Option (Int32) :=
    (some (l3 + 1)).bind fun l3_34 =>
    k_4 S l1 l2 l3_34
set_option maxHeartbeats 4000000 in
set_option maxRecDepth 20000 in
theorem t_Mo_leftOf_34  {k_4 : St → Int32 → Int32 → Int32 → Option (Int32)} (hk_4 : ∀ (S : St) (l1 : Int32) (l2 : Int32) (l3 : Int32) (w : Int32), k_4 S l1 l2 l3 = some w → G SM m_Mo_leftOf 4 (some w) S 4 [(0, .ref 0), (1, .int l1), (2, .int l2), (3, .int l3)] [] S) (S : St) (l1 : Int32) (l2 : Int32) (l3 : Int32) (w : Int32) (h : f_Mo_leftOf_34 k_4 S l1 l2 l3 = some w) : G SM m_Mo_leftOf 4 (some w) S 34 [(0, .ref 0), (1, .int l1), (2, .int l2), (3, .int l3)] [] S := by
  unfold f_Mo_leftOf_34 at h
  obtain ⟨l3_34, e_34, h⟩ := ob_s h
  refine G_iinc 1 3 [(3, .int l3_34), (0, .ref 0), (1, .int l1), (2, .int l2)] (by decide) rfl e_34 rfl (by decide) d_Mo_leftOf_34 ?_
  refine G_goto 4 (by decide) d_Mo_leftOf_37 ?_
  exact G_sub _ [1, 2, 3, 0] rfl (hk_4 S l1 l2 l3_34 _ h)
def f_Mo_leftOf_4 : Nat → St → Int32 → Int32 → Int32 → Option (Int32)
  | 0, _, _, _, _ => none
  | n + 1, S, l1, l2, l3 =>
    if (S 0 5) ≤ l3 then (
    some l2)
    else (
    (f_Mo_isLeft S l3).bind fun v_14 =>
    if v_14 = 0 then (
    f_Mo_leftOf_34 (f_Mo_leftOf_4 n) S l1 l2 l3)
    else (
    if ig l3 24 then (
    if (S 4 l3.toNatClampNeg) = l1 then (
    (some (l2 + 1)).bind fun l2_33 =>
    f_Mo_leftOf_34 (f_Mo_leftOf_4 n) S l1 l2_33 l3)
    else (
    f_Mo_leftOf_34 (f_Mo_leftOf_4 n) S l1 l2 l3)) else none))
set_option maxHeartbeats 4000000 in
set_option maxRecDepth 20000 in
theorem t_Mo_leftOf_4  : ∀ (n : Nat) (S : St) (l1 : Int32) (l2 : Int32) (l3 : Int32) (w : Int32), f_Mo_leftOf_4 n S l1 l2 l3 = some w → G SM m_Mo_leftOf 4 (some w) S 4 [(0, .ref 0), (1, .int l1), (2, .int l2), (3, .int l3)] [] S := by
  intro n
  induction n with
  | zero =>
    intro S l1 l2 l3 w h
    rw [f_Mo_leftOf_4] at h
    cases h
  | succ n ih =>
    intro S l1 l2 l3 w h
    rw [f_Mo_leftOf_4] at h
    refine G_iload_n 3 rfl d_Mo_leftOf_4 ?_
    refine G_aload_n 0 rfl d_Mo_leftOf_5 ?_
    refine G_getI fl_Mo_120 km_0 sm_0 rfl d_Mo_leftOf_6 ?_
    refine G_icmp_ge 40 (by decide) d_Mo_leftOf_9 (fun c_9 => ?_) (fun c_9 => ?_)
    · replace h := ob_t h c_9
      refine G_iload_n 2 rfl d_Mo_leftOf_40 ?_
      cases h
      exact G_iret rfl d_Mo_leftOf_41
    · replace h := ob_f h c_9
      refine G_aload_n 0 rfl d_Mo_leftOf_12 ?_
      refine G_iload_n 3 rfl d_Mo_leftOf_13 ?_
      obtain ⟨v_14, q_14, h⟩ := ob_b h
      refine G_callV [.int l3] [] (t_Mo_isLeft q_14) (by decide) (by decide) mv_Mo_isLeft rfl ml_Mo_132 km_0 sm_0 cl_12 rfl (Nat.le_of_ble_eq_true rfl) d_Mo_leftOf_14 ?_
      refine G_if_eq 34 (by decide) d_Mo_leftOf_17 (fun c_17 => ?_) (fun c_17 => ?_)
      · replace h := ob_t h c_17
        exact G_sub _ [0, 1, 2, 3] rfl (t_Mo_leftOf_34 ih S l1 l2 l3 _ h)
      · replace h := ob_f h c_17
        refine G_aload_n 0 rfl d_Mo_leftOf_20 ?_
        refine G_getR fl_Mo_19 km_0 sm_0 rfl (by decide) d_Mo_leftOf_21 ?_
        refine G_iload_n 3 rfl d_Mo_leftOf_24 ?_
        obtain ⟨g_25, h⟩ := ob_g h
        refine G_iaload km_4 sm_4 g_25 d_Mo_leftOf_25 ?_
        refine G_iload_n 1 rfl d_Mo_leftOf_26 ?_
        refine G_icmp_ne 34 (by decide) d_Mo_leftOf_27 (fun c_27 => ?_) (fun c_27 => ?_)
        · replace h := ob_f h c_27
          exact G_sub _ [0, 1, 2, 3] rfl (t_Mo_leftOf_34 ih S l1 l2 l3 _ h)
        · replace h := ob_t h c_27
          refine G_iload_n 2 rfl d_Mo_leftOf_30 ?_
          refine G_iconst 1 (by decide) d_Mo_leftOf_31 ?_
          refine G_iadd d_Mo_leftOf_32 ?_
          obtain ⟨l2_33, e_33, h⟩ := ob_s h
          refine G_istore_n [(2, .int l2_33), (0, .ref 0), (1, .int l1), (3, .int l3)] e_33 rfl (by decide) d_Mo_leftOf_33 ?_
          exact G_sub _ [1, 2, 0, 3] rfl (t_Mo_leftOf_34 ih S l1 l2_33 l3 _ h)
def f_Mo_leftOf (S : St) (l1 : Int32) : Option (Int32) :=
    (some (0 : Int32)).bind fun l2_1 =>
    (some (0 : Int32)).bind fun l3_3 =>
    f_Mo_leftOf_4 FU S l1 l2_1 l3_3
set_option maxHeartbeats 4000000 in
set_option maxRecDepth 20000 in
theorem t_Mo_leftOf  {S : St} {l1 : Int32} {w : Int32} (h : f_Mo_leftOf S l1 = some w) : Ct SM m_Mo_leftOf 4 [.ref 0, .int l1] S (some w) S := by
  unfold f_Mo_leftOf at h
  refine Ct.of pn_Mo (Nat.le_of_ble_eq_true rfl) ?_
  show G SM m_Mo_leftOf 4 (some w) S 0 [(0, .ref 0), (1, .int l1)] [] S
  refine G_iconst 0 (by decide) d_Mo_leftOf_0 ?_
  obtain ⟨l2_1, e_1, h⟩ := ob_s h
  refine G_istore_n [(2, .int l2_1), (0, .ref 0), (1, .int l1)] e_1 rfl (by decide) d_Mo_leftOf_1 ?_
  refine G_iconst 0 (by decide) d_Mo_leftOf_2 ?_
  obtain ⟨l3_3, e_3, h⟩ := ob_s h
  refine G_istore_n [(3, .int l3_3), (2, .int l2_1), (0, .ref 0), (1, .int l1)] e_3 rfl (by decide) d_Mo_leftOf_3 ?_
  exact G_sub _ [2, 3, 1, 0] rfl (t_Mo_leftOf_4 FU S l1 l2_1 l3_3 _ h)
theorem d_Mo_waitersOf_0 : decode m_Mo_waitersOf.2.1 0 = .ok (.iconst 0, 1) := by decide +kernel
theorem d_Mo_waitersOf_1 : decode m_Mo_waitersOf.2.1 1 = .ok (.istore_n 2, 1) := by decide +kernel
theorem d_Mo_waitersOf_2 : decode m_Mo_waitersOf.2.1 2 = .ok (.iconst 0, 1) := by decide +kernel
theorem d_Mo_waitersOf_3 : decode m_Mo_waitersOf.2.1 3 = .ok (.istore_n 3, 1) := by decide +kernel
theorem d_Mo_waitersOf_4 : decode m_Mo_waitersOf.2.1 4 = .ok (.iload_n 3, 1) := by decide +kernel
theorem d_Mo_waitersOf_5 : decode m_Mo_waitersOf.2.1 5 = .ok (.aload_n 0, 1) := by decide +kernel
theorem d_Mo_waitersOf_6 : decode m_Mo_waitersOf.2.1 6 = .ok (.getfield 120, 3) := by decide +kernel
theorem d_Mo_waitersOf_9 : decode m_Mo_waitersOf.2.1 9 = .ok (.if_icmp .ge 23, 3) := by decide +kernel
theorem d_Mo_waitersOf_12 : decode m_Mo_waitersOf.2.1 12 = .ok (.aload_n 0, 1) := by decide +kernel
theorem d_Mo_waitersOf_13 : decode m_Mo_waitersOf.2.1 13 = .ok (.getfield 22, 3) := by decide +kernel
theorem d_Mo_waitersOf_16 : decode m_Mo_waitersOf.2.1 16 = .ok (.iload_n 3, 1) := by decide +kernel
theorem d_Mo_waitersOf_17 : decode m_Mo_waitersOf.2.1 17 = .ok (.iaload, 1) := by decide +kernel
theorem d_Mo_waitersOf_18 : decode m_Mo_waitersOf.2.1 18 = .ok (.iload_n 1, 1) := by decide +kernel
theorem d_Mo_waitersOf_19 : decode m_Mo_waitersOf.2.1 19 = .ok (.if_icmp .ne 7, 3) := by decide +kernel
theorem d_Mo_waitersOf_22 : decode m_Mo_waitersOf.2.1 22 = .ok (.iload_n 2, 1) := by decide +kernel
theorem d_Mo_waitersOf_23 : decode m_Mo_waitersOf.2.1 23 = .ok (.iconst 1, 1) := by decide +kernel
theorem d_Mo_waitersOf_24 : decode m_Mo_waitersOf.2.1 24 = .ok (.iadd, 1) := by decide +kernel
theorem d_Mo_waitersOf_25 : decode m_Mo_waitersOf.2.1 25 = .ok (.istore_n 2, 1) := by decide +kernel
theorem d_Mo_waitersOf_26 : decode m_Mo_waitersOf.2.1 26 = .ok (.iinc 3 1, 3) := by decide +kernel
theorem d_Mo_waitersOf_29 : decode m_Mo_waitersOf.2.1 29 = .ok (.goto (-25), 3) := by decide +kernel
theorem d_Mo_waitersOf_32 : decode m_Mo_waitersOf.2.1 32 = .ok (.iload_n 2, 1) := by decide +kernel
theorem d_Mo_waitersOf_33 : decode m_Mo_waitersOf.2.1 33 = .ok (.ireturn, 1) := by decide +kernel
def f_Mo_waitersOf_26 (k_4 : St → Int32 → Int32 → Int32 → Option (Int32)) (S : St) (l1 : Int32) (l2 : Int32) (l3 : Int32) : Option (Int32) :=
    (some (l3 + 1)).bind fun l3_26 =>
    k_4 S l1 l2 l3_26
set_option maxHeartbeats 4000000 in
set_option maxRecDepth 20000 in
theorem t_Mo_waitersOf_26  {k_4 : St → Int32 → Int32 → Int32 → Option (Int32)} (hk_4 : ∀ (S : St) (l1 : Int32) (l2 : Int32) (l3 : Int32) (w : Int32), k_4 S l1 l2 l3 = some w → G SM m_Mo_waitersOf 1 (some w) S 4 [(0, .ref 0), (1, .int l1), (2, .int l2), (3, .int l3)] [] S) (S : St) (l1 : Int32) (l2 : Int32) (l3 : Int32) (w : Int32) (h : f_Mo_waitersOf_26 k_4 S l1 l2 l3 = some w) : G SM m_Mo_waitersOf 1 (some w) S 26 [(0, .ref 0), (1, .int l1), (2, .int l2), (3, .int l3)] [] S := by
  unfold f_Mo_waitersOf_26 at h
  obtain ⟨l3_26, e_26, h⟩ := ob_s h
  refine G_iinc 1 3 [(3, .int l3_26), (0, .ref 0), (1, .int l1), (2, .int l2)] (by decide) rfl e_26 rfl (by decide) d_Mo_waitersOf_26 ?_
  refine G_goto 4 (by decide) d_Mo_waitersOf_29 ?_
  exact G_sub _ [1, 2, 3, 0] rfl (hk_4 S l1 l2 l3_26 _ h)
def f_Mo_waitersOf_4 : Nat → St → Int32 → Int32 → Int32 → Option (Int32)
  | 0, _, _, _, _ => none
  | n + 1, S, l1, l2, l3 =>
    if (S 0 5) ≤ l3 then (
    some l2)
    else (
    if ig l3 24 then (
    if (S 5 l3.toNatClampNeg) = l1 then (
    (some (l2 + 1)).bind fun l2_25 =>
    f_Mo_waitersOf_26 (f_Mo_waitersOf_4 n) S l1 l2_25 l3)
    else (
    f_Mo_waitersOf_26 (f_Mo_waitersOf_4 n) S l1 l2 l3)) else none)
set_option maxHeartbeats 4000000 in
set_option maxRecDepth 20000 in
theorem t_Mo_waitersOf_4  : ∀ (n : Nat) (S : St) (l1 : Int32) (l2 : Int32) (l3 : Int32) (w : Int32), f_Mo_waitersOf_4 n S l1 l2 l3 = some w → G SM m_Mo_waitersOf 1 (some w) S 4 [(0, .ref 0), (1, .int l1), (2, .int l2), (3, .int l3)] [] S := by
  intro n
  induction n with
  | zero =>
    intro S l1 l2 l3 w h
    rw [f_Mo_waitersOf_4] at h
    cases h
  | succ n ih =>
    intro S l1 l2 l3 w h
    rw [f_Mo_waitersOf_4] at h
    refine G_iload_n 3 rfl d_Mo_waitersOf_4 ?_
    refine G_aload_n 0 rfl d_Mo_waitersOf_5 ?_
    refine G_getI fl_Mo_120 km_0 sm_0 rfl d_Mo_waitersOf_6 ?_
    refine G_icmp_ge 32 (by decide) d_Mo_waitersOf_9 (fun c_9 => ?_) (fun c_9 => ?_)
    · replace h := ob_t h c_9
      refine G_iload_n 2 rfl d_Mo_waitersOf_32 ?_
      cases h
      exact G_iret rfl d_Mo_waitersOf_33
    · replace h := ob_f h c_9
      refine G_aload_n 0 rfl d_Mo_waitersOf_12 ?_
      refine G_getR fl_Mo_22 km_0 sm_0 rfl (by decide) d_Mo_waitersOf_13 ?_
      refine G_iload_n 3 rfl d_Mo_waitersOf_16 ?_
      obtain ⟨g_17, h⟩ := ob_g h
      refine G_iaload km_5 sm_5 g_17 d_Mo_waitersOf_17 ?_
      refine G_iload_n 1 rfl d_Mo_waitersOf_18 ?_
      refine G_icmp_ne 26 (by decide) d_Mo_waitersOf_19 (fun c_19 => ?_) (fun c_19 => ?_)
      · replace h := ob_f h c_19
        exact G_sub _ [0, 1, 2, 3] rfl (t_Mo_waitersOf_26 ih S l1 l2 l3 _ h)
      · replace h := ob_t h c_19
        refine G_iload_n 2 rfl d_Mo_waitersOf_22 ?_
        refine G_iconst 1 (by decide) d_Mo_waitersOf_23 ?_
        refine G_iadd d_Mo_waitersOf_24 ?_
        obtain ⟨l2_25, e_25, h⟩ := ob_s h
        refine G_istore_n [(2, .int l2_25), (0, .ref 0), (1, .int l1), (3, .int l3)] e_25 rfl (by decide) d_Mo_waitersOf_25 ?_
        exact G_sub _ [1, 2, 0, 3] rfl (t_Mo_waitersOf_26 ih S l1 l2_25 l3 _ h)
def f_Mo_waitersOf (S : St) (l1 : Int32) : Option (Int32) :=
    (some (0 : Int32)).bind fun l2_1 =>
    (some (0 : Int32)).bind fun l3_3 =>
    f_Mo_waitersOf_4 FU S l1 l2_1 l3_3
set_option maxHeartbeats 4000000 in
set_option maxRecDepth 20000 in
theorem t_Mo_waitersOf  {S : St} {l1 : Int32} {w : Int32} (h : f_Mo_waitersOf S l1 = some w) : Ct SM m_Mo_waitersOf 1 [.ref 0, .int l1] S (some w) S := by
  unfold f_Mo_waitersOf at h
  refine Ct.of pn_Mo (Nat.le_of_ble_eq_true rfl) ?_
  show G SM m_Mo_waitersOf 1 (some w) S 0 [(0, .ref 0), (1, .int l1)] [] S
  refine G_iconst 0 (by decide) d_Mo_waitersOf_0 ?_
  obtain ⟨l2_1, e_1, h⟩ := ob_s h
  refine G_istore_n [(2, .int l2_1), (0, .ref 0), (1, .int l1)] e_1 rfl (by decide) d_Mo_waitersOf_1 ?_
  refine G_iconst 0 (by decide) d_Mo_waitersOf_2 ?_
  obtain ⟨l3_3, e_3, h⟩ := ob_s h
  refine G_istore_n [(3, .int l3_3), (2, .int l2_1), (0, .ref 0), (1, .int l1)] e_3 rfl (by decide) d_Mo_waitersOf_3 ?_
  exact G_sub _ [2, 3, 1, 0] rfl (t_Mo_waitersOf_4 FU S l1 l2_1 l3_3 _ h)
