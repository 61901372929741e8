theorem d_ParishReader_readOther_0 : decode m_ParishReader_readOther.2.1 0 = .ok (.aload_n 0, 1) := by decide +kernel
theorem d_ParishReader_readOther_1 : decode m_ParishReader_readOther.2.1 1 = .ok (.getfield 18, 3) := by decide +kernel
theorem d_ParishReader_readOther_4 : decode m_ParishReader_readOther.2.1 4 = .ok (.getfield 49, 3) := by decide +kernel
theorem d_ParishReader_readOther_7 : decode m_ParishReader_readOther.2.1 7 = .ok (.istore_n 2, 1) := by decide +kernel
theorem d_ParishReader_readOther_8 : decode m_ParishReader_readOther.2.1 8 = .ok (.aload_n 0, 1) := by decide +kernel
theorem d_ParishReader_readOther_9 : decode m_ParishReader_readOther.2.1 9 = .ok (.getfield 18, 3) := by decide +kernel
theorem d_ParishReader_readOther_12 : decode m_ParishReader_readOther.2.1 12 = .ok (.iconst 2, 1) := by decide +kernel
theorem d_ParishReader_readOther_13 : decode m_ParishReader_readOther.2.1 13 = .ok (.invokevirtual 56, 3) := by decide +kernel
theorem d_ParishReader_readOther_16 : decode m_ParishReader_readOther.2.1 16 = .ok (.istore_n 3, 1) := by decide +kernel
theorem d_ParishReader_readOther_17 : decode m_ParishReader_readOther.2.1 17 = .ok (.iload_n 3, 1) := by decide +kernel
theorem d_ParishReader_readOther_18 : decode m_ParishReader_readOther.2.1 18 = .ok (.iload_n 1, 1) := by decide +kernel
theorem d_ParishReader_readOther_19 : decode m_ParishReader_readOther.2.1 19 = .ok (.if_icmp .lt 12, 3) := by decide +kernel
theorem d_ParishReader_readOther_22 : decode m_ParishReader_readOther.2.1 22 = .ok (.aload_n 0, 1) := by decide +kernel
theorem d_ParishReader_readOther_23 : decode m_ParishReader_readOther.2.1 23 = .ok (.getfield 18, 3) := by decide +kernel
theorem d_ParishReader_readOther_26 : decode m_ParishReader_readOther.2.1 26 = .ok (.iconst 3, 1) := by decide +kernel
theorem d_ParishReader_readOther_27 : decode m_ParishReader_readOther.2.1 27 = .ok (.iload_n 2, 1) := by decide +kernel
theorem d_ParishReader_readOther_28 : decode m_ParishReader_readOther.2.1 28 = .ok (.invokevirtual 52, 3) := by decide +kernel
theorem d_ParishReader_readOther_31 : decode m_ParishReader_readOther.2.1 31 = .ok (.iload_n 3, 1) := by decide +kernel
theorem d_ParishReader_readOther_32 : decode m_ParishReader_readOther.2.1 32 = .ok (.ireturn, 1) := by decide +kernel
def f_ParishReader_readOther (S : St) (l1 : Int32) : Option (Int32 × St) :=
    (some (S 3 1)).bind fun l2_7 =>
    (f_Reading_number S (2 : Int32)).bind fun w_13 =>
    (some w_13.1).bind fun l3_16 =>
    if l3_16 < l1 then (
    some (l3_16, w_13.2))
    else (
    (f_Reading_fail w_13.2 (3 : Int32) l2_7).bind fun w_28 =>
    some (l3_16, w_28))
set_option maxHeartbeats 4000000 in
set_option maxRecDepth 20000 in
theorem t_ParishReader_readOther  {S : St} {l1 : Int32} {w : Int32 × St} (h : f_ParishReader_readOther S l1 = some w) : Ct SX m_ParishReader_readOther 3 [.ref 19, .int l1] S (some w.1) w.2 := by
  unfold f_ParishReader_readOther at h
  refine Ct.of pn_ParishReader (Nat.le_of_ble_eq_true rfl) ?_
  show G SX m_ParishReader_readOther 3 (some w.1) w.2 0 [(0, .ref 19), (1, .int l1)] [] S
  refine G_aload_n 0 rfl d_ParishReader_readOther_0 ?_
  refine G_getR fl_ParishReader_18 kx_19 sx_19 rfl (by decide) d_ParishReader_readOther_1 ?_
  refine G_getI fl_ParishReader_49 kx_3 sx_3 rfl d_ParishReader_readOther_4 ?_
  obtain ⟨l2_7, e_7, h⟩ := ob_s h
  refine G_istore_n [(2, .int l2_7), (0, .ref 19), (1, .int l1)] e_7 rfl (by decide) d_ParishReader_readOther_7 ?_
  refine G_aload_n 1 rfl d_ParishReader_readOther_8 ?_
  refine G_getR fl_ParishReader_18 kx_19 sx_19 rfl (by decide) d_ParishReader_readOther_9 ?_
  refine G_iconst 2 (by decide) d_ParishReader_readOther_12 ?_
  obtain ⟨w_13, q_13, h⟩ := ob_b h
  refine G_callV [.int 2] [] (t_Reading_number q_13) (by decide) (by decide) mv_Reading_number rfl ml_ParishReader_56 kx_3 sx_3 cl_4 rfl (Nat.le_of_ble_eq_true rfl) d_ParishReader_readOther_13 ?_
  obtain ⟨l3_16, e_16, h⟩ := ob_s h
  refine G_istore_n [(3, .int l3_16), (2, .int l2_7), (0, .ref 19), (1, .int l1)] e_16 rfl (by decide) d_ParishReader_readOther_16 ?_
  refine G_iload_n 0 rfl d_ParishReader_readOther_17 ?_
  refine G_iload_n 3 rfl d_ParishReader_readOther_18 ?_
  refine G_icmp_lt 31 (by decide) d_ParishReader_readOther_19 (fun c_19 => ?_) (fun c_19 => ?_)
  · replace h := ob_t h c_19
    refine G_iload_n 0 rfl d_ParishReader_readOther_31 ?_
    cases h
    exact G_iret rfl d_ParishReader_readOther_32
  · replace h := ob_f h c_19
    refine G_aload_n 2 rfl d_ParishReader_readOther_22 ?_
    refine G_getR fl_ParishReader_18 kx_19 sx_19 rfl (by decide) d_ParishReader_readOther_23 ?_
    refine G_iconst 3 (by decide) d_ParishReader_readOther_26 ?_
    refine G_iload_n 1 rfl d_ParishReader_readOther_27 ?_
    obtain ⟨w_28, q_28, h⟩ := ob_b h
    refine G_callV [.int 3, .int l2_7] [] (t_Reading_fail q_28) (by decide) (by decide) mv_Reading_fail rfl ml_ParishReader_52 kx_3 sx_3 cl_4 rfl (Nat.le_of_ble_eq_true rfl) d_ParishReader_readOther_28 ?_
    refine G_iload_n 0 rfl d_ParishReader_readOther_31 ?_
    cases h
    exact G_iret rfl d_ParishReader_readOther_32
theorem d_ParishReader_readLine_0 : decode m_ParishReader_readLine.2.1 0 = .ok (.aload_n 0, 1) := by decide +kernel
theorem d_ParishReader_readLine_1 : decode m_ParishReader_readLine.2.1 1 = .ok (.getfield 18, 3) := by decide +kernel
theorem d_ParishReader_readLine_4 : decode m_ParishReader_readLine.2.1 4 = .ok (.invokevirtual 45, 3) := by decide +kernel
theorem d_ParishReader_readLine_7 : decode m_ParishReader_readLine.2.1 7 = .ok (.istore_n 2, 1) := by decide +kernel
theorem d_ParishReader_readLine_8 : decode m_ParishReader_readLine.2.1 8 = .ok (.iload_n 2, 1) := by decide +kernel
theorem d_ParishReader_readLine_9 : decode m_ParishReader_readLine.2.1 9 = .ok (.bipush 97, 2) := by decide +kernel
theorem d_ParishReader_readLine_11 : decode m_ParishReader_readLine.2.1 11 = .ok (.if_icmp .lt 9, 3) := by decide +kernel
theorem d_ParishReader_readLine_14 : decode m_ParishReader_readLine.2.1 14 = .ok (.iload_n 2, 1) := by decide +kernel
theorem d_ParishReader_readLine_15 : decode m_ParishReader_readLine.2.1 15 = .ok (.bipush 112, 2) := by decide +kernel
theorem d_ParishReader_readLine_17 : decode m_ParishReader_readLine.2.1 17 = .ok (.if_icmp .le 19, 3) := by decide +kernel
theorem d_ParishReader_readLine_20 : decode m_ParishReader_readLine.2.1 20 = .ok (.aload_n 0, 1) := by decide +kernel
theorem d_ParishReader_readLine_21 : decode m_ParishReader_readLine.2.1 21 = .ok (.getfield 18, 3) := by decide +kernel
theorem d_ParishReader_readLine_24 : decode m_ParishReader_readLine.2.1 24 = .ok (.iconst 1, 1) := by decide +kernel
theorem d_ParishReader_readLine_25 : decode m_ParishReader_readLine.2.1 25 = .ok (.aload_n 0, 1) := by decide +kernel
theorem d_ParishReader_readLine_26 : decode m_ParishReader_readLine.2.1 26 = .ok (.getfield 18, 3) := by decide +kernel
theorem d_ParishReader_readLine_29 : decode m_ParishReader_readLine.2.1 29 = .ok (.getfield 49, 3) := by decide +kernel
theorem d_ParishReader_readLine_32 : decode m_ParishReader_readLine.2.1 32 = .ok (.invokevirtual 52, 3) := by decide +kernel
theorem d_ParishReader_readLine_35 : decode m_ParishReader_readLine.2.1 35 = .ok (.return_, 1) := by decide +kernel
theorem d_ParishReader_readLine_36 : decode m_ParishReader_readLine.2.1 36 = .ok (.iload_n 1, 1) := by decide +kernel
theorem d_ParishReader_readLine_37 : decode m_ParishReader_readLine.2.1 37 = .ok (.bipush 24, 2) := by decide +kernel
theorem d_ParishReader_readLine_39 : decode m_ParishReader_readLine.2.1 39 = .ok (.if_icmp .lt 19, 3) := by decide +kernel
theorem d_ParishReader_readLine_42 : decode m_ParishReader_readLine.2.1 42 = .ok (.aload_n 0, 1) := by decide +kernel
theorem d_ParishReader_readLine_43 : decode m_ParishReader_readLine.2.1 43 = .ok (.getfield 18, 3) := by decide +kernel
theorem d_ParishReader_readLine_46 : decode m_ParishReader_readLine.2.1 46 = .ok (.iconst 4, 1) := by decide +kernel
theorem d_ParishReader_readLine_47 : decode m_ParishReader_readLine.2.1 47 = .ok (.aload_n 0, 1) := by decide +kernel
theorem d_ParishReader_readLine_48 : decode m_ParishReader_readLine.2.1 48 = .ok (.getfield 18, 3) := by decide +kernel
theorem d_ParishReader_readLine_51 : decode m_ParishReader_readLine.2.1 51 = .ok (.getfield 49, 3) := by decide +kernel
theorem d_ParishReader_readLine_54 : decode m_ParishReader_readLine.2.1 54 = .ok (.invokevirtual 52, 3) := by decide +kernel
theorem d_ParishReader_readLine_57 : decode m_ParishReader_readLine.2.1 57 = .ok (.return_, 1) := by decide +kernel
theorem d_ParishReader_readLine_58 : decode m_ParishReader_readLine.2.1 58 = .ok (.aload_n 0, 1) := by decide +kernel
theorem d_ParishReader_readLine_59 : decode m_ParishReader_readLine.2.1 59 = .ok (.getfield 18, 3) := by decide +kernel
theorem d_ParishReader_readLine_62 : decode m_ParishReader_readLine.2.1 62 = .ok (.dup, 1) := by decide +kernel
theorem d_ParishReader_readLine_63 : decode m_ParishReader_readLine.2.1 63 = .ok (.getfield 49, 3) := by decide +kernel
theorem d_ParishReader_readLine_66 : decode m_ParishReader_readLine.2.1 66 = .ok (.iconst 1, 1) := by decide +kernel
theorem d_ParishReader_readLine_67 : decode m_ParishReader_readLine.2.1 67 = .ok (.iadd, 1) := by decide +kernel
theorem d_ParishReader_readLine_68 : decode m_ParishReader_readLine.2.1 68 = .ok (.putfield 49, 3) := by decide +kernel
theorem d_ParishReader_readLine_71 : decode m_ParishReader_readLine.2.1 71 = .ok (.aload_n 0, 1) := by decide +kernel
theorem d_ParishReader_readLine_72 : decode m_ParishReader_readLine.2.1 72 = .ok (.getfield 18, 3) := by decide +kernel
theorem d_ParishReader_readLine_75 : decode m_ParishReader_readLine.2.1 75 = .ok (.iconst 3, 1) := by decide +kernel
theorem d_ParishReader_readLine_76 : decode m_ParishReader_readLine.2.1 76 = .ok (.invokevirtual 56, 3) := by decide +kernel
theorem d_ParishReader_readLine_79 : decode m_ParishReader_readLine.2.1 79 = .ok (.istore_n 3, 1) := by decide +kernel
theorem d_ParishReader_readLine_80 : decode m_ParishReader_readLine.2.1 80 = .ok (.aload_n 0, 1) := by decide +kernel
theorem d_ParishReader_readLine_81 : decode m_ParishReader_readLine.2.1 81 = .ok (.getfield 18, 3) := by decide +kernel
theorem d_ParishReader_readLine_84 : decode m_ParishReader_readLine.2.1 84 = .ok (.bipush 42, 2) := by decide +kernel
theorem d_ParishReader_readLine_86 : decode m_ParishReader_readLine.2.1 86 = .ok (.invokevirtual 60, 3) := by decide +kernel
theorem d_ParishReader_readLine_89 : decode m_ParishReader_readLine.2.1 89 = .ok (.istore 4, 2) := by decide +kernel
theorem d_ParishReader_readLine_91 : decode m_ParishReader_readLine.2.1 91 = .ok (.aload_n 0, 1) := by decide +kernel
theorem d_ParishReader_readLine_92 : decode m_ParishReader_readLine.2.1 92 = .ok (.getfield 18, 3) := by decide +kernel
theorem d_ParishReader_readLine_95 : decode m_ParishReader_readLine.2.1 95 = .ok (.bipush 60, 2) := by decide +kernel
theorem d_ParishReader_readLine_97 : decode m_ParishReader_readLine.2.1 97 = .ok (.invokevirtual 60, 3) := by decide +kernel
theorem d_ParishReader_readLine_100 : decode m_ParishReader_readLine.2.1 100 = .ok (.ifCond .eq 11, 3) := by decide +kernel
theorem d_ParishReader_readLine_103 : decode m_ParishReader_readLine.2.1 103 = .ok (.aload_n 0, 1) := by decide +kernel
theorem d_ParishReader_readLine_104 : decode m_ParishReader_readLine.2.1 104 = .ok (.iload_n 1, 1) := by decide +kernel
theorem d_ParishReader_readLine_105 : decode m_ParishReader_readLine.2.1 105 = .ok (.invokevirtual 64, 3) := by decide +kernel
theorem d_ParishReader_readLine_108 : decode m_ParishReader_readLine.2.1 108 = .ok (.goto 5, 3) := by decide +kernel
theorem d_ParishReader_readLine_111 : decode m_ParishReader_readLine.2.1 111 = .ok (.bipush (-2), 2) := by decide +kernel
theorem d_ParishReader_readLine_113 : decode m_ParishReader_readLine.2.1 113 = .ok (.istore 5, 2) := by decide +kernel
theorem d_ParishReader_readLine_115 : decode m_ParishReader_readLine.2.1 115 = .ok (.aload_n 0, 1) := by decide +kernel
theorem d_ParishReader_readLine_116 : decode m_ParishReader_readLine.2.1 116 = .ok (.getfield 12, 3) := by decide +kernel
theorem d_ParishReader_readLine_119 : decode m_ParishReader_readLine.2.1 119 = .ok (.getfield 67, 3) := by decide +kernel
theorem d_ParishReader_readLine_122 : decode m_ParishReader_readLine.2.1 122 = .ok (.iload_n 1, 1) := by decide +kernel
theorem d_ParishReader_readLine_123 : decode m_ParishReader_readLine.2.1 123 = .ok (.iload_n 2, 1) := by decide +kernel
theorem d_ParishReader_readLine_124 : decode m_ParishReader_readLine.2.1 124 = .ok (.bipush 97, 2) := by decide +kernel
theorem d_ParishReader_readLine_126 : decode m_ParishReader_readLine.2.1 126 = .ok (.isub, 1) := by decide +kernel
theorem d_ParishReader_readLine_127 : decode m_ParishReader_readLine.2.1 127 = .ok (.iastore, 1) := by decide +kernel
theorem d_ParishReader_readLine_128 : decode m_ParishReader_readLine.2.1 128 = .ok (.aload_n 0, 1) := by decide +kernel
theorem d_ParishReader_readLine_129 : decode m_ParishReader_readLine.2.1 129 = .ok (.getfield 12, 3) := by decide +kernel
theorem d_ParishReader_readLine_132 : decode m_ParishReader_readLine.2.1 132 = .ok (.getfield 71, 3) := by decide +kernel
theorem d_ParishReader_readLine_135 : decode m_ParishReader_readLine.2.1 135 = .ok (.iload_n 1, 1) := by decide +kernel
theorem d_ParishReader_readLine_136 : decode m_ParishReader_readLine.2.1 136 = .ok (.iload_n 3, 1) := by decide +kernel
theorem d_ParishReader_readLine_137 : decode m_ParishReader_readLine.2.1 137 = .ok (.iastore, 1) := by decide +kernel
theorem d_ParishReader_readLine_138 : decode m_ParishReader_readLine.2.1 138 = .ok (.aload_n 0, 1) := by decide +kernel
theorem d_ParishReader_readLine_139 : decode m_ParishReader_readLine.2.1 139 = .ok (.getfield 12, 3) := by decide +kernel
theorem d_ParishReader_readLine_142 : decode m_ParishReader_readLine.2.1 142 = .ok (.iload_n 1, 1) := by decide +kernel
theorem d_ParishReader_readLine_143 : decode m_ParishReader_readLine.2.1 143 = .ok (.iload 4, 2) := by decide +kernel
theorem d_ParishReader_readLine_145 : decode m_ParishReader_readLine.2.1 145 = .ok (.ifCond .eq 11, 3) := by decide +kernel
theorem d_ParishReader_readLine_148 : decode m_ParishReader_readLine.2.1 148 = .ok (.iload_n 3, 1) := by decide +kernel
theorem d_ParishReader_readLine_149 : decode m_ParishReader_readLine.2.1 149 = .ok (.ifCond .le 7, 3) := by decide +kernel
theorem d_ParishReader_readLine_152 : decode m_ParishReader_readLine.2.1 152 = .ok (.iconst 1, 1) := by decide +kernel
theorem d_ParishReader_readLine_153 : decode m_ParishReader_readLine.2.1 153 = .ok (.goto 4, 3) := by decide +kernel
theorem d_ParishReader_readLine_156 : decode m_ParishReader_readLine.2.1 156 = .ok (.iconst 0, 1) := by decide +kernel
theorem d_ParishReader_readLine_157 : decode m_ParishReader_readLine.2.1 157 = .ok (.invokevirtual 74, 3) := by decide +kernel
theorem d_ParishReader_readLine_160 : decode m_ParishReader_readLine.2.1 160 = .ok (.aload_n 0, 1) := by decide +kernel
theorem d_ParishReader_readLine_161 : decode m_ParishReader_readLine.2.1 161 = .ok (.getfield 12, 3) := by decide +kernel
theorem d_ParishReader_readLine_164 : decode m_ParishReader_readLine.2.1 164 = .ok (.getfield 78, 3) := by decide +kernel
theorem d_ParishReader_readLine_167 : decode m_ParishReader_readLine.2.1 167 = .ok (.iload_n 1, 1) := by decide +kernel
theorem d_ParishReader_readLine_168 : decode m_ParishReader_readLine.2.1 168 = .ok (.iload 5, 2) := by decide +kernel
theorem d_ParishReader_readLine_170 : decode m_ParishReader_readLine.2.1 170 = .ok (.iastore, 1) := by decide +kernel
theorem d_ParishReader_readLine_171 : decode m_ParishReader_readLine.2.1 171 = .ok (.aload_n 0, 1) := by decide +kernel
theorem d_ParishReader_readLine_172 : decode m_ParishReader_readLine.2.1 172 = .ok (.getfield 12, 3) := by decide +kernel
theorem d_ParishReader_readLine_175 : decode m_ParishReader_readLine.2.1 175 = .ok (.iload_n 1, 1) := by decide +kernel
theorem d_ParishReader_readLine_176 : decode m_ParishReader_readLine.2.1 176 = .ok (.iconst 1, 1) := by decide +kernel
theorem d_ParishReader_readLine_177 : decode m_ParishReader_readLine.2.1 177 = .ok (.iadd, 1) := by decide +kernel
theorem d_ParishReader_readLine_178 : decode m_ParishReader_readLine.2.1 178 = .ok (.putfield 31, 3) := by decide +kernel
theorem d_ParishReader_readLine_181 : decode m_ParishReader_readLine.2.1 181 = .ok (.return_, 1) := by decide +kernel
def f_ParishReader_readLine_20 (S : St) : Option (St) :=
    (f_Reading_fail S (1 : Int32) (S 3 1)).bind fun w_32 =>
    some w_32
set_option maxHeartbeats 4000000 in
set_option maxRecDepth 20000 in
theorem t_ParishReader_readLine_20  (S : St) (w : St) (h : f_ParishReader_readLine_20 S = some w) : G SX m_ParishReader_readLine 4 none w 20 [(0, .ref 19)] [] S := by
  unfold f_ParishReader_readLine_20 at h
  refine G_aload_n 0 rfl d_ParishReader_readLine_20 ?_
  refine G_getR fl_ParishReader_18 kx_19 sx_19 rfl (by decide) d_ParishReader_readLine_21 ?_
  refine G_iconst 1 (by decide) d_ParishReader_readLine_24 ?_
  refine G_aload_n 0 rfl d_ParishReader_readLine_25 ?_
  refine G_getR fl_ParishReader_18 kx_19 sx_19 rfl (by decide) d_ParishReader_readLine_26 ?_
  refine G_getI fl_ParishReader_49 kx_3 sx_3 rfl d_ParishReader_readLine_29 ?_
  obtain ⟨w_32, q_32, h⟩ := ob_b h
  refine G_callV [.int 1, .int (S 3 1)] [] (t_Reading_fail q_32) (by decide) (by decide) mv_Reading_fail rfl ml_ParishReader_52 kx_3 sx_3 cl_4 rfl (Nat.le_of_ble_eq_true rfl) d_ParishReader_readLine_32 ?_
  cases h
  exact G_vret rfl d_ParishReader_readLine_35
def f_ParishReader_readLine_157 (S : St) (l1 : Int32) (l5 : Int32) (s0 : Int32) (s1 : Int32) : Option (St) :=
    (f_Parish_putLight S 20 s1 s0).bind fun w_157 =>
    if ig l1 24 then (
    (some (sF w_157 22 l1.toNatClampNeg l5)).bind fun S_170 =>
    (some (sF S_170 20 6 (l1 + 1))).bind fun S_178 =>
    some S_178) else none
set_option maxHeartbeats 4000000 in
set_option maxRecDepth 20000 in
theorem t_ParishReader_readLine_157  (S : St) (l1 : Int32) (l5 : Int32) (s0 : Int32) (s1 : Int32) (w : St) (h : f_ParishReader_readLine_157 S l1 l5 s0 s1 = some w) : G SX m_ParishReader_readLine 4 none w 157 [(0, .ref 19), (1, .int l1), (5, .int l5)] [.int s0, .int s1, .ref 20] S := by
  unfold f_ParishReader_readLine_157 at h
  obtain ⟨w_157, q_157, h⟩ := ob_b h
  refine G_callV [.int s1, .int s0] [] (t_Parish_putLight isP_20 q_157) (by decide) (by decide) mv_Parish_putLight rfl ml_ParishReader_74 kx_20 sx_20 cl_2 rfl (Nat.le_of_ble_eq_true rfl) d_ParishReader_readLine_157 ?_
  refine G_aload_n 0 rfl d_ParishReader_readLine_160 ?_
  refine G_getR fl_ParishReader_12 kx_19 sx_19 rfl (by decide) d_ParishReader_readLine_161 ?_
  refine G_getR fl_ParishReader_78 kx_20 sx_20 rfl (by decide) d_ParishReader_readLine_164 ?_
  refine G_iload_n 1 rfl d_ParishReader_readLine_167 ?_
  refine G_iload 2 rfl d_ParishReader_readLine_168 ?_
  obtain ⟨g_170, h⟩ := ob_g h
  obtain ⟨S_170, e_170, h⟩ := ob_s h
  refine G_iastore e_170 kx_22 sx_22 g_170 d_ParishReader_readLine_170 ?_
  refine G_aload_n 0 rfl d_ParishReader_readLine_171 ?_
  refine G_getR fl_ParishReader_12 kx_19 sx_19 rfl (by decide) d_ParishReader_readLine_172 ?_
  refine G_iload_n 1 rfl d_ParishReader_readLine_175 ?_
  refine G_iconst 1 (by decide) d_ParishReader_readLine_176 ?_
  refine G_iadd d_ParishReader_readLine_177 ?_
  obtain ⟨S_178, e_178, h⟩ := ob_s h
  refine G_putI e_178 fp_ParishReader_31 kx_20 sx_20 rfl d_ParishReader_readLine_178 ?_
  cases h
  exact G_vret rfl d_ParishReader_readLine_181
def f_ParishReader_readLine_156 (S : St) (l1 : Int32) (l5 : Int32) (s0 : Int32) : Option (St) :=
    f_ParishReader_readLine_157 S l1 l5 (0 : Int32) s0
set_option maxHeartbeats 4000000 in
set_option maxRecDepth 20000 in
theorem t_ParishReader_readLine_156  (S : St) (l1 : Int32) (l5 : Int32) (s0 : Int32) (w : St) (h : f_ParishReader_readLine_156 S l1 l5 s0 = some w) : G SX m_ParishReader_readLine 4 none w 156 [(0, .ref 19), (1, .int l1), (5, .int l5)] [.int s0, .ref 20] S := by
  unfold f_ParishReader_readLine_156 at h
  refine G_iconst 0 (by decide) d_ParishReader_readLine_156 ?_
  exact G_sub _ [0, 1, 2] rfl (t_ParishReader_readLine_157 S l1 l5 (0 : Int32) s0 _ h)
def f_ParishReader_readLine_113 (S : St) (l1 : Int32) (l2 : Int32) (l3 : Int32) (l4 : Int32) (s0 : Int32) : Option (St) :=
    if ig l1 24 then (
    (some (sF S 21 l1.toNatClampNeg (l2 - 97))).bind fun S_127 =>
    if ig l1 24 then (
    (some (sF S_127 23 l1.toNatClampNeg l3)).bind fun S_137 =>
    if l4 = 0 then (
    f_ParishReader_readLine_156 S_137 l1 s0 l1)
    else (
    if l3 ≤ 0 then (
    f_ParishReader_readLine_156 S_137 l1 s0 l1)
    else (
    f_ParishReader_readLine_157 S_137 l1 s0 (1 : Int32) l1))) else none) else none
set_option maxHeartbeats 4000000 in
set_option maxRecDepth 20000 in
theorem t_ParishReader_readLine_113  (S : St) (l1 : Int32) (l2 : Int32) (l3 : Int32) (l4 : Int32) (s0 : Int32) (w : St) (h : f_ParishReader_readLine_113 S l1 l2 l3 l4 s0 = some w) : G SX m_ParishReader_readLine 4 none w 113 [(0, .ref 19), (1, .int l1), (2, .int l2), (3, .int l3), (4, .int l4)] [.int s0] S := by
  unfold f_ParishReader_readLine_113 at h
  refine G_istore [(5, .int s0), (0, .ref 19), (1, .int l1), (2, .int l2), (3, .int l3), (4, .int l4)] rfl rfl (by decide) d_ParishReader_readLine_113 ?_
  refine G_aload_n 1 rfl d_ParishReader_readLine_115 ?_
  refine G_getR fl_ParishReader_12 kx_19 sx_19 rfl (by decide) d_ParishReader_readLine_116 ?_
  refine G_getR fl_ParishReader_67 kx_20 sx_20 rfl (by decide) d_ParishReader_readLine_119 ?_
  refine G_iload_n 2 rfl d_ParishReader_readLine_122 ?_
  refine G_iload_n 3 rfl d_ParishReader_readLine_123 ?_
  refine G_bipush 97 (by decide) d_ParishReader_readLine_124 ?_
  refine G_isub d_ParishReader_readLine_126 ?_
  obtain ⟨g_127, h⟩ := ob_g h
  obtain ⟨S_127, e_127, h⟩ := ob_s h
  refine G_iastore e_127 kx_21 sx_21 g_127 d_ParishReader_readLine_127 ?_
  refine G_aload_n 1 rfl d_ParishReader_readLine_128 ?_
  refine G_getR fl_ParishReader_12 kx_19 sx_19 rfl (by decide) d_ParishReader_readLine_129 ?_
  refine G_getR fl_ParishReader_71 kx_20 sx_20 rfl (by decide) d_ParishReader_readLine_132 ?_
  refine G_iload_n 2 rfl d_ParishReader_readLine_135 ?_
  refine G_iload_n 4 rfl d_ParishReader_readLine_136 ?_
  obtain ⟨g_137, h⟩ := ob_g h
  obtain ⟨S_137, e_137, h⟩ := ob_s h
  refine G_iastore e_137 kx_23 sx_23 g_137 d_ParishReader_readLine_137 ?_
  refine G_aload_n 1 rfl d_ParishReader_readLine_138 ?_
  refine G_getR fl_ParishReader_12 kx_19 sx_19 rfl (by decide) d_ParishReader_readLine_139 ?_
  refine G_iload_n 2 rfl d_ParishReader_readLine_142 ?_
  refine G_iload 5 rfl d_ParishReader_readLine_143 ?_
  refine G_if_eq 156 (by decide) d_ParishReader_readLine_145 (fun c_145 => ?_) (fun c_145 => ?_)
  · replace h := ob_t h c_145
    exact G_sub _ [1, 2, 0] rfl (t_ParishReader_readLine_156 S_137 l1 s0 l1 _ h)
  · replace h := ob_f h c_145
    refine G_iload_n 4 rfl d_ParishReader_readLine_148 ?_
    refine G_if_le 156 (by decide) d_ParishReader_readLine_149 (fun c_149 => ?_) (fun c_149 => ?_)
    · replace h := ob_t h c_149
      exact G_sub _ [1, 2, 0] rfl (t_ParishReader_readLine_156 S_137 l1 s0 l1 _ h)
    · replace h := ob_f h c_149
      refine G_iconst 1 (by decide) d_ParishReader_readLine_152 ?_
      refine G_goto 157 (by decide) d_ParishReader_readLine_153 ?_
      exact G_sub _ [1, 2, 0] rfl (t_ParishReader_readLine_157 S_137 l1 s0 (1 : Int32) l1 _ h)
def f_ParishReader_readLine (S : St) (l1 : Int32) : Option (St) :=
    (f_Reading_sign S).bind fun v_4 =>
    if v_4 < 97 then (
    f_ParishReader_readLine_20 S)
    else (
    if v_4 ≤ 112 then (
    if l1 < 24 then (
    (some (sF S 3 1 ((S 3 1) + 1))).bind fun S_68 =>
    (f_Reading_number S_68 (3 : Int32)).bind fun w_76 =>
    (some w_76.1).bind fun l3_79 =>
    (f_Reading_takes w_76.2 (42 : Int32)).bind fun w_86 =>
    (some w_86.1).bind fun l4_89 =>
    (f_Reading_takes w_86.2 (60 : Int32)).bind fun w_97 =>
    if w_97.1 = 0 then (
    f_ParishReader_readLine_113 w_97.2 l1 v_4 l3_79 l4_89 ((-2) : Int32))
    else (
    (f_ParishReader_readOther w_97.2 l1).bind fun w_105 =>
    f_ParishReader_readLine_113 w_105.2 l1 v_4 l3_79 l4_89 w_105.1))
    else (
    (f_Reading_fail S (4 : Int32) (S 3 1)).bind fun w_54 =>
    some w_54))
    else (
    f_ParishReader_readLine_20 S))
set_option maxHeartbeats 4000000 in
set_option maxRecDepth 20000 in
theorem t_ParishReader_readLine  {S : St} {l1 : Int32} {w : St} (h : f_ParishReader_readLine S l1 = some w) : Ct SX m_ParishReader_readLine 4 [.ref 19, .int l1] S none w := by
  unfold f_ParishReader_readLine at h
  refine Ct.of pn_ParishReader (Nat.le_of_ble_eq_true rfl) ?_
  show G SX m_ParishReader_readLine 4 none w 0 [(0, .ref 19), (1, .int l1)] [] S
  refine G_aload_n 0 rfl d_ParishReader_readLine_0 ?_
  refine G_getR fl_ParishReader_18 kx_19 sx_19 rfl (by decide) d_ParishReader_readLine_1 ?_
  obtain ⟨v_4, q_4, h⟩ := ob_b h
  refine G_callV [] [] (t_Reading_sign q_4) (by decide) (by decide) mv_Reading_sign rfl ml_ParishReader_45 kx_3 sx_3 cl_4 rfl (Nat.le_of_ble_eq_true rfl) d_ParishReader_readLine_4 ?_
  refine G_istore_n [(2, .int v_4), (0, .ref 19), (1, .int l1)] rfl rfl (by decide) d_ParishReader_readLine_7 ?_
  refine G_iload_n 0 rfl d_ParishReader_readLine_8 ?_
  refine G_bipush 97 (by decide) d_ParishReader_readLine_9 ?_
  refine G_icmp_lt 20 (by decide) d_ParishReader_readLine_11 (fun c_11 => ?_) (fun c_11 => ?_)
  · replace h := ob_t h c_11
    exact G_sub _ [1] rfl (t_ParishReader_readLine_20 S _ h)
  · replace h := ob_f h c_11
    refine G_iload_n 0 rfl d_ParishReader_readLine_14 ?_
    refine G_bipush 112 (by decide) d_ParishReader_readLine_15 ?_
    refine G_icmp_le 36 (by decide) d_ParishReader_readLine_17 (fun c_17 => ?_) (fun c_17 => ?_)
    · replace h := ob_t h c_17
      refine G_iload_n 2 rfl d_ParishReader_readLine_36 ?_
      refine G_bipush 24 (by decide) d_ParishReader_readLine_37 ?_
      refine G_icmp_lt 58 (by decide) d_ParishReader_readLine_39 (fun c_39 => ?_) (fun c_39 => ?_)
      · replace h := ob_t h c_39
        refine G_aload_n 1 rfl d_ParishReader_readLine_58 ?_
        refine G_getR fl_ParishReader_18 kx_19 sx_19 rfl (by decide) d_ParishReader_readLine_59 ?_
        refine G_dup rfl d_ParishReader_readLine_62 ?_
        refine G_getI fl_ParishReader_49 kx_3 sx_3 rfl d_ParishReader_readLine_63 ?_
        refine G_iconst 1 (by decide) d_ParishReader_readLine_66 ?_
        refine G_iadd d_ParishReader_readLine_67 ?_
        obtain ⟨S_68, e_68, h⟩ := ob_s h
        refine G_putI e_68 fp_ParishReader_49 kx_3 sx_3 rfl d_ParishReader_readLine_68 ?_
        refine G_aload_n 1 rfl d_ParishReader_readLine_71 ?_
        refine G_getR fl_ParishReader_18 kx_19 sx_19 rfl (by decide) d_ParishReader_readLine_72 ?_
        refine G_iconst 3 (by decide) d_ParishReader_readLine_75 ?_
        obtain ⟨w_76, q_76, h⟩ := ob_b h
        refine G_callV [.int 3] [] (t_Reading_number q_76) (by decide) (by decide) mv_Reading_number rfl ml_ParishReader_56 kx_3 sx_3 cl_4 rfl (Nat.le_of_ble_eq_true rfl) d_ParishReader_readLine_76 ?_
        obtain ⟨l3_79, e_79, h⟩ := ob_s h
        refine G_istore_n [(3, .int l3_79), (2, .int v_4), (0, .ref 19), (1, .int l1)] e_79 rfl (by decide) d_ParishReader_readLine_79 ?_
        refine G_aload_n 2 rfl d_ParishReader_readLine_80 ?_
        refine G_getR fl_ParishReader_18 kx_19 sx_19 rfl (by decide) d_ParishReader_readLine_81 ?_
        refine G_bipush 42 (by decide) d_ParishReader_readLine_84 ?_
        obtain ⟨w_86, q_86, h⟩ := ob_b h
        refine G_callV [.int 42] [] (t_Reading_takes q_86) (by decide) (by decide) mv_Reading_takes rfl ml_ParishReader_60 kx_3 sx_3 cl_4 rfl (Nat.le_of_ble_eq_true rfl) d_ParishReader_readLine_86 ?_
        obtain ⟨l4_89, e_89, h⟩ := ob_s h
        refine G_istore [(4, .int l4_89), (3, .int l3_79), (2, .int v_4), (0, .ref 19), (1, .int l1)] e_89 rfl (by decide) d_ParishReader_readLine_89 ?_
        refine G_aload_n 3 rfl d_ParishReader_readLine_91 ?_
        refine G_getR fl_ParishReader_18 kx_19 sx_19 rfl (by decide) d_ParishReader_readLine_92 ?_
        refine G_bipush 60 (by decide) d_ParishReader_readLine_95 ?_
        obtain ⟨w_97, q_97, h⟩ := ob_b h
        refine G_callV [.int 60] [] (t_Reading_takes q_97) (by decide) (by decide) mv_Reading_takes rfl ml_ParishReader_60 kx_3 sx_3 cl_4 rfl (Nat.le_of_ble_eq_true rfl) d_ParishReader_readLine_97 ?_
        refine G_if_eq 111 (by decide) d_ParishReader_readLine_100 (fun c_100 => ?_) (fun c_100 => ?_)
        · replace h := ob_t h c_100
          refine G_bipush (-2) (by decide) d_ParishReader_readLine_111 ?_
          exact G_sub _ [3, 4, 2, 1, 0] rfl (t_ParishReader_readLine_113 w_97.2 l1 v_4 l3_79 l4_89 ((-2) : Int32) _ h)
        · replace h := ob_f h c_100
          refine G_aload_n 3 rfl d_ParishReader_readLine_103 ?_
          refine G_iload_n 4 rfl d_ParishReader_readLine_104 ?_
          obtain ⟨w_105, q_105, h⟩ := ob_b h
          refine G_callV [.int l1] [] (t_ParishReader_readOther q_105) (by decide) (by decide) mv_ParishReader_readOther rfl ml_ParishReader_64 kx_19 sx_19 cl_3 rfl (Nat.le_of_ble_eq_true rfl) d_ParishReader_readLine_105 ?_
          refine G_goto 113 (by decide) d_ParishReader_readLine_108 ?_
          exact G_sub _ [3, 4, 2, 1, 0] rfl (t_ParishReader_readLine_113 w_105.2 l1 v_4 l3_79 l4_89 w_105.1 _ h)
      · replace h := ob_f h c_39
        refine G_aload_n 1 rfl d_ParishReader_readLine_42 ?_
        refine G_getR fl_ParishReader_18 kx_19 sx_19 rfl (by decide) d_ParishReader_readLine_43 ?_
        refine G_iconst 4 (by decide) d_ParishReader_readLine_46 ?_
        refine G_aload_n 1 rfl d_ParishReader_readLine_47 ?_
        refine G_getR fl_ParishReader_18 kx_19 sx_19 rfl (by decide) d_ParishReader_readLine_48 ?_
        refine G_getI fl_ParishReader_49 kx_3 sx_3 rfl d_ParishReader_readLine_51 ?_
        obtain ⟨w_54, q_54, h⟩ := ob_b h
        refine G_callV [.int 4, .int (S 3 1)] [] (t_Reading_fail q_54) (by decide) (by decide) mv_Reading_fail rfl ml_ParishReader_52 kx_3 sx_3 cl_4 rfl (Nat.le_of_ble_eq_true rfl) d_ParishReader_readLine_54 ?_
        cases h
        exact G_vret rfl d_ParishReader_readLine_57
    · replace h := ob_f h c_17
      exact G_sub _ [1] rfl (t_ParishReader_readLine_20 S _ h)
theorem d_ParishReader_read_0 : decode m_ParishReader_read.2.1 0 = .ok (.aload_n 0, 1) := by decide +kernel
theorem d_ParishReader_read_1 : decode m_ParishReader_read.2.1 1 = .ok (.getfield 18, 3) := by decide +kernel
theorem d_ParishReader_read_4 : decode m_ParishReader_read.2.1 4 = .ok (.invokevirtual 22, 3) := by decide +kernel
theorem d_ParishReader_read_7 : decode m_ParishReader_read.2.1 7 = .ok (.aload_n 0, 1) := by decide +kernel
theorem d_ParishReader_read_8 : decode m_ParishReader_read.2.1 8 = .ok (.getfield 12, 3) := by decide +kernel
theorem d_ParishReader_read_11 : decode m_ParishReader_read.2.1 11 = .ok (.iconst 0, 1) := by decide +kernel
theorem d_ParishReader_read_12 : decode m_ParishReader_read.2.1 12 = .ok (.putfield 27, 3) := by decide +kernel
theorem d_ParishReader_read_15 : decode m_ParishReader_read.2.1 15 = .ok (.aload_n 0, 1) := by decide +kernel
theorem d_ParishReader_read_16 : decode m_ParishReader_read.2.1 16 = .ok (.getfield 12, 3) := by decide +kernel
theorem d_ParishReader_read_19 : decode m_ParishReader_read.2.1 19 = .ok (.iconst 0, 1) := by decide +kernel
theorem d_ParishReader_read_20 : decode m_ParishReader_read.2.1 20 = .ok (.putfield 31, 3) := by decide +kernel
theorem d_ParishReader_read_23 : decode m_ParishReader_read.2.1 23 = .ok (.iconst 1, 1) := by decide +kernel
theorem d_ParishReader_read_24 : decode m_ParishReader_read.2.1 24 = .ok (.istore_n 1, 1) := by decide +kernel
theorem d_ParishReader_read_25 : decode m_ParishReader_read.2.1 25 = .ok (.iconst 0, 1) := by decide +kernel
theorem d_ParishReader_read_26 : decode m_ParishReader_read.2.1 26 = .ok (.istore_n 2, 1) := by decide +kernel
theorem d_ParishReader_read_27 : decode m_ParishReader_read.2.1 27 = .ok (.iload_n 2, 1) := by decide +kernel
theorem d_ParishReader_read_28 : decode m_ParishReader_read.2.1 28 = .ok (.bipush 24, 2) := by decide +kernel
theorem d_ParishReader_read_30 : decode m_ParishReader_read.2.1 30 = .ok (.if_icmp .gt 26, 3) := by decide +kernel
theorem d_ParishReader_read_33 : decode m_ParishReader_read.2.1 33 = .ok (.iload_n 1, 1) := by decide +kernel
theorem d_ParishReader_read_34 : decode m_ParishReader_read.2.1 34 = .ok (.ifCond .eq 22, 3) := by decide +kernel
theorem d_ParishReader_read_37 : decode m_ParishReader_read.2.1 37 = .ok (.aload_n 0, 1) := by decide +kernel
theorem d_ParishReader_read_38 : decode m_ParishReader_read.2.1 38 = .ok (.iload_n 2, 1) := by decide +kernel
theorem d_ParishReader_read_39 : decode m_ParishReader_read.2.1 39 = .ok (.invokevirtual 34, 3) := by decide +kernel
theorem d_ParishReader_read_42 : decode m_ParishReader_read.2.1 42 = .ok (.aload_n 0, 1) := by decide +kernel
theorem d_ParishReader_read_43 : decode m_ParishReader_read.2.1 43 = .ok (.getfield 18, 3) := by decide +kernel
theorem d_ParishReader_read_46 : decode m_ParishReader_read.2.1 46 = .ok (.invokevirtual 38, 3) := by decide +kernel
theorem d_ParishReader_read_49 : decode m_ParishReader_read.2.1 49 = .ok (.istore_n 1, 1) := by decide +kernel
theorem d_ParishReader_read_50 : decode m_ParishReader_read.2.1 50 = .ok (.iinc 2 1, 3) := by decide +kernel
theorem d_ParishReader_read_53 : decode m_ParishReader_read.2.1 53 = .ok (.goto (-26), 3) := by decide +kernel
theorem d_ParishReader_read_56 : decode m_ParishReader_read.2.1 56 = .ok (.aload_n 0, 1) := by decide +kernel
theorem d_ParishReader_read_57 : decode m_ParishReader_read.2.1 57 = .ok (.getfield 18, 3) := by decide +kernel
theorem d_ParishReader_read_60 : decode m_ParishReader_read.2.1 60 = .ok (.getfield 42, 3) := by decide +kernel
theorem d_ParishReader_read_63 : decode m_ParishReader_read.2.1 63 = .ok (.ireturn, 1) := by decide +kernel
def f_ParishReader_read_27 : Nat → St → Int32 → Int32 → Option (Int32 × St)
  | 0, _, _, _ => none
  | n + 1, S, l1, l2 =>
    if (24 : Int32) < l2 then (
    some ((S 3 2), S))
    else (
    if l1 = 0 then (
    some ((S 3 2), S))
    else (
    (f_ParishReader_readLine S l2).bind fun w_39 =>
    (f_Reading_goesOn w_39).bind fun w_46 =>
    (some w_46.1).bind fun l1_49 =>
    (some (l2 + 1)).bind fun l2_50 =>
    f_ParishReader_read_27 n w_46.2 l1_49 l2_50))
set_option maxHeartbeats 4000000 in
set_option maxRecDepth 20000 in
theorem t_ParishReader_read_27  : ∀ (n : Nat) (S : St) (l1 : Int32) (l2 : Int32) (w : Int32 × St), f_ParishReader_read_27 n S l1 l2 = some w → G SX m_ParishReader_read 5 (some w.1) w.2 27 [(0, .ref 19), (1, .int l1), (2, .int l2)] [] S := by
  intro n
  induction n with
  | zero =>
    intro S l1 l2 w h
    rw [f_ParishReader_read_27] at h
    cases h
  | succ n ih =>
    intro S l1 l2 w h
    rw [f_ParishReader_read_27] at h
    refine G_iload_n 2 rfl d_ParishReader_read_27 ?_
    refine G_bipush 24 (by decide) d_ParishReader_read_28 ?_
    refine G_icmp_gt 56 (by decide) d_ParishReader_read_30 (fun c_30 => ?_) (fun c_30 => ?_)
    · replace h := ob_t h c_30
      refine G_aload_n 0 rfl d_ParishReader_read_56 ?_
      refine G_getR fl_ParishReader_18 kx_19 sx_19 rfl (by decide) d_ParishReader_read_57 ?_
      refine G_getI fl_ParishReader_42 kx_3 sx_3 rfl d_ParishReader_read_60 ?_
      cases h
      exact G_iret rfl d_ParishReader_read_63
    · replace h := ob_f h c_30
      refine G_iload_n 1 rfl d_ParishReader_read_33 ?_
      refine G_if_eq 56 (by decide) d_ParishReader_read_34 (fun c_34 => ?_) (fun c_34 => ?_)
      · replace h := ob_t h c_34
        refine G_aload_n 0 rfl d_ParishReader_read_56 ?_
        refine G_getR fl_ParishReader_18 kx_19 sx_19 rfl (by decide) d_ParishReader_read_57 ?_
        refine G_getI fl_ParishReader_42 kx_3 sx_3 rfl d_ParishReader_read_60 ?_
        cases h
        exact G_iret rfl d_ParishReader_read_63
      · replace h := ob_f h c_34
        refine G_aload_n 0 rfl d_ParishReader_read_37 ?_
        refine G_iload_n 2 rfl d_ParishReader_read_38 ?_
        obtain ⟨w_39, q_39, h⟩ := ob_b h
        refine G_callV [.int l2] [] (t_ParishReader_readLine q_39) (by decide) (by decide) mv_ParishReader_readLine rfl ml_ParishReader_34 kx_19 sx_19 cl_3 rfl (Nat.le_of_ble_eq_true rfl) d_ParishReader_read_39 ?_
        refine G_aload_n 0 rfl d_ParishReader_read_42 ?_
        refine G_getR fl_ParishReader_18 kx_19 sx_19 rfl (by decide) d_ParishReader_read_43 ?_
        obtain ⟨w_46, q_46, h⟩ := ob_b h
        refine G_callV [] [] (t_Reading_goesOn q_46) (by decide) (by decide) mv_Reading_goesOn rfl ml_ParishReader_38 kx_3 sx_3 cl_4 rfl (Nat.le_of_ble_eq_true rfl) d_ParishReader_read_46 ?_
        obtain ⟨l1_49, e_49, h⟩ := ob_s h
        refine G_istore_n [(1, .int l1_49), (0, .ref 19), (2, .int l2)] e_49 rfl (by decide) d_ParishReader_read_49 ?_
        obtain ⟨l2_50, e_50, h⟩ := ob_s h
        refine G_iinc 1 2 [(2, .int l2_50), (1, .int l1_49), (0, .ref 19)] (by decide) rfl e_50 rfl (by decide) d_ParishReader_read_50 ?_
        refine G_goto 27 (by decide) d_ParishReader_read_53 ?_
        exact G_sub _ [2, 1, 0] rfl (ih w_46.2 l1_49 l2_50 _ h)
def f_ParishReader_read (S : St) : Option (Int32 × St) :=
    (f_Reading_begin S).bind fun w_4 =>
    (some (sF w_4 20 4 0)).bind fun S_12 =>
    (some (sF S_12 20 6 0)).bind fun S_20 =>
    (some (1 : Int32)).bind fun l1_24 =>
    (some (0 : Int32)).bind fun l2_26 =>
    f_ParishReader_read_27 FU S_20 l1_24 l2_26
set_option maxHeartbeats 4000000 in
set_option maxRecDepth 20000 in
theorem t_ParishReader_read  {S : St} {w : Int32 × St} (h : f_ParishReader_read S = some w) : Ct SX m_ParishReader_read 5 [.ref 19] S (some w.1) w.2 := by
  unfold f_ParishReader_read at h
  refine Ct.of pn_ParishReader (Nat.le_of_ble_eq_true rfl) ?_
  show G SX m_ParishReader_read 5 (some w.1) w.2 0 [(0, .ref 19)] [] S
  refine G_aload_n 0 rfl d_ParishReader_read_0 ?_
  refine G_getR fl_ParishReader_18 kx_19 sx_19 rfl (by decide) d_ParishReader_read_1 ?_
  obtain ⟨w_4, q_4, h⟩ := ob_b h
  refine G_callV [] [] (t_Reading_begin q_4) (by decide) (by decide) mv_Reading_begin rfl ml_ParishReader_22 kx_3 sx_3 cl_4 rfl (Nat.le_of_ble_eq_true rfl) d_ParishReader_read_4 ?_
  refine G_aload_n 0 rfl d_ParishReader_read_7 ?_
  refine G_getR fl_ParishReader_12 kx_19 sx_19 rfl (by decide) d_ParishReader_read_8 ?_
  refine G_iconst 0 (by decide) d_ParishReader_read_11 ?_
  obtain ⟨S_12, e_12, h⟩ := ob_s h
  refine G_putI e_12 fp_ParishReader_27 kx_20 sx_20 rfl d_ParishReader_read_12 ?_
  refine G_aload_n 0 rfl d_ParishReader_read_15 ?_
  refine G_getR fl_ParishReader_12 kx_19 sx_19 rfl (by decide) d_ParishReader_read_16 ?_
  refine G_iconst 0 (by decide) d_ParishReader_read_19 ?_
  obtain ⟨S_20, e_20, h⟩ := ob_s h
  refine G_putI e_20 fp_ParishReader_31 kx_20 sx_20 rfl d_ParishReader_read_20 ?_
  refine G_iconst 1 (by decide) d_ParishReader_read_23 ?_
  obtain ⟨l1_24, e_24, h⟩ := ob_s h
  refine G_istore_n [(1, .int l1_24), (0, .ref 19)] e_24 rfl (by decide) d_ParishReader_read_24 ?_
  refine G_iconst 0 (by decide) d_ParishReader_read_25 ?_
  obtain ⟨l2_26, e_26, h⟩ := ob_s h
  refine G_istore_n [(2, .int l2_26), (1, .int l1_24), (0, .ref 19)] e_26 rfl (by decide) d_ParishReader_read_26 ?_
  exact G_sub _ [2, 1, 0] rfl (t_ParishReader_read_27 FU S_20 l1_24 l2_26 _ h)
