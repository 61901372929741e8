theorem d_Mo_orders_0 : decode m_Mo_orders.2.1 0 = .ok (.iconst 0, 1) := by decide +kernel
theorem d_Mo_orders_1 : decode m_Mo_orders.2.1 1 = .ok (.istore_n 1, 1) := by decide +kernel
theorem d_Mo_orders_2 : decode m_Mo_orders.2.1 2 = .ok (.iconst 0, 1) := by decide +kernel
theorem d_Mo_orders_3 : decode m_Mo_orders.2.1 3 = .ok (.istore_n 2, 1) := by decide +kernel
theorem d_Mo_orders_4 : decode m_Mo_orders.2.1 4 = .ok (.iload_n 2, 1) := by decide +kernel
theorem d_Mo_orders_5 : decode m_Mo_orders.2.1 5 = .ok (.aload_n 0, 1) := by decide +kernel
theorem d_Mo_orders_6 : decode m_Mo_orders.2.1 6 = .ok (.getfield 120, 3) := by decide +kernel
theorem d_Mo_orders_9 : decode m_Mo_orders.2.1 9 = .ok (.if_icmp .ge 40, 3) := by decide +kernel
theorem d_Mo_orders_12 : decode m_Mo_orders.2.1 12 = .ok (.aload_n 0, 1) := by decide +kernel
theorem d_Mo_orders_13 : decode m_Mo_orders.2.1 13 = .ok (.iload_n 2, 1) := by decide +kernel
theorem d_Mo_orders_14 : decode m_Mo_orders.2.1 14 = .ok (.invokevirtual 132, 3) := by decide +kernel
theorem d_Mo_orders_17 : decode m_Mo_orders.2.1 17 = .ok (.ifCond .ne 6, 3) := by decide +kernel
theorem d_Mo_orders_20 : decode m_Mo_orders.2.1 20 = .ok (.goto 23, 3) := by decide +kernel
theorem d_Mo_orders_23 : decode m_Mo_orders.2.1 23 = .ok (.iload_n 1, 1) := by decide +kernel
theorem d_Mo_orders_24 : decode m_Mo_orders.2.1 24 = .ok (.bipush 12, 2) := by decide +kernel
theorem d_Mo_orders_26 : decode m_Mo_orders.2.1 26 = .ok (.if_icmp .ne 6, 3) := by decide +kernel
theorem d_Mo_orders_29 : decode m_Mo_orders.2.1 29 = .ok (.bipush (-4), 2) := by decide +kernel
theorem d_Mo_orders_31 : decode m_Mo_orders.2.1 31 = .ok (.ireturn, 1) := by decide +kernel
theorem d_Mo_orders_32 : decode m_Mo_orders.2.1 32 = .ok (.aload_n 0, 1) := by decide +kernel
theorem d_Mo_orders_33 : decode m_Mo_orders.2.1 33 = .ok (.getfield 80, 3) := by decide +kernel
theorem d_Mo_orders_36 : decode m_Mo_orders.2.1 36 = .ok (.iload_n 1, 1) := by decide +kernel
theorem d_Mo_orders_37 : decode m_Mo_orders.2.1 37 = .ok (.iload_n 2, 1) := by decide +kernel
theorem d_Mo_orders_38 : decode m_Mo_orders.2.1 38 = .ok (.iastore, 1) := by decide +kernel
theorem d_Mo_orders_39 : decode m_Mo_orders.2.1 39 = .ok (.iload_n 1, 1) := by decide +kernel
theorem d_Mo_orders_40 : decode m_Mo_orders.2.1 40 = .ok (.iconst 1, 1) := by decide +kernel
theorem d_Mo_orders_41 : decode m_Mo_orders.2.1 41 = .ok (.iadd, 1) := by decide +kernel
theorem d_Mo_orders_42 : decode m_Mo_orders.2.1 42 = .ok (.istore_n 1, 1) := by decide +kernel
theorem d_Mo_orders_43 : decode m_Mo_orders.2.1 43 = .ok (.iinc 2 1, 3) := by decide +kernel
theorem d_Mo_orders_46 : decode m_Mo_orders.2.1 46 = .ok (.goto (-42), 3) := by decide +kernel
theorem d_Mo_orders_49 : decode m_Mo_orders.2.1 49 = .ok (.iconst 0, 1) := by decide +kernel
theorem d_Mo_orders_50 : decode m_Mo_orders.2.1 50 = .ok (.istore_n 2, 1) := by decide +kernel
theorem d_Mo_orders_51 : decode m_Mo_orders.2.1 51 = .ok (.iload_n 2, 1) := by decide +kernel
theorem d_Mo_orders_52 : decode m_Mo_orders.2.1 52 = .ok (.iconst 1, 1) := by decide +kernel
theorem d_Mo_orders_53 : decode m_Mo_orders.2.1 53 = .ok (.iload_n 1, 1) := by decide +kernel
theorem d_Mo_orders_54 : decode m_Mo_orders.2.1 54 = .ok (.ishl, 1) := by decide +kernel
theorem d_Mo_orders_55 : decode m_Mo_orders.2.1 55 = .ok (.if_icmp .ge 117, 3) := by decide +kernel
theorem d_Mo_orders_58 : decode m_Mo_orders.2.1 58 = .ok (.aload_n 0, 1) := by decide +kernel
theorem d_Mo_orders_59 : decode m_Mo_orders.2.1 59 = .ok (.getfield 83, 3) := by decide +kernel
theorem d_Mo_orders_62 : decode m_Mo_orders.2.1 62 = .ok (.iload_n 2, 1) := by decide +kernel
theorem d_Mo_orders_63 : decode m_Mo_orders.2.1 63 = .ok (.iload_n 2, 1) := by decide +kernel
theorem d_Mo_orders_64 : decode m_Mo_orders.2.1 64 = .ok (.ifCond .ne 7, 3) := by decide +kernel
theorem d_Mo_orders_67 : decode m_Mo_orders.2.1 67 = .ok (.iconst 1, 1) := by decide +kernel
theorem d_Mo_orders_68 : decode m_Mo_orders.2.1 68 = .ok (.goto 4, 3) := by decide +kernel
theorem d_Mo_orders_71 : decode m_Mo_orders.2.1 71 = .ok (.iconst 0, 1) := by decide +kernel
theorem d_Mo_orders_72 : decode m_Mo_orders.2.1 72 = .ok (.iastore, 1) := by decide +kernel
theorem d_Mo_orders_73 : decode m_Mo_orders.2.1 73 = .ok (.iconst 0, 1) := by decide +kernel
theorem d_Mo_orders_74 : decode m_Mo_orders.2.1 74 = .ok (.istore_n 3, 1) := by decide +kernel
theorem d_Mo_orders_75 : decode m_Mo_orders.2.1 75 = .ok (.iload_n 3, 1) := by decide +kernel
theorem d_Mo_orders_76 : decode m_Mo_orders.2.1 76 = .ok (.iload_n 1, 1) := by decide +kernel
theorem d_Mo_orders_77 : decode m_Mo_orders.2.1 77 = .ok (.if_icmp .ge 89, 3) := by decide +kernel
theorem d_Mo_orders_80 : decode m_Mo_orders.2.1 80 = .ok (.aload_n 0, 1) := by decide +kernel
theorem d_Mo_orders_81 : decode m_Mo_orders.2.1 81 = .ok (.getfield 22, 3) := by decide +kernel
theorem d_Mo_orders_84 : decode m_Mo_orders.2.1 84 = .ok (.aload_n 0, 1) := by decide +kernel
theorem d_Mo_orders_85 : decode m_Mo_orders.2.1 85 = .ok (.getfield 80, 3) := by decide +kernel
theorem d_Mo_orders_88 : decode m_Mo_orders.2.1 88 = .ok (.iload_n 3, 1) := by decide +kernel
theorem d_Mo_orders_89 : decode m_Mo_orders.2.1 89 = .ok (.iaload, 1) := by decide +kernel
theorem d_Mo_orders_90 : decode m_Mo_orders.2.1 90 = .ok (.iaload, 1) := by decide +kernel
theorem d_Mo_orders_91 : decode m_Mo_orders.2.1 91 = .ok (.iconst (-1), 1) := by decide +kernel
theorem d_Mo_orders_92 : decode m_Mo_orders.2.1 92 = .ok (.if_icmp .ne 7, 3) := by decide +kernel
theorem d_Mo_orders_95 : decode m_Mo_orders.2.1 95 = .ok (.iconst (-1), 1) := by decide +kernel
theorem d_Mo_orders_96 : decode m_Mo_orders.2.1 96 = .ok (.goto 19, 3) := by decide +kernel
theorem d_Mo_orders_99 : decode m_Mo_orders.2.1 99 = .ok (.aload_n 0, 1) := by decide +kernel
theorem d_Mo_orders_100 : decode m_Mo_orders.2.1 100 = .ok (.aload_n 0, 1) := by decide +kernel
theorem d_Mo_orders_101 : decode m_Mo_orders.2.1 101 = .ok (.getfield 22, 3) := by decide +kernel
theorem d_Mo_orders_104 : decode m_Mo_orders.2.1 104 = .ok (.aload_n 0, 1) := by decide +kernel
theorem d_Mo_orders_105 : decode m_Mo_orders.2.1 105 = .ok (.getfield 80, 3) := by decide +kernel
theorem d_Mo_orders_108 : decode m_Mo_orders.2.1 108 = .ok (.iload_n 3, 1) := by decide +kernel
theorem d_Mo_orders_109 : decode m_Mo_orders.2.1 109 = .ok (.iaload, 1) := by decide +kernel
theorem d_Mo_orders_110 : decode m_Mo_orders.2.1 110 = .ok (.iaload, 1) := by decide +kernel
theorem d_Mo_orders_111 : decode m_Mo_orders.2.1 111 = .ok (.iload_n 1, 1) := by decide +kernel
theorem d_Mo_orders_112 : decode m_Mo_orders.2.1 112 = .ok (.invokevirtual 311, 3) := by decide +kernel
theorem d_Mo_orders_115 : decode m_Mo_orders.2.1 115 = .ok (.istore 4, 2) := by decide +kernel
theorem d_Mo_orders_117 : decode m_Mo_orders.2.1 117 = .ok (.iload_n 2, 1) := by decide +kernel
theorem d_Mo_orders_118 : decode m_Mo_orders.2.1 118 = .ok (.iload_n 3, 1) := by decide +kernel
theorem d_Mo_orders_119 : decode m_Mo_orders.2.1 119 = .ok (.invokestatic 314, 3) := by decide +kernel
theorem d_Mo_orders_122 : decode m_Mo_orders.2.1 122 = .ok (.ifCond .eq 38, 3) := by decide +kernel
theorem d_Mo_orders_125 : decode m_Mo_orders.2.1 125 = .ok (.iload 4, 2) := by decide +kernel
theorem d_Mo_orders_127 : decode m_Mo_orders.2.1 127 = .ok (.iconst (-1), 1) := by decide +kernel
theorem d_Mo_orders_128 : decode m_Mo_orders.2.1 128 = .ok (.if_icmp .eq 12, 3) := by decide +kernel
theorem d_Mo_orders_131 : decode m_Mo_orders.2.1 131 = .ok (.iload_n 2, 1) := by decide +kernel
theorem d_Mo_orders_132 : decode m_Mo_orders.2.1 132 = .ok (.iload 4, 2) := by decide +kernel
theorem d_Mo_orders_134 : decode m_Mo_orders.2.1 134 = .ok (.invokestatic 314, 3) := by decide +kernel
theorem d_Mo_orders_137 : decode m_Mo_orders.2.1 137 = .ok (.ifCond .eq 23, 3) := by decide +kernel
theorem d_Mo_orders_140 : decode m_Mo_orders.2.1 140 = .ok (.aload_n 0, 1) := by decide +kernel
theorem d_Mo_orders_141 : decode m_Mo_orders.2.1 141 = .ok (.getfield 83, 3) := by decide +kernel
theorem d_Mo_orders_144 : decode m_Mo_orders.2.1 144 = .ok (.iload_n 2, 1) := by decide +kernel
theorem d_Mo_orders_145 : decode m_Mo_orders.2.1 145 = .ok (.aload_n 0, 1) := by decide +kernel
theorem d_Mo_orders_146 : decode m_Mo_orders.2.1 146 = .ok (.getfield 83, 3) := by decide +kernel
theorem d_Mo_orders_149 : decode m_Mo_orders.2.1 149 = .ok (.iload_n 2, 1) := by decide +kernel
theorem d_Mo_orders_150 : decode m_Mo_orders.2.1 150 = .ok (.iaload, 1) := by decide +kernel
theorem d_Mo_orders_151 : decode m_Mo_orders.2.1 151 = .ok (.aload_n 0, 1) := by decide +kernel
theorem d_Mo_orders_152 : decode m_Mo_orders.2.1 152 = .ok (.iload_n 2, 1) := by decide +kernel
theorem d_Mo_orders_153 : decode m_Mo_orders.2.1 153 = .ok (.iload_n 3, 1) := by decide +kernel
theorem d_Mo_orders_154 : decode m_Mo_orders.2.1 154 = .ok (.iload_n 1, 1) := by decide +kernel
theorem d_Mo_orders_155 : decode m_Mo_orders.2.1 155 = .ok (.invokevirtual 317, 3) := by decide +kernel
theorem d_Mo_orders_158 : decode m_Mo_orders.2.1 158 = .ok (.iadd, 1) := by decide +kernel
theorem d_Mo_orders_159 : decode m_Mo_orders.2.1 159 = .ok (.iastore, 1) := by decide +kernel
theorem d_Mo_orders_160 : decode m_Mo_orders.2.1 160 = .ok (.iinc 3 1, 3) := by decide +kernel
theorem d_Mo_orders_163 : decode m_Mo_orders.2.1 163 = .ok (.goto (-88), 3) := by decide +kernel
theorem d_Mo_orders_166 : decode m_Mo_orders.2.1 166 = .ok (.iinc 2 1, 3) := by decide +kernel
theorem d_Mo_orders_169 : decode m_Mo_orders.2.1 169 = .ok (.goto (-118), 3) := by decide +kernel
theorem d_Mo_orders_172 : decode m_Mo_orders.2.1 172 = .ok (.aload_n 0, 1) := by decide +kernel
theorem d_Mo_orders_173 : decode m_Mo_orders.2.1 173 = .ok (.getfield 83, 3) := by decide +kernel
theorem d_Mo_orders_176 : decode m_Mo_orders.2.1 176 = .ok (.iconst 1, 1) := by decide +kernel
theorem d_Mo_orders_177 : decode m_Mo_orders.2.1 177 = .ok (.iload_n 1, 1) := by decide +kernel
theorem d_Mo_orders_178 : decode m_Mo_orders.2.1 178 = .ok (.ishl, 1) := by decide +kernel
theorem d_Mo_orders_179 : decode m_Mo_orders.2.1 179 = .ok (.iconst 1, 1) := by decide +kernel
theorem d_Mo_orders_180 : decode m_Mo_orders.2.1 180 = .ok (.isub, 1) := by decide +kernel
theorem d_Mo_orders_181 : decode m_Mo_orders.2.1 181 = .ok (.iaload, 1) := by decide +kernel
theorem d_Mo_orders_182 : decode m_Mo_orders.2.1 182 = .ok (.ireturn, 1) := by decide +kernel
def f_Mo_orders_43 (k_4 : St → Int32 → Int32 → Option (Int32 × St)) (S : St) (l1 : Int32) (l2 : Int32) : Option (Int32 × St) :=
    (some (l2 + 1)).bind fun l2_43 =>
    k_4 S l1 l2_43
set_option maxHeartbeats 4000000 in
set_option maxRecDepth 20000 in
theorem t_Mo_orders_43  {k_4 : St → Int32 → Int32 → Option (Int32 × St)} (hk_4 : ∀ (S : St) (l1 : Int32) (l2 : Int32) (w : Int32 × St), k_4 S l1 l2 = some w → G SM m_Mo_orders 4 (some w.1) w.2 4 [(0, .ref 0), (1, .int l1), (2, .int l2)] [] S) (S : St) (l1 : Int32) (l2 : Int32) (w : Int32 × St) (h : f_Mo_orders_43 k_4 S l1 l2 = some w) : G SM m_Mo_orders 4 (some w.1) w.2 43 [(0, .ref 0), (1, .int l1), (2, .int l2)] [] S := by
  unfold f_Mo_orders_43 at h
  obtain ⟨l2_43, e_43, h⟩ := ob_s h
  refine G_iinc 1 2 [(2, .int l2_43), (0, .ref 0), (1, .int l1)] (by decide) rfl e_43 rfl (by decide) d_Mo_orders_43 ?_
  refine G_goto 4 (by decide) d_Mo_orders_46 ?_
  exact G_sub _ [1, 2, 0] rfl (hk_4 S l1 l2_43 _ h)
def f_Mo_orders_160 (k_51 : St → Int32 → Int32 → Option (Int32 × St)) (k_75 : St → Int32 → Int32 → Int32 → Option (Int32 × St)) (S : St) (l1 : Int32) (l2 : Int32) (l3 : Int32) : Option (Int32 × St) :=
    (some (l3 + 1)).bind fun l3_160 =>
    k_75 S l1 l2 l3_160
set_option maxHeartbeats 4000000 in
set_option maxRecDepth 20000 in
theorem t_Mo_orders_160  {k_51 : St → Int32 → Int32 → Option (Int32 × St)} {k_75 : St → Int32 → Int32 → Int32 → Option (Int32 × St)} (hk_51 : ∀ (S : St) (l1 : Int32) (l2 : Int32) (w : Int32 × St), k_51 S l1 l2 = some w → G SM m_Mo_orders 4 (some w.1) w.2 51 [(0, .ref 0), (1, .int l1), (2, .int l2)] [] S) (hk_75 : ∀ (S : St) (l1 : Int32) (l2 : Int32) (l3 : Int32) (w : Int32 × St), k_75 S l1 l2 l3 = some w → G SM m_Mo_orders 4 (some w.1) w.2 75 [(0, .ref 0), (1, .int l1), (2, .int l2), (3, .int l3)] [] S) (S : St) (l1 : Int32) (l2 : Int32) (l3 : Int32) (w : Int32 × St) (h : f_Mo_orders_160 k_51 k_75 S l1 l2 l3 = some w) : G SM m_Mo_orders 4 (some w.1) w.2 160 [(0, .ref 0), (1, .int l1), (2, .int l2), (3, .int l3)] [] S := by
  unfold f_Mo_orders_160 at h
  obtain ⟨l3_160, e_160, h⟩ := ob_s h
  refine G_iinc 1 3 [(3, .int l3_160), (0, .ref 0), (1, .int l1), (2, .int l2)] (by decide) rfl e_160 rfl (by decide) d_Mo_orders_160 ?_
  refine G_goto 75 (by decide) d_Mo_orders_163 ?_
  exact G_sub _ [1, 2, 3, 0] rfl (hk_75 S l1 l2 l3_160 _ h)
def f_Mo_orders_140 (k_51 : St → Int32 → Int32 → Option (Int32 × St)) (k_75 : St → Int32 → Int32 → Int32 → Option (Int32 × St)) (S : St) (l1 : Int32) (l2 : Int32) (l3 : Int32) : Option (Int32 × St) :=
    if ig l2 4096 then (
    (f_Mo_waysTo S l2 l3 l1).bind fun v_155 =>
    if ig l2 4096 then (
    (some (sF S 25 l2.toNatClampNeg ((S 25 l2.toNatClampNeg) + v_155))).bind fun S_159 =>
    f_Mo_orders_160 k_51 k_75 S_159 l1 l2 l3) else none) else none
set_option maxHeartbeats 4000000 in
set_option maxRecDepth 20000 in
theorem t_Mo_orders_140  {k_51 : St → Int32 → Int32 → Option (Int32 × St)} {k_75 : St → Int32 → Int32 → Int32 → Option (Int32 × St)} (hk_51 : ∀ (S : St) (l1 : Int32) (l2 : Int32) (w : Int32 × St), k_51 S l1 l2 = some w → G SM m_Mo_orders 4 (some w.1) w.2 51 [(0, .ref 0), (1, .int l1), (2, .int l2)] [] S) (hk_75 : ∀ (S : St) (l1 : Int32) (l2 : Int32) (l3 : Int32) (w : Int32 × St), k_75 S l1 l2 l3 = some w → G SM m_Mo_orders 4 (some w.1) w.2 75 [(0, .ref 0), (1, .int l1), (2, .int l2), (3, .int l3)] [] S) (S : St) (l1 : Int32) (l2 : Int32) (l3 : Int32) (w : Int32 × St) (h : f_Mo_orders_140 k_51 k_75 S l1 l2 l3 = some w) : G SM m_Mo_orders 4 (some w.1) w.2 140 [(0, .ref 0), (1, .int l1), (2, .int l2), (3, .int l3)] [] S := by
  unfold f_Mo_orders_140 at h
  refine G_aload_n 0 rfl d_Mo_orders_140 ?_
  refine G_getR fl_Mo_83 km_0 sm_0 rfl (by decide) d_Mo_orders_141 ?_
  refine G_iload_n 2 rfl d_Mo_orders_144 ?_
  refine G_aload_n 0 rfl d_Mo_orders_145 ?_
  refine G_getR fl_Mo_83 km_0 sm_0 rfl (by decide) d_Mo_orders_146 ?_
  refine G_iload_n 2 rfl d_Mo_orders_149 ?_
  obtain ⟨g_150, h⟩ := ob_g h
  refine G_iaload km_25 sm_25 g_150 d_Mo_orders_150 ?_
  refine G_aload_n 0 rfl d_Mo_orders_151 ?_
  refine G_iload_n 2 rfl d_Mo_orders_152 ?_
  refine G_iload_n 3 rfl d_Mo_orders_153 ?_
  refine G_iload_n 1 rfl d_Mo_orders_154 ?_
  obtain ⟨v_155, q_155, h⟩ := ob_b h
  refine G_callV [.int l2, .int l3, .int l1] [.int (S 25 l2.toNatClampNeg), .int l2, .ref 25] (t_Mo_waysTo q_155) (by decide) (by decide) mv_Mo_waysTo rfl ml_Mo_317 km_0 sm_0 cl_12 rfl (Nat.le_of_ble_eq_true rfl) d_Mo_orders_155 ?_
  refine G_iadd d_Mo_orders_158 ?_
  obtain ⟨g_159, h⟩ := ob_g h
  obtain ⟨S_159, e_159, h⟩ := ob_s h
  refine G_iastore e_159 km_25 sm_25 g_159 d_Mo_orders_159 ?_
  exact G_sub _ [0, 1, 2, 3] rfl (t_Mo_orders_160 hk_51 hk_75 S_159 l1 l2 l3 _ h)
def f_Mo_orders_115 (k_51 : St → Int32 → Int32 → Option (Int32 × St)) (k_75 : St → Int32 → Int32 → Int32 → Option (Int32 × St)) (S : St) (l1 : Int32) (l2 : Int32) (l3 : Int32) (s0 : Int32) : Option (Int32 × St) :=
    (f_Mo_has S l2 l3).bind fun v_119 =>
    if v_119 = 0 then (
    f_Mo_orders_160 k_51 k_75 S l1 l2 l3)
    else (
    if s0 = (-1) then (
    f_Mo_orders_140 k_51 k_75 S l1 l2 l3)
    else (
    (f_Mo_has S l2 s0).bind fun v_134 =>
    if v_134 = 0 then (
    f_Mo_orders_160 k_51 k_75 S l1 l2 l3)
    else (
    f_Mo_orders_140 k_51 k_75 S l1 l2 l3)))
set_option maxHeartbeats 4000000 in
set_option maxRecDepth 20000 in
theorem t_Mo_orders_115  {k_51 : St → Int32 → Int32 → Option (Int32 × St)} {k_75 : St → Int32 → Int32 → Int32 → Option (Int32 × St)} (hk_51 : ∀ (S : St) (l1 : Int32) (l2 : Int32) (w : Int32 × St), k_51 S l1 l2 = some w → G SM m_Mo_orders 4 (some w.1) w.2 51 [(0, .ref 0), (1, .int l1), (2, .int l2)] [] S) (hk_75 : ∀ (S : St) (l1 : Int32) (l2 : Int32) (l3 : Int32) (w : Int32 × St), k_75 S l1 l2 l3 = some w → G SM m_Mo_orders 4 (some w.1) w.2 75 [(0, .ref 0), (1, .int l1), (2, .int l2), (3, .int l3)] [] S) (S : St) (l1 : Int32) (l2 : Int32) (l3 : Int32) (s0 : Int32) (w : Int32 × St) (h : f_Mo_orders_115 k_51 k_75 S l1 l2 l3 s0 = some w) : G SM m_Mo_orders 4 (some w.1) w.2 115 [(0, .ref 0), (1, .int l1), (2, .int l2), (3, .int l3)] [.int s0] S := by
  unfold f_Mo_orders_115 at h
  refine G_istore [(4, .int s0), (0, .ref 0), (1, .int l1), (2, .int l2), (3, .int l3)] rfl rfl (by decide) d_Mo_orders_115 ?_
  refine G_iload_n 3 rfl d_Mo_orders_117 ?_
  refine G_iload_n 4 rfl d_Mo_orders_118 ?_
  obtain ⟨v_119, q_119, h⟩ := ob_b h
  refine G_callS [.int l2, .int l3] [] (t_Mo_has q_119) (by decide) (by decide) mt_Mo_has rfl ml_Mo_314 rfl (Nat.le_of_ble_eq_true rfl) d_Mo_orders_119 ?_
  refine G_if_eq 160 (by decide) d_Mo_orders_122 (fun c_122 => ?_) (fun c_122 => ?_)
  · replace h := ob_t h c_122
    exact G_sub _ [1, 2, 3, 4] rfl (t_Mo_orders_160 hk_51 hk_75 S l1 l2 l3 _ h)
  · replace h := ob_f h c_122
    refine G_iload 0 rfl d_Mo_orders_125 ?_
    refine G_iconst (-1) (by decide) d_Mo_orders_127 ?_
    refine G_icmp_eq 140 (by decide) d_Mo_orders_128 (fun c_128 => ?_) (fun c_128 => ?_)
    · replace h := ob_t h c_128
      exact G_sub _ [1, 2, 3, 4] rfl (t_Mo_orders_140 hk_51 hk_75 S l1 l2 l3 _ h)
    · replace h := ob_f h c_128
      refine G_iload_n 3 rfl d_Mo_orders_131 ?_
      refine G_iload 0 rfl d_Mo_orders_132 ?_
      obtain ⟨v_134, q_134, h⟩ := ob_b h
      refine G_callS [.int l2, .int s0] [] (t_Mo_has q_134) (by decide) (by decide) mt_Mo_has rfl ml_Mo_314 rfl (Nat.le_of_ble_eq_true rfl) d_Mo_orders_134 ?_
      refine G_if_eq 160 (by decide) d_Mo_orders_137 (fun c_137 => ?_) (fun c_137 => ?_)
      · replace h := ob_t h c_137
        exact G_sub _ [1, 2, 3, 4] rfl (t_Mo_orders_160 hk_51 hk_75 S l1 l2 l3 _ h)
      · replace h := ob_f h c_137
        exact G_sub _ [1, 2, 3, 4] rfl (t_Mo_orders_140 hk_51 hk_75 S l1 l2 l3 _ h)
def f_Mo_orders_75 (k_51 : St → Int32 → Int32 → Option (Int32 × St)) : Nat → St → Int32 → Int32 → Int32 → Option (Int32 × St)
  | 0, _, _, _, _ => none
  | n + 1, S, l1, l2, l3 =>
    if l1 ≤ l3 then (
    (some (l2 + 1)).bind fun l2_166 =>
    k_51 S l1 l2_166)
    else (
    if ig l3 12 then (
    if ig (S 24 l3.toNatClampNeg) 24 then (
    if (S 5 (S 24 l3.toNatClampNeg).toNatClampNeg) = (-1) then (
    f_Mo_orders_115 k_51 (f_Mo_orders_75 k_51 n) S l1 l2 l3 ((-1) : Int32))
    else (
    if ig l3 12 then (
    if ig (S 24 l3.toNatClampNeg) 24 then (
    (f_Mo_placeOf S (S 5 (S 24 l3.toNatClampNeg).toNatClampNeg) l1).bind fun v_112 =>
    f_Mo_orders_115 k_51 (f_Mo_orders_75 k_51 n) S l1 l2 l3 v_112) else none) else none)) else none) else none)
set_option maxHeartbeats 4000000 in
set_option maxRecDepth 20000 in
theorem t_Mo_orders_75  {k_51 : St → Int32 → Int32 → Option (Int32 × St)} (hk_51 : ∀ (S : St) (l1 : Int32) (l2 : Int32) (w : Int32 × St), k_51 S l1 l2 = some w → G SM m_Mo_orders 4 (some w.1) w.2 51 [(0, .ref 0), (1, .int l1), (2, .int l2)] [] S) : ∀ (n : Nat) (S : St) (l1 : Int32) (l2 : Int32) (l3 : Int32) (w : Int32 × St), f_Mo_orders_75 k_51 n S l1 l2 l3 = some w → G SM m_Mo_orders 4 (some w.1) w.2 75 [(0, .ref 0), (1, .int l1), (2, .int l2), (3, .int l3)] [] S := by
  intro n
  induction n with
  | zero =>
    intro S l1 l2 l3 w h
    rw [f_Mo_orders_75] at h
    cases h
  | succ n ih =>
    intro S l1 l2 l3 w h
    rw [f_Mo_orders_75] at h
    refine G_iload_n 3 rfl d_Mo_orders_75 ?_
    refine G_iload_n 1 rfl d_Mo_orders_76 ?_
    refine G_icmp_ge 166 (by decide) d_Mo_orders_77 (fun c_77 => ?_) (fun c_77 => ?_)
    · replace h := ob_t h c_77
      obtain ⟨l2_166, e_166, h⟩ := ob_s h
      refine G_iinc 1 2 [(2, .int l2_166), (0, .ref 0), (1, .int l1), (3, .int l3)] (by decide) rfl e_166 rfl (by decide) d_Mo_orders_166 ?_
      refine G_goto 51 (by decide) d_Mo_orders_169 ?_
      exact G_sub _ [1, 2, 0] rfl (hk_51 S l1 l2_166 _ h)
    · replace h := ob_f h c_77
      refine G_aload_n 0 rfl d_Mo_orders_80 ?_
      refine G_getR fl_Mo_22 km_0 sm_0 rfl (by decide) d_Mo_orders_81 ?_
      refine G_aload_n 0 rfl d_Mo_orders_84 ?_
      refine G_getR fl_Mo_80 km_0 sm_0 rfl (by decide) d_Mo_orders_85 ?_
      refine G_iload_n 3 rfl d_Mo_orders_88 ?_
      obtain ⟨g_89, h⟩ := ob_g h
      refine G_iaload km_24 sm_24 g_89 d_Mo_orders_89 ?_
      obtain ⟨g_90, h⟩ := ob_g h
      refine G_iaload km_5 sm_5 g_90 d_Mo_orders_90 ?_
      refine G_iconst (-1) (by decide) d_Mo_orders_91 ?_
      refine G_icmp_ne 99 (by decide) d_Mo_orders_92 (fun c_92 => ?_) (fun c_92 => ?_)
      · replace h := ob_f h c_92
        refine G_aload_n 0 rfl d_Mo_orders_99 ?_
        refine G_aload_n 0 rfl d_Mo_orders_100 ?_
        refine G_getR fl_Mo_22 km_0 sm_0 rfl (by decide) d_Mo_orders_101 ?_
        refine G_aload_n 0 rfl d_Mo_orders_104 ?_
        refine G_getR fl_Mo_80 km_0 sm_0 rfl (by decide) d_Mo_orders_105 ?_
        refine G_iload_n 3 rfl d_Mo_orders_108 ?_
        obtain ⟨g_109, h⟩ := ob_g h
        refine G_iaload km_24 sm_24 g_109 d_Mo_orders_109 ?_
        obtain ⟨g_110, h⟩ := ob_g h
        refine G_iaload km_5 sm_5 g_110 d_Mo_orders_110 ?_
        refine G_iload_n 1 rfl d_Mo_orders_111 ?_
        obtain ⟨v_112, q_112, h⟩ := ob_b h
        refine G_callV [.int (S 5 (S 24 l3.toNatClampNeg).toNatClampNeg), .int l1] [] (t_Mo_placeOf q_112) (by decide) (by decide) mv_Mo_placeOf rfl ml_Mo_311 km_0 sm_0 cl_12 rfl (Nat.le_of_ble_eq_true rfl) d_Mo_orders_112 ?_
        exact G_sub _ [0, 1, 2, 3] rfl (t_Mo_orders_115 hk_51 ih S l1 l2 l3 v_112 _ h)
      · replace h := ob_t h c_92
        refine G_iconst (-1) (by decide) d_Mo_orders_95 ?_
        refine G_goto 115 (by decide) d_Mo_orders_96 ?_
        exact G_sub _ [0, 1, 2, 3] rfl (t_Mo_orders_115 hk_51 ih S l1 l2 l3 ((-1) : Int32) _ h)
def f_Mo_orders_72 (k_51 : St → Int32 → Int32 → Option (Int32 × St)) (S : St) (l1 : Int32) (l2 : Int32) (s0 : Int32) (s1 : Int32) : Option (Int32 × St) :=
    if ig s1 4096 then (
    (some (sF S 25 s1.toNatClampNeg s0)).bind fun S_72 =>
    (some (0 : Int32)).bind fun l3_74 =>
    f_Mo_orders_75 k_51 FU S_72 l1 l2 l3_74) else none
set_option maxHeartbeats 4000000 in
set_option maxRecDepth 20000 in
theorem t_Mo_orders_72  {k_51 : St → Int32 → Int32 → Option (Int32 × St)} (hk_51 : ∀ (S : St) (l1 : Int32) (l2 : Int32) (w : Int32 × St), k_51 S l1 l2 = some w → G SM m_Mo_orders 4 (some w.1) w.2 51 [(0, .ref 0), (1, .int l1), (2, .int l2)] [] S) (S : St) (l1 : Int32) (l2 : Int32) (s0 : Int32) (s1 : Int32) (w : Int32 × St) (h : f_Mo_orders_72 k_51 S l1 l2 s0 s1 = some w) : G SM m_Mo_orders 4 (some w.1) w.2 72 [(0, .ref 0), (1, .int l1), (2, .int l2)] [.int s0, .int s1, .ref 25] S := by
  unfold f_Mo_orders_72 at h
  obtain ⟨g_72, h⟩ := ob_g h
  obtain ⟨S_72, e_72, h⟩ := ob_s h
  refine G_iastore e_72 km_25 sm_25 g_72 d_Mo_orders_72 ?_
  refine G_iconst 0 (by decide) d_Mo_orders_73 ?_
  obtain ⟨l3_74, e_74, h⟩ := ob_s h
  refine G_istore_n [(3, .int l3_74), (0, .ref 0), (1, .int l1), (2, .int l2)] e_74 rfl (by decide) d_Mo_orders_74 ?_
  exact G_sub _ [1, 2, 3, 0] rfl (t_Mo_orders_75 hk_51 FU S_72 l1 l2 l3_74 _ h)
def f_Mo_orders_51 : Nat → St → Int32 → Int32 → Option (Int32 × St)
  | 0, _, _, _ => none
  | n + 1, S, l1, l2 =>
    if (jshl 1 l1) ≤ l2 then (
    if ig ((jshl 1 l1) - 1) 4096 then (
    some ((S 25 ((jshl 1 l1) - 1).toNatClampNeg), S)) else none)
    else (
    if l2 = 0 then (
    f_Mo_orders_72 (f_Mo_orders_51 n) S l1 l2 (1 : Int32) l2)
    else (
    f_Mo_orders_72 (f_Mo_orders_51 n) S l1 l2 (0 : Int32) l2))
set_option maxHeartbeats 4000000 in
set_option maxRecDepth 20000 in
theorem t_Mo_orders_51  : ∀ (n : Nat) (S : St) (l1 : Int32) (l2 : Int32) (w : Int32 × St), f_Mo_orders_51 n S l1 l2 = some w → G SM m_Mo_orders 4 (some w.1) w.2 51 [(0, .ref 0), (1, .int l1), (2, .int l2)] [] S := by
  intro n
  induction n with
  | zero =>
    intro S l1 l2 w h
    rw [f_Mo_orders_51] at h
    cases h
  | succ n ih =>
    intro S l1 l2 w h
    rw [f_Mo_orders_51] at h
    refine G_iload_n 2 rfl d_Mo_orders_51 ?_
    refine G_iconst 1 (by decide) d_Mo_orders_52 ?_
    refine G_iload_n 1 rfl d_Mo_orders_53 ?_
    refine G_ishl d_Mo_orders_54 ?_
    refine G_icmp_ge 172 (by decide) d_Mo_orders_55 (fun c_55 => ?_) (fun c_55 => ?_)
    · replace h := ob_t h c_55
      refine G_aload_n 0 rfl d_Mo_orders_172 ?_
      refine G_getR fl_Mo_83 km_0 sm_0 rfl (by decide) d_Mo_orders_173 ?_
      refine G_iconst 1 (by decide) d_Mo_orders_176 ?_
      refine G_iload_n 1 rfl d_Mo_orders_177 ?_
      refine G_ishl d_Mo_orders_178 ?_
      refine G_iconst 1 (by decide) d_Mo_orders_179 ?_
      refine G_isub d_Mo_orders_180 ?_
      obtain ⟨g_181, h⟩ := ob_g h
      refine G_iaload km_25 sm_25 g_181 d_Mo_orders_181 ?_
      cases h
      exact G_iret rfl d_Mo_orders_182
    · replace h := ob_f h c_55
      refine G_aload_n 0 rfl d_Mo_orders_58 ?_
      refine G_getR fl_Mo_83 km_0 sm_0 rfl (by decide) d_Mo_orders_59 ?_
      refine G_iload_n 2 rfl d_Mo_orders_62 ?_
      refine G_iload_n 2 rfl d_Mo_orders_63 ?_
      refine G_if_ne 71 (by decide) d_Mo_orders_64 (fun c_64 => ?_) (fun c_64 => ?_)
      · replace h := ob_f h c_64
        refine G_iconst 0 (by decide) d_Mo_orders_71 ?_
        exact G_sub _ [0, 1, 2] rfl (t_Mo_orders_72 ih S l1 l2 (0 : Int32) l2 _ h)
      · replace h := ob_t h c_64
        refine G_iconst 1 (by decide) d_Mo_orders_67 ?_
        refine G_goto 72 (by decide) d_Mo_orders_68 ?_
        exact G_sub _ [0, 1, 2] rfl (t_Mo_orders_72 ih S l1 l2 (1 : Int32) l2 _ h)
def f_Mo_orders_4 : Nat → St → Int32 → Int32 → Option (Int32 × St)
  | 0, _, _, _ => none
  | n + 1, S, l1, l2 =>
    if (S 0 5) ≤ l2 then (
    (some (0 : Int32)).bind fun l2_50 =>
    f_Mo_orders_51 FU S l1 l2_50)
    else (
    (f_Mo_isLeft S l2).bind fun v_14 =>
    if v_14 = 0 then (
    f_Mo_orders_43 (f_Mo_orders_4 n) S l1 l2)
    else (
    if l1 = 12 then (
    some ((-4), S))
    else (
    if ig l1 12 then (
    (some (sF S 24 l1.toNatClampNeg l2)).bind fun S_38 =>
    (some (l1 + 1)).bind fun l1_42 =>
    f_Mo_orders_43 (f_Mo_orders_4 n) S_38 l1_42 l2) else none)))
set_option maxHeartbeats 4000000 in
set_option maxRecDepth 20000 in
theorem t_Mo_orders_4  : ∀ (n : Nat) (S : St) (l1 : Int32) (l2 : Int32) (w : Int32 × St), f_Mo_orders_4 n S l1 l2 = some w → G SM m_Mo_orders 4 (some w.1) w.2 4 [(0, .ref 0), (1, .int l1), (2, .int l2)] [] S := by
  intro n
  induction n with
  | zero =>
    intro S l1 l2 w h
    rw [f_Mo_orders_4] at h
    cases h
  | succ n ih =>
    intro S l1 l2 w h
    rw [f_Mo_orders_4] at h
    refine G_iload_n 2 rfl d_Mo_orders_4 ?_
    refine G_aload_n 0 rfl d_Mo_orders_5 ?_
    refine G_getI fl_Mo_120 km_0 sm_0 rfl d_Mo_orders_6 ?_
    refine G_icmp_ge 49 (by decide) d_Mo_orders_9 (fun c_9 => ?_) (fun c_9 => ?_)
    · replace h := ob_t h c_9
      refine G_iconst 0 (by decide) d_Mo_orders_49 ?_
      obtain ⟨l2_50, e_50, h⟩ := ob_s h
      refine G_istore_n [(2, .int l2_50), (0, .ref 0), (1, .int l1)] e_50 rfl (by decide) d_Mo_orders_50 ?_
      exact G_sub _ [1, 2, 0] rfl (t_Mo_orders_51 FU S l1 l2_50 _ h)
    · replace h := ob_f h c_9
      refine G_aload_n 0 rfl d_Mo_orders_12 ?_
      refine G_iload_n 2 rfl d_Mo_orders_13 ?_
      obtain ⟨v_14, q_14, h⟩ := ob_b h
      refine G_callV [.int l2] [] (t_Mo_isLeft q_14) (by decide) (by decide) mv_Mo_isLeft rfl ml_Mo_132 km_0 sm_0 cl_12 rfl (Nat.le_of_ble_eq_true rfl) d_Mo_orders_14 ?_
      refine G_if_ne 23 (by decide) d_Mo_orders_17 (fun c_17 => ?_) (fun c_17 => ?_)
      · replace h := ob_f h c_17
        refine G_iload_n 1 rfl d_Mo_orders_23 ?_
        refine G_bipush 12 (by decide) d_Mo_orders_24 ?_
        refine G_icmp_ne 32 (by decide) d_Mo_orders_26 (fun c_26 => ?_) (fun c_26 => ?_)
        · replace h := ob_f h c_26
          refine G_aload_n 0 rfl d_Mo_orders_32 ?_
          refine G_getR fl_Mo_80 km_0 sm_0 rfl (by decide) d_Mo_orders_33 ?_
          refine G_iload_n 1 rfl d_Mo_orders_36 ?_
          refine G_iload_n 2 rfl d_Mo_orders_37 ?_
          obtain ⟨g_38, h⟩ := ob_g h
          obtain ⟨S_38, e_38, h⟩ := ob_s h
          refine G_iastore e_38 km_24 sm_24 g_38 d_Mo_orders_38 ?_
          refine G_iload_n 1 rfl d_Mo_orders_39 ?_
          refine G_iconst 1 (by decide) d_Mo_orders_40 ?_
          refine G_iadd d_Mo_orders_41 ?_
          obtain ⟨l1_42, e_42, h⟩ := ob_s h
          refine G_istore_n [(1, .int l1_42), (0, .ref 0), (2, .int l2)] e_42 rfl (by decide) d_Mo_orders_42 ?_
          exact G_sub _ [1, 0, 2] rfl (t_Mo_orders_43 ih S_38 l1_42 l2 _ h)
        · replace h := ob_t h c_26
          refine G_bipush (-4) (by decide) d_Mo_orders_29 ?_
          cases h
          exact G_iret rfl d_Mo_orders_31
      · replace h := ob_t h c_17
        refine G_goto 43 (by decide) d_Mo_orders_20 ?_
        exact G_sub _ [0, 1, 2] rfl (t_Mo_orders_43 ih S l1 l2 _ h)
def f_Mo_orders (S : St) : Option (Int32 × St) :=
    (some (0 : Int32)).bind fun l1_1 =>
    (some (0 : Int32)).bind fun l2_3 =>
    f_Mo_orders_4 FU S l1_1 l2_3
set_option maxHeartbeats 4000000 in
set_option maxRecDepth 20000 in
theorem t_Mo_orders  {S : St} {w : Int32 × St} (h : f_Mo_orders S = some w) : Ct SM m_Mo_orders 4 [.ref 0] S (some w.1) w.2 := by
  unfold f_Mo_orders at h
  refine Ct.of pn_Mo (Nat.le_of_ble_eq_true rfl) ?_
  show G SM m_Mo_orders 4 (some w.1) w.2 0 [(0, .ref 0)] [] S
  refine G_iconst 0 (by decide) d_Mo_orders_0 ?_
  obtain ⟨l1_1, e_1, h⟩ := ob_s h
  refine G_istore_n [(1, .int l1_1), (0, .ref 0)] e_1 rfl (by decide) d_Mo_orders_1 ?_
  refine G_iconst 0 (by decide) d_Mo_orders_2 ?_
  obtain ⟨l2_3, e_3, h⟩ := ob_s h
  refine G_istore_n [(2, .int l2_3), (1, .int l1_1), (0, .ref 0)] e_3 rfl (by decide) d_Mo_orders_3 ?_
  exact G_sub _ [2, 1, 0] rfl (t_Mo_orders_4 FU S l1_1 l2_3 _ h)
theorem d_Mo_lightOf_0 : decode m_Mo_lightOf.2.1 0 = .ok (.iconst 0, 1) := by decide +kernel
theorem d_Mo_lightOf_1 : decode m_Mo_lightOf.2.1 1 = .ok (.istore_n 2, 1) := by decide +kernel
theorem d_Mo_lightOf_2 : decode m_Mo_lightOf.2.1 2 = .ok (.iconst 0, 1) := by decide +kernel
theorem d_Mo_lightOf_3 : decode m_Mo_lightOf.2.1 3 = .ok (.istore_n 3, 1) := by decide +kernel
theorem d_Mo_lightOf_4 : decode m_Mo_lightOf.2.1 4 = .ok (.iload_n 3, 1) := by decide +kernel
theorem d_Mo_lightOf_5 : decode m_Mo_lightOf.2.1 5 = .ok (.aload_n 0, 1) := by decide +kernel
theorem d_Mo_lightOf_6 : decode m_Mo_lightOf.2.1 6 = .ok (.getfield 120, 3) := by decide +kernel
theorem d_Mo_lightOf_9 : decode m_Mo_lightOf.2.1 9 = .ok (.if_icmp .ge 49, 3) := by decide +kernel
theorem d_Mo_lightOf_12 : decode m_Mo_lightOf.2.1 12 = .ok (.aload_n 0, 1) := by decide +kernel
theorem d_Mo_lightOf_13 : decode m_Mo_lightOf.2.1 13 = .ok (.getfield 7, 3) := by decide +kernel
theorem d_Mo_lightOf_16 : decode m_Mo_lightOf.2.1 16 = .ok (.bipush 24, 2) := by decide +kernel
theorem d_Mo_lightOf_18 : decode m_Mo_lightOf.2.1 18 = .ok (.iload_n 3, 1) := by decide +kernel
theorem d_Mo_lightOf_19 : decode m_Mo_lightOf.2.1 19 = .ok (.iadd, 1) := by decide +kernel
theorem d_Mo_lightOf_20 : decode m_Mo_lightOf.2.1 20 = .ok (.iaload, 1) := by decide +kernel
theorem d_Mo_lightOf_21 : decode m_Mo_lightOf.2.1 21 = .ok (.iconst 1, 1) := by decide +kernel
theorem d_Mo_lightOf_22 : decode m_Mo_lightOf.2.1 22 = .ok (.if_icmp .ne 30, 3) := by decide +kernel
theorem d_Mo_lightOf_25 : decode m_Mo_lightOf.2.1 25 = .ok (.iload_n 1, 1) := by decide +kernel
theorem d_Mo_lightOf_26 : decode m_Mo_lightOf.2.1 26 = .ok (.bipush 16, 2) := by decide +kernel
theorem d_Mo_lightOf_28 : decode m_Mo_lightOf.2.1 28 = .ok (.if_icmp .eq 13, 3) := by decide +kernel
theorem d_Mo_lightOf_31 : decode m_Mo_lightOf.2.1 31 = .ok (.aload_n 0, 1) := by decide +kernel
theorem d_Mo_lightOf_32 : decode m_Mo_lightOf.2.1 32 = .ok (.getfield 19, 3) := by decide +kernel
theorem d_Mo_lightOf_35 : decode m_Mo_lightOf.2.1 35 = .ok (.iload_n 3, 1) := by decide +kernel
theorem d_Mo_lightOf_36 : decode m_Mo_lightOf.2.1 36 = .ok (.iaload, 1) := by decide +kernel
theorem d_Mo_lightOf_37 : decode m_Mo_lightOf.2.1 37 = .ok (.iload_n 1, 1) := by decide +kernel
theorem d_Mo_lightOf_38 : decode m_Mo_lightOf.2.1 38 = .ok (.if_icmp .ne 14, 3) := by decide +kernel
theorem d_Mo_lightOf_41 : decode m_Mo_lightOf.2.1 41 = .ok (.iload_n 2, 1) := by decide +kernel
theorem d_Mo_lightOf_42 : decode m_Mo_lightOf.2.1 42 = .ok (.aload_n 0, 1) := by decide +kernel
theorem d_Mo_lightOf_43 : decode m_Mo_lightOf.2.1 43 = .ok (.getfield 7, 3) := by decide +kernel
theorem d_Mo_lightOf_46 : decode m_Mo_lightOf.2.1 46 = .ok (.iconst 0, 1) := by decide +kernel
theorem d_Mo_lightOf_47 : decode m_Mo_lightOf.2.1 47 = .ok (.iload_n 3, 1) := by decide +kernel
theorem d_Mo_lightOf_48 : decode m_Mo_lightOf.2.1 48 = .ok (.iadd, 1) := by decide +kernel
theorem d_Mo_lightOf_49 : decode m_Mo_lightOf.2.1 49 = .ok (.iaload, 1) := by decide +kernel
theorem d_Mo_lightOf_50 : decode m_Mo_lightOf.2.1 50 = .ok (.iadd, 1) := by decide +kernel
theorem d_Mo_lightOf_51 : decode m_Mo_lightOf.2.1 51 = .ok (.istore_n 2, 1) := by decide +kernel
theorem d_Mo_lightOf_52 : decode m_Mo_lightOf.2.1 52 = .ok (.iinc 3 1, 3) := by decide +kernel
theorem d_Mo_lightOf_55 : decode m_Mo_lightOf.2.1 55 = .ok (.goto (-51), 3) := by decide +kernel
theorem d_Mo_lightOf_58 : decode m_Mo_lightOf.2.1 58 = .ok (.iload_n 2, 1) := by decide +kernel
theorem d_Mo_lightOf_59 : decode m_Mo_lightOf.2.1 59 = .ok (.ireturn, 1) := by decide +kernel
def f_Mo_lightOf_52 (k_4 : St → Int32 → Int32 → Int32 → Option (Int32)) (S : St) (l1 : Int32) (l2 : Int32) (l3 : Int32) : Option (Int32) :=
    (some (l3 + 1)).bind fun l3_52 =>
    k_4 S l1 l2 l3_52
set_option maxHeartbeats 4000000 in
set_option maxRecDepth 20000 in
theorem t_Mo_lightOf_52  {k_4 : St → Int32 → Int32 → Int32 → Option (Int32)} (hk_4 : ∀ (S : St) (l1 : Int32) (l2 : Int32) (l3 : Int32) (w : Int32), k_4 S l1 l2 l3 = some w → G SM m_Mo_lightOf 1 (some w) S 4 [(0, .ref 0), (1, .int l1), (2, .int l2), (3, .int l3)] [] S) (S : St) (l1 : Int32) (l2 : Int32) (l3 : Int32) (w : Int32) (h : f_Mo_lightOf_52 k_4 S l1 l2 l3 = some w) : G SM m_Mo_lightOf 1 (some w) S 52 [(0, .ref 0), (1, .int l1), (2, .int l2), (3, .int l3)] [] S := by
  unfold f_Mo_lightOf_52 at h
  obtain ⟨l3_52, e_52, h⟩ := ob_s h
  refine G_iinc 1 3 [(3, .int l3_52), (0, .ref 0), (1, .int l1), (2, .int l2)] (by decide) rfl e_52 rfl (by decide) d_Mo_lightOf_52 ?_
  refine G_goto 4 (by decide) d_Mo_lightOf_55 ?_
  exact G_sub _ [1, 2, 3, 0] rfl (hk_4 S l1 l2 l3_52 _ h)
def f_Mo_lightOf_41 (k_4 : St → Int32 → Int32 → Int32 → Option (Int32)) (S : St) (l1 : Int32) (l2 : Int32) (l3 : Int32) : Option (Int32) :=
    if ig (0 + l3) 99 then (
    (some (l2 + (S 1 (0 + l3).toNatClampNeg))).bind fun l2_51 =>
    f_Mo_lightOf_52 k_4 S l1 l2_51 l3) else none
set_option maxHeartbeats 4000000 in
set_option maxRecDepth 20000 in
theorem t_Mo_lightOf_41  {k_4 : St → Int32 → Int32 → Int32 → Option (Int32)} (hk_4 : ∀ (S : St) (l1 : Int32) (l2 : Int32) (l3 : Int32) (w : Int32), k_4 S l1 l2 l3 = some w → G SM m_Mo_lightOf 1 (some w) S 4 [(0, .ref 0), (1, .int l1), (2, .int l2), (3, .int l3)] [] S) (S : St) (l1 : Int32) (l2 : Int32) (l3 : Int32) (w : Int32) (h : f_Mo_lightOf_41 k_4 S l1 l2 l3 = some w) : G SM m_Mo_lightOf 1 (some w) S 41 [(0, .ref 0), (1, .int l1), (2, .int l2), (3, .int l3)] [] S := by
  unfold f_Mo_lightOf_41 at h
  refine G_iload_n 2 rfl d_Mo_lightOf_41 ?_
  refine G_aload_n 0 rfl d_Mo_lightOf_42 ?_
  refine G_getR fl_Mo_7 km_0 sm_0 rfl (by decide) d_Mo_lightOf_43 ?_
  refine G_iconst 0 (by decide) d_Mo_lightOf_46 ?_
  refine G_iload_n 3 rfl d_Mo_lightOf_47 ?_
  refine G_iadd d_Mo_lightOf_48 ?_
  obtain ⟨g_49, h⟩ := ob_g h
  refine G_iaload km_1 sm_1 g_49 d_Mo_lightOf_49 ?_
  refine G_iadd d_Mo_lightOf_50 ?_
  obtain ⟨l2_51, e_51, h⟩ := ob_s h
  refine G_istore_n [(2, .int l2_51), (0, .ref 0), (1, .int l1), (3, .int l3)] e_51 rfl (by decide) d_Mo_lightOf_51 ?_
  exact G_sub _ [1, 2, 0, 3] rfl (t_Mo_lightOf_52 hk_4 S l1 l2_51 l3 _ h)
def f_Mo_lightOf_4 : Nat → St → Int32 → Int32 → Int32 → Option (Int32)
  | 0, _, _, _, _ => none
  | n + 1, S, l1, l2, l3 =>
    if (S 0 5) ≤ l3 then (
    some l2)
    else (
    if ig (24 + l3) 99 then (
    if (S 1 (24 + l3).toNatClampNeg) = 1 then (
    if l1 = 16 then (
    f_Mo_lightOf_41 (f_Mo_lightOf_4 n) S l1 l2 l3)
    else (
    if ig l3 24 then (
    if (S 4 l3.toNatClampNeg) = l1 then (
    f_Mo_lightOf_41 (f_Mo_lightOf_4 n) S l1 l2 l3)
    else (
    f_Mo_lightOf_52 (f_Mo_lightOf_4 n) S l1 l2 l3)) else none))
    else (
    f_Mo_lightOf_52 (f_Mo_lightOf_4 n) S l1 l2 l3)) else none)
set_option maxHeartbeats 4000000 in
set_option maxRecDepth 20000 in
theorem t_Mo_lightOf_4  : ∀ (n : Nat) (S : St) (l1 : Int32) (l2 : Int32) (l3 : Int32) (w : Int32), f_Mo_lightOf_4 n S l1 l2 l3 = some w → G SM m_Mo_lightOf 1 (some w) S 4 [(0, .ref 0), (1, .int l1), (2, .int l2), (3, .int l3)] [] S := by
  intro n
  induction n with
  | zero =>
    intro S l1 l2 l3 w h
    rw [f_Mo_lightOf_4] at h
    cases h
  | succ n ih =>
    intro S l1 l2 l3 w h
    rw [f_Mo_lightOf_4] at h
    refine G_iload_n 3 rfl d_Mo_lightOf_4 ?_
    refine G_aload_n 0 rfl d_Mo_lightOf_5 ?_
    refine G_getI fl_Mo_120 km_0 sm_0 rfl d_Mo_lightOf_6 ?_
    refine G_icmp_ge 58 (by decide) d_Mo_lightOf_9 (fun c_9 => ?_) (fun c_9 => ?_)
    · replace h := ob_t h c_9
      refine G_iload_n 2 rfl d_Mo_lightOf_58 ?_
      cases h
      exact G_iret rfl d_Mo_lightOf_59
    · replace h := ob_f h c_9
      refine G_aload_n 0 rfl d_Mo_lightOf_12 ?_
      refine G_getR fl_Mo_7 km_0 sm_0 rfl (by decide) d_Mo_lightOf_13 ?_
      refine G_bipush 24 (by decide) d_Mo_lightOf_16 ?_
      refine G_iload_n 3 rfl d_Mo_lightOf_18 ?_
      refine G_iadd d_Mo_lightOf_19 ?_
      obtain ⟨g_20, h⟩ := ob_g h
      refine G_iaload km_1 sm_1 g_20 d_Mo_lightOf_20 ?_
      refine G_iconst 1 (by decide) d_Mo_lightOf_21 ?_
      refine G_icmp_ne 52 (by decide) d_Mo_lightOf_22 (fun c_22 => ?_) (fun c_22 => ?_)
      · replace h := ob_f h c_22
        exact G_sub _ [0, 1, 2, 3] rfl (t_Mo_lightOf_52 ih S l1 l2 l3 _ h)
      · replace h := ob_t h c_22
        refine G_iload_n 1 rfl d_Mo_lightOf_25 ?_
        refine G_bipush 16 (by decide) d_Mo_lightOf_26 ?_
        refine G_icmp_eq 41 (by decide) d_Mo_lightOf_28 (fun c_28 => ?_) (fun c_28 => ?_)
        · replace h := ob_t h c_28
          exact G_sub _ [0, 1, 2, 3] rfl (t_Mo_lightOf_41 ih S l1 l2 l3 _ h)
        · replace h := ob_f h c_28
          refine G_aload_n 0 rfl d_Mo_lightOf_31 ?_
          refine G_getR fl_Mo_19 km_0 sm_0 rfl (by decide) d_Mo_lightOf_32 ?_
          refine G_iload_n 3 rfl d_Mo_lightOf_35 ?_
          obtain ⟨g_36, h⟩ := ob_g h
          refine G_iaload km_4 sm_4 g_36 d_Mo_lightOf_36 ?_
          refine G_iload_n 1 rfl d_Mo_lightOf_37 ?_
          refine G_icmp_ne 52 (by decide) d_Mo_lightOf_38 (fun c_38 => ?_) (fun c_38 => ?_)
          · replace h := ob_f h c_38
            exact G_sub _ [0, 1, 2, 3] rfl (t_Mo_lightOf_52 ih S l1 l2 l3 _ h)
          · replace h := ob_t h c_38
            exact G_sub _ [0, 1, 2, 3] rfl (t_Mo_lightOf_41 ih S l1 l2 l3 _ h)
def f_Mo_lightOf (S : St) (l1 : Int32) : Option (Int32) :=
    (some (0 : Int32)).bind fun l2_1 =>
    (some (0 : Int32)).bind fun l3_3 =>
    f_Mo_lightOf_4 FU S l1 l2_1 l3_3
set_option maxHeartbeats 4000000 in
set_option maxRecDepth 20000 in
theorem t_Mo_lightOf  {S : St} {l1 : Int32} {w : Int32} (h : f_Mo_lightOf S l1 = some w) : Ct SM m_Mo_lightOf 1 [.ref 0, .int l1] S (some w) S := by
  unfold f_Mo_lightOf at h
  refine Ct.of pn_Mo (Nat.le_of_ble_eq_true rfl) ?_
  show G SM m_Mo_lightOf 1 (some w) S 0 [(0, .ref 0), (1, .int l1)] [] S
  refine G_iconst 0 (by decide) d_Mo_lightOf_0 ?_
  obtain ⟨l2_1, e_1, h⟩ := ob_s h
  refine G_istore_n [(2, .int l2_1), (0, .ref 0), (1, .int l1)] e_1 rfl (by decide) d_Mo_lightOf_1 ?_
  refine G_iconst 0 (by decide) d_Mo_lightOf_2 ?_
  obtain ⟨l3_3, e_3, h⟩ := ob_s h
  refine G_istore_n [(3, .int l3_3), (2, .int l2_1), (0, .ref 0), (1, .int l1)] e_3 rfl (by decide) d_Mo_lightOf_3 ?_
  exact G_sub _ [2, 3, 1, 0] rfl (t_Mo_lightOf_4 FU S l1 l2_1 l3_3 _ h)
theorem d_Mo_light_0 : decode m_Mo_light.2.1 0 = .ok (.iload_n 1, 1) := by decide +kernel
theorem d_Mo_light_1 : decode m_Mo_light.2.1 1 = .ok (.iconst 0, 1) := by decide +kernel
theorem d_Mo_light_2 : decode m_Mo_light.2.1 2 = .ok (.bipush 16, 2) := by decide +kernel
theorem d_Mo_light_4 : decode m_Mo_light.2.1 4 = .ok (.invokestatic 124, 3) := by decide +kernel
theorem d_Mo_light_7 : decode m_Mo_light.2.1 7 = .ok (.ifCond .eq 11, 3) := by decide +kernel
theorem d_Mo_light_10 : decode m_Mo_light.2.1 10 = .ok (.aload_n 0, 1) := by decide +kernel
theorem d_Mo_light_11 : decode m_Mo_light.2.1 11 = .ok (.iload_n 1, 1) := by decide +kernel
theorem d_Mo_light_12 : decode m_Mo_light.2.1 12 = .ok (.invokevirtual 320, 3) := by decide +kernel
theorem d_Mo_light_15 : decode m_Mo_light.2.1 15 = .ok (.goto 4, 3) := by decide +kernel
theorem d_Mo_light_18 : decode m_Mo_light.2.1 18 = .ok (.iconst (-1), 1) := by decide +kernel
theorem d_Mo_light_19 : decode m_Mo_light.2.1 19 = .ok (.ireturn, 1) := by decide +kernel
def f_Mo_light (S : St) (l1 : Int32) : Option (Int32) :=
    (f_Mo_in S l1 (0 : Int32) (16 : Int32)).bind fun v_4 =>
    if v_4 = 0 then (
    some ((-1) : Int32))
    else (
    (f_Mo_lightOf S l1).bind fun v_12 =>
    some v_12)
set_option maxHeartbeats 4000000 in
set_option maxRecDepth 20000 in
theorem t_Mo_light  {S : St} {l1 : Int32} {w : Int32} (h : f_Mo_light S l1 = some w) : Ct SM m_Mo_light 2 [.ref 0, .int l1] S (some w) S := by
  unfold f_Mo_light at h
  refine Ct.of pn_Mo (Nat.le_of_ble_eq_true rfl) ?_
  show G SM m_Mo_light 2 (some w) S 0 [(0, .ref 0), (1, .int l1)] [] S
  refine G_iload_n 1 rfl d_Mo_light_0 ?_
  refine G_iconst 0 (by decide) d_Mo_light_1 ?_
  refine G_bipush 16 (by decide) d_Mo_light_2 ?_
  obtain ⟨v_4, q_4, h⟩ := ob_b h
  refine G_callS [.int l1, .int 0, .int 16] [] (t_Mo_in q_4) (by decide) (by decide) mt_Mo_in rfl ml_Mo_124 rfl (Nat.le_of_ble_eq_true rfl) d_Mo_light_4 ?_
  refine G_if_eq 18 (by decide) d_Mo_light_7 (fun c_7 => ?_) (fun c_7 => ?_)
  · replace h := ob_t h c_7
    refine G_iconst (-1) (by decide) d_Mo_light_18 ?_
    cases h
    exact G_iret rfl d_Mo_light_19
  · replace h := ob_f h c_7
    refine G_aload_n 0 rfl d_Mo_light_10 ?_
    refine G_iload_n 1 rfl d_Mo_light_11 ?_
    obtain ⟨v_12, q_12, h⟩ := ob_b h
    refine G_callV [.int l1] [] (t_Mo_lightOf q_12) (by decide) (by decide) mv_Mo_lightOf rfl ml_Mo_320 km_0 sm_0 cl_12 rfl (Nat.le_of_ble_eq_true rfl) d_Mo_light_12 ?_
    refine G_goto 19 (by decide) d_Mo_light_15 ?_
    cases h
    exact G_iret rfl d_Mo_light_19
theorem d_Mo_worstNews_0 : decode m_Mo_worstNews.2.1 0 = .ok (.iload_n 1, 1) := by decide +kernel
theorem d_Mo_worstNews_1 : decode m_Mo_worstNews.2.1 1 = .ok (.iconst 0, 1) := by decide +kernel
theorem d_Mo_worstNews_2 : decode m_Mo_worstNews.2.1 2 = .ok (.iconst 1, 1) := by decide +kernel
theorem d_Mo_worstNews_3 : decode m_Mo_worstNews.2.1 3 = .ok (.invokestatic 124, 3) := by decide +kernel
theorem d_Mo_worstNews_6 : decode m_Mo_worstNews.2.1 6 = .ok (.ifCond .ne 5, 3) := by decide +kernel
theorem d_Mo_worstNews_9 : decode m_Mo_worstNews.2.1 9 = .ok (.iconst (-1), 1) := by decide +kernel
theorem d_Mo_worstNews_10 : decode m_Mo_worstNews.2.1 10 = .ok (.ireturn, 1) := by decide +kernel
theorem d_Mo_worstNews_11 : decode m_Mo_worstNews.2.1 11 = .ok (.iconst 0, 1) := by decide +kernel
theorem d_Mo_worstNews_12 : decode m_Mo_worstNews.2.1 12 = .ok (.istore_n 2, 1) := by decide +kernel
theorem d_Mo_worstNews_13 : decode m_Mo_worstNews.2.1 13 = .ok (.iconst 1, 1) := by decide +kernel
theorem d_Mo_worstNews_14 : decode m_Mo_worstNews.2.1 14 = .ok (.istore_n 3, 1) := by decide +kernel
theorem d_Mo_worstNews_15 : decode m_Mo_worstNews.2.1 15 = .ok (.iload_n 3, 1) := by decide +kernel
theorem d_Mo_worstNews_16 : decode m_Mo_worstNews.2.1 16 = .ok (.bipush 16, 2) := by decide +kernel
theorem d_Mo_worstNews_18 : decode m_Mo_worstNews.2.1 18 = .ok (.if_icmp .ge 24, 3) := by decide +kernel
theorem d_Mo_worstNews_21 : decode m_Mo_worstNews.2.1 21 = .ok (.aload_n 0, 1) := by decide +kernel
theorem d_Mo_worstNews_22 : decode m_Mo_worstNews.2.1 22 = .ok (.iload_n 3, 1) := by decide +kernel
theorem d_Mo_worstNews_23 : decode m_Mo_worstNews.2.1 23 = .ok (.invokevirtual 320, 3) := by decide +kernel
theorem d_Mo_worstNews_26 : decode m_Mo_worstNews.2.1 26 = .ok (.aload_n 0, 1) := by decide +kernel
theorem d_Mo_worstNews_27 : decode m_Mo_worstNews.2.1 27 = .ok (.iload_n 2, 1) := by decide +kernel
theorem d_Mo_worstNews_28 : decode m_Mo_worstNews.2.1 28 = .ok (.invokevirtual 320, 3) := by decide +kernel
theorem d_Mo_worstNews_31 : decode m_Mo_worstNews.2.1 31 = .ok (.if_icmp .le 5, 3) := by decide +kernel
theorem d_Mo_worstNews_34 : decode m_Mo_worstNews.2.1 34 = .ok (.iload_n 3, 1) := by decide +kernel
theorem d_Mo_worstNews_35 : decode m_Mo_worstNews.2.1 35 = .ok (.istore_n 2, 1) := by decide +kernel
theorem d_Mo_worstNews_36 : decode m_Mo_worstNews.2.1 36 = .ok (.iinc 3 1, 3) := by decide +kernel
theorem d_Mo_worstNews_39 : decode m_Mo_worstNews.2.1 39 = .ok (.goto (-24), 3) := by decide +kernel
theorem d_Mo_worstNews_42 : decode m_Mo_worstNews.2.1 42 = .ok (.iload_n 1, 1) := by decide +kernel
theorem d_Mo_worstNews_43 : decode m_Mo_worstNews.2.1 43 = .ok (.iconst 1, 1) := by decide +kernel
theorem d_Mo_worstNews_44 : decode m_Mo_worstNews.2.1 44 = .ok (.if_icmp .ne 11, 3) := by decide +kernel
theorem d_Mo_worstNews_47 : decode m_Mo_worstNews.2.1 47 = .ok (.aload_n 0, 1) := by decide +kernel
theorem d_Mo_worstNews_48 : decode m_Mo_worstNews.2.1 48 = .ok (.iload_n 2, 1) := by decide +kernel
theorem d_Mo_worstNews_49 : decode m_Mo_worstNews.2.1 49 = .ok (.invokevirtual 320, 3) := by decide +kernel
theorem d_Mo_worstNews_52 : decode m_Mo_worstNews.2.1 52 = .ok (.goto 17, 3) := by decide +kernel
theorem d_Mo_worstNews_55 : decode m_Mo_worstNews.2.1 55 = .ok (.aload_n 0, 1) := by decide +kernel
theorem d_Mo_worstNews_56 : decode m_Mo_worstNews.2.1 56 = .ok (.iload_n 2, 1) := by decide +kernel
theorem d_Mo_worstNews_57 : decode m_Mo_worstNews.2.1 57 = .ok (.invokevirtual 320, 3) := by decide +kernel
theorem d_Mo_worstNews_60 : decode m_Mo_worstNews.2.1 60 = .ok (.ifCond .ne 8, 3) := by decide +kernel
theorem d_Mo_worstNews_63 : decode m_Mo_worstNews.2.1 63 = .ok (.bipush (-2), 2) := by decide +kernel
theorem d_Mo_worstNews_65 : decode m_Mo_worstNews.2.1 65 = .ok (.goto 4, 3) := by decide +kernel
theorem d_Mo_worstNews_68 : decode m_Mo_worstNews.2.1 68 = .ok (.iload_n 2, 1) := by decide +kernel
theorem d_Mo_worstNews_69 : decode m_Mo_worstNews.2.1 69 = .ok (.ireturn, 1) := by decide +kernel
def f_Mo_worstNews_36 (k_15 : St → Int32 → Int32 → Int32 → Option (Int32)) (S : St) (l1 : Int32) (l2 : Int32) (l3 : Int32) : Option (Int32) :=
    (some (l3 + 1)).bind fun l3_36 =>
    k_15 S l1 l2 l3_36
set_option maxHeartbeats 4000000 in
set_option maxRecDepth 20000 in
theorem t_Mo_worstNews_36  {k_15 : St → Int32 → Int32 → Int32 → Option (Int32)} (hk_15 : ∀ (S : St) (l1 : Int32) (l2 : Int32) (l3 : Int32) (w : Int32), k_15 S l1 l2 l3 = some w → G SM m_Mo_worstNews 2 (some w) S 15 [(0, .ref 0), (1, .int l1), (2, .int l2), (3, .int l3)] [] S) (S : St) (l1 : Int32) (l2 : Int32) (l3 : Int32) (w : Int32) (h : f_Mo_worstNews_36 k_15 S l1 l2 l3 = some w) : G SM m_Mo_worstNews 2 (some w) S 36 [(0, .ref 0), (1, .int l1), (2, .int l2), (3, .int l3)] [] S := by
  unfold f_Mo_worstNews_36 at h
  obtain ⟨l3_36, e_36, h⟩ := ob_s h
  refine G_iinc 1 3 [(3, .int l3_36), (0, .ref 0), (1, .int l1), (2, .int l2)] (by decide) rfl e_36 rfl (by decide) d_Mo_worstNews_36 ?_
  refine G_goto 15 (by decide) d_Mo_worstNews_39 ?_
  exact G_sub _ [1, 2, 3, 0] rfl (hk_15 S l1 l2 l3_36 _ h)
def f_Mo_worstNews_15 : Nat → St → Int32 → Int32 → Int32 → Option (Int32)
  | 0, _, _, _, _ => none
  | n + 1, S, l1, l2, l3 =>
    if (16 : Int32) ≤ l3 then (
    if l1 = 1 then (
    (f_Mo_lightOf S l2).bind fun v_49 =>
    some v_49)
    else (
    (f_Mo_lightOf S l2).bind fun v_57 =>
    if v_57 = 0 then (
    some ((-2) : Int32))
    else (
    some l2)))
    else (
    (f_Mo_lightOf S l3).bind fun v_23 =>
    (f_Mo_lightOf S l2).bind fun v_28 =>
    if v_23 ≤ v_28 then (
    f_Mo_worstNews_36 (f_Mo_worstNews_15 n) S l1 l2 l3)
    else (
    f_Mo_worstNews_36 (f_Mo_worstNews_15 n) S l1 l3 l3))
set_option maxHeartbeats 4000000 in
set_option maxRecDepth 20000 in
theorem t_Mo_worstNews_15  : ∀ (n : Nat) (S : St) (l1 : Int32) (l2 : Int32) (l3 : Int32) (w : Int32), f_Mo_worstNews_15 n S l1 l2 l3 = some w → G SM m_Mo_worstNews 2 (some w) S 15 [(0, .ref 0), (1, .int l1), (2, .int l2), (3, .int l3)] [] S := by
  intro n
  induction n with
  | zero =>
    intro S l1 l2 l3 w h
    rw [f_Mo_worstNews_15] at h
    cases h
  | succ n ih =>
    intro S l1 l2 l3 w h
    rw [f_Mo_worstNews_15] at h
    refine G_iload_n 3 rfl d_Mo_worstNews_15 ?_
    refine G_bipush 16 (by decide) d_Mo_worstNews_16 ?_
    refine G_icmp_ge 42 (by decide) d_Mo_worstNews_18 (fun c_18 => ?_) (fun c_18 => ?_)
    · replace h := ob_t h c_18
      refine G_iload_n 1 rfl d_Mo_worstNews_42 ?_
      refine G_iconst 1 (by decide) d_Mo_worstNews_43 ?_
      refine G_icmp_ne 55 (by decide) d_Mo_worstNews_44 (fun c_44 => ?_) (fun c_44 => ?_)
      · replace h := ob_f h c_44
        refine G_aload_n 0 rfl d_Mo_worstNews_55 ?_
        refine G_iload_n 2 rfl d_Mo_worstNews_56 ?_
        obtain ⟨v_57, q_57, h⟩ := ob_b h
        refine G_callV [.int l2] [] (t_Mo_lightOf q_57) (by decide) (by decide) mv_Mo_lightOf rfl ml_Mo_320 km_0 sm_0 cl_12 rfl (Nat.le_of_ble_eq_true rfl) d_Mo_worstNews_57 ?_
        refine G_if_ne 68 (by decide) d_Mo_worstNews_60 (fun c_60 => ?_) (fun c_60 => ?_)
        · replace h := ob_f h c_60
          refine G_iload_n 2 rfl d_Mo_worstNews_68 ?_
          cases h
          exact G_iret rfl d_Mo_worstNews_69
        · replace h := ob_t h c_60
          refine G_bipush (-2) (by decide) d_Mo_worstNews_63 ?_
          refine G_goto 69 (by decide) d_Mo_worstNews_65 ?_
          cases h
          exact G_iret rfl d_Mo_worstNews_69
      · replace h := ob_t h c_44
        refine G_aload_n 0 rfl d_Mo_worstNews_47 ?_
        refine G_iload_n 2 rfl d_Mo_worstNews_48 ?_
        obtain ⟨v_49, q_49, h⟩ := ob_b h
        refine G_callV [.int l2] [] (t_Mo_lightOf q_49) (by decide) (by decide) mv_Mo_lightOf rfl ml_Mo_320 km_0 sm_0 cl_12 rfl (Nat.le_of_ble_eq_true rfl) d_Mo_worstNews_49 ?_
        refine G_goto 69 (by decide) d_Mo_worstNews_52 ?_
        cases h
        exact G_iret rfl d_Mo_worstNews_69
    · replace h := ob_f h c_18
      refine G_aload_n 0 rfl d_Mo_worstNews_21 ?_
      refine G_iload_n 3 rfl d_Mo_worstNews_22 ?_
      obtain ⟨v_23, q_23, h⟩ := ob_b h
      refine G_callV [.int l3] [] (t_Mo_lightOf q_23) (by decide) (by decide) mv_Mo_lightOf rfl ml_Mo_320 km_0 sm_0 cl_12 rfl (Nat.le_of_ble_eq_true rfl) d_Mo_worstNews_23 ?_
      refine G_aload_n 0 rfl d_Mo_worstNews_26 ?_
      refine G_iload_n 2 rfl d_Mo_worstNews_27 ?_
      obtain ⟨v_28, q_28, h⟩ := ob_b h
      refine G_callV [.int l2] [.int v_23] (t_Mo_lightOf q_28) (by decide) (by decide) mv_Mo_lightOf rfl ml_Mo_320 km_0 sm_0 cl_12 rfl (Nat.le_of_ble_eq_true rfl) d_Mo_worstNews_28 ?_
      refine G_icmp_le 36 (by decide) d_Mo_worstNews_31 (fun c_31 => ?_) (fun c_31 => ?_)
      · replace h := ob_t h c_31
        exact G_sub _ [0, 1, 2, 3] rfl (t_Mo_worstNews_36 ih S l1 l2 l3 _ h)
      · replace h := ob_f h c_31
        refine G_iload_n 3 rfl d_Mo_worstNews_34 ?_
        refine G_istore_n [(2, .int l3), (0, .ref 0), (1, .int l1), (3, .int l3)] rfl rfl (by decide) d_Mo_worstNews_35 ?_
        exact G_sub _ [1, 2, 0, 3] rfl (t_Mo_worstNews_36 ih S l1 l3 l3 _ h)
def f_Mo_worstNews (S : St) (l1 : Int32) : Option (Int32) :=
    (f_Mo_in S l1 (0 : Int32) (1 : Int32)).bind fun v_3 =>
    if v_3 = 0 then (
    some ((-1) : Int32))
    else (
    (some (0 : Int32)).bind fun l2_12 =>
    (some (1 : Int32)).bind fun l3_14 =>
    f_Mo_worstNews_15 FU S l1 l2_12 l3_14)
set_option maxHeartbeats 4000000 in
set_option maxRecDepth 20000 in
theorem t_Mo_worstNews  {S : St} {l1 : Int32} {w : Int32} (h : f_Mo_worstNews S l1 = some w) : Ct SM m_Mo_worstNews 2 [.ref 0, .int l1] S (some w) S := by
  unfold f_Mo_worstNews at h
  refine Ct.of pn_Mo (Nat.le_of_ble_eq_true rfl) ?_
  show G SM m_Mo_worstNews 2 (some w) S 0 [(0, .ref 0), (1, .int l1)] [] S
  refine G_iload_n 1 rfl d_Mo_worstNews_0 ?_
  refine G_iconst 0 (by decide) d_Mo_worstNews_1 ?_
  refine G_iconst 1 (by decide) d_Mo_worstNews_2 ?_
  obtain ⟨v_3, q_3, h⟩ := ob_b h
  refine G_callS [.int l1, .int 0, .int 1] [] (t_Mo_in q_3) (by decide) (by decide) mt_Mo_in rfl ml_Mo_124 rfl (Nat.le_of_ble_eq_true rfl) d_Mo_worstNews_3 ?_
  refine G_if_ne 11 (by decide) d_Mo_worstNews_6 (fun c_6 => ?_) (fun c_6 => ?_)
  · replace h := ob_f h c_6
    refine G_iconst 0 (by decide) d_Mo_worstNews_11 ?_
    obtain ⟨l2_12, e_12, h⟩ := ob_s h
    refine G_istore_n [(2, .int l2_12), (0, .ref 0), (1, .int l1)] e_12 rfl (by decide) d_Mo_worstNews_12 ?_
    refine G_iconst 1 (by decide) d_Mo_worstNews_13 ?_
    obtain ⟨l3_14, e_14, h⟩ := ob_s h
    refine G_istore_n [(3, .int l3_14), (2, .int l2_12), (0, .ref 0), (1, .int l1)] e_14 rfl (by decide) d_Mo_worstNews_14 ?_
    exact G_sub _ [2, 3, 1, 0] rfl (t_Mo_worstNews_15 FU S l1 l2_12 l3_14 _ h)
  · replace h := ob_t h c_6
    refine G_iconst (-1) (by decide) d_Mo_worstNews_9 ?_
    cases h
    exact G_iret rfl d_Mo_worstNews_10
theorem d_Mo_median_0 : decode m_Mo_median.2.1 0 = .ok (.iconst 0, 1) := by decide +kernel
theorem d_Mo_median_1 : decode m_Mo_median.2.1 1 = .ok (.istore_n 1, 1) := by decide +kernel
theorem d_Mo_median_2 : decode m_Mo_median.2.1 2 = .ok (.iconst 0, 1) := by decide +kernel
theorem d_Mo_median_3 : decode m_Mo_median.2.1 3 = .ok (.istore_n 2, 1) := by decide +kernel
theorem d_Mo_median_4 : decode m_Mo_median.2.1 4 = .ok (.iload_n 2, 1) := by decide +kernel
theorem d_Mo_median_5 : decode m_Mo_median.2.1 5 = .ok (.aload_n 0, 1) := by decide +kernel
theorem d_Mo_median_6 : decode m_Mo_median.2.1 6 = .ok (.getfield 120, 3) := by decide +kernel
theorem d_Mo_median_9 : decode m_Mo_median.2.1 9 = .ok (.if_icmp .ge 21, 3) := by decide +kernel
theorem d_Mo_median_12 : decode m_Mo_median.2.1 12 = .ok (.aload_n 0, 1) := by decide +kernel
theorem d_Mo_median_13 : decode m_Mo_median.2.1 13 = .ok (.iload_n 2, 1) := by decide +kernel
theorem d_Mo_median_14 : decode m_Mo_median.2.1 14 = .ok (.invokevirtual 132, 3) := by decide +kernel
theorem d_Mo_median_17 : decode m_Mo_median.2.1 17 = .ok (.ifCond .eq 7, 3) := by decide +kernel
theorem d_Mo_median_20 : decode m_Mo_median.2.1 20 = .ok (.iload_n 1, 1) := by decide +kernel
theorem d_Mo_median_21 : decode m_Mo_median.2.1 21 = .ok (.iconst 1, 1) := by decide +kernel
theorem d_Mo_median_22 : decode m_Mo_median.2.1 22 = .ok (.iadd, 1) := by decide +kernel
theorem d_Mo_median_23 : decode m_Mo_median.2.1 23 = .ok (.istore_n 1, 1) := by decide +kernel
theorem d_Mo_median_24 : decode m_Mo_median.2.1 24 = .ok (.iinc 2 1, 3) := by decide +kernel
theorem d_Mo_median_27 : decode m_Mo_median.2.1 27 = .ok (.goto (-23), 3) := by decide +kernel
theorem d_Mo_median_30 : decode m_Mo_median.2.1 30 = .ok (.iconst 0, 1) := by decide +kernel
theorem d_Mo_median_31 : decode m_Mo_median.2.1 31 = .ok (.istore_n 2, 1) := by decide +kernel
theorem d_Mo_median_32 : decode m_Mo_median.2.1 32 = .ok (.iload_n 2, 1) := by decide +kernel
theorem d_Mo_median_33 : decode m_Mo_median.2.1 33 = .ok (.aload_n 0, 1) := by decide +kernel
theorem d_Mo_median_34 : decode m_Mo_median.2.1 34 = .ok (.getfield 120, 3) := by decide +kernel
theorem d_Mo_median_37 : decode m_Mo_median.2.1 37 = .ok (.if_icmp .ge 143, 3) := by decide +kernel
theorem d_Mo_median_40 : decode m_Mo_median.2.1 40 = .ok (.iconst 0, 1) := by decide +kernel
theorem d_Mo_median_41 : decode m_Mo_median.2.1 41 = .ok (.istore_n 3, 1) := by decide +kernel
theorem d_Mo_median_42 : decode m_Mo_median.2.1 42 = .ok (.iconst 0, 1) := by decide +kernel
theorem d_Mo_median_43 : decode m_Mo_median.2.1 43 = .ok (.istore 4, 2) := by decide +kernel
theorem d_Mo_median_45 : decode m_Mo_median.2.1 45 = .ok (.iconst 0, 1) := by decide +kernel
theorem d_Mo_median_46 : decode m_Mo_median.2.1 46 = .ok (.istore 5, 2) := by decide +kernel
theorem d_Mo_median_48 : decode m_Mo_median.2.1 48 = .ok (.iload 5, 2) := by decide +kernel
theorem d_Mo_median_50 : decode m_Mo_median.2.1 50 = .ok (.aload_n 0, 1) := by decide +kernel
theorem d_Mo_median_51 : decode m_Mo_median.2.1 51 = .ok (.getfield 120, 3) := by decide +kernel
theorem d_Mo_median_54 : decode m_Mo_median.2.1 54 = .ok (.if_icmp .ge 81, 3) := by decide +kernel
theorem d_Mo_median_57 : decode m_Mo_median.2.1 57 = .ok (.aload_n 0, 1) := by decide +kernel
theorem d_Mo_median_58 : decode m_Mo_median.2.1 58 = .ok (.iload 5, 2) := by decide +kernel
theorem d_Mo_median_60 : decode m_Mo_median.2.1 60 = .ok (.invokevirtual 132, 3) := by decide +kernel
theorem d_Mo_median_63 : decode m_Mo_median.2.1 63 = .ok (.ifCond .eq 29, 3) := by decide +kernel
theorem d_Mo_median_66 : decode m_Mo_median.2.1 66 = .ok (.aload_n 0, 1) := by decide +kernel
theorem d_Mo_median_67 : decode m_Mo_median.2.1 67 = .ok (.getfield 7, 3) := by decide +kernel
theorem d_Mo_median_70 : decode m_Mo_median.2.1 70 = .ok (.bipush 48, 2) := by decide +kernel
theorem d_Mo_median_72 : decode m_Mo_median.2.1 72 = .ok (.iload 5, 2) := by decide +kernel
theorem d_Mo_median_74 : decode m_Mo_median.2.1 74 = .ok (.iadd, 1) := by decide +kernel
theorem d_Mo_median_75 : decode m_Mo_median.2.1 75 = .ok (.iaload, 1) := by decide +kernel
theorem d_Mo_median_76 : decode m_Mo_median.2.1 76 = .ok (.aload_n 0, 1) := by decide +kernel
theorem d_Mo_median_77 : decode m_Mo_median.2.1 77 = .ok (.getfield 7, 3) := by decide +kernel
theorem d_Mo_median_80 : decode m_Mo_median.2.1 80 = .ok (.bipush 48, 2) := by decide +kernel
theorem d_Mo_median_82 : decode m_Mo_median.2.1 82 = .ok (.iload_n 2, 1) := by decide +kernel
theorem d_Mo_median_83 : decode m_Mo_median.2.1 83 = .ok (.iadd, 1) := by decide +kernel
theorem d_Mo_median_84 : decode m_Mo_median.2.1 84 = .ok (.iaload, 1) := by decide +kernel
theorem d_Mo_median_85 : decode m_Mo_median.2.1 85 = .ok (.if_icmp .ge 7, 3) := by decide +kernel
theorem d_Mo_median_88 : decode m_Mo_median.2.1 88 = .ok (.iload_n 3, 1) := by decide +kernel
theorem d_Mo_median_89 : decode m_Mo_median.2.1 89 = .ok (.iconst 1, 1) := by decide +kernel
theorem d_Mo_median_90 : decode m_Mo_median.2.1 90 = .ok (.iadd, 1) := by decide +kernel
theorem d_Mo_median_91 : decode m_Mo_median.2.1 91 = .ok (.istore_n 3, 1) := by decide +kernel
theorem d_Mo_median_92 : decode m_Mo_median.2.1 92 = .ok (.aload_n 0, 1) := by decide +kernel
theorem d_Mo_median_93 : decode m_Mo_median.2.1 93 = .ok (.iload 5, 2) := by decide +kernel
theorem d_Mo_median_95 : decode m_Mo_median.2.1 95 = .ok (.invokevirtual 132, 3) := by decide +kernel
theorem d_Mo_median_98 : decode m_Mo_median.2.1 98 = .ok (.ifCond .eq 31, 3) := by decide +kernel
theorem d_Mo_median_101 : decode m_Mo_median.2.1 101 = .ok (.aload_n 0, 1) := by decide +kernel
theorem d_Mo_median_102 : decode m_Mo_median.2.1 102 = .ok (.getfield 7, 3) := by decide +kernel
theorem d_Mo_median_105 : decode m_Mo_median.2.1 105 = .ok (.bipush 48, 2) := by decide +kernel
theorem d_Mo_median_107 : decode m_Mo_median.2.1 107 = .ok (.iload 5, 2) := by decide +kernel
theorem d_Mo_median_109 : decode m_Mo_median.2.1 109 = .ok (.iadd, 1) := by decide +kernel
theorem d_Mo_median_110 : decode m_Mo_median.2.1 110 = .ok (.iaload, 1) := by decide +kernel
theorem d_Mo_median_111 : decode m_Mo_median.2.1 111 = .ok (.aload_n 0, 1) := by decide +kernel
theorem d_Mo_median_112 : decode m_Mo_median.2.1 112 = .ok (.getfield 7, 3) := by decide +kernel
theorem d_Mo_median_115 : decode m_Mo_median.2.1 115 = .ok (.bipush 48, 2) := by decide +kernel
theorem d_Mo_median_117 : decode m_Mo_median.2.1 117 = .ok (.iload_n 2, 1) := by decide +kernel
theorem d_Mo_median_118 : decode m_Mo_median.2.1 118 = .ok (.iadd, 1) := by decide +kernel
theorem d_Mo_median_119 : decode m_Mo_median.2.1 119 = .ok (.iaload, 1) := by decide +kernel
theorem d_Mo_median_120 : decode m_Mo_median.2.1 120 = .ok (.if_icmp .ne 9, 3) := by decide +kernel
theorem d_Mo_median_123 : decode m_Mo_median.2.1 123 = .ok (.iload 4, 2) := by decide +kernel
theorem d_Mo_median_125 : decode m_Mo_median.2.1 125 = .ok (.iconst 1, 1) := by decide +kernel
theorem d_Mo_median_126 : decode m_Mo_median.2.1 126 = .ok (.iadd, 1) := by decide +kernel
theorem d_Mo_median_127 : decode m_Mo_median.2.1 127 = .ok (.istore 4, 2) := by decide +kernel
theorem d_Mo_median_129 : decode m_Mo_median.2.1 129 = .ok (.iinc 5 1, 3) := by decide +kernel
theorem d_Mo_median_132 : decode m_Mo_median.2.1 132 = .ok (.goto (-84), 3) := by decide +kernel
theorem d_Mo_median_135 : decode m_Mo_median.2.1 135 = .ok (.aload_n 0, 1) := by decide +kernel
theorem d_Mo_median_136 : decode m_Mo_median.2.1 136 = .ok (.iload_n 2, 1) := by decide +kernel
theorem d_Mo_median_137 : decode m_Mo_median.2.1 137 = .ok (.invokevirtual 132, 3) := by decide +kernel
theorem d_Mo_median_140 : decode m_Mo_median.2.1 140 = .ok (.ifCond .eq 34, 3) := by decide +kernel
theorem d_Mo_median_143 : decode m_Mo_median.2.1 143 = .ok (.iload_n 3, 1) := by decide +kernel
theorem d_Mo_median_144 : decode m_Mo_median.2.1 144 = .ok (.iload_n 1, 1) := by decide +kernel
theorem d_Mo_median_145 : decode m_Mo_median.2.1 145 = .ok (.iconst 1, 1) := by decide +kernel
theorem d_Mo_median_146 : decode m_Mo_median.2.1 146 = .ok (.isub, 1) := by decide +kernel
theorem d_Mo_median_147 : decode m_Mo_median.2.1 147 = .ok (.iconst 2, 1) := by decide +kernel
theorem d_Mo_median_148 : decode m_Mo_median.2.1 148 = .ok (.idiv, 1) := by decide +kernel
theorem d_Mo_median_149 : decode m_Mo_median.2.1 149 = .ok (.if_icmp .gt 25, 3) := by decide +kernel
theorem d_Mo_median_152 : decode m_Mo_median.2.1 152 = .ok (.iload_n 3, 1) := by decide +kernel
theorem d_Mo_median_153 : decode m_Mo_median.2.1 153 = .ok (.iload 4, 2) := by decide +kernel
theorem d_Mo_median_155 : decode m_Mo_median.2.1 155 = .ok (.iadd, 1) := by decide +kernel
theorem d_Mo_median_156 : decode m_Mo_median.2.1 156 = .ok (.iload_n 1, 1) := by decide +kernel
theorem d_Mo_median_157 : decode m_Mo_median.2.1 157 = .ok (.iconst 1, 1) := by decide +kernel
theorem d_Mo_median_158 : decode m_Mo_median.2.1 158 = .ok (.isub, 1) := by decide +kernel
theorem d_Mo_median_159 : decode m_Mo_median.2.1 159 = .ok (.iconst 2, 1) := by decide +kernel
theorem d_Mo_median_160 : decode m_Mo_median.2.1 160 = .ok (.idiv, 1) := by decide +kernel
theorem d_Mo_median_161 : decode m_Mo_median.2.1 161 = .ok (.if_icmp .le 13, 3) := by decide +kernel
theorem d_Mo_median_164 : decode m_Mo_median.2.1 164 = .ok (.aload_n 0, 1) := by decide +kernel
theorem d_Mo_median_165 : decode m_Mo_median.2.1 165 = .ok (.getfield 7, 3) := by decide +kernel
theorem d_Mo_median_168 : decode m_Mo_median.2.1 168 = .ok (.bipush 48, 2) := by decide +kernel
theorem d_Mo_median_170 : decode m_Mo_median.2.1 170 = .ok (.iload_n 2, 1) := by decide +kernel
theorem d_Mo_median_171 : decode m_Mo_median.2.1 171 = .ok (.iadd, 1) := by decide +kernel
theorem d_Mo_median_172 : decode m_Mo_median.2.1 172 = .ok (.iaload, 1) := by decide +kernel
theorem d_Mo_median_173 : decode m_Mo_median.2.1 173 = .ok (.ireturn, 1) := by decide +kernel
theorem d_Mo_median_174 : decode m_Mo_median.2.1 174 = .ok (.iinc 2 1, 3) := by decide +kernel
theorem d_Mo_median_177 : decode m_Mo_median.2.1 177 = .ok (.goto (-145), 3) := by decide +kernel
theorem d_Mo_median_180 : decode m_Mo_median.2.1 180 = .ok (.bipush (-2), 2) := by decide +kernel
theorem d_Mo_median_182 : decode m_Mo_median.2.1 182 = .ok (.ireturn, 1) := by decide +kernel
def f_Mo_median_24 (k_4 : St → Int32 → Int32 → Option (Int32)) (S : St) (l1 : Int32) (l2 : Int32) : Option (Int32) :=
    (some (l2 + 1)).bind fun l2_24 =>
    k_4 S l1 l2_24
set_option maxHeartbeats 4000000 in
set_option maxRecDepth 20000 in
theorem t_Mo_median_24  {k_4 : St → Int32 → Int32 → Option (Int32)} (hk_4 : ∀ (S : St) (l1 : Int32) (l2 : Int32) (w : Int32), k_4 S l1 l2 = some w → G SM m_Mo_median 4 (some w) S 4 [(0, .ref 0), (1, .int l1), (2, .int l2)] [] S) (S : St) (l1 : Int32) (l2 : Int32) (w : Int32) (h : f_Mo_median_24 k_4 S l1 l2 = some w) : G SM m_Mo_median 4 (some w) S 24 [(0, .ref 0), (1, .int l1), (2, .int l2)] [] S := by
  unfold f_Mo_median_24 at h
  obtain ⟨l2_24, e_24, h⟩ := ob_s h
  refine G_iinc 1 2 [(2, .int l2_24), (0, .ref 0), (1, .int l1)] (by decide) rfl e_24 rfl (by decide) d_Mo_median_24 ?_
  refine G_goto 4 (by decide) d_Mo_median_27 ?_
  exact G_sub _ [1, 2, 0] rfl (hk_4 S l1 l2_24 _ h)
def f_Mo_median_129 (k_32 : St → Int32 → Int32 → Option (Int32)) (k_48 : St → Int32 → Int32 → Int32 → Int32 → Int32 → Option (Int32)) (S : St) (l1 : Int32) (l2 : Int32) (l3 : Int32) (l4 : Int32) (l5 : Int32) : Option (Int32) :=
    (some (l5 + 1)).bind fun l5_129 =>
    k_48 S l1 l2 l3 l4 l5_129
set_option maxHeartbeats 4000000 in
set_option maxRecDepth 20000 in
theorem t_Mo_median_129  {k_32 : St → Int32 → Int32 → Option (Int32)} {k_48 : St → Int32 → Int32 → Int32 → Int32 → Int32 → Option (Int32)} (hk_32 : ∀ (S : St) (l1 : Int32) (l2 : Int32) (w : Int32), k_32 S l1 l2 = some w → G SM m_Mo_median 4 (some w) S 32 [(0, .ref 0), (1, .int l1), (2, .int l2)] [] S) (hk_48 : ∀ (S : St) (l1 : Int32) (l2 : Int32) (l3 : Int32) (l4 : Int32) (l5 : Int32) (w : Int32), k_48 S l1 l2 l3 l4 l5 = some w → G SM m_Mo_median 4 (some w) S 48 [(0, .ref 0), (1, .int l1), (2, .int l2), (3, .int l3), (4, .int l4), (5, .int l5)] [] S) (S : St) (l1 : Int32) (l2 : Int32) (l3 : Int32) (l4 : Int32) (l5 : Int32) (w : Int32) (h : f_Mo_median_129 k_32 k_48 S l1 l2 l3 l4 l5 = some w) : G SM m_Mo_median 4 (some w) S 129 [(0, .ref 0), (1, .int l1), (2, .int l2), (3, .int l3), (4, .int l4), (5, .int l5)] [] S := by
  unfold f_Mo_median_129 at h
  obtain ⟨l5_129, e_129, h⟩ := ob_s h
  refine G_iinc 1 5 [(5, .int l5_129), (0, .ref 0), (1, .int l1), (2, .int l2), (3, .int l3), (4, .int l4)] (by decide) rfl e_129 rfl (by decide) d_Mo_median_129 ?_
  refine G_goto 48 (by decide) d_Mo_median_132 ?_
  exact G_sub _ [1, 2, 3, 4, 5, 0] rfl (hk_48 S l1 l2 l3 l4 l5_129 _ h)
def f_Mo_median_92 (k_32 : St → Int32 → Int32 → Option (Int32)) (k_48 : St → Int32 → Int32 → Int32 → Int32 → Int32 → Option (Int32)) (S : St) (l1 : Int32) (l2 : Int32) (l3 : Int32) (l4 : Int32) (l5 : Int32) : Option (Int32) :=
    (f_Mo_isLeft S l5).bind fun v_95 =>
    if v_95 = 0 then (
    f_Mo_median_129 k_32 k_48 S l1 l2 l3 l4 l5)
    else (
    if ig (48 + l5) 99 then (
    if ig (48 + l2) 99 then (
    if (S 1 (48 + l5).toNatClampNeg) = (S 1 (48 + l2).toNatClampNeg) then (
    (some (l4 + 1)).bind fun l4_127 =>
    f_Mo_median_129 k_32 k_48 S l1 l2 l3 l4_127 l5)
    else (
    f_Mo_median_129 k_32 k_48 S l1 l2 l3 l4 l5)) else none) else none)
set_option maxHeartbeats 4000000 in
set_option maxRecDepth 20000 in
theorem t_Mo_median_92  {k_32 : St → Int32 → Int32 → Option (Int32)} {k_48 : St → Int32 → Int32 → Int32 → Int32 → Int32 → Option (Int32)} (hk_32 : ∀ (S : St) (l1 : Int32) (l2 : Int32) (w : Int32), k_32 S l1 l2 = some w → G SM m_Mo_median 4 (some w) S 32 [(0, .ref 0), (1, .int l1), (2, .int l2)] [] S) (hk_48 : ∀ (S : St) (l1 : Int32) (l2 : Int32) (l3 : Int32) (l4 : Int32) (l5 : Int32) (w : Int32), k_48 S l1 l2 l3 l4 l5 = some w → G SM m_Mo_median 4 (some w) S 48 [(0, .ref 0), (1, .int l1), (2, .int l2), (3, .int l3), (4, .int l4), (5, .int l5)] [] S) (S : St) (l1 : Int32) (l2 : Int32) (l3 : Int32) (l4 : Int32) (l5 : Int32) (w : Int32) (h : f_Mo_median_92 k_32 k_48 S l1 l2 l3 l4 l5 = some w) : G SM m_Mo_median 4 (some w) S 92 [(0, .ref 0), (1, .int l1), (2, .int l2), (3, .int l3), (4, .int l4), (5, .int l5)] [] S := by
  unfold f_Mo_median_92 at h
  refine G_aload_n 0 rfl d_Mo_median_92 ?_
  refine G_iload 5 rfl d_Mo_median_93 ?_
  obtain ⟨v_95, q_95, h⟩ := ob_b h
  refine G_callV [.int l5] [] (t_Mo_isLeft q_95) (by decide) (by decide) mv_Mo_isLeft rfl ml_Mo_132 km_0 sm_0 cl_12 rfl (Nat.le_of_ble_eq_true rfl) d_Mo_median_95 ?_
  refine G_if_eq 129 (by decide) d_Mo_median_98 (fun c_98 => ?_) (fun c_98 => ?_)
  · replace h := ob_t h c_98
    exact G_sub _ [0, 1, 2, 3, 4, 5] rfl (t_Mo_median_129 hk_32 hk_48 S l1 l2 l3 l4 l5 _ h)
  · replace h := ob_f h c_98
    refine G_aload_n 0 rfl d_Mo_median_101 ?_
    refine G_getR fl_Mo_7 km_0 sm_0 rfl (by decide) d_Mo_median_102 ?_
    refine G_bipush 48 (by decide) d_Mo_median_105 ?_
    refine G_iload 5 rfl d_Mo_median_107 ?_
    refine G_iadd d_Mo_median_109 ?_
    obtain ⟨g_110, h⟩ := ob_g h
    refine G_iaload km_1 sm_1 g_110 d_Mo_median_110 ?_
    refine G_aload_n 0 rfl d_Mo_median_111 ?_
    refine G_getR fl_Mo_7 km_0 sm_0 rfl (by decide) d_Mo_median_112 ?_
    refine G_bipush 48 (by decide) d_Mo_median_115 ?_
    refine G_iload_n 2 rfl d_Mo_median_117 ?_
    refine G_iadd d_Mo_median_118 ?_
    obtain ⟨g_119, h⟩ := ob_g h
    refine G_iaload km_1 sm_1 g_119 d_Mo_median_119 ?_
    refine G_icmp_ne 129 (by decide) d_Mo_median_120 (fun c_120 => ?_) (fun c_120 => ?_)
    · replace h := ob_f h c_120
      exact G_sub _ [0, 1, 2, 3, 4, 5] rfl (t_Mo_median_129 hk_32 hk_48 S l1 l2 l3 l4 l5 _ h)
    · replace h := ob_t h c_120
      refine G_iload 4 rfl d_Mo_median_123 ?_
      refine G_iconst 1 (by decide) d_Mo_median_125 ?_
      refine G_iadd d_Mo_median_126 ?_
      obtain ⟨l4_127, e_127, h⟩ := ob_s h
      refine G_istore [(4, .int l4_127), (0, .ref 0), (1, .int l1), (2, .int l2), (3, .int l3), (5, .int l5)] e_127 rfl (by decide) d_Mo_median_127 ?_
      exact G_sub _ [1, 2, 3, 4, 0, 5] rfl (t_Mo_median_129 hk_32 hk_48 S l1 l2 l3 l4_127 l5 _ h)
def f_Mo_median_174 (k_32 : St → Int32 → Int32 → Option (Int32)) (S : St) (l1 : Int32) (l2 : Int32) : Option (Int32) :=
    (some (l2 + 1)).bind fun l2_174 =>
    k_32 S l1 l2_174
set_option maxHeartbeats 4000000 in
set_option maxRecDepth 20000 in
theorem t_Mo_median_174  {k_32 : St → Int32 → Int32 → Option (Int32)} (hk_32 : ∀ (S : St) (l1 : Int32) (l2 : Int32) (w : Int32), k_32 S l1 l2 = some w → G SM m_Mo_median 4 (some w) S 32 [(0, .ref 0), (1, .int l1), (2, .int l2)] [] S) (S : St) (l1 : Int32) (l2 : Int32) (w : Int32) (h : f_Mo_median_174 k_32 S l1 l2 = some w) : G SM m_Mo_median 4 (some w) S 174 [(0, .ref 0), (1, .int l1), (2, .int l2)] [] S := by
  unfold f_Mo_median_174 at h
  obtain ⟨l2_174, e_174, h⟩ := ob_s h
  refine G_iinc 1 2 [(2, .int l2_174), (0, .ref 0), (1, .int l1)] (by decide) rfl e_174 rfl (by decide) d_Mo_median_174 ?_
  refine G_goto 32 (by decide) d_Mo_median_177 ?_
  exact G_sub _ [1, 2, 0] rfl (hk_32 S l1 l2_174 _ h)
def f_Mo_median_48 (k_32 : St → Int32 → Int32 → Option (Int32)) : Nat → St → Int32 → Int32 → Int32 → Int32 → Int32 → Option (Int32)
  | 0, _, _, _, _, _, _ => none
  | n + 1, S, l1, l2, l3, l4, l5 =>
    if (S 0 5) ≤ l5 then (
    (f_Mo_isLeft S l2).bind fun v_137 =>
    if v_137 = 0 then (
    f_Mo_median_174 k_32 S l1 l2)
    else (
    if ((l1 - 1) / 2) < l3 then (
    f_Mo_median_174 k_32 S l1 l2)
    else (
    if (l3 + l4) ≤ ((l1 - 1) / 2) then (
    f_Mo_median_174 k_32 S l1 l2)
    else (
    if ig (48 + l2) 99 then (
    some (S 1 (48 + l2).toNatClampNeg)) else none))))
    else (
    (f_Mo_isLeft S l5).bind fun v_60 =>
    if v_60 = 0 then (
    f_Mo_median_92 k_32 (f_Mo_median_48 k_32 n) S l1 l2 l3 l4 l5)
    else (
    if ig (48 + l5) 99 then (
    if ig (48 + l2) 99 then (
    if (S 1 (48 + l2).toNatClampNeg) ≤ (S 1 (48 + l5).toNatClampNeg) then (
    f_Mo_median_92 k_32 (f_Mo_median_48 k_32 n) S l1 l2 l3 l4 l5)
    else (
    (some (l3 + 1)).bind fun l3_91 =>
    f_Mo_median_92 k_32 (f_Mo_median_48 k_32 n) S l1 l2 l3_91 l4 l5)) else none) else none))
set_option maxHeartbeats 4000000 in
set_option maxRecDepth 20000 in
theorem t_Mo_median_48  {k_32 : St → Int32 → Int32 → Option (Int32)} (hk_32 : ∀ (S : St) (l1 : Int32) (l2 : Int32) (w : Int32), k_32 S l1 l2 = some w → G SM m_Mo_median 4 (some w) S 32 [(0, .ref 0), (1, .int l1), (2, .int l2)] [] S) : ∀ (n : Nat) (S : St) (l1 : Int32) (l2 : Int32) (l3 : Int32) (l4 : Int32) (l5 : Int32) (w : Int32), f_Mo_median_48 k_32 n S l1 l2 l3 l4 l5 = some w → G SM m_Mo_median 4 (some w) S 48 [(0, .ref 0), (1, .int l1), (2, .int l2), (3, .int l3), (4, .int l4), (5, .int l5)] [] S := by
  intro n
  induction n with
  | zero =>
    intro S l1 l2 l3 l4 l5 w h
    rw [f_Mo_median_48] at h
    cases h
  | succ n ih =>
    intro S l1 l2 l3 l4 l5 w h
    rw [f_Mo_median_48] at h
    refine G_iload 5 rfl d_Mo_median_48 ?_
    refine G_aload_n 0 rfl d_Mo_median_50 ?_
    refine G_getI fl_Mo_120 km_0 sm_0 rfl d_Mo_median_51 ?_
    refine G_icmp_ge 135 (by decide) d_Mo_median_54 (fun c_54 => ?_) (fun c_54 => ?_)
    · replace h := ob_t h c_54
      refine G_aload_n 0 rfl d_Mo_median_135 ?_
      refine G_iload_n 2 rfl d_Mo_median_136 ?_
      obtain ⟨v_137, q_137, h⟩ := ob_b h
      refine G_callV [.int l2] [] (t_Mo_isLeft q_137) (by decide) (by decide) mv_Mo_isLeft rfl ml_Mo_132 km_0 sm_0 cl_12 rfl (Nat.le_of_ble_eq_true rfl) d_Mo_median_137 ?_
      refine G_if_eq 174 (by decide) d_Mo_median_140 (fun c_140 => ?_) (fun c_140 => ?_)
      · replace h := ob_t h c_140
        exact G_sub _ [0, 1, 2] rfl (t_Mo_median_174 hk_32 S l1 l2 _ h)
      · replace h := ob_f h c_140
        refine G_iload_n 3 rfl d_Mo_median_143 ?_
        refine G_iload_n 1 rfl d_Mo_median_144 ?_
        refine G_iconst 1 (by decide) d_Mo_median_145 ?_
        refine G_isub d_Mo_median_146 ?_
        refine G_iconst 2 (by decide) d_Mo_median_147 ?_
        refine G_idiv (by decide) d_Mo_median_148 ?_
        refine G_icmp_gt 174 (by decide) d_Mo_median_149 (fun c_149 => ?_) (fun c_149 => ?_)
        · replace h := ob_t h c_149
          exact G_sub _ [0, 1, 2] rfl (t_Mo_median_174 hk_32 S l1 l2 _ h)
        · replace h := ob_f h c_149
          refine G_iload_n 3 rfl d_Mo_median_152 ?_
          refine G_iload 4 rfl d_Mo_median_153 ?_
          refine G_iadd d_Mo_median_155 ?_
          refine G_iload_n 1 rfl d_Mo_median_156 ?_
          refine G_iconst 1 (by decide) d_Mo_median_157 ?_
          refine G_isub d_Mo_median_158 ?_
          refine G_iconst 2 (by decide) d_Mo_median_159 ?_
          refine G_idiv (by decide) d_Mo_median_160 ?_
          refine G_icmp_le 174 (by decide) d_Mo_median_161 (fun c_161 => ?_) (fun c_161 => ?_)
          · replace h := ob_t h c_161
            exact G_sub _ [0, 1, 2] rfl (t_Mo_median_174 hk_32 S l1 l2 _ h)
          · replace h := ob_f h c_161
            refine G_aload_n 0 rfl d_Mo_median_164 ?_
            refine G_getR fl_Mo_7 km_0 sm_0 rfl (by decide) d_Mo_median_165 ?_
            refine G_bipush 48 (by decide) d_Mo_median_168 ?_
            refine G_iload_n 2 rfl d_Mo_median_170 ?_
            refine G_iadd d_Mo_median_171 ?_
            obtain ⟨g_172, h⟩ := ob_g h
            refine G_iaload km_1 sm_1 g_172 d_Mo_median_172 ?_
            cases h
            exact G_iret rfl d_Mo_median_173
    · replace h := ob_f h c_54
      refine G_aload_n 0 rfl d_Mo_median_57 ?_
      refine G_iload 5 rfl d_Mo_median_58 ?_
      obtain ⟨v_60, q_60, h⟩ := ob_b h
      refine G_callV [.int l5] [] (t_Mo_isLeft q_60) (by decide) (by decide) mv_Mo_isLeft rfl ml_Mo_132 km_0 sm_0 cl_12 rfl (Nat.le_of_ble_eq_true rfl) d_Mo_median_60 ?_
      refine G_if_eq 92 (by decide) d_Mo_median_63 (fun c_63 => ?_) (fun c_63 => ?_)
      · replace h := ob_t h c_63
        exact G_sub _ [0, 1, 2, 3, 4, 5] rfl (t_Mo_median_92 hk_32 ih S l1 l2 l3 l4 l5 _ h)
      · replace h := ob_f h c_63
        refine G_aload_n 0 rfl d_Mo_median_66 ?_
        refine G_getR fl_Mo_7 km_0 sm_0 rfl (by decide) d_Mo_median_67 ?_
        refine G_bipush 48 (by decide) d_Mo_median_70 ?_
        refine G_iload 5 rfl d_Mo_median_72 ?_
        refine G_iadd d_Mo_median_74 ?_
        obtain ⟨g_75, h⟩ := ob_g h
        refine G_iaload km_1 sm_1 g_75 d_Mo_median_75 ?_
        refine G_aload_n 0 rfl d_Mo_median_76 ?_
        refine G_getR fl_Mo_7 km_0 sm_0 rfl (by decide) d_Mo_median_77 ?_
        refine G_bipush 48 (by decide) d_Mo_median_80 ?_
        refine G_iload_n 2 rfl d_Mo_median_82 ?_
        refine G_iadd d_Mo_median_83 ?_
        obtain ⟨g_84, h⟩ := ob_g h
        refine G_iaload km_1 sm_1 g_84 d_Mo_median_84 ?_
        refine G_icmp_ge 92 (by decide) d_Mo_median_85 (fun c_85 => ?_) (fun c_85 => ?_)
        · replace h := ob_t h c_85
          exact G_sub _ [0, 1, 2, 3, 4, 5] rfl (t_Mo_median_92 hk_32 ih S l1 l2 l3 l4 l5 _ h)
        · replace h := ob_f h c_85
          refine G_iload_n 3 rfl d_Mo_median_88 ?_
          refine G_iconst 1 (by decide) d_Mo_median_89 ?_
          refine G_iadd d_Mo_median_90 ?_
          obtain ⟨l3_91, e_91, h⟩ := ob_s h
          refine G_istore_n [(3, .int l3_91), (0, .ref 0), (1, .int l1), (2, .int l2), (4, .int l4), (5, .int l5)] e_91 rfl (by decide) d_Mo_median_91 ?_
          exact G_sub _ [1, 2, 3, 0, 4, 5] rfl (t_Mo_median_92 hk_32 ih S l1 l2 l3_91 l4 l5 _ h)
def f_Mo_median_32 : Nat → St → Int32 → Int32 → Option (Int32)
  | 0, _, _, _ => none
  | n + 1, S, l1, l2 =>
    if (S 0 5) ≤ l2 then (
    some ((-2) : Int32))
    else (
    (some (0 : Int32)).bind fun l3_41 =>
    (some (0 : Int32)).bind fun l4_43 =>
    (some (0 : Int32)).bind fun l5_46 =>
    f_Mo_median_48 (f_Mo_median_32 n) FU S l1 l2 l3_41 l4_43 l5_46)
set_option maxHeartbeats 4000000 in
set_option maxRecDepth 20000 in
theorem t_Mo_median_32  : ∀ (n : Nat) (S : St) (l1 : Int32) (l2 : Int32) (w : Int32), f_Mo_median_32 n S l1 l2 = some w → G SM m_Mo_median 4 (some w) S 32 [(0, .ref 0), (1, .int l1), (2, .int l2)] [] S := by
  intro n
  induction n with
  | zero =>
    intro S l1 l2 w h
    rw [f_Mo_median_32] at h
    cases h
  | succ n ih =>
    intro S l1 l2 w h
    rw [f_Mo_median_32] at h
    refine G_iload_n 2 rfl d_Mo_median_32 ?_
    refine G_aload_n 0 rfl d_Mo_median_33 ?_
    refine G_getI fl_Mo_120 km_0 sm_0 rfl d_Mo_median_34 ?_
    refine G_icmp_ge 180 (by decide) d_Mo_median_37 (fun c_37 => ?_) (fun c_37 => ?_)
    · replace h := ob_t h c_37
      refine G_bipush (-2) (by decide) d_Mo_median_180 ?_
      cases h
      exact G_iret rfl d_Mo_median_182
    · replace h := ob_f h c_37
      refine G_iconst 0 (by decide) d_Mo_median_40 ?_
      obtain ⟨l3_41, e_41, h⟩ := ob_s h
      refine G_istore_n [(3, .int l3_41), (0, .ref 0), (1, .int l1), (2, .int l2)] e_41 rfl (by decide) d_Mo_median_41 ?_
      refine G_iconst 0 (by decide) d_Mo_median_42 ?_
      obtain ⟨l4_43, e_43, h⟩ := ob_s h
      refine G_istore [(4, .int l4_43), (3, .int l3_41), (0, .ref 0), (1, .int l1), (2, .int l2)] e_43 rfl (by decide) d_Mo_median_43 ?_
      refine G_iconst 0 (by decide) d_Mo_median_45 ?_
      obtain ⟨l5_46, e_46, h⟩ := ob_s h
      refine G_istore [(5, .int l5_46), (4, .int l4_43), (3, .int l3_41), (0, .ref 0), (1, .int l1), (2, .int l2)] e_46 rfl (by decide) d_Mo_median_46 ?_
      exact G_sub _ [3, 4, 5, 2, 1, 0] rfl (t_Mo_median_48 ih FU S l1 l2 l3_41 l4_43 l5_46 _ h)
def f_Mo_median_4 : Nat → St → Int32 → Int32 → Option (Int32)
  | 0, _, _, _ => none
  | n + 1, S, l1, l2 =>
    if (S 0 5) ≤ l2 then (
    (some (0 : Int32)).bind fun l2_31 =>
    f_Mo_median_32 FU S l1 l2_31)
    else (
    (f_Mo_isLeft S l2).bind fun v_14 =>
    if v_14 = 0 then (
    f_Mo_median_24 (f_Mo_median_4 n) S l1 l2)
    else (
    (some (l1 + 1)).bind fun l1_23 =>
    f_Mo_median_24 (f_Mo_median_4 n) S l1_23 l2))
set_option maxHeartbeats 4000000 in
set_option maxRecDepth 20000 in
theorem t_Mo_median_4  : ∀ (n : Nat) (S : St) (l1 : Int32) (l2 : Int32) (w : Int32), f_Mo_median_4 n S l1 l2 = some w → G SM m_Mo_median 4 (some w) S 4 [(0, .ref 0), (1, .int l1), (2, .int l2)] [] S := by
  intro n
  induction n with
  | zero =>
    intro S l1 l2 w h
    rw [f_Mo_median_4] at h
    cases h
  | succ n ih =>
    intro S l1 l2 w h
    rw [f_Mo_median_4] at h
    refine G_iload_n 2 rfl d_Mo_median_4 ?_
    refine G_aload_n 0 rfl d_Mo_median_5 ?_
    refine G_getI fl_Mo_120 km_0 sm_0 rfl d_Mo_median_6 ?_
    refine G_icmp_ge 30 (by decide) d_Mo_median_9 (fun c_9 => ?_) (fun c_9 => ?_)
    · replace h := ob_t h c_9
      refine G_iconst 0 (by decide) d_Mo_median_30 ?_
      obtain ⟨l2_31, e_31, h⟩ := ob_s h
      refine G_istore_n [(2, .int l2_31), (0, .ref 0), (1, .int l1)] e_31 rfl (by decide) d_Mo_median_31 ?_
      exact G_sub _ [1, 2, 0] rfl (t_Mo_median_32 FU S l1 l2_31 _ h)
    · replace h := ob_f h c_9
      refine G_aload_n 0 rfl d_Mo_median_12 ?_
      refine G_iload_n 2 rfl d_Mo_median_13 ?_
      obtain ⟨v_14, q_14, h⟩ := ob_b h
      refine G_callV [.int l2] [] (t_Mo_isLeft q_14) (by decide) (by decide) mv_Mo_isLeft rfl ml_Mo_132 km_0 sm_0 cl_12 rfl (Nat.le_of_ble_eq_true rfl) d_Mo_median_14 ?_
      refine G_if_eq 24 (by decide) d_Mo_median_17 (fun c_17 => ?_) (fun c_17 => ?_)
      · replace h := ob_t h c_17
        exact G_sub _ [0, 1, 2] rfl (t_Mo_median_24 ih S l1 l2 _ h)
      · replace h := ob_f h c_17
        refine G_iload_n 1 rfl d_Mo_median_20 ?_
        refine G_iconst 1 (by decide) d_Mo_median_21 ?_
        refine G_iadd d_Mo_median_22 ?_
        obtain ⟨l1_23, e_23, h⟩ := ob_s h
        refine G_istore_n [(1, .int l1_23), (0, .ref 0), (2, .int l2)] e_23 rfl (by decide) d_Mo_median_23 ?_
        exact G_sub _ [1, 0, 2] rfl (t_Mo_median_24 ih S l1_23 l2 _ h)
def f_Mo_median (S : St) : Option (Int32) :=
    (some (0 : Int32)).bind fun l1_1 =>
    (some (0 : Int32)).bind fun l2_3 =>
    f_Mo_median_4 FU S l1_1 l2_3
set_option maxHeartbeats 4000000 in
set_option maxRecDepth 20000 in
theorem t_Mo_median  {S : St} {w : Int32} (h : f_Mo_median S = some w) : Ct SM m_Mo_median 4 [.ref 0] S (some w) S := by
  unfold f_Mo_median at h
  refine Ct.of pn_Mo (Nat.le_of_ble_eq_true rfl) ?_
  show G SM m_Mo_median 4 (some w) S 0 [(0, .ref 0)] [] S
  refine G_iconst 0 (by decide) d_Mo_median_0 ?_
  obtain ⟨l1_1, e_1, h⟩ := ob_s h
  refine G_istore_n [(1, .int l1_1), (0, .ref 0)] e_1 rfl (by decide) d_Mo_median_1 ?_
  refine G_iconst 0 (by decide) d_Mo_median_2 ?_
  obtain ⟨l2_3, e_3, h⟩ := ob_s h
  refine G_istore_n [(2, .int l2_3), (1, .int l1_1), (0, .ref 0)] e_3 rfl (by decide) d_Mo_median_3 ?_
  exact G_sub _ [2, 1, 0] rfl (t_Mo_median_4 FU S l1_1 l2_3 _ h)
theorem d_Mo_readsTimes_0 : decode m_Mo_readsTimes.2.1 0 = .ok (.aload_n 0, 1) := by decide +kernel
theorem d_Mo_readsTimes_1 : decode m_Mo_readsTimes.2.1 1 = .ok (.aload_n 0, 1) := by decide +kernel
theorem d_Mo_readsTimes_2 : decode m_Mo_readsTimes.2.1 2 = .ok (.getfield 142, 3) := by decide +kernel
theorem d_Mo_readsTimes_5 : decode m_Mo_readsTimes.2.1 5 = .ok (.putfield 323, 3) := by decide +kernel
theorem d_Mo_readsTimes_8 : decode m_Mo_readsTimes.2.1 8 = .ok (.aload_n 0, 1) := by decide +kernel
theorem d_Mo_readsTimes_9 : decode m_Mo_readsTimes.2.1 9 = .ok (.iconst 1, 1) := by decide +kernel
theorem d_Mo_readsTimes_10 : decode m_Mo_readsTimes.2.1 10 = .ok (.putfield 326, 3) := by decide +kernel
theorem d_Mo_readsTimes_13 : decode m_Mo_readsTimes.2.1 13 = .ok (.aload_n 0, 1) := by decide +kernel
theorem d_Mo_readsTimes_14 : decode m_Mo_readsTimes.2.1 14 = .ok (.invokevirtual 148, 3) := by decide +kernel
theorem d_Mo_readsTimes_17 : decode m_Mo_readsTimes.2.1 17 = .ok (.bipush 50, 2) := by decide +kernel
theorem d_Mo_readsTimes_19 : decode m_Mo_readsTimes.2.1 19 = .ok (.bipush 57, 2) := by decide +kernel
theorem d_Mo_readsTimes_21 : decode m_Mo_readsTimes.2.1 21 = .ok (.invokestatic 124, 3) := by decide +kernel
theorem d_Mo_readsTimes_24 : decode m_Mo_readsTimes.2.1 24 = .ok (.ifCond .ne 4, 3) := by decide +kernel
theorem d_Mo_readsTimes_27 : decode m_Mo_readsTimes.2.1 27 = .ok (.return_, 1) := by decide +kernel
theorem d_Mo_readsTimes_28 : decode m_Mo_readsTimes.2.1 28 = .ok (.aload_n 0, 1) := by decide +kernel
theorem d_Mo_readsTimes_29 : decode m_Mo_readsTimes.2.1 29 = .ok (.aload_n 0, 1) := by decide +kernel
theorem d_Mo_readsTimes_30 : decode m_Mo_readsTimes.2.1 30 = .ok (.invokevirtual 148, 3) := by decide +kernel
theorem d_Mo_readsTimes_33 : decode m_Mo_readsTimes.2.1 33 = .ok (.bipush 48, 2) := by decide +kernel
theorem d_Mo_readsTimes_35 : decode m_Mo_readsTimes.2.1 35 = .ok (.isub, 1) := by decide +kernel
theorem d_Mo_readsTimes_36 : decode m_Mo_readsTimes.2.1 36 = .ok (.putfield 326, 3) := by decide +kernel
theorem d_Mo_readsTimes_39 : decode m_Mo_readsTimes.2.1 39 = .ok (.aload_n 0, 1) := by decide +kernel
theorem d_Mo_readsTimes_40 : decode m_Mo_readsTimes.2.1 40 = .ok (.aload_n 0, 1) := by decide +kernel
theorem d_Mo_readsTimes_41 : decode m_Mo_readsTimes.2.1 41 = .ok (.getfield 142, 3) := by decide +kernel
theorem d_Mo_readsTimes_44 : decode m_Mo_readsTimes.2.1 44 = .ok (.iconst 1, 1) := by decide +kernel
theorem d_Mo_readsTimes_45 : decode m_Mo_readsTimes.2.1 45 = .ok (.iadd, 1) := by decide +kernel
theorem d_Mo_readsTimes_46 : decode m_Mo_readsTimes.2.1 46 = .ok (.putfield 142, 3) := by decide +kernel
theorem d_Mo_readsTimes_49 : decode m_Mo_readsTimes.2.1 49 = .ok (.return_, 1) := by decide +kernel
def f_Mo_readsTimes (S : St) : Option (St) :=
    (some (sF S 0 47 (S 0 8))).bind fun S_5 =>
    (some (sF S_5 0 48 1)).bind fun S_10 =>
    (f_Mo_here S_10).bind fun v_14 =>
    (f_Mo_in S_10 v_14 (50 : Int32) (57 : Int32)).bind fun v_21 =>
    if v_21 = 0 then (
    some S_10)
    else (
    (f_Mo_here S_10).bind fun v_30 =>
    (some (sF S_10 0 48 (v_30 - 48))).bind fun S_36 =>
    (some (sF S_36 0 8 ((S_36 0 8) + 1))).bind fun S_46 =>
    some S_46)
set_option maxHeartbeats 4000000 in
set_option maxRecDepth 20000 in
theorem t_Mo_readsTimes  {S : St} {w : St} (h : f_Mo_readsTimes S = some w) : Ct SM m_Mo_readsTimes 2 [.ref 0] S none w := by
  unfold f_Mo_readsTimes at h
  refine Ct.of pn_Mo (Nat.le_of_ble_eq_true rfl) ?_
  show G SM m_Mo_readsTimes 2 none w 0 [(0, .ref 0)] [] S
  refine G_aload_n 0 rfl d_Mo_readsTimes_0 ?_
  refine G_aload_n 0 rfl d_Mo_readsTimes_1 ?_
  refine G_getI fl_Mo_142 km_0 sm_0 rfl d_Mo_readsTimes_2 ?_
  obtain ⟨S_5, e_5, h⟩ := ob_s h
  refine G_putI e_5 fp_Mo_323 km_0 sm_0 rfl d_Mo_readsTimes_5 ?_
  refine G_aload_n 0 rfl d_Mo_readsTimes_8 ?_
  refine G_iconst 1 (by decide) d_Mo_readsTimes_9 ?_
  obtain ⟨S_10, e_10, h⟩ := ob_s h
  refine G_putI e_10 fp_Mo_326 km_0 sm_0 rfl d_Mo_readsTimes_10 ?_
  refine G_aload_n 0 rfl d_Mo_readsTimes_13 ?_
  obtain ⟨v_14, q_14, h⟩ := ob_b h
  refine G_callV [] [] (t_Mo_here q_14) (by decide) (by decide) mv_Mo_here rfl ml_Mo_148 km_0 sm_0 cl_12 rfl (Nat.le_of_ble_eq_true rfl) d_Mo_readsTimes_14 ?_
  refine G_bipush 50 (by decide) d_Mo_readsTimes_17 ?_
  refine G_bipush 57 (by decide) d_Mo_readsTimes_19 ?_
  obtain ⟨v_21, q_21, h⟩ := ob_b h
  refine G_callS [.int v_14, .int 50, .int 57] [] (t_Mo_in q_21) (by decide) (by decide) mt_Mo_in rfl ml_Mo_124 rfl (Nat.le_of_ble_eq_true rfl) d_Mo_readsTimes_21 ?_
  refine G_if_ne 28 (by decide) d_Mo_readsTimes_24 (fun c_24 => ?_) (fun c_24 => ?_)
  · replace h := ob_f h c_24
    refine G_aload_n 0 rfl d_Mo_readsTimes_28 ?_
    refine G_aload_n 0 rfl d_Mo_readsTimes_29 ?_
    obtain ⟨v_30, q_30, h⟩ := ob_b h
    refine G_callV [] [.ref 0] (t_Mo_here q_30) (by decide) (by decide) mv_Mo_here rfl ml_Mo_148 km_0 sm_0 cl_12 rfl (Nat.le_of_ble_eq_true rfl) d_Mo_readsTimes_30 ?_
    refine G_bipush 48 (by decide) d_Mo_readsTimes_33 ?_
    refine G_isub d_Mo_readsTimes_35 ?_
    obtain ⟨S_36, e_36, h⟩ := ob_s h
    refine G_putI e_36 fp_Mo_326 km_0 sm_0 rfl d_Mo_readsTimes_36 ?_
    refine G_aload_n 0 rfl d_Mo_readsTimes_39 ?_
    refine G_aload_n 0 rfl d_Mo_readsTimes_40 ?_
    refine G_getI fl_Mo_142 km_0 sm_0 rfl d_Mo_readsTimes_41 ?_
    refine G_iconst 1 (by decide) d_Mo_readsTimes_44 ?_
    refine G_iadd d_Mo_readsTimes_45 ?_
    obtain ⟨S_46, e_46, h⟩ := ob_s h
    refine G_putI e_46 fp_Mo_142 km_0 sm_0 rfl d_Mo_readsTimes_46 ?_
    cases h
    exact G_vret rfl d_Mo_readsTimes_49
  · replace h := ob_t h c_24
    cases h
    exact G_vret rfl d_Mo_readsTimes_27
theorem d_Mo_repeats_0 : decode m_Mo_repeats.2.1 0 = .ok (.aload_n 0, 1) := by decide +kernel
theorem d_Mo_repeats_1 : decode m_Mo_repeats.2.1 1 = .ok (.getfield 329, 3) := by decide +kernel
theorem d_Mo_repeats_4 : decode m_Mo_repeats.2.1 4 = .ok (.iload_n 1, 1) := by decide +kernel
theorem d_Mo_repeats_5 : decode m_Mo_repeats.2.1 5 = .ok (.isub, 1) := by decide +kernel
theorem d_Mo_repeats_6 : decode m_Mo_repeats.2.1 6 = .ok (.istore 4, 2) := by decide +kernel
theorem d_Mo_repeats_8 : decode m_Mo_repeats.2.1 8 = .ok (.iload_n 1, 1) := by decide +kernel
theorem d_Mo_repeats_9 : decode m_Mo_repeats.2.1 9 = .ok (.iload 4, 2) := by decide +kernel
theorem d_Mo_repeats_11 : decode m_Mo_repeats.2.1 11 = .ok (.iload_n 2, 1) := by decide +kernel
theorem d_Mo_repeats_12 : decode m_Mo_repeats.2.1 12 = .ok (.imul, 1) := by decide +kernel
theorem d_Mo_repeats_13 : decode m_Mo_repeats.2.1 13 = .ok (.iadd, 1) := by decide +kernel
theorem d_Mo_repeats_14 : decode m_Mo_repeats.2.1 14 = .ok (.bipush 64, 2) := by decide +kernel
theorem d_Mo_repeats_16 : decode m_Mo_repeats.2.1 16 = .ok (.if_icmp .le 11, 3) := by decide +kernel
theorem d_Mo_repeats_19 : decode m_Mo_repeats.2.1 19 = .ok (.aload_n 0, 1) := by decide +kernel
theorem d_Mo_repeats_20 : decode m_Mo_repeats.2.1 20 = .ok (.bipush 6, 2) := by decide +kernel
theorem d_Mo_repeats_22 : decode m_Mo_repeats.2.1 22 = .ok (.iload_n 3, 1) := by decide +kernel
theorem d_Mo_repeats_23 : decode m_Mo_repeats.2.1 23 = .ok (.invokevirtual 155, 3) := by decide +kernel
theorem d_Mo_repeats_26 : decode m_Mo_repeats.2.1 26 = .ok (.ireturn, 1) := by decide +kernel
theorem d_Mo_repeats_27 : decode m_Mo_repeats.2.1 27 = .ok (.iload 4, 2) := by decide +kernel
theorem d_Mo_repeats_29 : decode m_Mo_repeats.2.1 29 = .ok (.istore 5, 2) := by decide +kernel
theorem d_Mo_repeats_31 : decode m_Mo_repeats.2.1 31 = .ok (.iload 5, 2) := by decide +kernel
theorem d_Mo_repeats_33 : decode m_Mo_repeats.2.1 33 = .ok (.iload 4, 2) := by decide +kernel
theorem d_Mo_repeats_35 : decode m_Mo_repeats.2.1 35 = .ok (.iload_n 2, 1) := by decide +kernel
theorem d_Mo_repeats_36 : decode m_Mo_repeats.2.1 36 = .ok (.imul, 1) := by decide +kernel
theorem d_Mo_repeats_37 : decode m_Mo_repeats.2.1 37 = .ok (.if_icmp .ge 30, 3) := by decide +kernel
theorem d_Mo_repeats_40 : decode m_Mo_repeats.2.1 40 = .ok (.aload_n 0, 1) := by decide +kernel
theorem d_Mo_repeats_41 : decode m_Mo_repeats.2.1 41 = .ok (.getfield 86, 3) := by decide +kernel
theorem d_Mo_repeats_44 : decode m_Mo_repeats.2.1 44 = .ok (.iload_n 1, 1) := by decide +kernel
theorem d_Mo_repeats_45 : decode m_Mo_repeats.2.1 45 = .ok (.iload 5, 2) := by decide +kernel
theorem d_Mo_repeats_47 : decode m_Mo_repeats.2.1 47 = .ok (.iadd, 1) := by decide +kernel
theorem d_Mo_repeats_48 : decode m_Mo_repeats.2.1 48 = .ok (.aload_n 0, 1) := by decide +kernel
theorem d_Mo_repeats_49 : decode m_Mo_repeats.2.1 49 = .ok (.getfield 86, 3) := by decide +kernel
theorem d_Mo_repeats_52 : decode m_Mo_repeats.2.1 52 = .ok (.iload_n 1, 1) := by decide +kernel
theorem d_Mo_repeats_53 : decode m_Mo_repeats.2.1 53 = .ok (.iload 5, 2) := by decide +kernel
theorem d_Mo_repeats_55 : decode m_Mo_repeats.2.1 55 = .ok (.iadd, 1) := by decide +kernel
theorem d_Mo_repeats_56 : decode m_Mo_repeats.2.1 56 = .ok (.iload 4, 2) := by decide +kernel
theorem d_Mo_repeats_58 : decode m_Mo_repeats.2.1 58 = .ok (.isub, 1) := by decide +kernel
theorem d_Mo_repeats_59 : decode m_Mo_repeats.2.1 59 = .ok (.iaload, 1) := by decide +kernel
theorem d_Mo_repeats_60 : decode m_Mo_repeats.2.1 60 = .ok (.iastore, 1) := by decide +kernel
theorem d_Mo_repeats_61 : decode m_Mo_repeats.2.1 61 = .ok (.iinc 5 1, 3) := by decide +kernel
theorem d_Mo_repeats_64 : decode m_Mo_repeats.2.1 64 = .ok (.goto (-33), 3) := by decide +kernel
theorem d_Mo_repeats_67 : decode m_Mo_repeats.2.1 67 = .ok (.aload_n 0, 1) := by decide +kernel
theorem d_Mo_repeats_68 : decode m_Mo_repeats.2.1 68 = .ok (.iload_n 1, 1) := by decide +kernel
theorem d_Mo_repeats_69 : decode m_Mo_repeats.2.1 69 = .ok (.iload 4, 2) := by decide +kernel
theorem d_Mo_repeats_71 : decode m_Mo_repeats.2.1 71 = .ok (.iload_n 2, 1) := by decide +kernel
theorem d_Mo_repeats_72 : decode m_Mo_repeats.2.1 72 = .ok (.imul, 1) := by decide +kernel
theorem d_Mo_repeats_73 : decode m_Mo_repeats.2.1 73 = .ok (.iadd, 1) := by decide +kernel
theorem d_Mo_repeats_74 : decode m_Mo_repeats.2.1 74 = .ok (.putfield 329, 3) := by decide +kernel
theorem d_Mo_repeats_77 : decode m_Mo_repeats.2.1 77 = .ok (.iconst 1, 1) := by decide +kernel
theorem d_Mo_repeats_78 : decode m_Mo_repeats.2.1 78 = .ok (.ireturn, 1) := by decide +kernel
def f_Mo_repeats_31 : Nat → St → Int32 → Int32 → Int32 → Int32 → Option (Int32 × St)
  | 0, _, _, _, _, _ => none
  | n + 1, S, l1, l2, l4, l5 =>
    if (l4 * l2) ≤ l5 then (
    (some (sF S 0 45 (l1 + (l4 * l2)))).bind fun S_74 =>
    some (1, S_74))
    else (
    if ig ((l1 + l5) - l4) 64 then (
    if ig (l1 + l5) 64 then (
    (some (sF S 26 (l1 + l5).toNatClampNeg (S 26 ((l1 + l5) - l4).toNatClampNeg))).bind fun S_60 =>
    (some (l5 + 1)).bind fun l5_61 =>
    f_Mo_repeats_31 n S_60 l1 l2 l4 l5_61) else none) else none)
set_option maxHeartbeats 4000000 in
set_option maxRecDepth 20000 in
theorem t_Mo_repeats_31  : ∀ (n : Nat) (S : St) (l1 : Int32) (l2 : Int32) (l4 : Int32) (l5 : Int32) (w : Int32 × St), f_Mo_repeats_31 n S l1 l2 l4 l5 = some w → G SM m_Mo_repeats 2 (some w.1) w.2 31 [(0, .ref 0), (1, .int l1), (2, .int l2), (4, .int l4), (5, .int l5)] [] S := by
  intro n
  induction n with
  | zero =>
    intro S l1 l2 l4 l5 w h
    rw [f_Mo_repeats_31] at h
    cases h
  | succ n ih =>
    intro S l1 l2 l4 l5 w h
    rw [f_Mo_repeats_31] at h
    refine G_iload 4 rfl d_Mo_repeats_31 ?_
    refine G_iload 3 rfl d_Mo_repeats_33 ?_
    refine G_iload_n 2 rfl d_Mo_repeats_35 ?_
    refine G_imul d_Mo_repeats_36 ?_
    refine G_icmp_ge 67 (by decide) d_Mo_repeats_37 (fun c_37 => ?_) (fun c_37 => ?_)
    · replace h := ob_t h c_37
      refine G_aload_n 0 rfl d_Mo_repeats_67 ?_
      refine G_iload_n 1 rfl d_Mo_repeats_68 ?_
      refine G_iload 3 rfl d_Mo_repeats_69 ?_
      refine G_iload_n 2 rfl d_Mo_repeats_71 ?_
      refine G_imul d_Mo_repeats_72 ?_
      refine G_iadd d_Mo_repeats_73 ?_
      obtain ⟨S_74, e_74, h⟩ := ob_s h
      refine G_putI e_74 fp_Mo_329 km_0 sm_0 rfl d_Mo_repeats_74 ?_
      refine G_iconst 1 (by decide) d_Mo_repeats_77 ?_
      cases h
      exact G_zret (Or.inr rfl) rfl d_Mo_repeats_78
    · replace h := ob_f h c_37
      refine G_aload_n 0 rfl d_Mo_repeats_40 ?_
      refine G_getR fl_Mo_86 km_0 sm_0 rfl (by decide) d_Mo_repeats_41 ?_
      refine G_iload_n 1 rfl d_Mo_repeats_44 ?_
      refine G_iload 4 rfl d_Mo_repeats_45 ?_
      refine G_iadd d_Mo_repeats_47 ?_
      refine G_aload_n 0 rfl d_Mo_repeats_48 ?_
      refine G_getR fl_Mo_86 km_0 sm_0 rfl (by decide) d_Mo_repeats_49 ?_
      refine G_iload_n 1 rfl d_Mo_repeats_52 ?_
      refine G_iload 4 rfl d_Mo_repeats_53 ?_
      refine G_iadd d_Mo_repeats_55 ?_
      refine G_iload 3 rfl d_Mo_repeats_56 ?_
      refine G_isub d_Mo_repeats_58 ?_
      obtain ⟨g_59, h⟩ := ob_g h
      refine G_iaload km_26 sm_26 g_59 d_Mo_repeats_59 ?_
      obtain ⟨g_60, h⟩ := ob_g h
      obtain ⟨S_60, e_60, h⟩ := ob_s h
      refine G_iastore e_60 km_26 sm_26 g_60 d_Mo_repeats_60 ?_
      obtain ⟨l5_61, e_61, h⟩ := ob_s h
      refine G_iinc 1 4 [(5, .int l5_61), (0, .ref 0), (1, .int l1), (2, .int l2), (4, .int l4)] (by decide) rfl e_61 rfl (by decide) d_Mo_repeats_61 ?_
      refine G_goto 31 (by decide) d_Mo_repeats_64 ?_
      exact G_sub _ [1, 2, 3, 4, 0] rfl (ih S_60 l1 l2 l4 l5_61 _ h)
def f_Mo_repeats (S : St) (l1 : Int32) (l2 : Int32) (l3 : Int32) : Option (Int32 × St) :=
    (some ((S 0 45) - l1)).bind fun l4_6 =>
    if (l1 + (l4_6 * l2)) ≤ 64 then (
    f_Mo_repeats_31 FU S l1 l2 l4_6 l4_6)
    else (
    (f_Mo_wrongAt S (6 : Int32) l3).bind fun w_23 =>
    if w_23.1 = 0 ∨ w_23.1 = 1 then (
    some (w_23.1, w_23.2)) else none)
set_option maxHeartbeats 4000000 in
set_option maxRecDepth 20000 in
theorem t_Mo_repeats  {S : St} {l1 : Int32} {l2 : Int32} {l3 : Int32} {w : Int32 × St} (h : f_Mo_repeats S l1 l2 l3 = some w) : Ct SM m_Mo_repeats 2 [.ref 0, .int l1, .int l2, .int l3] S (some w.1) w.2 := by
  unfold f_Mo_repeats at h
  refine Ct.of pn_Mo (Nat.le_of_ble_eq_true rfl) ?_
  show G SM m_Mo_repeats 2 (some w.1) w.2 0 [(0, .ref 0), (1, .int l1), (2, .int l2), (3, .int l3)] [] S
  refine G_aload_n 0 rfl d_Mo_repeats_0 ?_
  refine G_getI fl_Mo_329 km_0 sm_0 rfl d_Mo_repeats_1 ?_
  refine G_iload_n 1 rfl d_Mo_repeats_4 ?_
  refine G_isub d_Mo_repeats_5 ?_
  obtain ⟨l4_6, e_6, h⟩ := ob_s h
  refine G_istore [(4, .int l4_6), (0, .ref 0), (1, .int l1), (2, .int l2), (3, .int l3)] e_6 rfl (by decide) d_Mo_repeats_6 ?_
  refine G_iload_n 2 rfl d_Mo_repeats_8 ?_
  refine G_iload 0 rfl d_Mo_repeats_9 ?_
  refine G_iload_n 3 rfl d_Mo_repeats_11 ?_
  refine G_imul d_Mo_repeats_12 ?_
  refine G_iadd d_Mo_repeats_13 ?_
  refine G_bipush 64 (by decide) d_Mo_repeats_14 ?_
  refine G_icmp_le 27 (by decide) d_Mo_repeats_16 (fun c_16 => ?_) (fun c_16 => ?_)
  · replace h := ob_t h c_16
    refine G_iload 0 rfl d_Mo_repeats_27 ?_
    refine G_istore [(5, .int l4_6), (4, .int l4_6), (0, .ref 0), (1, .int l1), (2, .int l2), (3, .int l3)] rfl rfl (by decide) d_Mo_repeats_29 ?_
    exact G_sub _ [2, 3, 4, 1, 0] rfl (t_Mo_repeats_31 FU S l1 l2 l4_6 l4_6 _ h)
  · replace h := ob_f h c_16
    refine G_aload_n 1 rfl d_Mo_repeats_19 ?_
    refine G_bipush 6 (by decide) d_Mo_repeats_20 ?_
    refine G_iload_n 4 rfl d_Mo_repeats_22 ?_
    obtain ⟨w_23, q_23, h⟩ := ob_b h
    refine G_callV [.int 6, .int l3] [] (t_Mo_wrongAt q_23) (by decide) (by decide) mv_Mo_wrongAt rfl ml_Mo_155 km_0 sm_0 cl_12 rfl (Nat.le_of_ble_eq_true rfl) d_Mo_repeats_23 ?_
    obtain ⟨g_26, h⟩ := ob_g h
    cases h
    exact G_zret g_26 rfl d_Mo_repeats_26
theorem d_Mo_readsTurn_0 : decode m_Mo_readsTurn.2.1 0 = .ok (.aload_n 0, 1) := by decide +kernel
theorem d_Mo_readsTurn_1 : decode m_Mo_readsTurn.2.1 1 = .ok (.invokevirtual 332, 3) := by decide +kernel
theorem d_Mo_readsTurn_4 : decode m_Mo_readsTurn.2.1 4 = .ok (.aload_n 0, 1) := by decide +kernel
theorem d_Mo_readsTurn_5 : decode m_Mo_readsTurn.2.1 5 = .ok (.invokevirtual 148, 3) := by decide +kernel
theorem d_Mo_readsTurn_8 : decode m_Mo_readsTurn.2.1 8 = .ok (.bipush 40, 2) := by decide +kernel
theorem d_Mo_readsTurn_10 : decode m_Mo_readsTurn.2.1 10 = .ok (.if_icmp .ne 87, 3) := by decide +kernel
theorem d_Mo_readsTurn_13 : decode m_Mo_readsTurn.2.1 13 = .ok (.aload_n 0, 1) := by decide +kernel
theorem d_Mo_readsTurn_14 : decode m_Mo_readsTurn.2.1 14 = .ok (.getfield 335, 3) := by decide +kernel
theorem d_Mo_readsTurn_17 : decode m_Mo_readsTurn.2.1 17 = .ok (.iconst 2, 1) := by decide +kernel
theorem d_Mo_readsTurn_18 : decode m_Mo_readsTurn.2.1 18 = .ok (.if_icmp .ne 13, 3) := by decide +kernel
theorem d_Mo_readsTurn_21 : decode m_Mo_readsTurn.2.1 21 = .ok (.aload_n 0, 1) := by decide +kernel
theorem d_Mo_readsTurn_22 : decode m_Mo_readsTurn.2.1 22 = .ok (.iconst 5, 1) := by decide +kernel
theorem d_Mo_readsTurn_23 : decode m_Mo_readsTurn.2.1 23 = .ok (.aload_n 0, 1) := by decide +kernel
theorem d_Mo_readsTurn_24 : decode m_Mo_readsTurn.2.1 24 = .ok (.getfield 142, 3) := by decide +kernel
theorem d_Mo_readsTurn_27 : decode m_Mo_readsTurn.2.1 27 = .ok (.invokevirtual 155, 3) := by decide +kernel
theorem d_Mo_readsTurn_30 : decode m_Mo_readsTurn.2.1 30 = .ok (.ireturn, 1) := by decide +kernel
theorem d_Mo_readsTurn_31 : decode m_Mo_readsTurn.2.1 31 = .ok (.aload_n 0, 1) := by decide +kernel
theorem d_Mo_readsTurn_32 : decode m_Mo_readsTurn.2.1 32 = .ok (.getfield 89, 3) := by decide +kernel
theorem d_Mo_readsTurn_35 : decode m_Mo_readsTurn.2.1 35 = .ok (.aload_n 0, 1) := by decide +kernel
theorem d_Mo_readsTurn_36 : decode m_Mo_readsTurn.2.1 36 = .ok (.getfield 335, 3) := by decide +kernel
theorem d_Mo_readsTurn_39 : decode m_Mo_readsTurn.2.1 39 = .ok (.aload_n 0, 1) := by decide +kernel
theorem d_Mo_readsTurn_40 : decode m_Mo_readsTurn.2.1 40 = .ok (.getfield 323, 3) := by decide +kernel
theorem d_Mo_readsTurn_43 : decode m_Mo_readsTurn.2.1 43 = .ok (.iastore, 1) := by decide +kernel
theorem d_Mo_readsTurn_44 : decode m_Mo_readsTurn.2.1 44 = .ok (.aload_n 0, 1) := by decide +kernel
theorem d_Mo_readsTurn_45 : decode m_Mo_readsTurn.2.1 45 = .ok (.getfield 92, 3) := by decide +kernel
theorem d_Mo_readsTurn_48 : decode m_Mo_readsTurn.2.1 48 = .ok (.aload_n 0, 1) := by decide +kernel
theorem d_Mo_readsTurn_49 : decode m_Mo_readsTurn.2.1 49 = .ok (.getfield 335, 3) := by decide +kernel
theorem d_Mo_readsTurn_52 : decode m_Mo_readsTurn.2.1 52 = .ok (.aload_n 0, 1) := by decide +kernel
theorem d_Mo_readsTurn_53 : decode m_Mo_readsTurn.2.1 53 = .ok (.getfield 329, 3) := by decide +kernel
theorem d_Mo_readsTurn_56 : decode m_Mo_readsTurn.2.1 56 = .ok (.iastore, 1) := by decide +kernel
theorem d_Mo_readsTurn_57 : decode m_Mo_readsTurn.2.1 57 = .ok (.aload_n 0, 1) := by decide +kernel
theorem d_Mo_readsTurn_58 : decode m_Mo_readsTurn.2.1 58 = .ok (.getfield 95, 3) := by decide +kernel
theorem d_Mo_readsTurn_61 : decode m_Mo_readsTurn.2.1 61 = .ok (.aload_n 0, 1) := by decide +kernel
theorem d_Mo_readsTurn_62 : decode m_Mo_readsTurn.2.1 62 = .ok (.getfield 335, 3) := by decide +kernel
theorem d_Mo_readsTurn_65 : decode m_Mo_readsTurn.2.1 65 = .ok (.aload_n 0, 1) := by decide +kernel
theorem d_Mo_readsTurn_66 : decode m_Mo_readsTurn.2.1 66 = .ok (.getfield 326, 3) := by decide +kernel
theorem d_Mo_readsTurn_69 : decode m_Mo_readsTurn.2.1 69 = .ok (.iastore, 1) := by decide +kernel
theorem d_Mo_readsTurn_70 : decode m_Mo_readsTurn.2.1 70 = .ok (.aload_n 0, 1) := by decide +kernel
theorem d_Mo_readsTurn_71 : decode m_Mo_readsTurn.2.1 71 = .ok (.aload_n 0, 1) := by decide +kernel
theorem d_Mo_readsTurn_72 : decode m_Mo_readsTurn.2.1 72 = .ok (.getfield 335, 3) := by decide +kernel
theorem d_Mo_readsTurn_75 : decode m_Mo_readsTurn.2.1 75 = .ok (.iconst 1, 1) := by decide +kernel
theorem d_Mo_readsTurn_76 : decode m_Mo_readsTurn.2.1 76 = .ok (.iadd, 1) := by decide +kernel
theorem d_Mo_readsTurn_77 : decode m_Mo_readsTurn.2.1 77 = .ok (.putfield 335, 3) := by decide +kernel
theorem d_Mo_readsTurn_80 : decode m_Mo_readsTurn.2.1 80 = .ok (.aload_n 0, 1) := by decide +kernel
theorem d_Mo_readsTurn_81 : decode m_Mo_readsTurn.2.1 81 = .ok (.aload_n 0, 1) := by decide +kernel
theorem d_Mo_readsTurn_82 : decode m_Mo_readsTurn.2.1 82 = .ok (.getfield 142, 3) := by decide +kernel
theorem d_Mo_readsTurn_85 : decode m_Mo_readsTurn.2.1 85 = .ok (.iconst 1, 1) := by decide +kernel
theorem d_Mo_readsTurn_86 : decode m_Mo_readsTurn.2.1 86 = .ok (.iadd, 1) := by decide +kernel
theorem d_Mo_readsTurn_87 : decode m_Mo_readsTurn.2.1 87 = .ok (.putfield 142, 3) := by decide +kernel
theorem d_Mo_readsTurn_90 : decode m_Mo_readsTurn.2.1 90 = .ok (.aload_n 0, 1) := by decide +kernel
theorem d_Mo_readsTurn_91 : decode m_Mo_readsTurn.2.1 91 = .ok (.invokevirtual 332, 3) := by decide +kernel
theorem d_Mo_readsTurn_94 : decode m_Mo_readsTurn.2.1 94 = .ok (.goto (-90), 3) := by decide +kernel
theorem d_Mo_readsTurn_97 : decode m_Mo_readsTurn.2.1 97 = .ok (.aload_n 0, 1) := by decide +kernel
theorem d_Mo_readsTurn_98 : decode m_Mo_readsTurn.2.1 98 = .ok (.getfield 323, 3) := by decide +kernel
theorem d_Mo_readsTurn_101 : decode m_Mo_readsTurn.2.1 101 = .ok (.istore_n 2, 1) := by decide +kernel
theorem d_Mo_readsTurn_102 : decode m_Mo_readsTurn.2.1 102 = .ok (.aload_n 0, 1) := by decide +kernel
theorem d_Mo_readsTurn_103 : decode m_Mo_readsTurn.2.1 103 = .ok (.getfield 326, 3) := by decide +kernel
theorem d_Mo_readsTurn_106 : decode m_Mo_readsTurn.2.1 106 = .ok (.istore_n 3, 1) := by decide +kernel
theorem d_Mo_readsTurn_107 : decode m_Mo_readsTurn.2.1 107 = .ok (.aload_n 0, 1) := by decide +kernel
theorem d_Mo_readsTurn_108 : decode m_Mo_readsTurn.2.1 108 = .ok (.invokevirtual 148, 3) := by decide +kernel
theorem d_Mo_readsTurn_111 : decode m_Mo_readsTurn.2.1 111 = .ok (.bipush 97, 2) := by decide +kernel
theorem d_Mo_readsTurn_113 : decode m_Mo_readsTurn.2.1 113 = .ok (.isub, 1) := by decide +kernel
theorem d_Mo_readsTurn_114 : decode m_Mo_readsTurn.2.1 114 = .ok (.iconst 0, 1) := by decide +kernel
theorem d_Mo_readsTurn_115 : decode m_Mo_readsTurn.2.1 115 = .ok (.bipush 6, 2) := by decide +kernel
theorem d_Mo_readsTurn_117 : decode m_Mo_readsTurn.2.1 117 = .ok (.invokestatic 124, 3) := by decide +kernel
theorem d_Mo_readsTurn_120 : decode m_Mo_readsTurn.2.1 120 = .ok (.istore 4, 2) := by decide +kernel
theorem d_Mo_readsTurn_122 : decode m_Mo_readsTurn.2.1 122 = .ok (.iload 4, 2) := by decide +kernel
theorem d_Mo_readsTurn_124 : decode m_Mo_readsTurn.2.1 124 = .ok (.ifCond .ne 29, 3) := by decide +kernel
theorem d_Mo_readsTurn_127 : decode m_Mo_readsTurn.2.1 127 = .ok (.aload_n 0, 1) := by decide +kernel
theorem d_Mo_readsTurn_128 : decode m_Mo_readsTurn.2.1 128 = .ok (.invokevirtual 148, 3) := by decide +kernel
theorem d_Mo_readsTurn_131 : decode m_Mo_readsTurn.2.1 131 = .ok (.bipush 65, 2) := by decide +kernel
theorem d_Mo_readsTurn_133 : decode m_Mo_readsTurn.2.1 133 = .ok (.isub, 1) := by decide +kernel
theorem d_Mo_readsTurn_134 : decode m_Mo_readsTurn.2.1 134 = .ok (.iconst 0, 1) := by decide +kernel
theorem d_Mo_readsTurn_135 : decode m_Mo_readsTurn.2.1 135 = .ok (.bipush 6, 2) := by decide +kernel
theorem d_Mo_readsTurn_137 : decode m_Mo_readsTurn.2.1 137 = .ok (.invokestatic 124, 3) := by decide +kernel
theorem d_Mo_readsTurn_140 : decode m_Mo_readsTurn.2.1 140 = .ok (.ifCond .ne 13, 3) := by decide +kernel
theorem d_Mo_readsTurn_143 : decode m_Mo_readsTurn.2.1 143 = .ok (.aload_n 0, 1) := by decide +kernel
theorem d_Mo_readsTurn_144 : decode m_Mo_readsTurn.2.1 144 = .ok (.iconst 1, 1) := by decide +kernel
theorem d_Mo_readsTurn_145 : decode m_Mo_readsTurn.2.1 145 = .ok (.aload_n 0, 1) := by decide +kernel
theorem d_Mo_readsTurn_146 : decode m_Mo_readsTurn.2.1 146 = .ok (.getfield 142, 3) := by decide +kernel
theorem d_Mo_readsTurn_149 : decode m_Mo_readsTurn.2.1 149 = .ok (.invokevirtual 155, 3) := by decide +kernel
theorem d_Mo_readsTurn_152 : decode m_Mo_readsTurn.2.1 152 = .ok (.ireturn, 1) := by decide +kernel
theorem d_Mo_readsTurn_153 : decode m_Mo_readsTurn.2.1 153 = .ok (.aload_n 0, 1) := by decide +kernel
theorem d_Mo_readsTurn_154 : decode m_Mo_readsTurn.2.1 154 = .ok (.invokevirtual 148, 3) := by decide +kernel
theorem d_Mo_readsTurn_157 : decode m_Mo_readsTurn.2.1 157 = .ok (.iload 4, 2) := by decide +kernel
theorem d_Mo_readsTurn_159 : decode m_Mo_readsTurn.2.1 159 = .ok (.ifCond .eq 8, 3) := by decide +kernel
theorem d_Mo_readsTurn_162 : decode m_Mo_readsTurn.2.1 162 = .ok (.bipush 97, 2) := by decide +kernel
theorem d_Mo_readsTurn_164 : decode m_Mo_readsTurn.2.1 164 = .ok (.goto 5, 3) := by decide +kernel
theorem d_Mo_readsTurn_167 : decode m_Mo_readsTurn.2.1 167 = .ok (.bipush 65, 2) := by decide +kernel
theorem d_Mo_readsTurn_169 : decode m_Mo_readsTurn.2.1 169 = .ok (.isub, 1) := by decide +kernel
theorem d_Mo_readsTurn_170 : decode m_Mo_readsTurn.2.1 170 = .ok (.istore 5, 2) := by decide +kernel
theorem d_Mo_readsTurn_172 : decode m_Mo_readsTurn.2.1 172 = .ok (.iload 5, 2) := by decide +kernel
theorem d_Mo_readsTurn_174 : decode m_Mo_readsTurn.2.1 174 = .ok (.iload_n 1, 1) := by decide +kernel
theorem d_Mo_readsTurn_175 : decode m_Mo_readsTurn.2.1 175 = .ok (.iconst 2, 1) := by decide +kernel
theorem d_Mo_readsTurn_176 : decode m_Mo_readsTurn.2.1 176 = .ok (.isub, 1) := by decide +kernel
theorem d_Mo_readsTurn_177 : decode m_Mo_readsTurn.2.1 177 = .ok (.if_icmp .le 13, 3) := by decide +kernel
theorem d_Mo_readsTurn_180 : decode m_Mo_readsTurn.2.1 180 = .ok (.aload_n 0, 1) := by decide +kernel
theorem d_Mo_readsTurn_181 : decode m_Mo_readsTurn.2.1 181 = .ok (.iconst 3, 1) := by decide +kernel
theorem d_Mo_readsTurn_182 : decode m_Mo_readsTurn.2.1 182 = .ok (.aload_n 0, 1) := by decide +kernel
theorem d_Mo_readsTurn_183 : decode m_Mo_readsTurn.2.1 183 = .ok (.getfield 142, 3) := by decide +kernel
theorem d_Mo_readsTurn_186 : decode m_Mo_readsTurn.2.1 186 = .ok (.invokevirtual 155, 3) := by decide +kernel
theorem d_Mo_readsTurn_189 : decode m_Mo_readsTurn.2.1 189 = .ok (.ireturn, 1) := by decide +kernel
theorem d_Mo_readsTurn_190 : decode m_Mo_readsTurn.2.1 190 = .ok (.aload_n 0, 1) := by decide +kernel
theorem d_Mo_readsTurn_191 : decode m_Mo_readsTurn.2.1 191 = .ok (.getfield 329, 3) := by decide +kernel
theorem d_Mo_readsTurn_194 : decode m_Mo_readsTurn.2.1 194 = .ok (.iload_n 3, 1) := by decide +kernel
theorem d_Mo_readsTurn_195 : decode m_Mo_readsTurn.2.1 195 = .ok (.iadd, 1) := by decide +kernel
theorem d_Mo_readsTurn_196 : decode m_Mo_readsTurn.2.1 196 = .ok (.bipush 64, 2) := by decide +kernel
theorem d_Mo_readsTurn_198 : decode m_Mo_readsTurn.2.1 198 = .ok (.if_icmp .le 11, 3) := by decide +kernel
theorem d_Mo_readsTurn_201 : decode m_Mo_readsTurn.2.1 201 = .ok (.aload_n 0, 1) := by decide +kernel
theorem d_Mo_readsTurn_202 : decode m_Mo_readsTurn.2.1 202 = .ok (.bipush 6, 2) := by decide +kernel
theorem d_Mo_readsTurn_204 : decode m_Mo_readsTurn.2.1 204 = .ok (.iload_n 2, 1) := by decide +kernel
theorem d_Mo_readsTurn_205 : decode m_Mo_readsTurn.2.1 205 = .ok (.invokevirtual 155, 3) := by decide +kernel
theorem d_Mo_readsTurn_208 : decode m_Mo_readsTurn.2.1 208 = .ok (.ireturn, 1) := by decide +kernel
theorem d_Mo_readsTurn_209 : decode m_Mo_readsTurn.2.1 209 = .ok (.aload_n 0, 1) := by decide +kernel
theorem d_Mo_readsTurn_210 : decode m_Mo_readsTurn.2.1 210 = .ok (.aload_n 0, 1) := by decide +kernel
theorem d_Mo_readsTurn_211 : decode m_Mo_readsTurn.2.1 211 = .ok (.getfield 142, 3) := by decide +kernel
theorem d_Mo_readsTurn_214 : decode m_Mo_readsTurn.2.1 214 = .ok (.iconst 1, 1) := by decide +kernel
theorem d_Mo_readsTurn_215 : decode m_Mo_readsTurn.2.1 215 = .ok (.iadd, 1) := by decide +kernel
theorem d_Mo_readsTurn_216 : decode m_Mo_readsTurn.2.1 216 = .ok (.putfield 142, 3) := by decide +kernel
theorem d_Mo_readsTurn_219 : decode m_Mo_readsTurn.2.1 219 = .ok (.aload_n 0, 1) := by decide +kernel
theorem d_Mo_readsTurn_220 : decode m_Mo_readsTurn.2.1 220 = .ok (.getfield 86, 3) := by decide +kernel
theorem d_Mo_readsTurn_223 : decode m_Mo_readsTurn.2.1 223 = .ok (.aload_n 0, 1) := by decide +kernel
theorem d_Mo_readsTurn_224 : decode m_Mo_readsTurn.2.1 224 = .ok (.getfield 329, 3) := by decide +kernel
theorem d_Mo_readsTurn_227 : decode m_Mo_readsTurn.2.1 227 = .ok (.iload 4, 2) := by decide +kernel
theorem d_Mo_readsTurn_229 : decode m_Mo_readsTurn.2.1 229 = .ok (.ifCond .eq 8, 3) := by decide +kernel
theorem d_Mo_readsTurn_232 : decode m_Mo_readsTurn.2.1 232 = .ok (.iload 5, 2) := by decide +kernel
theorem d_Mo_readsTurn_234 : decode m_Mo_readsTurn.2.1 234 = .ok (.goto 8, 3) := by decide +kernel
theorem d_Mo_readsTurn_237 : decode m_Mo_readsTurn.2.1 237 = .ok (.bipush 8, 2) := by decide +kernel
theorem d_Mo_readsTurn_239 : decode m_Mo_readsTurn.2.1 239 = .ok (.iload 5, 2) := by decide +kernel
theorem d_Mo_readsTurn_241 : decode m_Mo_readsTurn.2.1 241 = .ok (.iadd, 1) := by decide +kernel
theorem d_Mo_readsTurn_242 : decode m_Mo_readsTurn.2.1 242 = .ok (.iastore, 1) := by decide +kernel
theorem d_Mo_readsTurn_243 : decode m_Mo_readsTurn.2.1 243 = .ok (.aload_n 0, 1) := by decide +kernel
theorem d_Mo_readsTurn_244 : decode m_Mo_readsTurn.2.1 244 = .ok (.aload_n 0, 1) := by decide +kernel
theorem d_Mo_readsTurn_245 : decode m_Mo_readsTurn.2.1 245 = .ok (.getfield 329, 3) := by decide +kernel
theorem d_Mo_readsTurn_248 : decode m_Mo_readsTurn.2.1 248 = .ok (.iconst 1, 1) := by decide +kernel
theorem d_Mo_readsTurn_249 : decode m_Mo_readsTurn.2.1 249 = .ok (.iadd, 1) := by decide +kernel
theorem d_Mo_readsTurn_250 : decode m_Mo_readsTurn.2.1 250 = .ok (.putfield 329, 3) := by decide +kernel
theorem d_Mo_readsTurn_253 : decode m_Mo_readsTurn.2.1 253 = .ok (.aload_n 0, 1) := by decide +kernel
theorem d_Mo_readsTurn_254 : decode m_Mo_readsTurn.2.1 254 = .ok (.aload_n 0, 1) := by decide +kernel
theorem d_Mo_readsTurn_255 : decode m_Mo_readsTurn.2.1 255 = .ok (.getfield 329, 3) := by decide +kernel
theorem d_Mo_readsTurn_258 : decode m_Mo_readsTurn.2.1 258 = .ok (.iconst 1, 1) := by decide +kernel
theorem d_Mo_readsTurn_259 : decode m_Mo_readsTurn.2.1 259 = .ok (.isub, 1) := by decide +kernel
theorem d_Mo_readsTurn_260 : decode m_Mo_readsTurn.2.1 260 = .ok (.iload_n 3, 1) := by decide +kernel
theorem d_Mo_readsTurn_261 : decode m_Mo_readsTurn.2.1 261 = .ok (.iload_n 2, 1) := by decide +kernel
theorem d_Mo_readsTurn_262 : decode m_Mo_readsTurn.2.1 262 = .ok (.invokevirtual 338, 3) := by decide +kernel
theorem d_Mo_readsTurn_265 : decode m_Mo_readsTurn.2.1 265 = .ok (.ifCond .ne 5, 3) := by decide +kernel
theorem d_Mo_readsTurn_268 : decode m_Mo_readsTurn.2.1 268 = .ok (.iconst 0, 1) := by decide +kernel
theorem d_Mo_readsTurn_269 : decode m_Mo_readsTurn.2.1 269 = .ok (.ireturn, 1) := by decide +kernel
theorem d_Mo_readsTurn_270 : decode m_Mo_readsTurn.2.1 270 = .ok (.aload_n 0, 1) := by decide +kernel
theorem d_Mo_readsTurn_271 : decode m_Mo_readsTurn.2.1 271 = .ok (.invokevirtual 148, 3) := by decide +kernel
theorem d_Mo_readsTurn_274 : decode m_Mo_readsTurn.2.1 274 = .ok (.bipush 41, 2) := by decide +kernel
theorem d_Mo_readsTurn_276 : decode m_Mo_readsTurn.2.1 276 = .ok (.if_icmp .ne 66, 3) := by decide +kernel
theorem d_Mo_readsTurn_279 : decode m_Mo_readsTurn.2.1 279 = .ok (.aload_n 0, 1) := by decide +kernel
theorem d_Mo_readsTurn_280 : decode m_Mo_readsTurn.2.1 280 = .ok (.getfield 335, 3) := by decide +kernel
theorem d_Mo_readsTurn_283 : decode m_Mo_readsTurn.2.1 283 = .ok (.ifCond .le 59, 3) := by decide +kernel
theorem d_Mo_readsTurn_286 : decode m_Mo_readsTurn.2.1 286 = .ok (.aload_n 0, 1) := by decide +kernel
theorem d_Mo_readsTurn_287 : decode m_Mo_readsTurn.2.1 287 = .ok (.aload_n 0, 1) := by decide +kernel
theorem d_Mo_readsTurn_288 : decode m_Mo_readsTurn.2.1 288 = .ok (.getfield 142, 3) := by decide +kernel
theorem d_Mo_readsTurn_291 : decode m_Mo_readsTurn.2.1 291 = .ok (.iconst 1, 1) := by decide +kernel
theorem d_Mo_readsTurn_292 : decode m_Mo_readsTurn.2.1 292 = .ok (.iadd, 1) := by decide +kernel
theorem d_Mo_readsTurn_293 : decode m_Mo_readsTurn.2.1 293 = .ok (.putfield 142, 3) := by decide +kernel
theorem d_Mo_readsTurn_296 : decode m_Mo_readsTurn.2.1 296 = .ok (.aload_n 0, 1) := by decide +kernel
theorem d_Mo_readsTurn_297 : decode m_Mo_readsTurn.2.1 297 = .ok (.aload_n 0, 1) := by decide +kernel
theorem d_Mo_readsTurn_298 : decode m_Mo_readsTurn.2.1 298 = .ok (.getfield 335, 3) := by decide +kernel
theorem d_Mo_readsTurn_301 : decode m_Mo_readsTurn.2.1 301 = .ok (.iconst 1, 1) := by decide +kernel
theorem d_Mo_readsTurn_302 : decode m_Mo_readsTurn.2.1 302 = .ok (.isub, 1) := by decide +kernel
theorem d_Mo_readsTurn_303 : decode m_Mo_readsTurn.2.1 303 = .ok (.putfield 335, 3) := by decide +kernel
theorem d_Mo_readsTurn_306 : decode m_Mo_readsTurn.2.1 306 = .ok (.aload_n 0, 1) := by decide +kernel
theorem d_Mo_readsTurn_307 : decode m_Mo_readsTurn.2.1 307 = .ok (.aload_n 0, 1) := by decide +kernel
theorem d_Mo_readsTurn_308 : decode m_Mo_readsTurn.2.1 308 = .ok (.getfield 92, 3) := by decide +kernel
theorem d_Mo_readsTurn_311 : decode m_Mo_readsTurn.2.1 311 = .ok (.aload_n 0, 1) := by decide +kernel
theorem d_Mo_readsTurn_312 : decode m_Mo_readsTurn.2.1 312 = .ok (.getfield 335, 3) := by decide +kernel
theorem d_Mo_readsTurn_315 : decode m_Mo_readsTurn.2.1 315 = .ok (.iaload, 1) := by decide +kernel
theorem d_Mo_readsTurn_316 : decode m_Mo_readsTurn.2.1 316 = .ok (.aload_n 0, 1) := by decide +kernel
theorem d_Mo_readsTurn_317 : decode m_Mo_readsTurn.2.1 317 = .ok (.getfield 95, 3) := by decide +kernel
theorem d_Mo_readsTurn_320 : decode m_Mo_readsTurn.2.1 320 = .ok (.aload_n 0, 1) := by decide +kernel
theorem d_Mo_readsTurn_321 : decode m_Mo_readsTurn.2.1 321 = .ok (.getfield 335, 3) := by decide +kernel
theorem d_Mo_readsTurn_324 : decode m_Mo_readsTurn.2.1 324 = .ok (.iaload, 1) := by decide +kernel
theorem d_Mo_readsTurn_325 : decode m_Mo_readsTurn.2.1 325 = .ok (.aload_n 0, 1) := by decide +kernel
theorem d_Mo_readsTurn_326 : decode m_Mo_readsTurn.2.1 326 = .ok (.getfield 89, 3) := by decide +kernel
theorem d_Mo_readsTurn_329 : decode m_Mo_readsTurn.2.1 329 = .ok (.aload_n 0, 1) := by decide +kernel
theorem d_Mo_readsTurn_330 : decode m_Mo_readsTurn.2.1 330 = .ok (.getfield 335, 3) := by decide +kernel
theorem d_Mo_readsTurn_333 : decode m_Mo_readsTurn.2.1 333 = .ok (.iaload, 1) := by decide +kernel
theorem d_Mo_readsTurn_334 : decode m_Mo_readsTurn.2.1 334 = .ok (.invokevirtual 338, 3) := by decide +kernel
theorem d_Mo_readsTurn_337 : decode m_Mo_readsTurn.2.1 337 = .ok (.ifCond .ne (-67), 3) := by decide +kernel
theorem d_Mo_readsTurn_340 : decode m_Mo_readsTurn.2.1 340 = .ok (.iconst 0, 1) := by decide +kernel
theorem d_Mo_readsTurn_341 : decode m_Mo_readsTurn.2.1 341 = .ok (.ireturn, 1) := by decide +kernel
theorem d_Mo_readsTurn_342 : decode m_Mo_readsTurn.2.1 342 = .ok (.iconst 1, 1) := by decide +kernel
theorem d_Mo_readsTurn_343 : decode m_Mo_readsTurn.2.1 343 = .ok (.ireturn, 1) := by decide +kernel
def f_Mo_readsTurn_270 : Nat → St → Option (Int32 × St)
  | 0, _ => none
  | n + 1, S =>
    (f_Mo_here S).bind fun v_271 =>
    if v_271 = 41 then (
    if (S 0 46) ≤ 0 then (
    some (1, S))
    else (
    (some (sF S 0 8 ((S 0 8) + 1))).bind fun S_293 =>
    (some (sF S_293 0 46 ((S_293 0 46) - 1))).bind fun S_303 =>
    if ig (S_303 0 46) 2 then (
    if ig (S_303 0 46) 2 then (
    if ig (S_303 0 46) 2 then (
    (f_Mo_repeats S_303 (S_303 28 (S_303 0 46).toNatClampNeg) (S_303 29 (S_303 0 46).toNatClampNeg) (S_303 27 (S_303 0 46).toNatClampNeg)).bind fun w_334 =>
    if w_334.1 = 0 then (
    some (0, w_334.2))
    else (
    f_Mo_readsTurn_270 n w_334.2)) else none) else none) else none))
    else (
    some (1, S))
set_option maxHeartbeats 4000000 in
set_option maxRecDepth 20000 in
theorem t_Mo_readsTurn_270  : ∀ (n : Nat) (S : St) (w : Int32 × St), f_Mo_readsTurn_270 n S = some w → G SM m_Mo_readsTurn 3 (some w.1) w.2 270 [(0, .ref 0)] [] S := by
  intro n
  induction n with
  | zero =>
    intro S w h
    rw [f_Mo_readsTurn_270] at h
    cases h
  | succ n ih =>
    intro S w h
    rw [f_Mo_readsTurn_270] at h
    refine G_aload_n 0 rfl d_Mo_readsTurn_270 ?_
    obtain ⟨v_271, q_271, h⟩ := ob_b h
    refine G_callV [] [] (t_Mo_here q_271) (by decide) (by decide) mv_Mo_here rfl ml_Mo_148 km_0 sm_0 cl_12 rfl (Nat.le_of_ble_eq_true rfl) d_Mo_readsTurn_271 ?_
    refine G_bipush 41 (by decide) d_Mo_readsTurn_274 ?_
    refine G_icmp_ne 342 (by decide) d_Mo_readsTurn_276 (fun c_276 => ?_) (fun c_276 => ?_)
    · replace h := ob_f h c_276
      refine G_iconst 1 (by decide) d_Mo_readsTurn_342 ?_
      cases h
      exact G_zret (Or.inr rfl) rfl d_Mo_readsTurn_343
    · replace h := ob_t h c_276
      refine G_aload_n 0 rfl d_Mo_readsTurn_279 ?_
      refine G_getI fl_Mo_335 km_0 sm_0 rfl d_Mo_readsTurn_280 ?_
      refine G_if_le 342 (by decide) d_Mo_readsTurn_283 (fun c_283 => ?_) (fun c_283 => ?_)
      · replace h := ob_t h c_283
        refine G_iconst 1 (by decide) d_Mo_readsTurn_342 ?_
        cases h
        exact G_zret (Or.inr rfl) rfl d_Mo_readsTurn_343
      · replace h := ob_f h c_283
        refine G_aload_n 0 rfl d_Mo_readsTurn_286 ?_
        refine G_aload_n 0 rfl d_Mo_readsTurn_287 ?_
        refine G_getI fl_Mo_142 km_0 sm_0 rfl d_Mo_readsTurn_288 ?_
        refine G_iconst 1 (by decide) d_Mo_readsTurn_291 ?_
        refine G_iadd d_Mo_readsTurn_292 ?_
        obtain ⟨S_293, e_293, h⟩ := ob_s h
        refine G_putI e_293 fp_Mo_142 km_0 sm_0 rfl d_Mo_readsTurn_293 ?_
        refine G_aload_n 0 rfl d_Mo_readsTurn_296 ?_
        refine G_aload_n 0 rfl d_Mo_readsTurn_297 ?_
        refine G_getI fl_Mo_335 km_0 sm_0 rfl d_Mo_readsTurn_298 ?_
        refine G_iconst 1 (by decide) d_Mo_readsTurn_301 ?_
        refine G_isub d_Mo_readsTurn_302 ?_
        obtain ⟨S_303, e_303, h⟩ := ob_s h
        refine G_putI e_303 fp_Mo_335 km_0 sm_0 rfl d_Mo_readsTurn_303 ?_
        refine G_aload_n 0 rfl d_Mo_readsTurn_306 ?_
        refine G_aload_n 0 rfl d_Mo_readsTurn_307 ?_
        refine G_getR fl_Mo_92 km_0 sm_0 rfl (by decide) d_Mo_readsTurn_308 ?_
        refine G_aload_n 0 rfl d_Mo_readsTurn_311 ?_
        refine G_getI fl_Mo_335 km_0 sm_0 rfl d_Mo_readsTurn_312 ?_
        obtain ⟨g_315, h⟩ := ob_g h
        refine G_iaload km_28 sm_28 g_315 d_Mo_readsTurn_315 ?_
        refine G_aload_n 0 rfl d_Mo_readsTurn_316 ?_
        refine G_getR fl_Mo_95 km_0 sm_0 rfl (by decide) d_Mo_readsTurn_317 ?_
        refine G_aload_n 0 rfl d_Mo_readsTurn_320 ?_
        refine G_getI fl_Mo_335 km_0 sm_0 rfl d_Mo_readsTurn_321 ?_
        obtain ⟨g_324, h⟩ := ob_g h
        refine G_iaload km_29 sm_29 g_324 d_Mo_readsTurn_324 ?_
        refine G_aload_n 0 rfl d_Mo_readsTurn_325 ?_
        refine G_getR fl_Mo_89 km_0 sm_0 rfl (by decide) d_Mo_readsTurn_326 ?_
        refine G_aload_n 0 rfl d_Mo_readsTurn_329 ?_
        refine G_getI fl_Mo_335 km_0 sm_0 rfl d_Mo_readsTurn_330 ?_
        obtain ⟨g_333, h⟩ := ob_g h
        refine G_iaload km_27 sm_27 g_333 d_Mo_readsTurn_333 ?_
        obtain ⟨w_334, q_334, h⟩ := ob_b h
        refine G_callV [.int (S_303 28 (S_303 0 46).toNatClampNeg), .int (S_303 29 (S_303 0 46).toNatClampNeg), .int (S_303 27 (S_303 0 46).toNatClampNeg)] [] (t_Mo_repeats q_334) (by decide) (by decide) mv_Mo_repeats rfl ml_Mo_338 km_0 sm_0 cl_12 rfl (Nat.le_of_ble_eq_true rfl) d_Mo_readsTurn_334 ?_
        refine G_if_ne 270 (by decide) d_Mo_readsTurn_337 (fun c_337 => ?_) (fun c_337 => ?_)
        · replace h := ob_f h c_337
          exact G_sub _ [0] rfl (ih w_334.2 _ h)
        · replace h := ob_t h c_337
          refine G_iconst 0 (by decide) d_Mo_readsTurn_340 ?_
          cases h
          exact G_zret (Or.inl rfl) rfl d_Mo_readsTurn_341
def f_Mo_readsTurn_242 (S : St) (l2 : Int32) (l3 : Int32) (s0 : Int32) (s1 : Int32) : Option (Int32 × St) :=
    if ig s1 64 then (
    (some (sF S 26 s1.toNatClampNeg s0)).bind fun S_242 =>
    (some (sF S_242 0 45 ((S_242 0 45) + 1))).bind fun S_250 =>
    (f_Mo_repeats S_250 ((S_250 0 45) - 1) l3 l2).bind fun w_262 =>
    if w_262.1 = 0 then (
    some (0, w_262.2))
    else (
    f_Mo_readsTurn_270 FU w_262.2)) else none
set_option maxHeartbeats 4000000 in
set_option maxRecDepth 20000 in
theorem t_Mo_readsTurn_242  (S : St) (l2 : Int32) (l3 : Int32) (s0 : Int32) (s1 : Int32) (w : Int32 × St) (h : f_Mo_readsTurn_242 S l2 l3 s0 s1 = some w) : G SM m_Mo_readsTurn 3 (some w.1) w.2 242 [(0, .ref 0), (2, .int l2), (3, .int l3)] [.int s0, .int s1, .ref 26] S := by
  unfold f_Mo_readsTurn_242 at h
  obtain ⟨g_242, h⟩ := ob_g h
  obtain ⟨S_242, e_242, h⟩ := ob_s h
  refine G_iastore e_242 km_26 sm_26 g_242 d_Mo_readsTurn_242 ?_
  refine G_aload_n 0 rfl d_Mo_readsTurn_243 ?_
  refine G_aload_n 0 rfl d_Mo_readsTurn_244 ?_
  refine G_getI fl_Mo_329 km_0 sm_0 rfl d_Mo_readsTurn_245 ?_
  refine G_iconst 1 (by decide) d_Mo_readsTurn_248 ?_
  refine G_iadd d_Mo_readsTurn_249 ?_
  obtain ⟨S_250, e_250, h⟩ := ob_s h
  refine G_putI e_250 fp_Mo_329 km_0 sm_0 rfl d_Mo_readsTurn_250 ?_
  refine G_aload_n 0 rfl d_Mo_readsTurn_253 ?_
  refine G_aload_n 0 rfl d_Mo_readsTurn_254 ?_
  refine G_getI fl_Mo_329 km_0 sm_0 rfl d_Mo_readsTurn_255 ?_
  refine G_iconst 1 (by decide) d_Mo_readsTurn_258 ?_
  refine G_isub d_Mo_readsTurn_259 ?_
  refine G_iload_n 2 rfl d_Mo_readsTurn_260 ?_
  refine G_iload_n 1 rfl d_Mo_readsTurn_261 ?_
  obtain ⟨w_262, q_262, h⟩ := ob_b h
  refine G_callV [.int ((S_250 0 45) - 1), .int l3, .int l2] [] (t_Mo_repeats q_262) (by decide) (by decide) mv_Mo_repeats rfl ml_Mo_338 km_0 sm_0 cl_12 rfl (Nat.le_of_ble_eq_true rfl) d_Mo_readsTurn_262 ?_
  refine G_if_ne 270 (by decide) d_Mo_readsTurn_265 (fun c_265 => ?_) (fun c_265 => ?_)
  · replace h := ob_f h c_265
    exact G_sub _ [0] rfl (t_Mo_readsTurn_270 FU w_262.2 _ h)
  · replace h := ob_t h c_265
    refine G_iconst 0 (by decide) d_Mo_readsTurn_268 ?_
    cases h
    exact G_zret (Or.inl rfl) rfl d_Mo_readsTurn_269
def f_Mo_readsTurn_169 (S : St) (l1 : Int32) (l2 : Int32) (l3 : Int32) (l4 : Int32) (s0 : Int32) (s1 : Int32) : Option (Int32 × St) :=
    (some (s1 - s0)).bind fun l5_170 =>
    if l5_170 ≤ (l1 - 2) then (
    if ((S 0 45) + l3) ≤ 64 then (
    (some (sF S 0 8 ((S 0 8) + 1))).bind fun S_216 =>
    if l4 = 0 then (
    f_Mo_readsTurn_242 S_216 l2 l3 (8 + l5_170) (S_216 0 45))
    else (
    f_Mo_readsTurn_242 S_216 l2 l3 l5_170 (S_216 0 45)))
    else (
    (f_Mo_wrongAt S (6 : Int32) l2).bind fun w_205 =>
    if w_205.1 = 0 ∨ w_205.1 = 1 then (
    some (w_205.1, w_205.2)) else none))
    else (
    (f_Mo_wrongAt S (3 : Int32) (S 0 8)).bind fun w_186 =>
    if w_186.1 = 0 ∨ w_186.1 = 1 then (
    some (w_186.1, w_186.2)) else none)
set_option maxHeartbeats 4000000 in
set_option maxRecDepth 20000 in
theorem t_Mo_readsTurn_169  (S : St) (l1 : Int32) (l2 : Int32) (l3 : Int32) (l4 : Int32) (s0 : Int32) (s1 : Int32) (w : Int32 × St) (h : f_Mo_readsTurn_169 S l1 l2 l3 l4 s0 s1 = some w) : G SM m_Mo_readsTurn 3 (some w.1) w.2 169 [(0, .ref 0), (1, .int l1), (2, .int l2), (3, .int l3), (4, .int l4)] [.int s0, .int s1] S := by
  unfold f_Mo_readsTurn_169 at h
  refine G_isub d_Mo_readsTurn_169 ?_
  obtain ⟨l5_170, e_170, h⟩ := ob_s h
  refine G_istore [(5, .int l5_170), (0, .ref 0), (1, .int l1), (2, .int l2), (3, .int l3), (4, .int l4)] e_170 rfl (by decide) d_Mo_readsTurn_170 ?_
  refine G_iload 0 rfl d_Mo_readsTurn_172 ?_
  refine G_iload_n 2 rfl d_Mo_readsTurn_174 ?_
  refine G_iconst 2 (by decide) d_Mo_readsTurn_175 ?_
  refine G_isub d_Mo_readsTurn_176 ?_
  refine G_icmp_le 190 (by decide) d_Mo_readsTurn_177 (fun c_177 => ?_) (fun c_177 => ?_)
  · replace h := ob_t h c_177
    refine G_aload_n 1 rfl d_Mo_readsTurn_190 ?_
    refine G_getI fl_Mo_329 km_0 sm_0 rfl d_Mo_readsTurn_191 ?_
    refine G_iload_n 4 rfl d_Mo_readsTurn_194 ?_
    refine G_iadd d_Mo_readsTurn_195 ?_
    refine G_bipush 64 (by decide) d_Mo_readsTurn_196 ?_
    refine G_icmp_le 209 (by decide) d_Mo_readsTurn_198 (fun c_198 => ?_) (fun c_198 => ?_)
    · replace h := ob_t h c_198
      refine G_aload_n 1 rfl d_Mo_readsTurn_209 ?_
      refine G_aload_n 1 rfl d_Mo_readsTurn_210 ?_
      refine G_getI fl_Mo_142 km_0 sm_0 rfl d_Mo_readsTurn_211 ?_
      refine G_iconst 1 (by decide) d_Mo_readsTurn_214 ?_
      refine G_iadd d_Mo_readsTurn_215 ?_
      obtain ⟨S_216, e_216, h⟩ := ob_s h
      refine G_putI e_216 fp_Mo_142 km_0 sm_0 rfl d_Mo_readsTurn_216 ?_
      refine G_aload_n 1 rfl d_Mo_readsTurn_219 ?_
      refine G_getR fl_Mo_86 km_0 sm_0 rfl (by decide) d_Mo_readsTurn_220 ?_
      refine G_aload_n 1 rfl d_Mo_readsTurn_223 ?_
      refine G_getI fl_Mo_329 km_0 sm_0 rfl d_Mo_readsTurn_224 ?_
      refine G_iload 5 rfl d_Mo_readsTurn_227 ?_
      refine G_if_eq 237 (by decide) d_Mo_readsTurn_229 (fun c_229 => ?_) (fun c_229 => ?_)
      · replace h := ob_t h c_229
        refine G_bipush 8 (by decide) d_Mo_readsTurn_237 ?_
        refine G_iload 0 rfl d_Mo_readsTurn_239 ?_
        refine G_iadd d_Mo_readsTurn_241 ?_
        exact G_sub _ [1, 3, 4] rfl (t_Mo_readsTurn_242 S_216 l2 l3 (8 + l5_170) (S_216 0 45) _ h)
      · replace h := ob_f h c_229
        refine G_iload 0 rfl d_Mo_readsTurn_232 ?_
        refine G_goto 242 (by decide) d_Mo_readsTurn_234 ?_
        exact G_sub _ [1, 3, 4] rfl (t_Mo_readsTurn_242 S_216 l2 l3 l5_170 (S_216 0 45) _ h)
    · replace h := ob_f h c_198
      refine G_aload_n 1 rfl d_Mo_readsTurn_201 ?_
      refine G_bipush 6 (by decide) d_Mo_readsTurn_202 ?_
      refine G_iload_n 3 rfl d_Mo_readsTurn_204 ?_
      obtain ⟨w_205, q_205, h⟩ := ob_b h
      refine G_callV [.int 6, .int l2] [] (t_Mo_wrongAt q_205) (by decide) (by decide) mv_Mo_wrongAt rfl ml_Mo_155 km_0 sm_0 cl_12 rfl (Nat.le_of_ble_eq_true rfl) d_Mo_readsTurn_205 ?_
      obtain ⟨g_208, h⟩ := ob_g h
      cases h
      exact G_zret g_208 rfl d_Mo_readsTurn_208
  · replace h := ob_f h c_177
    refine G_aload_n 1 rfl d_Mo_readsTurn_180 ?_
    refine G_iconst 3 (by decide) d_Mo_readsTurn_181 ?_
    refine G_aload_n 1 rfl d_Mo_readsTurn_182 ?_
    refine G_getI fl_Mo_142 km_0 sm_0 rfl d_Mo_readsTurn_183 ?_
    obtain ⟨w_186, q_186, h⟩ := ob_b h
    refine G_callV [.int 3, .int (S 0 8)] [] (t_Mo_wrongAt q_186) (by decide) (by decide) mv_Mo_wrongAt rfl ml_Mo_155 km_0 sm_0 cl_12 rfl (Nat.le_of_ble_eq_true rfl) d_Mo_readsTurn_186 ?_
    obtain ⟨g_189, h⟩ := ob_g h
    cases h
    exact G_zret g_189 rfl d_Mo_readsTurn_189
def f_Mo_readsTurn_153 (S : St) (l1 : Int32) (l2 : Int32) (l3 : Int32) (l4 : Int32) : Option (Int32 × St) :=
    (f_Mo_here S).bind fun v_154 =>
    if l4 = 0 then (
    f_Mo_readsTurn_169 S l1 l2 l3 l4 (65 : Int32) v_154)
    else (
    f_Mo_readsTurn_169 S l1 l2 l3 l4 (97 : Int32) v_154)
set_option maxHeartbeats 4000000 in
set_option maxRecDepth 20000 in
theorem t_Mo_readsTurn_153  (S : St) (l1 : Int32) (l2 : Int32) (l3 : Int32) (l4 : Int32) (w : Int32 × St) (h : f_Mo_readsTurn_153 S l1 l2 l3 l4 = some w) : G SM m_Mo_readsTurn 3 (some w.1) w.2 153 [(0, .ref 0), (1, .int l1), (2, .int l2), (3, .int l3), (4, .int l4)] [] S := by
  unfold f_Mo_readsTurn_153 at h
  refine G_aload_n 0 rfl d_Mo_readsTurn_153 ?_
  obtain ⟨v_154, q_154, h⟩ := ob_b h
  refine G_callV [] [] (t_Mo_here q_154) (by decide) (by decide) mv_Mo_here rfl ml_Mo_148 km_0 sm_0 cl_12 rfl (Nat.le_of_ble_eq_true rfl) d_Mo_readsTurn_154 ?_
  refine G_iload 4 rfl d_Mo_readsTurn_157 ?_
  refine G_if_eq 167 (by decide) d_Mo_readsTurn_159 (fun c_159 => ?_) (fun c_159 => ?_)
  · replace h := ob_t h c_159
    refine G_bipush 65 (by decide) d_Mo_readsTurn_167 ?_
    exact G_sub _ [0, 1, 2, 3, 4] rfl (t_Mo_readsTurn_169 S l1 l2 l3 l4 (65 : Int32) v_154 _ h)
  · replace h := ob_f h c_159
    refine G_bipush 97 (by decide) d_Mo_readsTurn_162 ?_
    refine G_goto 169 (by decide) d_Mo_readsTurn_164 ?_
    exact G_sub _ [0, 1, 2, 3, 4] rfl (t_Mo_readsTurn_169 S l1 l2 l3 l4 (97 : Int32) v_154 _ h)
def f_Mo_readsTurn_4 : Nat → St → Int32 → Option (Int32 × St)
  | 0, _, _ => none
  | n + 1, S, l1 =>
    (f_Mo_here S).bind fun v_5 =>
    if v_5 = 40 then (
    if (S 0 46) = 2 then (
    (f_Mo_wrongAt S (5 : Int32) (S 0 8)).bind fun w_27 =>
    if w_27.1 = 0 ∨ w_27.1 = 1 then (
    some (w_27.1, w_27.2)) else none)
    else (
    if ig (S 0 46) 2 then (
    (some (sF S 27 (S 0 46).toNatClampNeg (S 0 47))).bind fun S_43 =>
    if ig (S_43 0 46) 2 then (
    (some (sF S_43 28 (S_43 0 46).toNatClampNeg (S_43 0 45))).bind fun S_56 =>
    if ig (S_56 0 46) 2 then (
    (some (sF S_56 29 (S_56 0 46).toNatClampNeg (S_56 0 48))).bind fun S_69 =>
    (some (sF S_69 0 46 ((S_69 0 46) + 1))).bind fun S_77 =>
    (some (sF S_77 0 8 ((S_77 0 8) + 1))).bind fun S_87 =>
    (f_Mo_readsTimes S_87).bind fun w_91 =>
    f_Mo_readsTurn_4 n w_91 l1) else none) else none) else none))
    else (
    (some (S 0 47)).bind fun l2_101 =>
    (some (S 0 48)).bind fun l3_106 =>
    (f_Mo_here S).bind fun v_108 =>
    (f_Mo_in S (v_108 - 97) (0 : Int32) (6 : Int32)).bind fun v_117 =>
    if v_117 = 0 then (
    (f_Mo_here S).bind fun v_128 =>
    (f_Mo_in S (v_128 - 65) (0 : Int32) (6 : Int32)).bind fun v_137 =>
    if v_137 = 0 then (
    (f_Mo_wrongAt S (1 : Int32) (S 0 8)).bind fun w_149 =>
    if w_149.1 = 0 ∨ w_149.1 = 1 then (
    some (w_149.1, w_149.2)) else none)
    else (
    f_Mo_readsTurn_153 S l1 l2_101 l3_106 v_117))
    else (
    f_Mo_readsTurn_153 S l1 l2_101 l3_106 v_117))
set_option maxHeartbeats 4000000 in
set_option maxRecDepth 20000 in
theorem t_Mo_readsTurn_4  : ∀ (n : Nat) (S : St) (l1 : Int32) (w : Int32 × St), f_Mo_readsTurn_4 n S l1 = some w → G SM m_Mo_readsTurn 3 (some w.1) w.2 4 [(0, .ref 0), (1, .int l1)] [] S := by
  intro n
  induction n with
  | zero =>
    intro S l1 w h
    rw [f_Mo_readsTurn_4] at h
    cases h
  | succ n ih =>
    intro S l1 w h
    rw [f_Mo_readsTurn_4] at h
    refine G_aload_n 0 rfl d_Mo_readsTurn_4 ?_
    obtain ⟨v_5, q_5, h⟩ := ob_b h
    refine G_callV [] [] (t_Mo_here q_5) (by decide) (by decide) mv_Mo_here rfl ml_Mo_148 km_0 sm_0 cl_12 rfl (Nat.le_of_ble_eq_true rfl) d_Mo_readsTurn_5 ?_
    refine G_bipush 40 (by decide) d_Mo_readsTurn_8 ?_
    refine G_icmp_ne 97 (by decide) d_Mo_readsTurn_10 (fun c_10 => ?_) (fun c_10 => ?_)
    · replace h := ob_f h c_10
      refine G_aload_n 0 rfl d_Mo_readsTurn_97 ?_
      refine G_getI fl_Mo_323 km_0 sm_0 rfl d_Mo_readsTurn_98 ?_
      obtain ⟨l2_101, e_101, h⟩ := ob_s h
      refine G_istore_n [(2, .int l2_101), (0, .ref 0), (1, .int l1)] e_101 rfl (by decide) d_Mo_readsTurn_101 ?_
      refine G_aload_n 1 rfl d_Mo_readsTurn_102 ?_
      refine G_getI fl_Mo_326 km_0 sm_0 rfl d_Mo_readsTurn_103 ?_
      obtain ⟨l3_106, e_106, h⟩ := ob_s h
      refine G_istore_n [(3, .int l3_106), (2, .int l2_101), (0, .ref 0), (1, .int l1)] e_106 rfl (by decide) d_Mo_readsTurn_106 ?_
      refine G_aload_n 2 rfl d_Mo_readsTurn_107 ?_
      obtain ⟨v_108, q_108, h⟩ := ob_b h
      refine G_callV [] [] (t_Mo_here q_108) (by decide) (by decide) mv_Mo_here rfl ml_Mo_148 km_0 sm_0 cl_12 rfl (Nat.le_of_ble_eq_true rfl) d_Mo_readsTurn_108 ?_
      refine G_bipush 97 (by decide) d_Mo_readsTurn_111 ?_
      refine G_isub d_Mo_readsTurn_113 ?_
      refine G_iconst 0 (by decide) d_Mo_readsTurn_114 ?_
      refine G_bipush 6 (by decide) d_Mo_readsTurn_115 ?_
      obtain ⟨v_117, q_117, h⟩ := ob_b h
      refine G_callS [.int (v_108 - 97), .int 0, .int 6] [] (t_Mo_in q_117) (by decide) (by decide) mt_Mo_in rfl ml_Mo_124 rfl (Nat.le_of_ble_eq_true rfl) d_Mo_readsTurn_117 ?_
      refine G_istore [(4, .int v_117), (3, .int l3_106), (2, .int l2_101), (0, .ref 0), (1, .int l1)] rfl rfl (by decide) d_Mo_readsTurn_120 ?_
      refine G_iload 0 rfl d_Mo_readsTurn_122 ?_
      refine G_if_ne 153 (by decide) d_Mo_readsTurn_124 (fun c_124 => ?_) (fun c_124 => ?_)
      · replace h := ob_f h c_124
        exact G_sub _ [3, 4, 2, 1, 0] rfl (t_Mo_readsTurn_153 S l1 l2_101 l3_106 v_117 _ h)
      · replace h := ob_t h c_124
        refine G_aload_n 3 rfl d_Mo_readsTurn_127 ?_
        obtain ⟨v_128, q_128, h⟩ := ob_b h
        refine G_callV [] [] (t_Mo_here q_128) (by decide) (by decide) mv_Mo_here rfl ml_Mo_148 km_0 sm_0 cl_12 rfl (Nat.le_of_ble_eq_true rfl) d_Mo_readsTurn_128 ?_
        refine G_bipush 65 (by decide) d_Mo_readsTurn_131 ?_
        refine G_isub d_Mo_readsTurn_133 ?_
        refine G_iconst 0 (by decide) d_Mo_readsTurn_134 ?_
        refine G_bipush 6 (by decide) d_Mo_readsTurn_135 ?_
        obtain ⟨v_137, q_137, h⟩ := ob_b h
        refine G_callS [.int (v_128 - 65), .int 0, .int 6] [] (t_Mo_in q_137) (by decide) (by decide) mt_Mo_in rfl ml_Mo_124 rfl (Nat.le_of_ble_eq_true rfl) d_Mo_readsTurn_137 ?_
        refine G_if_ne 153 (by decide) d_Mo_readsTurn_140 (fun c_140 => ?_) (fun c_140 => ?_)
        · replace h := ob_f h c_140
          exact G_sub _ [3, 4, 2, 1, 0] rfl (t_Mo_readsTurn_153 S l1 l2_101 l3_106 v_117 _ h)
        · replace h := ob_t h c_140
          refine G_aload_n 3 rfl d_Mo_readsTurn_143 ?_
          refine G_iconst 1 (by decide) d_Mo_readsTurn_144 ?_
          refine G_aload_n 3 rfl d_Mo_readsTurn_145 ?_
          refine G_getI fl_Mo_142 km_0 sm_0 rfl d_Mo_readsTurn_146 ?_
          obtain ⟨w_149, q_149, h⟩ := ob_b h
          refine G_callV [.int 1, .int (S 0 8)] [] (t_Mo_wrongAt q_149) (by decide) (by decide) mv_Mo_wrongAt rfl ml_Mo_155 km_0 sm_0 cl_12 rfl (Nat.le_of_ble_eq_true rfl) d_Mo_readsTurn_149 ?_
          obtain ⟨g_152, h⟩ := ob_g h
          cases h
          exact G_zret g_152 rfl d_Mo_readsTurn_152
    · replace h := ob_t h c_10
      refine G_aload_n 0 rfl d_Mo_readsTurn_13 ?_
      refine G_getI fl_Mo_335 km_0 sm_0 rfl d_Mo_readsTurn_14 ?_
      refine G_iconst 2 (by decide) d_Mo_readsTurn_17 ?_
      refine G_icmp_ne 31 (by decide) d_Mo_readsTurn_18 (fun c_18 => ?_) (fun c_18 => ?_)
      · replace h := ob_f h c_18
        refine G_aload_n 0 rfl d_Mo_readsTurn_31 ?_
        refine G_getR fl_Mo_89 km_0 sm_0 rfl (by decide) d_Mo_readsTurn_32 ?_
        refine G_aload_n 0 rfl d_Mo_readsTurn_35 ?_
        refine G_getI fl_Mo_335 km_0 sm_0 rfl d_Mo_readsTurn_36 ?_
        refine G_aload_n 0 rfl d_Mo_readsTurn_39 ?_
        refine G_getI fl_Mo_323 km_0 sm_0 rfl d_Mo_readsTurn_40 ?_
        obtain ⟨g_43, h⟩ := ob_g h
        obtain ⟨S_43, e_43, h⟩ := ob_s h
        refine G_iastore e_43 km_27 sm_27 g_43 d_Mo_readsTurn_43 ?_
        refine G_aload_n 0 rfl d_Mo_readsTurn_44 ?_
        refine G_getR fl_Mo_92 km_0 sm_0 rfl (by decide) d_Mo_readsTurn_45 ?_
        refine G_aload_n 0 rfl d_Mo_readsTurn_48 ?_
        refine G_getI fl_Mo_335 km_0 sm_0 rfl d_Mo_readsTurn_49 ?_
        refine G_aload_n 0 rfl d_Mo_readsTurn_52 ?_
        refine G_getI fl_Mo_329 km_0 sm_0 rfl d_Mo_readsTurn_53 ?_
        obtain ⟨g_56, h⟩ := ob_g h
        obtain ⟨S_56, e_56, h⟩ := ob_s h
        refine G_iastore e_56 km_28 sm_28 g_56 d_Mo_readsTurn_56 ?_
        refine G_aload_n 0 rfl d_Mo_readsTurn_57 ?_
        refine G_getR fl_Mo_95 km_0 sm_0 rfl (by decide) d_Mo_readsTurn_58 ?_
        refine G_aload_n 0 rfl d_Mo_readsTurn_61 ?_
        refine G_getI fl_Mo_335 km_0 sm_0 rfl d_Mo_readsTurn_62 ?_
        refine G_aload_n 0 rfl d_Mo_readsTurn_65 ?_
        refine G_getI fl_Mo_326 km_0 sm_0 rfl d_Mo_readsTurn_66 ?_
        obtain ⟨g_69, h⟩ := ob_g h
        obtain ⟨S_69, e_69, h⟩ := ob_s h
        refine G_iastore e_69 km_29 sm_29 g_69 d_Mo_readsTurn_69 ?_
        refine G_aload_n 0 rfl d_Mo_readsTurn_70 ?_
        refine G_aload_n 0 rfl d_Mo_readsTurn_71 ?_
        refine G_getI fl_Mo_335 km_0 sm_0 rfl d_Mo_readsTurn_72 ?_
        refine G_iconst 1 (by decide) d_Mo_readsTurn_75 ?_
        refine G_iadd d_Mo_readsTurn_76 ?_
        obtain ⟨S_77, e_77, h⟩ := ob_s h
        refine G_putI e_77 fp_Mo_335 km_0 sm_0 rfl d_Mo_readsTurn_77 ?_
        refine G_aload_n 0 rfl d_Mo_readsTurn_80 ?_
        refine G_aload_n 0 rfl d_Mo_readsTurn_81 ?_
        refine G_getI fl_Mo_142 km_0 sm_0 rfl d_Mo_readsTurn_82 ?_
        refine G_iconst 1 (by decide) d_Mo_readsTurn_85 ?_
        refine G_iadd d_Mo_readsTurn_86 ?_
        obtain ⟨S_87, e_87, h⟩ := ob_s h
        refine G_putI e_87 fp_Mo_142 km_0 sm_0 rfl d_Mo_readsTurn_87 ?_
        refine G_aload_n 0 rfl d_Mo_readsTurn_90 ?_
        obtain ⟨w_91, q_91, h⟩ := ob_b h
        refine G_callV [] [] (t_Mo_readsTimes q_91) (by decide) (by decide) mv_Mo_readsTimes rfl ml_Mo_332 km_0 sm_0 cl_12 rfl (Nat.le_of_ble_eq_true rfl) d_Mo_readsTurn_91 ?_
        refine G_goto 4 (by decide) d_Mo_readsTurn_94 ?_
        exact G_sub _ [0, 1] rfl (ih w_91 l1 _ h)
      · replace h := ob_t h c_18
        refine G_aload_n 0 rfl d_Mo_readsTurn_21 ?_
        refine G_iconst 5 (by decide) d_Mo_readsTurn_22 ?_
        refine G_aload_n 0 rfl d_Mo_readsTurn_23 ?_
        refine G_getI fl_Mo_142 km_0 sm_0 rfl d_Mo_readsTurn_24 ?_
        obtain ⟨w_27, q_27, h⟩ := ob_b h
        refine G_callV [.int 5, .int (S 0 8)] [] (t_Mo_wrongAt q_27) (by decide) (by decide) mv_Mo_wrongAt rfl ml_Mo_155 km_0 sm_0 cl_12 rfl (Nat.le_of_ble_eq_true rfl) d_Mo_readsTurn_27 ?_
        obtain ⟨g_30, h⟩ := ob_g h
        cases h
        exact G_zret g_30 rfl d_Mo_readsTurn_30
def f_Mo_readsTurn (S : St) (l1 : Int32) : Option (Int32 × St) :=
    (f_Mo_readsTimes S).bind fun w_1 =>
    f_Mo_readsTurn_4 FU w_1 l1
set_option maxHeartbeats 4000000 in
set_option maxRecDepth 20000 in
theorem t_Mo_readsTurn  {S : St} {l1 : Int32} {w : Int32 × St} (h : f_Mo_readsTurn S l1 = some w) : Ct SM m_Mo_readsTurn 3 [.ref 0, .int l1] S (some w.1) w.2 := by
  unfold f_Mo_readsTurn at h
  refine Ct.of pn_Mo (Nat.le_of_ble_eq_true rfl) ?_
  show G SM m_Mo_readsTurn 3 (some w.1) w.2 0 [(0, .ref 0), (1, .int l1)] [] S
  refine G_aload_n 0 rfl d_Mo_readsTurn_0 ?_
  obtain ⟨w_1, q_1, h⟩ := ob_b h
  refine G_callV [] [] (t_Mo_readsTimes q_1) (by decide) (by decide) mv_Mo_readsTimes rfl ml_Mo_332 km_0 sm_0 cl_12 rfl (Nat.le_of_ble_eq_true rfl) d_Mo_readsTurn_1 ?_
  exact G_sub _ [0, 1] rfl (t_Mo_readsTurn_4 FU w_1 l1 _ h)
theorem d_Mo_turnsAll_0 : decode m_Mo_turnsAll.2.1 0 = .ok (.iconst 0, 1) := by decide +kernel
theorem d_Mo_turnsAll_1 : decode m_Mo_turnsAll.2.1 1 = .ok (.istore_n 2, 1) := by decide +kernel
theorem d_Mo_turnsAll_2 : decode m_Mo_turnsAll.2.1 2 = .ok (.iload_n 2, 1) := by decide +kernel
theorem d_Mo_turnsAll_3 : decode m_Mo_turnsAll.2.1 3 = .ok (.iload_n 1, 1) := by decide +kernel
theorem d_Mo_turnsAll_4 : decode m_Mo_turnsAll.2.1 4 = .ok (.if_icmp .ge 16, 3) := by decide +kernel
theorem d_Mo_turnsAll_7 : decode m_Mo_turnsAll.2.1 7 = .ok (.aload_n 0, 1) := by decide +kernel
theorem d_Mo_turnsAll_8 : decode m_Mo_turnsAll.2.1 8 = .ok (.getfield 98, 3) := by decide +kernel
theorem d_Mo_turnsAll_11 : decode m_Mo_turnsAll.2.1 11 = .ok (.iload_n 2, 1) := by decide +kernel
theorem d_Mo_turnsAll_12 : decode m_Mo_turnsAll.2.1 12 = .ok (.iload_n 2, 1) := by decide +kernel
theorem d_Mo_turnsAll_13 : decode m_Mo_turnsAll.2.1 13 = .ok (.iastore, 1) := by decide +kernel
theorem d_Mo_turnsAll_14 : decode m_Mo_turnsAll.2.1 14 = .ok (.iinc 2 1, 3) := by decide +kernel
theorem d_Mo_turnsAll_17 : decode m_Mo_turnsAll.2.1 17 = .ok (.goto (-15), 3) := by decide +kernel
theorem d_Mo_turnsAll_20 : decode m_Mo_turnsAll.2.1 20 = .ok (.iconst 0, 1) := by decide +kernel
theorem d_Mo_turnsAll_21 : decode m_Mo_turnsAll.2.1 21 = .ok (.istore_n 2, 1) := by decide +kernel
theorem d_Mo_turnsAll_22 : decode m_Mo_turnsAll.2.1 22 = .ok (.iload_n 2, 1) := by decide +kernel
theorem d_Mo_turnsAll_23 : decode m_Mo_turnsAll.2.1 23 = .ok (.aload_n 0, 1) := by decide +kernel
theorem d_Mo_turnsAll_24 : decode m_Mo_turnsAll.2.1 24 = .ok (.getfield 329, 3) := by decide +kernel
theorem d_Mo_turnsAll_27 : decode m_Mo_turnsAll.2.1 27 = .ok (.if_icmp .ge 51, 3) := by decide +kernel
theorem d_Mo_turnsAll_30 : decode m_Mo_turnsAll.2.1 30 = .ok (.aload_n 0, 1) := by decide +kernel
theorem d_Mo_turnsAll_31 : decode m_Mo_turnsAll.2.1 31 = .ok (.getfield 86, 3) := by decide +kernel
theorem d_Mo_turnsAll_34 : decode m_Mo_turnsAll.2.1 34 = .ok (.iload_n 2, 1) := by decide +kernel
theorem d_Mo_turnsAll_35 : decode m_Mo_turnsAll.2.1 35 = .ok (.iaload, 1) := by decide +kernel
theorem d_Mo_turnsAll_36 : decode m_Mo_turnsAll.2.1 36 = .ok (.bipush 8, 2) := by decide +kernel
theorem d_Mo_turnsAll_38 : decode m_Mo_turnsAll.2.1 38 = .ok (.irem, 1) := by decide +kernel
theorem d_Mo_turnsAll_39 : decode m_Mo_turnsAll.2.1 39 = .ok (.istore_n 3, 1) := by decide +kernel
theorem d_Mo_turnsAll_40 : decode m_Mo_turnsAll.2.1 40 = .ok (.aload_n 0, 1) := by decide +kernel
theorem d_Mo_turnsAll_41 : decode m_Mo_turnsAll.2.1 41 = .ok (.getfield 98, 3) := by decide +kernel
theorem d_Mo_turnsAll_44 : decode m_Mo_turnsAll.2.1 44 = .ok (.iload_n 3, 1) := by decide +kernel
theorem d_Mo_turnsAll_45 : decode m_Mo_turnsAll.2.1 45 = .ok (.iaload, 1) := by decide +kernel
theorem d_Mo_turnsAll_46 : decode m_Mo_turnsAll.2.1 46 = .ok (.istore 4, 2) := by decide +kernel
theorem d_Mo_turnsAll_48 : decode m_Mo_turnsAll.2.1 48 = .ok (.aload_n 0, 1) := by decide +kernel
theorem d_Mo_turnsAll_49 : decode m_Mo_turnsAll.2.1 49 = .ok (.getfield 98, 3) := by decide +kernel
theorem d_Mo_turnsAll_52 : decode m_Mo_turnsAll.2.1 52 = .ok (.iload_n 3, 1) := by decide +kernel
theorem d_Mo_turnsAll_53 : decode m_Mo_turnsAll.2.1 53 = .ok (.aload_n 0, 1) := by decide +kernel
theorem d_Mo_turnsAll_54 : decode m_Mo_turnsAll.2.1 54 = .ok (.getfield 98, 3) := by decide +kernel
theorem d_Mo_turnsAll_57 : decode m_Mo_turnsAll.2.1 57 = .ok (.iload_n 3, 1) := by decide +kernel
theorem d_Mo_turnsAll_58 : decode m_Mo_turnsAll.2.1 58 = .ok (.iconst 1, 1) := by decide +kernel
theorem d_Mo_turnsAll_59 : decode m_Mo_turnsAll.2.1 59 = .ok (.iadd, 1) := by decide +kernel
theorem d_Mo_turnsAll_60 : decode m_Mo_turnsAll.2.1 60 = .ok (.iaload, 1) := by decide +kernel
theorem d_Mo_turnsAll_61 : decode m_Mo_turnsAll.2.1 61 = .ok (.iastore, 1) := by decide +kernel
theorem d_Mo_turnsAll_62 : decode m_Mo_turnsAll.2.1 62 = .ok (.aload_n 0, 1) := by decide +kernel
theorem d_Mo_turnsAll_63 : decode m_Mo_turnsAll.2.1 63 = .ok (.getfield 98, 3) := by decide +kernel
theorem d_Mo_turnsAll_66 : decode m_Mo_turnsAll.2.1 66 = .ok (.iload_n 3, 1) := by decide +kernel
theorem d_Mo_turnsAll_67 : decode m_Mo_turnsAll.2.1 67 = .ok (.iconst 1, 1) := by decide +kernel
theorem d_Mo_turnsAll_68 : decode m_Mo_turnsAll.2.1 68 = .ok (.iadd, 1) := by decide +kernel
theorem d_Mo_turnsAll_69 : decode m_Mo_turnsAll.2.1 69 = .ok (.iload 4, 2) := by decide +kernel
theorem d_Mo_turnsAll_71 : decode m_Mo_turnsAll.2.1 71 = .ok (.iastore, 1) := by decide +kernel
theorem d_Mo_turnsAll_72 : decode m_Mo_turnsAll.2.1 72 = .ok (.iinc 2 1, 3) := by decide +kernel
theorem d_Mo_turnsAll_75 : decode m_Mo_turnsAll.2.1 75 = .ok (.goto (-53), 3) := by decide +kernel
theorem d_Mo_turnsAll_78 : decode m_Mo_turnsAll.2.1 78 = .ok (.return_, 1) := by decide +kernel
def f_Mo_turnsAll_22 : Nat → St → Int32 → Option (St)
  | 0, _, _ => none
  | n + 1, S, l2 =>
    if (S 0 45) ≤ l2 then (
    some S)
    else (
    if ig l2 64 then (
    (some (jrem (S 26 l2.toNatClampNeg) 8)).bind fun l3_39 =>
    if ig l3_39 8 then (
    (some (S 30 l3_39.toNatClampNeg)).bind fun l4_46 =>
    if ig (l3_39 + 1) 8 then (
    if ig l3_39 8 then (
    (some (sF S 30 l3_39.toNatClampNeg (S 30 (l3_39 + 1).toNatClampNeg))).bind fun S_61 =>
    if ig (l3_39 + 1) 8 then (
    (some (sF S_61 30 (l3_39 + 1).toNatClampNeg l4_46)).bind fun S_71 =>
    (some (l2 + 1)).bind fun l2_72 =>
    f_Mo_turnsAll_22 n S_71 l2_72) else none) else none) else none) else none) else none)
set_option maxHeartbeats 4000000 in
set_option maxRecDepth 20000 in
theorem t_Mo_turnsAll_22  : ∀ (n : Nat) (S : St) (l2 : Int32) (w : St), f_Mo_turnsAll_22 n S l2 = some w → G SM m_Mo_turnsAll 1 none w 22 [(0, .ref 0), (2, .int l2)] [] S := by
  intro n
  induction n with
  | zero =>
    intro S l2 w h
    rw [f_Mo_turnsAll_22] at h
    cases h
  | succ n ih =>
    intro S l2 w h
    rw [f_Mo_turnsAll_22] at h
    refine G_iload_n 1 rfl d_Mo_turnsAll_22 ?_
    refine G_aload_n 0 rfl d_Mo_turnsAll_23 ?_
    refine G_getI fl_Mo_329 km_0 sm_0 rfl d_Mo_turnsAll_24 ?_
    refine G_icmp_ge 78 (by decide) d_Mo_turnsAll_27 (fun c_27 => ?_) (fun c_27 => ?_)
    · replace h := ob_t h c_27
      cases h
      exact G_vret rfl d_Mo_turnsAll_78
    · replace h := ob_f h c_27
      refine G_aload_n 0 rfl d_Mo_turnsAll_30 ?_
      refine G_getR fl_Mo_86 km_0 sm_0 rfl (by decide) d_Mo_turnsAll_31 ?_
      refine G_iload_n 1 rfl d_Mo_turnsAll_34 ?_
      obtain ⟨g_35, h⟩ := ob_g h
      refine G_iaload km_26 sm_26 g_35 d_Mo_turnsAll_35 ?_
      refine G_bipush 8 (by decide) d_Mo_turnsAll_36 ?_
      refine G_irem (by decide) d_Mo_turnsAll_38 ?_
      obtain ⟨l3_39, e_39, h⟩ := ob_s h
      refine G_istore_n [(3, .int l3_39), (0, .ref 0), (2, .int l2)] e_39 rfl (by decide) d_Mo_turnsAll_39 ?_
      refine G_aload_n 1 rfl d_Mo_turnsAll_40 ?_
      refine G_getR fl_Mo_98 km_0 sm_0 rfl (by decide) d_Mo_turnsAll_41 ?_
      refine G_iload_n 0 rfl d_Mo_turnsAll_44 ?_
      obtain ⟨g_45, h⟩ := ob_g h
      refine G_iaload km_30 sm_30 g_45 d_Mo_turnsAll_45 ?_
      obtain ⟨l4_46, e_46, h⟩ := ob_s h
      refine G_istore [(4, .int l4_46), (3, .int l3_39), (0, .ref 0), (2, .int l2)] e_46 rfl (by decide) d_Mo_turnsAll_46 ?_
      refine G_aload_n 2 rfl d_Mo_turnsAll_48 ?_
      refine G_getR fl_Mo_98 km_0 sm_0 rfl (by decide) d_Mo_turnsAll_49 ?_
      refine G_iload_n 1 rfl d_Mo_turnsAll_52 ?_
      refine G_aload_n 2 rfl d_Mo_turnsAll_53 ?_
      refine G_getR fl_Mo_98 km_0 sm_0 rfl (by decide) d_Mo_turnsAll_54 ?_
      refine G_iload_n 1 rfl d_Mo_turnsAll_57 ?_
      refine G_iconst 1 (by decide) d_Mo_turnsAll_58 ?_
      refine G_iadd d_Mo_turnsAll_59 ?_
      obtain ⟨g_60, h⟩ := ob_g h
      refine G_iaload km_30 sm_30 g_60 d_Mo_turnsAll_60 ?_
      obtain ⟨g_61, h⟩ := ob_g h
      obtain ⟨S_61, e_61, h⟩ := ob_s h
      refine G_iastore e_61 km_30 sm_30 g_61 d_Mo_turnsAll_61 ?_
      refine G_aload_n 2 rfl d_Mo_turnsAll_62 ?_
      refine G_getR fl_Mo_98 km_0 sm_0 rfl (by decide) d_Mo_turnsAll_63 ?_
      refine G_iload_n 1 rfl d_Mo_turnsAll_66 ?_
      refine G_iconst 1 (by decide) d_Mo_turnsAll_67 ?_
      refine G_iadd d_Mo_turnsAll_68 ?_
      refine G_iload 0 rfl d_Mo_turnsAll_69 ?_
      obtain ⟨g_71, h⟩ := ob_g h
      obtain ⟨S_71, e_71, h⟩ := ob_s h
      refine G_iastore e_71 km_30 sm_30 g_71 d_Mo_turnsAll_71 ?_
      obtain ⟨l2_72, e_72, h⟩ := ob_s h
      refine G_iinc 1 3 [(2, .int l2_72), (4, .int l4_46), (3, .int l3_39), (0, .ref 0)] (by decide) rfl e_72 rfl (by decide) d_Mo_turnsAll_72 ?_
      refine G_goto 22 (by decide) d_Mo_turnsAll_75 ?_
      exact G_sub _ [3, 0] rfl (ih S_71 l2_72 _ h)
def f_Mo_turnsAll_2 : Nat → St → Int32 → Int32 → Option (St)
  | 0, _, _, _ => none
  | n + 1, S, l1, l2 =>
    if l1 ≤ l2 then (
    (some (0 : Int32)).bind fun l2_21 =>
    f_Mo_turnsAll_22 FU S l2_21)
    else (
    if ig l2 8 then (
    (some (sF S 30 l2.toNatClampNeg l2)).bind fun S_13 =>
    (some (l2 + 1)).bind fun l2_14 =>
    f_Mo_turnsAll_2 n S_13 l1 l2_14) else none)
set_option maxHeartbeats 4000000 in
set_option maxRecDepth 20000 in
theorem t_Mo_turnsAll_2  : ∀ (n : Nat) (S : St) (l1 : Int32) (l2 : Int32) (w : St), f_Mo_turnsAll_2 n S l1 l2 = some w → G SM m_Mo_turnsAll 1 none w 2 [(0, .ref 0), (1, .int l1), (2, .int l2)] [] S := by
  intro n
  induction n with
  | zero =>
    intro S l1 l2 w h
    rw [f_Mo_turnsAll_2] at h
    cases h
  | succ n ih =>
    intro S l1 l2 w h
    rw [f_Mo_turnsAll_2] at h
    refine G_iload_n 2 rfl d_Mo_turnsAll_2 ?_
    refine G_iload_n 1 rfl d_Mo_turnsAll_3 ?_
    refine G_icmp_ge 20 (by decide) d_Mo_turnsAll_4 (fun c_4 => ?_) (fun c_4 => ?_)
    · replace h := ob_t h c_4
      refine G_iconst 0 (by decide) d_Mo_turnsAll_20 ?_
      obtain ⟨l2_21, e_21, h⟩ := ob_s h
      refine G_istore_n [(2, .int l2_21), (0, .ref 0), (1, .int l1)] e_21 rfl (by decide) d_Mo_turnsAll_21 ?_
      exact G_sub _ [1, 0] rfl (t_Mo_turnsAll_22 FU S l2_21 _ h)
    · replace h := ob_f h c_4
      refine G_aload_n 0 rfl d_Mo_turnsAll_7 ?_
      refine G_getR fl_Mo_98 km_0 sm_0 rfl (by decide) d_Mo_turnsAll_8 ?_
      refine G_iload_n 2 rfl d_Mo_turnsAll_11 ?_
      refine G_iload_n 2 rfl d_Mo_turnsAll_12 ?_
      obtain ⟨g_13, h⟩ := ob_g h
      obtain ⟨S_13, e_13, h⟩ := ob_s h
      refine G_iastore e_13 km_30 sm_30 g_13 d_Mo_turnsAll_13 ?_
      obtain ⟨l2_14, e_14, h⟩ := ob_s h
      refine G_iinc 1 2 [(2, .int l2_14), (0, .ref 0), (1, .int l1)] (by decide) rfl e_14 rfl (by decide) d_Mo_turnsAll_14 ?_
      refine G_goto 2 (by decide) d_Mo_turnsAll_17 ?_
      exact G_sub _ [1, 2, 0] rfl (ih S_13 l1 l2_14 _ h)
def f_Mo_turnsAll (S : St) (l1 : Int32) : Option (St) :=
    (some (0 : Int32)).bind fun l2_1 =>
    f_Mo_turnsAll_2 FU S l1 l2_1
set_option maxHeartbeats 4000000 in
set_option maxRecDepth 20000 in
theorem t_Mo_turnsAll  {S : St} {l1 : Int32} {w : St} (h : f_Mo_turnsAll S l1 = some w) : Ct SM m_Mo_turnsAll 1 [.ref 0, .int l1] S none w := by
  unfold f_Mo_turnsAll at h
  refine Ct.of pn_Mo (Nat.le_of_ble_eq_true rfl) ?_
  show G SM m_Mo_turnsAll 1 none w 0 [(0, .ref 0), (1, .int l1)] [] S
  refine G_iconst 0 (by decide) d_Mo_turnsAll_0 ?_
  obtain ⟨l2_1, e_1, h⟩ := ob_s h
  refine G_istore_n [(2, .int l2_1), (0, .ref 0), (1, .int l1)] e_1 rfl (by decide) d_Mo_turnsAll_1 ?_
  exact G_sub _ [1, 2, 0] rfl (t_Mo_turnsAll_2 FU S l1 l2_1 _ h)
theorem d_Mo_comesOut_0 : decode m_Mo_comesOut.2.1 0 = .ok (.iconst 0, 1) := by decide +kernel
theorem d_Mo_comesOut_1 : decode m_Mo_comesOut.2.1 1 = .ok (.istore_n 2, 1) := by decide +kernel
theorem d_Mo_comesOut_2 : decode m_Mo_comesOut.2.1 2 = .ok (.aload_n 0, 1) := by decide +kernel
theorem d_Mo_comesOut_3 : decode m_Mo_comesOut.2.1 3 = .ok (.getfield 98, 3) := by decide +kernel
theorem d_Mo_comesOut_6 : decode m_Mo_comesOut.2.1 6 = .ok (.iload_n 2, 1) := by decide +kernel
theorem d_Mo_comesOut_7 : decode m_Mo_comesOut.2.1 7 = .ok (.iaload, 1) := by decide +kernel
theorem d_Mo_comesOut_8 : decode m_Mo_comesOut.2.1 8 = .ok (.iload_n 1, 1) := by decide +kernel
theorem d_Mo_comesOut_9 : decode m_Mo_comesOut.2.1 9 = .ok (.if_icmp .eq 10, 3) := by decide +kernel
theorem d_Mo_comesOut_12 : decode m_Mo_comesOut.2.1 12 = .ok (.iload_n 2, 1) := by decide +kernel
theorem d_Mo_comesOut_13 : decode m_Mo_comesOut.2.1 13 = .ok (.iconst 1, 1) := by decide +kernel
theorem d_Mo_comesOut_14 : decode m_Mo_comesOut.2.1 14 = .ok (.iadd, 1) := by decide +kernel
theorem d_Mo_comesOut_15 : decode m_Mo_comesOut.2.1 15 = .ok (.istore_n 2, 1) := by decide +kernel
theorem d_Mo_comesOut_16 : decode m_Mo_comesOut.2.1 16 = .ok (.goto (-14), 3) := by decide +kernel
theorem d_Mo_comesOut_19 : decode m_Mo_comesOut.2.1 19 = .ok (.iload_n 2, 1) := by decide +kernel
theorem d_Mo_comesOut_20 : decode m_Mo_comesOut.2.1 20 = .ok (.ireturn, 1) := by decide +kernel
def f_Mo_comesOut_2 : Nat → St → Int32 → Int32 → Option (Int32)
  | 0, _, _, _ => none
  | n + 1, S, l1, l2 =>
    if ig l2 8 then (
    if (S 30 l2.toNatClampNeg) = l1 then (
    some l2)
    else (
    (some (l2 + 1)).bind fun l2_15 =>
    f_Mo_comesOut_2 n S l1 l2_15)) else none
set_option maxHeartbeats 4000000 in
set_option maxRecDepth 20000 in
theorem t_Mo_comesOut_2  : ∀ (n : Nat) (S : St) (l1 : Int32) (l2 : Int32) (w : Int32), f_Mo_comesOut_2 n S l1 l2 = some w → G SM m_Mo_comesOut 1 (some w) S 2 [(0, .ref 0), (1, .int l1), (2, .int l2)] [] S := by
  intro n
  induction n with
  | zero =>
    intro S l1 l2 w h
    rw [f_Mo_comesOut_2] at h
    cases h
  | succ n ih =>
    intro S l1 l2 w h
    rw [f_Mo_comesOut_2] at h
    refine G_aload_n 0 rfl d_Mo_comesOut_2 ?_
    refine G_getR fl_Mo_98 km_0 sm_0 rfl (by decide) d_Mo_comesOut_3 ?_
    refine G_iload_n 2 rfl d_Mo_comesOut_6 ?_
    obtain ⟨g_7, h⟩ := ob_g h
    refine G_iaload km_30 sm_30 g_7 d_Mo_comesOut_7 ?_
    refine G_iload_n 1 rfl d_Mo_comesOut_8 ?_
    refine G_icmp_eq 19 (by decide) d_Mo_comesOut_9 (fun c_9 => ?_) (fun c_9 => ?_)
    · replace h := ob_t h c_9
      refine G_iload_n 2 rfl d_Mo_comesOut_19 ?_
      cases h
      exact G_iret rfl d_Mo_comesOut_20
    · replace h := ob_f h c_9
      refine G_iload_n 2 rfl d_Mo_comesOut_12 ?_
      refine G_iconst 1 (by decide) d_Mo_comesOut_13 ?_
      refine G_iadd d_Mo_comesOut_14 ?_
      obtain ⟨l2_15, e_15, h⟩ := ob_s h
      refine G_istore_n [(2, .int l2_15), (0, .ref 0), (1, .int l1)] e_15 rfl (by decide) d_Mo_comesOut_15 ?_
      refine G_goto 2 (by decide) d_Mo_comesOut_16 ?_
      exact G_sub _ [1, 2, 0] rfl (ih S l1 l2_15 _ h)
def f_Mo_comesOut (S : St) (l1 : Int32) : Option (Int32) :=
    (some (0 : Int32)).bind fun l2_1 =>
    f_Mo_comesOut_2 FU S l1 l2_1
set_option maxHeartbeats 4000000 in
set_option maxRecDepth 20000 in
theorem t_Mo_comesOut  {S : St} {l1 : Int32} {w : Int32} (h : f_Mo_comesOut S l1 = some w) : Ct SM m_Mo_comesOut 1 [.ref 0, .int l1] S (some w) S := by
  unfold f_Mo_comesOut at h
  refine Ct.of pn_Mo (Nat.le_of_ble_eq_true rfl) ?_
  show G SM m_Mo_comesOut 1 (some w) S 0 [(0, .ref 0), (1, .int l1)] [] S
  refine G_iconst 0 (by decide) d_Mo_comesOut_0 ?_
  obtain ⟨l2_1, e_1, h⟩ := ob_s h
  refine G_istore_n [(2, .int l2_1), (0, .ref 0), (1, .int l1)] e_1 rfl (by decide) d_Mo_comesOut_1 ?_
  exact G_sub _ [1, 2, 0] rfl (t_Mo_comesOut_2 FU S l1 l2_1 _ h)
theorem d_Mo_overs_0 : decode m_Mo_overs.2.1 0 = .ok (.iconst 0, 1) := by decide +kernel
theorem d_Mo_overs_1 : decode m_Mo_overs.2.1 1 = .ok (.istore_n 1, 1) := by decide +kernel
theorem d_Mo_overs_2 : decode m_Mo_overs.2.1 2 = .ok (.iconst 0, 1) := by decide +kernel
theorem d_Mo_overs_3 : decode m_Mo_overs.2.1 3 = .ok (.istore_n 2, 1) := by decide +kernel
theorem d_Mo_overs_4 : decode m_Mo_overs.2.1 4 = .ok (.iload_n 2, 1) := by decide +kernel
theorem d_Mo_overs_5 : decode m_Mo_overs.2.1 5 = .ok (.aload_n 0, 1) := by decide +kernel
theorem d_Mo_overs_6 : decode m_Mo_overs.2.1 6 = .ok (.getfield 329, 3) := by decide +kernel
theorem d_Mo_overs_9 : decode m_Mo_overs.2.1 9 = .ok (.if_icmp .ge 28, 3) := by decide +kernel
theorem d_Mo_overs_12 : decode m_Mo_overs.2.1 12 = .ok (.iload_n 1, 1) := by decide +kernel
theorem d_Mo_overs_13 : decode m_Mo_overs.2.1 13 = .ok (.aload_n 0, 1) := by decide +kernel
theorem d_Mo_overs_14 : decode m_Mo_overs.2.1 14 = .ok (.getfield 86, 3) := by decide +kernel
theorem d_Mo_overs_17 : decode m_Mo_overs.2.1 17 = .ok (.iload_n 2, 1) := by decide +kernel
theorem d_Mo_overs_18 : decode m_Mo_overs.2.1 18 = .ok (.iaload, 1) := by decide +kernel
theorem d_Mo_overs_19 : decode m_Mo_overs.2.1 19 = .ok (.bipush 8, 2) := by decide +kernel
theorem d_Mo_overs_21 : decode m_Mo_overs.2.1 21 = .ok (.if_icmp .ge 7, 3) := by decide +kernel
theorem d_Mo_overs_24 : decode m_Mo_overs.2.1 24 = .ok (.iconst 1, 1) := by decide +kernel
theorem d_Mo_overs_25 : decode m_Mo_overs.2.1 25 = .ok (.goto 4, 3) := by decide +kernel
theorem d_Mo_overs_28 : decode m_Mo_overs.2.1 28 = .ok (.iconst (-1), 1) := by decide +kernel
theorem d_Mo_overs_29 : decode m_Mo_overs.2.1 29 = .ok (.iadd, 1) := by decide +kernel
theorem d_Mo_overs_30 : decode m_Mo_overs.2.1 30 = .ok (.istore_n 1, 1) := by decide +kernel
theorem d_Mo_overs_31 : decode m_Mo_overs.2.1 31 = .ok (.iinc 2 1, 3) := by decide +kernel
theorem d_Mo_overs_34 : decode m_Mo_overs.2.1 34 = .ok (.goto (-30), 3) := by decide +kernel
theorem d_Mo_overs_37 : decode m_Mo_overs.2.1 37 = .ok (.iload_n 1, 1) := by decide +kernel
theorem d_Mo_overs_38 : decode m_Mo_overs.2.1 38 = .ok (.ireturn, 1) := by decide +kernel
def f_Mo_overs_29 (k_4 : St → Int32 → Int32 → Option (Int32)) (S : St) (l2 : Int32) (s0 : Int32) (s1 : Int32) : Option (Int32) :=
    (some (s1 + s0)).bind fun l1_30 =>
    (some (l2 + 1)).bind fun l2_31 =>
    k_4 S l1_30 l2_31
set_option maxHeartbeats 4000000 in
set_option maxRecDepth 20000 in
theorem t_Mo_overs_29  {k_4 : St → Int32 → Int32 → Option (Int32)} (hk_4 : ∀ (S : St) (l1 : Int32) (l2 : Int32) (w : Int32), k_4 S l1 l2 = some w → G SM m_Mo_overs 1 (some w) S 4 [(0, .ref 0), (1, .int l1), (2, .int l2)] [] S) (S : St) (l2 : Int32) (s0 : Int32) (s1 : Int32) (w : Int32) (h : f_Mo_overs_29 k_4 S l2 s0 s1 = some w) : G SM m_Mo_overs 1 (some w) S 29 [(0, .ref 0), (2, .int l2)] [.int s0, .int s1] S := by
  unfold f_Mo_overs_29 at h
  refine G_iadd d_Mo_overs_29 ?_
  obtain ⟨l1_30, e_30, h⟩ := ob_s h
  refine G_istore_n [(1, .int l1_30), (0, .ref 0), (2, .int l2)] e_30 rfl (by decide) d_Mo_overs_30 ?_
  obtain ⟨l2_31, e_31, h⟩ := ob_s h
  refine G_iinc 1 2 [(2, .int l2_31), (1, .int l1_30), (0, .ref 0)] (by decide) rfl e_31 rfl (by decide) d_Mo_overs_31 ?_
  refine G_goto 4 (by decide) d_Mo_overs_34 ?_
  exact G_sub _ [2, 1, 0] rfl (hk_4 S l1_30 l2_31 _ h)
def f_Mo_overs_4 : Nat → St → Int32 → Int32 → Option (Int32)
  | 0, _, _, _ => none
  | n + 1, S, l1, l2 =>
    if (S 0 45) ≤ l2 then (
    some l1)
    else (
    if ig l2 64 then (
    if (8 : Int32) ≤ (S 26 l2.toNatClampNeg) then (
    f_Mo_overs_29 (f_Mo_overs_4 n) S l2 ((-1) : Int32) l1)
    else (
    f_Mo_overs_29 (f_Mo_overs_4 n) S l2 (1 : Int32) l1)) else none)
set_option maxHeartbeats 4000000 in
set_option maxRecDepth 20000 in
theorem t_Mo_overs_4  : ∀ (n : Nat) (S : St) (l1 : Int32) (l2 : Int32) (w : Int32), f_Mo_overs_4 n S l1 l2 = some w → G SM m_Mo_overs 1 (some w) S 4 [(0, .ref 0), (1, .int l1), (2, .int l2)] [] S := by
  intro n
  induction n with
  | zero =>
    intro S l1 l2 w h
    rw [f_Mo_overs_4] at h
    cases h
  | succ n ih =>
    intro S l1 l2 w h
    rw [f_Mo_overs_4] at h
    refine G_iload_n 2 rfl d_Mo_overs_4 ?_
    refine G_aload_n 0 rfl d_Mo_overs_5 ?_
    refine G_getI fl_Mo_329 km_0 sm_0 rfl d_Mo_overs_6 ?_
    refine G_icmp_ge 37 (by decide) d_Mo_overs_9 (fun c_9 => ?_) (fun c_9 => ?_)
    · replace h := ob_t h c_9
      refine G_iload_n 1 rfl d_Mo_overs_37 ?_
      cases h
      exact G_iret rfl d_Mo_overs_38
    · replace h := ob_f h c_9
      refine G_iload_n 1 rfl d_Mo_overs_12 ?_
      refine G_aload_n 0 rfl d_Mo_overs_13 ?_
      refine G_getR fl_Mo_86 km_0 sm_0 rfl (by decide) d_Mo_overs_14 ?_
      refine G_iload_n 2 rfl d_Mo_overs_17 ?_
      obtain ⟨g_18, h⟩ := ob_g h
      refine G_iaload km_26 sm_26 g_18 d_Mo_overs_18 ?_
      refine G_bipush 8 (by decide) d_Mo_overs_19 ?_
      refine G_icmp_ge 28 (by decide) d_Mo_overs_21 (fun c_21 => ?_) (fun c_21 => ?_)
      · replace h := ob_t h c_21
        refine G_iconst (-1) (by decide) d_Mo_overs_28 ?_
        exact G_sub _ [0, 2] rfl (t_Mo_overs_29 ih S l2 ((-1) : Int32) l1 _ h)
      · replace h := ob_f h c_21
        refine G_iconst 1 (by decide) d_Mo_overs_24 ?_
        refine G_goto 29 (by decide) d_Mo_overs_25 ?_
        exact G_sub _ [0, 2] rfl (t_Mo_overs_29 ih S l2 (1 : Int32) l1 _ h)
def f_Mo_overs (S : St) : Option (Int32) :=
    (some (0 : Int32)).bind fun l1_1 =>
    (some (0 : Int32)).bind fun l2_3 =>
    f_Mo_overs_4 FU S l1_1 l2_3
set_option maxHeartbeats 4000000 in
set_option maxRecDepth 20000 in
theorem t_Mo_overs  {S : St} {w : Int32} (h : f_Mo_overs S = some w) : Ct SM m_Mo_overs 1 [.ref 0] S (some w) S := by
  unfold f_Mo_overs at h
  refine Ct.of pn_Mo (Nat.le_of_ble_eq_true rfl) ?_
  show G SM m_Mo_overs 1 (some w) S 0 [(0, .ref 0)] [] S
  refine G_iconst 0 (by decide) d_Mo_overs_0 ?_
  obtain ⟨l1_1, e_1, h⟩ := ob_s h
  refine G_istore_n [(1, .int l1_1), (0, .ref 0)] e_1 rfl (by decide) d_Mo_overs_1 ?_
  refine G_iconst 0 (by decide) d_Mo_overs_2 ?_
  obtain ⟨l2_3, e_3, h⟩ := ob_s h
  refine G_istore_n [(2, .int l2_3), (1, .int l1_1), (0, .ref 0)] e_3 rfl (by decide) d_Mo_overs_3 ?_
  exact G_sub _ [2, 1, 0] rfl (t_Mo_overs_4 FU S l1_1 l2_3 _ h)
theorem d_Mo_shortened_0 : decode m_Mo_shortened.2.1 0 = .ok (.iconst 0, 1) := by decide +kernel
theorem d_Mo_shortened_1 : decode m_Mo_shortened.2.1 1 = .ok (.istore_n 1, 1) := by decide +kernel
theorem d_Mo_shortened_2 : decode m_Mo_shortened.2.1 2 = .ok (.iconst 0, 1) := by decide +kernel
theorem d_Mo_shortened_3 : decode m_Mo_shortened.2.1 3 = .ok (.istore_n 2, 1) := by decide +kernel
theorem d_Mo_shortened_4 : decode m_Mo_shortened.2.1 4 = .ok (.iload_n 2, 1) := by decide +kernel
theorem d_Mo_shortened_5 : decode m_Mo_shortened.2.1 5 = .ok (.aload_n 0, 1) := by decide +kernel
theorem d_Mo_shortened_6 : decode m_Mo_shortened.2.1 6 = .ok (.getfield 329, 3) := by decide +kernel
theorem d_Mo_shortened_9 : decode m_Mo_shortened.2.1 9 = .ok (.if_icmp .ge 72, 3) := by decide +kernel
theorem d_Mo_shortened_12 : decode m_Mo_shortened.2.1 12 = .ok (.iload_n 1, 1) := by decide +kernel
theorem d_Mo_shortened_13 : decode m_Mo_shortened.2.1 13 = .ok (.ifCond .le 30, 3) := by decide +kernel
theorem d_Mo_shortened_16 : decode m_Mo_shortened.2.1 16 = .ok (.aload_n 0, 1) := by decide +kernel
theorem d_Mo_shortened_17 : decode m_Mo_shortened.2.1 17 = .ok (.getfield 104, 3) := by decide +kernel
theorem d_Mo_shortened_20 : decode m_Mo_shortened.2.1 20 = .ok (.iload_n 1, 1) := by decide +kernel
theorem d_Mo_shortened_21 : decode m_Mo_shortened.2.1 21 = .ok (.iconst 1, 1) := by decide +kernel
theorem d_Mo_shortened_22 : decode m_Mo_shortened.2.1 22 = .ok (.isub, 1) := by decide +kernel
theorem d_Mo_shortened_23 : decode m_Mo_shortened.2.1 23 = .ok (.iaload, 1) := by decide +kernel
theorem d_Mo_shortened_24 : decode m_Mo_shortened.2.1 24 = .ok (.aload_n 0, 1) := by decide +kernel
theorem d_Mo_shortened_25 : decode m_Mo_shortened.2.1 25 = .ok (.getfield 86, 3) := by decide +kernel
theorem d_Mo_shortened_28 : decode m_Mo_shortened.2.1 28 = .ok (.iload_n 2, 1) := by decide +kernel
theorem d_Mo_shortened_29 : decode m_Mo_shortened.2.1 29 = .ok (.iaload, 1) := by decide +kernel
theorem d_Mo_shortened_30 : decode m_Mo_shortened.2.1 30 = .ok (.isub, 1) := by decide +kernel
theorem d_Mo_shortened_31 : decode m_Mo_shortened.2.1 31 = .ok (.invokestatic 341, 3) := by decide +kernel
theorem d_Mo_shortened_34 : decode m_Mo_shortened.2.1 34 = .ok (.bipush 8, 2) := by decide +kernel
theorem d_Mo_shortened_36 : decode m_Mo_shortened.2.1 36 = .ok (.if_icmp .ne 7, 3) := by decide +kernel
theorem d_Mo_shortened_39 : decode m_Mo_shortened.2.1 39 = .ok (.iconst 1, 1) := by decide +kernel
theorem d_Mo_shortened_40 : decode m_Mo_shortened.2.1 40 = .ok (.goto 4, 3) := by decide +kernel
theorem d_Mo_shortened_43 : decode m_Mo_shortened.2.1 43 = .ok (.iconst 0, 1) := by decide +kernel
theorem d_Mo_shortened_44 : decode m_Mo_shortened.2.1 44 = .ok (.istore_n 3, 1) := by decide +kernel
theorem d_Mo_shortened_45 : decode m_Mo_shortened.2.1 45 = .ok (.iload_n 3, 1) := by decide +kernel
theorem d_Mo_shortened_46 : decode m_Mo_shortened.2.1 46 = .ok (.ifCond .ne 15, 3) := by decide +kernel
theorem d_Mo_shortened_49 : decode m_Mo_shortened.2.1 49 = .ok (.aload_n 0, 1) := by decide +kernel
theorem d_Mo_shortened_50 : decode m_Mo_shortened.2.1 50 = .ok (.getfield 104, 3) := by decide +kernel
theorem d_Mo_shortened_53 : decode m_Mo_shortened.2.1 53 = .ok (.iload_n 1, 1) := by decide +kernel
theorem d_Mo_shortened_54 : decode m_Mo_shortened.2.1 54 = .ok (.aload_n 0, 1) := by decide +kernel
theorem d_Mo_shortened_55 : decode m_Mo_shortened.2.1 55 = .ok (.getfield 86, 3) := by decide +kernel
theorem d_Mo_shortened_58 : decode m_Mo_shortened.2.1 58 = .ok (.iload_n 2, 1) := by decide +kernel
theorem d_Mo_shortened_59 : decode m_Mo_shortened.2.1 59 = .ok (.iaload, 1) := by decide +kernel
theorem d_Mo_shortened_60 : decode m_Mo_shortened.2.1 60 = .ok (.iastore, 1) := by decide +kernel
theorem d_Mo_shortened_61 : decode m_Mo_shortened.2.1 61 = .ok (.iload_n 3, 1) := by decide +kernel
theorem d_Mo_shortened_62 : decode m_Mo_shortened.2.1 62 = .ok (.ifCond .eq 9, 3) := by decide +kernel
theorem d_Mo_shortened_65 : decode m_Mo_shortened.2.1 65 = .ok (.iload_n 1, 1) := by decide +kernel
theorem d_Mo_shortened_66 : decode m_Mo_shortened.2.1 66 = .ok (.iconst 1, 1) := by decide +kernel
theorem d_Mo_shortened_67 : decode m_Mo_shortened.2.1 67 = .ok (.isub, 1) := by decide +kernel
theorem d_Mo_shortened_68 : decode m_Mo_shortened.2.1 68 = .ok (.goto 6, 3) := by decide +kernel
theorem d_Mo_shortened_71 : decode m_Mo_shortened.2.1 71 = .ok (.iload_n 1, 1) := by decide +kernel
theorem d_Mo_shortened_72 : decode m_Mo_shortened.2.1 72 = .ok (.iconst 1, 1) := by decide +kernel
theorem d_Mo_shortened_73 : decode m_Mo_shortened.2.1 73 = .ok (.iadd, 1) := by decide +kernel
theorem d_Mo_shortened_74 : decode m_Mo_shortened.2.1 74 = .ok (.istore_n 1, 1) := by decide +kernel
theorem d_Mo_shortened_75 : decode m_Mo_shortened.2.1 75 = .ok (.iinc 2 1, 3) := by decide +kernel
theorem d_Mo_shortened_78 : decode m_Mo_shortened.2.1 78 = .ok (.goto (-74), 3) := by decide +kernel
theorem d_Mo_shortened_81 : decode m_Mo_shortened.2.1 81 = .ok (.iload_n 1, 1) := by decide +kernel
theorem d_Mo_shortened_82 : decode m_Mo_shortened.2.1 82 = .ok (.ireturn, 1) := by decide +kernel
def f_Mo_shortened_74 (k_4 : St → Int32 → Int32 → Option (Int32 × St)) (S : St) (l2 : Int32) (s0 : Int32) : Option (Int32 × St) :=
    (some (l2 + 1)).bind fun l2_75 =>
    k_4 S s0 l2_75
set_option maxHeartbeats 4000000 in
set_option maxRecDepth 20000 in
theorem t_Mo_shortened_74  {k_4 : St → Int32 → Int32 → Option (Int32 × St)} (hk_4 : ∀ (S : St) (l1 : Int32) (l2 : Int32) (w : Int32 × St), k_4 S l1 l2 = some w → G SM m_Mo_shortened 2 (some w.1) w.2 4 [(0, .ref 0), (1, .int l1), (2, .int l2)] [] S) (S : St) (l2 : Int32) (s0 : Int32) (w : Int32 × St) (h : f_Mo_shortened_74 k_4 S l2 s0 = some w) : G SM m_Mo_shortened 2 (some w.1) w.2 74 [(0, .ref 0), (2, .int l2)] [.int s0] S := by
  unfold f_Mo_shortened_74 at h
  refine G_istore_n [(1, .int s0), (0, .ref 0), (2, .int l2)] rfl rfl (by decide) d_Mo_shortened_74 ?_
  obtain ⟨l2_75, e_75, h⟩ := ob_s h
  refine G_iinc 1 2 [(2, .int l2_75), (1, .int s0), (0, .ref 0)] (by decide) rfl e_75 rfl (by decide) d_Mo_shortened_75 ?_
  refine G_goto 4 (by decide) d_Mo_shortened_78 ?_
  exact G_sub _ [2, 1, 0] rfl (hk_4 S s0 l2_75 _ h)
def f_Mo_shortened_61 (k_4 : St → Int32 → Int32 → Option (Int32 × St)) (S : St) (l1 : Int32) (l2 : Int32) (l3 : Int32) : Option (Int32 × St) :=
    if l3 = 0 then (
    f_Mo_shortened_74 k_4 S l2 (l1 + 1))
    else (
    f_Mo_shortened_74 k_4 S l2 (l1 - 1))
set_option maxHeartbeats 4000000 in
set_option maxRecDepth 20000 in
theorem t_Mo_shortened_61  {k_4 : St → Int32 → Int32 → Option (Int32 × St)} (hk_4 : ∀ (S : St) (l1 : Int32) (l2 : Int32) (w : Int32 × St), k_4 S l1 l2 = some w → G SM m_Mo_shortened 2 (some w.1) w.2 4 [(0, .ref 0), (1, .int l1), (2, .int l2)] [] S) (S : St) (l1 : Int32) (l2 : Int32) (l3 : Int32) (w : Int32 × St) (h : f_Mo_shortened_61 k_4 S l1 l2 l3 = some w) : G SM m_Mo_shortened 2 (some w.1) w.2 61 [(0, .ref 0), (1, .int l1), (2, .int l2), (3, .int l3)] [] S := by
  unfold f_Mo_shortened_61 at h
  refine G_iload_n 3 rfl d_Mo_shortened_61 ?_
  refine G_if_eq 71 (by decide) d_Mo_shortened_62 (fun c_62 => ?_) (fun c_62 => ?_)
  · replace h := ob_t h c_62
    refine G_iload_n 1 rfl d_Mo_shortened_71 ?_
    refine G_iconst 1 (by decide) d_Mo_shortened_72 ?_
    refine G_iadd d_Mo_shortened_73 ?_
    exact G_sub _ [0, 2] rfl (t_Mo_shortened_74 hk_4 S l2 (l1 + 1) _ h)
  · replace h := ob_f h c_62
    refine G_iload_n 1 rfl d_Mo_shortened_65 ?_
    refine G_iconst 1 (by decide) d_Mo_shortened_66 ?_
    refine G_isub d_Mo_shortened_67 ?_
    refine G_goto 74 (by decide) d_Mo_shortened_68 ?_
    exact G_sub _ [0, 2] rfl (t_Mo_shortened_74 hk_4 S l2 (l1 - 1) _ h)
def f_Mo_shortened_44 (k_4 : St → Int32 → Int32 → Option (Int32 × St)) (S : St) (l1 : Int32) (l2 : Int32) (s0 : Int32) : Option (Int32 × St) :=
    if s0 = 0 then (
    if ig l2 64 then (
    if ig l1 64 then (
    (some (sF S 32 l1.toNatClampNeg (S 26 l2.toNatClampNeg))).bind fun S_60 =>
    f_Mo_shortened_61 k_4 S_60 l1 l2 s0) else none) else none)
    else (
    f_Mo_shortened_61 k_4 S l1 l2 s0)
set_option maxHeartbeats 4000000 in
set_option maxRecDepth 20000 in
theorem t_Mo_shortened_44  {k_4 : St → Int32 → Int32 → Option (Int32 × St)} (hk_4 : ∀ (S : St) (l1 : Int32) (l2 : Int32) (w : Int32 × St), k_4 S l1 l2 = some w → G SM m_Mo_shortened 2 (some w.1) w.2 4 [(0, .ref 0), (1, .int l1), (2, .int l2)] [] S) (S : St) (l1 : Int32) (l2 : Int32) (s0 : Int32) (w : Int32 × St) (h : f_Mo_shortened_44 k_4 S l1 l2 s0 = some w) : G SM m_Mo_shortened 2 (some w.1) w.2 44 [(0, .ref 0), (1, .int l1), (2, .int l2)] [.int s0] S := by
  unfold f_Mo_shortened_44 at h
  refine G_istore_n [(3, .int s0), (0, .ref 0), (1, .int l1), (2, .int l2)] rfl rfl (by decide) d_Mo_shortened_44 ?_
  refine G_iload_n 0 rfl d_Mo_shortened_45 ?_
  refine G_if_ne 61 (by decide) d_Mo_shortened_46 (fun c_46 => ?_) (fun c_46 => ?_)
  · replace h := ob_f h c_46
    exact G_sub _ [1, 2, 3, 0] rfl (t_Mo_shortened_61 hk_4 S l1 l2 s0 _ h)
  · replace h := ob_t h c_46
    refine G_aload_n 1 rfl d_Mo_shortened_49 ?_
    refine G_getR fl_Mo_104 km_0 sm_0 rfl (by decide) d_Mo_shortened_50 ?_
    refine G_iload_n 2 rfl d_Mo_shortened_53 ?_
    refine G_aload_n 1 rfl d_Mo_shortened_54 ?_
    refine G_getR fl_Mo_86 km_0 sm_0 rfl (by decide) d_Mo_shortened_55 ?_
    refine G_iload_n 3 rfl d_Mo_shortened_58 ?_
    obtain ⟨g_59, h⟩ := ob_g h
    refine G_iaload km_26 sm_26 g_59 d_Mo_shortened_59 ?_
    obtain ⟨g_60, h⟩ := ob_g h
    obtain ⟨S_60, e_60, h⟩ := ob_s h
    refine G_iastore e_60 km_32 sm_32 g_60 d_Mo_shortened_60 ?_
    exact G_sub _ [1, 2, 3, 0] rfl (t_Mo_shortened_61 hk_4 S_60 l1 l2 s0 _ h)
def f_Mo_shortened_43 (k_4 : St → Int32 → Int32 → Option (Int32 × St)) (S : St) (l1 : Int32) (l2 : Int32) : Option (Int32 × St) :=
    f_Mo_shortened_44 k_4 S l1 l2 (0 : Int32)
set_option maxHeartbeats 4000000 in
set_option maxRecDepth 20000 in
theorem t_Mo_shortened_43  {k_4 : St → Int32 → Int32 → Option (Int32 × St)} (hk_4 : ∀ (S : St) (l1 : Int32) (l2 : Int32) (w : Int32 × St), k_4 S l1 l2 = some w → G SM m_Mo_shortened 2 (some w.1) w.2 4 [(0, .ref 0), (1, .int l1), (2, .int l2)] [] S) (S : St) (l1 : Int32) (l2 : Int32) (w : Int32 × St) (h : f_Mo_shortened_43 k_4 S l1 l2 = some w) : G SM m_Mo_shortened 2 (some w.1) w.2 43 [(0, .ref 0), (1, .int l1), (2, .int l2)] [] S := by
  unfold f_Mo_shortened_43 at h
  refine G_iconst 0 (by decide) d_Mo_shortened_43 ?_
  exact G_sub _ [0, 1, 2] rfl (t_Mo_shortened_44 hk_4 S l1 l2 (0 : Int32) _ h)
def f_Mo_shortened_4 : Nat → St → Int32 → Int32 → Option (Int32 × St)
  | 0, _, _, _ => none
  | n + 1, S, l1, l2 =>
    if (S 0 45) ≤ l2 then (
    some (l1, S))
    else (
    if l1 ≤ 0 then (
    f_Mo_shortened_43 (f_Mo_shortened_4 n) S l1 l2)
    else (
    if ig (l1 - 1) 64 then (
    if ig l2 64 then (
    (f_Mo_size S ((S 32 (l1 - 1).toNatClampNeg) - (S 26 l2.toNatClampNeg))).bind fun v_31 =>
    if v_31 = 8 then (
    f_Mo_shortened_44 (f_Mo_shortened_4 n) S l1 l2 (1 : Int32))
    else (
    f_Mo_shortened_43 (f_Mo_shortened_4 n) S l1 l2)) else none) else none))
set_option maxHeartbeats 4000000 in
set_option maxRecDepth 20000 in
theorem t_Mo_shortened_4  : ∀ (n : Nat) (S : St) (l1 : Int32) (l2 : Int32) (w : Int32 × St), f_Mo_shortened_4 n S l1 l2 = some w → G SM m_Mo_shortened 2 (some w.1) w.2 4 [(0, .ref 0), (1, .int l1), (2, .int l2)] [] S := by
  intro n
  induction n with
  | zero =>
    intro S l1 l2 w h
    rw [f_Mo_shortened_4] at h
    cases h
  | succ n ih =>
    intro S l1 l2 w h
    rw [f_Mo_shortened_4] at h
    refine G_iload_n 2 rfl d_Mo_shortened_4 ?_
    refine G_aload_n 0 rfl d_Mo_shortened_5 ?_
    refine G_getI fl_Mo_329 km_0 sm_0 rfl d_Mo_shortened_6 ?_
    refine G_icmp_ge 81 (by decide) d_Mo_shortened_9 (fun c_9 => ?_) (fun c_9 => ?_)
    · replace h := ob_t h c_9
      refine G_iload_n 1 rfl d_Mo_shortened_81 ?_
      cases h
      exact G_iret rfl d_Mo_shortened_82
    · replace h := ob_f h c_9
      refine G_iload_n 1 rfl d_Mo_shortened_12 ?_
      refine G_if_le 43 (by decide) d_Mo_shortened_13 (fun c_13 => ?_) (fun c_13 => ?_)
      · replace h := ob_t h c_13
        exact G_sub _ [0, 1, 2] rfl (t_Mo_shortened_43 ih S l1 l2 _ h)
      · replace h := ob_f h c_13
        refine G_aload_n 0 rfl d_Mo_shortened_16 ?_
        refine G_getR fl_Mo_104 km_0 sm_0 rfl (by decide) d_Mo_shortened_17 ?_
        refine G_iload_n 1 rfl d_Mo_shortened_20 ?_
        refine G_iconst 1 (by decide) d_Mo_shortened_21 ?_
        refine G_isub d_Mo_shortened_22 ?_
        obtain ⟨g_23, h⟩ := ob_g h
        refine G_iaload km_32 sm_32 g_23 d_Mo_shortened_23 ?_
        refine G_aload_n 0 rfl d_Mo_shortened_24 ?_
        refine G_getR fl_Mo_86 km_0 sm_0 rfl (by decide) d_Mo_shortened_25 ?_
        refine G_iload_n 2 rfl d_Mo_shortened_28 ?_
        obtain ⟨g_29, h⟩ := ob_g h
        refine G_iaload km_26 sm_26 g_29 d_Mo_shortened_29 ?_
        refine G_isub d_Mo_shortened_30 ?_
        obtain ⟨v_31, q_31, h⟩ := ob_b h
        refine G_callS [.int ((S 32 (l1 - 1).toNatClampNeg) - (S 26 l2.toNatClampNeg))] [] (t_Mo_size q_31) (by decide) (by decide) mt_Mo_size rfl ml_Mo_341 rfl (Nat.le_of_ble_eq_true rfl) d_Mo_shortened_31 ?_
        refine G_bipush 8 (by decide) d_Mo_shortened_34 ?_
        refine G_icmp_ne 43 (by decide) d_Mo_shortened_36 (fun c_36 => ?_) (fun c_36 => ?_)
        · replace h := ob_f h c_36
          exact G_sub _ [0, 1, 2] rfl (t_Mo_shortened_43 ih S l1 l2 _ h)
        · replace h := ob_t h c_36
          refine G_iconst 1 (by decide) d_Mo_shortened_39 ?_
          refine G_goto 44 (by decide) d_Mo_shortened_40 ?_
          exact G_sub _ [0, 1, 2] rfl (t_Mo_shortened_44 ih S l1 l2 (1 : Int32) _ h)
def f_Mo_shortened (S : St) : Option (Int32 × St) :=
    (some (0 : Int32)).bind fun l1_1 =>
    (some (0 : Int32)).bind fun l2_3 =>
    f_Mo_shortened_4 FU S l1_1 l2_3
set_option maxHeartbeats 4000000 in
set_option maxRecDepth 20000 in
theorem t_Mo_shortened  {S : St} {w : Int32 × St} (h : f_Mo_shortened S = some w) : Ct SM m_Mo_shortened 2 [.ref 0] S (some w.1) w.2 := by
  unfold f_Mo_shortened at h
  refine Ct.of pn_Mo (Nat.le_of_ble_eq_true rfl) ?_
  show G SM m_Mo_shortened 2 (some w.1) w.2 0 [(0, .ref 0)] [] S
  refine G_iconst 0 (by decide) d_Mo_shortened_0 ?_
  obtain ⟨l1_1, e_1, h⟩ := ob_s h
  refine G_istore_n [(1, .int l1_1), (0, .ref 0)] e_1 rfl (by decide) d_Mo_shortened_1 ?_
  refine G_iconst 0 (by decide) d_Mo_shortened_2 ?_
  obtain ⟨l2_3, e_3, h⟩ := ob_s h
  refine G_istore_n [(2, .int l2_3), (1, .int l1_1), (0, .ref 0)] e_3 rfl (by decide) d_Mo_shortened_3 ?_
  exact G_sub _ [2, 1, 0] rfl (t_Mo_shortened_4 FU S l1_1 l2_3 _ h)
theorem d_Mo_areHome_0 : decode m_Mo_areHome.2.1 0 = .ok (.iconst 0, 1) := by decide +kernel
theorem d_Mo_areHome_1 : decode m_Mo_areHome.2.1 1 = .ok (.istore_n 2, 1) := by decide +kernel
theorem d_Mo_areHome_2 : decode m_Mo_areHome.2.1 2 = .ok (.iload_n 2, 1) := by decide +kernel
theorem d_Mo_areHome_3 : decode m_Mo_areHome.2.1 3 = .ok (.iload_n 1, 1) := by decide +kernel
theorem d_Mo_areHome_4 : decode m_Mo_areHome.2.1 4 = .ok (.if_icmp .ge 21, 3) := by decide +kernel
theorem d_Mo_areHome_7 : decode m_Mo_areHome.2.1 7 = .ok (.aload_n 0, 1) := by decide +kernel
theorem d_Mo_areHome_8 : decode m_Mo_areHome.2.1 8 = .ok (.getfield 101, 3) := by decide +kernel
theorem d_Mo_areHome_11 : decode m_Mo_areHome.2.1 11 = .ok (.iload_n 2, 1) := by decide +kernel
theorem d_Mo_areHome_12 : decode m_Mo_areHome.2.1 12 = .ok (.iaload, 1) := by decide +kernel
theorem d_Mo_areHome_13 : decode m_Mo_areHome.2.1 13 = .ok (.iload_n 2, 1) := by decide +kernel
theorem d_Mo_areHome_14 : decode m_Mo_areHome.2.1 14 = .ok (.if_icmp .eq 5, 3) := by decide +kernel
theorem d_Mo_areHome_17 : decode m_Mo_areHome.2.1 17 = .ok (.iconst 0, 1) := by decide +kernel
theorem d_Mo_areHome_18 : decode m_Mo_areHome.2.1 18 = .ok (.ireturn, 1) := by decide +kernel
theorem d_Mo_areHome_19 : decode m_Mo_areHome.2.1 19 = .ok (.iinc 2 1, 3) := by decide +kernel
theorem d_Mo_areHome_22 : decode m_Mo_areHome.2.1 22 = .ok (.goto (-20), 3) := by decide +kernel
theorem d_Mo_areHome_25 : decode m_Mo_areHome.2.1 25 = .ok (.iconst 1, 1) := by decide +kernel
theorem d_Mo_areHome_26 : decode m_Mo_areHome.2.1 26 = .ok (.ireturn, 1) := by decide +kernel
def f_Mo_areHome_2 : Nat → St → Int32 → Int32 → Option (Int32)
  | 0, _, _, _ => none
  | n + 1, S, l1, l2 =>
    if l1 ≤ l2 then (
    some (1 : Int32))
    else (
    if ig l2 8 then (
    if (S 31 l2.toNatClampNeg) = l2 then (
    (some (l2 + 1)).bind fun l2_19 =>
    f_Mo_areHome_2 n S l1 l2_19)
    else (
    some (0 : Int32))) else none)
set_option maxHeartbeats 4000000 in
set_option maxRecDepth 20000 in
theorem t_Mo_areHome_2  : ∀ (n : Nat) (S : St) (l1 : Int32) (l2 : Int32) (w : Int32), f_Mo_areHome_2 n S l1 l2 = some w → G SM m_Mo_areHome 1 (some w) S 2 [(0, .ref 0), (1, .int l1), (2, .int l2)] [] S := by
  intro n
  induction n with
  | zero =>
    intro S l1 l2 w h
    rw [f_Mo_areHome_2] at h
    cases h
  | succ n ih =>
    intro S l1 l2 w h
    rw [f_Mo_areHome_2] at h
    refine G_iload_n 2 rfl d_Mo_areHome_2 ?_
    refine G_iload_n 1 rfl d_Mo_areHome_3 ?_
    refine G_icmp_ge 25 (by decide) d_Mo_areHome_4 (fun c_4 => ?_) (fun c_4 => ?_)
    · replace h := ob_t h c_4
      refine G_iconst 1 (by decide) d_Mo_areHome_25 ?_
      cases h
      exact G_zret (Or.inr rfl) rfl d_Mo_areHome_26
    · replace h := ob_f h c_4
      refine G_aload_n 0 rfl d_Mo_areHome_7 ?_
      refine G_getR fl_Mo_101 km_0 sm_0 rfl (by decide) d_Mo_areHome_8 ?_
      refine G_iload_n 2 rfl d_Mo_areHome_11 ?_
      obtain ⟨g_12, h⟩ := ob_g h
      refine G_iaload km_31 sm_31 g_12 d_Mo_areHome_12 ?_
      refine G_iload_n 2 rfl d_Mo_areHome_13 ?_
      refine G_icmp_eq 19 (by decide) d_Mo_areHome_14 (fun c_14 => ?_) (fun c_14 => ?_)
      · replace h := ob_t h c_14
        obtain ⟨l2_19, e_19, h⟩ := ob_s h
        refine G_iinc 1 2 [(2, .int l2_19), (0, .ref 0), (1, .int l1)] (by decide) rfl e_19 rfl (by decide) d_Mo_areHome_19 ?_
        refine G_goto 2 (by decide) d_Mo_areHome_22 ?_
        exact G_sub _ [1, 2, 0] rfl (ih S l1 l2_19 _ h)
      · replace h := ob_f h c_14
        refine G_iconst 0 (by decide) d_Mo_areHome_17 ?_
        cases h
        exact G_zret (Or.inl rfl) rfl d_Mo_areHome_18
def f_Mo_areHome (S : St) (l1 : Int32) : Option (Int32) :=
    (some (0 : Int32)).bind fun l2_1 =>
    f_Mo_areHome_2 FU S l1 l2_1
set_option maxHeartbeats 4000000 in
set_option maxRecDepth 20000 in
theorem t_Mo_areHome  {S : St} {l1 : Int32} {w : Int32} (h : f_Mo_areHome S l1 = some w) : Ct SM m_Mo_areHome 1 [.ref 0, .int l1] S (some w) S := by
  unfold f_Mo_areHome at h
  refine Ct.of pn_Mo (Nat.le_of_ble_eq_true rfl) ?_
  show G SM m_Mo_areHome 1 (some w) S 0 [(0, .ref 0), (1, .int l1)] [] S
  refine G_iconst 0 (by decide) d_Mo_areHome_0 ?_
  obtain ⟨l2_1, e_1, h⟩ := ob_s h
  refine G_istore_n [(2, .int l2_1), (0, .ref 0), (1, .int l1)] e_1 rfl (by decide) d_Mo_areHome_1 ?_
  exact G_sub _ [1, 2, 0] rfl (t_Mo_areHome_2 FU S l1 l2_1 _ h)
theorem d_Mo_oftenTill_0 : decode m_Mo_oftenTill.2.1 0 = .ok (.iconst 0, 1) := by decide +kernel
theorem d_Mo_oftenTill_1 : decode m_Mo_oftenTill.2.1 1 = .ok (.istore_n 2, 1) := by decide +kernel
theorem d_Mo_oftenTill_2 : decode m_Mo_oftenTill.2.1 2 = .ok (.iload_n 2, 1) := by decide +kernel
theorem d_Mo_oftenTill_3 : decode m_Mo_oftenTill.2.1 3 = .ok (.iload_n 1, 1) := by decide +kernel
theorem d_Mo_oftenTill_4 : decode m_Mo_oftenTill.2.1 4 = .ok (.if_icmp .ge 20, 3) := by decide +kernel
theorem d_Mo_oftenTill_7 : decode m_Mo_oftenTill.2.1 7 = .ok (.aload_n 0, 1) := by decide +kernel
theorem d_Mo_oftenTill_8 : decode m_Mo_oftenTill.2.1 8 = .ok (.getfield 101, 3) := by decide +kernel
theorem d_Mo_oftenTill_11 : decode m_Mo_oftenTill.2.1 11 = .ok (.iload_n 2, 1) := by decide +kernel
theorem d_Mo_oftenTill_12 : decode m_Mo_oftenTill.2.1 12 = .ok (.aload_n 0, 1) := by decide +kernel
theorem d_Mo_oftenTill_13 : decode m_Mo_oftenTill.2.1 13 = .ok (.iload_n 2, 1) := by decide +kernel
theorem d_Mo_oftenTill_14 : decode m_Mo_oftenTill.2.1 14 = .ok (.invokevirtual 344, 3) := by decide +kernel
theorem d_Mo_oftenTill_17 : decode m_Mo_oftenTill.2.1 17 = .ok (.iastore, 1) := by decide +kernel
theorem d_Mo_oftenTill_18 : decode m_Mo_oftenTill.2.1 18 = .ok (.iinc 2 1, 3) := by decide +kernel
theorem d_Mo_oftenTill_21 : decode m_Mo_oftenTill.2.1 21 = .ok (.goto (-19), 3) := by decide +kernel
theorem d_Mo_oftenTill_24 : decode m_Mo_oftenTill.2.1 24 = .ok (.iconst 1, 1) := by decide +kernel
theorem d_Mo_oftenTill_25 : decode m_Mo_oftenTill.2.1 25 = .ok (.istore_n 2, 1) := by decide +kernel
theorem d_Mo_oftenTill_26 : decode m_Mo_oftenTill.2.1 26 = .ok (.aload_n 0, 1) := by decide +kernel
theorem d_Mo_oftenTill_27 : decode m_Mo_oftenTill.2.1 27 = .ok (.iload_n 1, 1) := by decide +kernel
theorem d_Mo_oftenTill_28 : decode m_Mo_oftenTill.2.1 28 = .ok (.invokevirtual 347, 3) := by decide +kernel
theorem d_Mo_oftenTill_31 : decode m_Mo_oftenTill.2.1 31 = .ok (.ifCond .ne 39, 3) := by decide +kernel
theorem d_Mo_oftenTill_34 : decode m_Mo_oftenTill.2.1 34 = .ok (.iconst 0, 1) := by decide +kernel
theorem d_Mo_oftenTill_35 : decode m_Mo_oftenTill.2.1 35 = .ok (.istore_n 3, 1) := by decide +kernel
theorem d_Mo_oftenTill_36 : decode m_Mo_oftenTill.2.1 36 = .ok (.iload_n 3, 1) := by decide +kernel
theorem d_Mo_oftenTill_37 : decode m_Mo_oftenTill.2.1 37 = .ok (.iload_n 1, 1) := by decide +kernel
theorem d_Mo_oftenTill_38 : decode m_Mo_oftenTill.2.1 38 = .ok (.if_icmp .ge 25, 3) := by decide +kernel
theorem d_Mo_oftenTill_41 : decode m_Mo_oftenTill.2.1 41 = .ok (.aload_n 0, 1) := by decide +kernel
theorem d_Mo_oftenTill_42 : decode m_Mo_oftenTill.2.1 42 = .ok (.getfield 101, 3) := by decide +kernel
theorem d_Mo_oftenTill_45 : decode m_Mo_oftenTill.2.1 45 = .ok (.iload_n 3, 1) := by decide +kernel
theorem d_Mo_oftenTill_46 : decode m_Mo_oftenTill.2.1 46 = .ok (.aload_n 0, 1) := by decide +kernel
theorem d_Mo_oftenTill_47 : decode m_Mo_oftenTill.2.1 47 = .ok (.aload_n 0, 1) := by decide +kernel
theorem d_Mo_oftenTill_48 : decode m_Mo_oftenTill.2.1 48 = .ok (.getfield 101, 3) := by decide +kernel
theorem d_Mo_oftenTill_51 : decode m_Mo_oftenTill.2.1 51 = .ok (.iload_n 3, 1) := by decide +kernel
theorem d_Mo_oftenTill_52 : decode m_Mo_oftenTill.2.1 52 = .ok (.iaload, 1) := by decide +kernel
theorem d_Mo_oftenTill_53 : decode m_Mo_oftenTill.2.1 53 = .ok (.invokevirtual 344, 3) := by decide +kernel
theorem d_Mo_oftenTill_56 : decode m_Mo_oftenTill.2.1 56 = .ok (.iastore, 1) := by decide +kernel
theorem d_Mo_oftenTill_57 : decode m_Mo_oftenTill.2.1 57 = .ok (.iinc 3 1, 3) := by decide +kernel
theorem d_Mo_oftenTill_60 : decode m_Mo_oftenTill.2.1 60 = .ok (.goto (-24), 3) := by decide +kernel
theorem d_Mo_oftenTill_63 : decode m_Mo_oftenTill.2.1 63 = .ok (.iload_n 2, 1) := by decide +kernel
theorem d_Mo_oftenTill_64 : decode m_Mo_oftenTill.2.1 64 = .ok (.iconst 1, 1) := by decide +kernel
theorem d_Mo_oftenTill_65 : decode m_Mo_oftenTill.2.1 65 = .ok (.iadd, 1) := by decide +kernel
theorem d_Mo_oftenTill_66 : decode m_Mo_oftenTill.2.1 66 = .ok (.istore_n 2, 1) := by decide +kernel
theorem d_Mo_oftenTill_67 : decode m_Mo_oftenTill.2.1 67 = .ok (.goto (-41), 3) := by decide +kernel
theorem d_Mo_oftenTill_70 : decode m_Mo_oftenTill.2.1 70 = .ok (.iload_n 2, 1) := by decide +kernel
theorem d_Mo_oftenTill_71 : decode m_Mo_oftenTill.2.1 71 = .ok (.ireturn, 1) := by decide +kernel
def f_Mo_oftenTill_36 (k_26 : St → Int32 → Int32 → Option (Int32 × St)) : Nat → St → Int32 → Int32 → Int32 → Option (Int32 × St)
  | 0, _, _, _, _ => none
  | n + 1, S, l1, l2, l3 =>
    if l1 ≤ l3 then (
    (some (l2 + 1)).bind fun l2_66 =>
    k_26 S l1 l2_66)
    else (
    if ig l3 8 then (
    (f_Mo_comesOut S (S 31 l3.toNatClampNeg)).bind fun v_53 =>
    if ig l3 8 then (
    (some (sF S 31 l3.toNatClampNeg v_53)).bind fun S_56 =>
    (some (l3 + 1)).bind fun l3_57 =>
    f_Mo_oftenTill_36 k_26 n S_56 l1 l2 l3_57) else none) else none)
set_option maxHeartbeats 4000000 in
set_option maxRecDepth 20000 in
theorem t_Mo_oftenTill_36  {k_26 : St → Int32 → Int32 → Option (Int32 × St)} (hk_26 : ∀ (S : St) (l1 : Int32) (l2 : Int32) (w : Int32 × St), k_26 S l1 l2 = some w → G SM m_Mo_oftenTill 2 (some w.1) w.2 26 [(0, .ref 0), (1, .int l1), (2, .int l2)] [] S) : ∀ (n : Nat) (S : St) (l1 : Int32) (l2 : Int32) (l3 : Int32) (w : Int32 × St), f_Mo_oftenTill_36 k_26 n S l1 l2 l3 = some w → G SM m_Mo_oftenTill 2 (some w.1) w.2 36 [(0, .ref 0), (1, .int l1), (2, .int l2), (3, .int l3)] [] S := by
  intro n
  induction n with
  | zero =>
    intro S l1 l2 l3 w h
    rw [f_Mo_oftenTill_36] at h
    cases h
  | succ n ih =>
    intro S l1 l2 l3 w h
    rw [f_Mo_oftenTill_36] at h
    refine G_iload_n 3 rfl d_Mo_oftenTill_36 ?_
    refine G_iload_n 1 rfl d_Mo_oftenTill_37 ?_
    refine G_icmp_ge 63 (by decide) d_Mo_oftenTill_38 (fun c_38 => ?_) (fun c_38 => ?_)
    · replace h := ob_t h c_38
      refine G_iload_n 2 rfl d_Mo_oftenTill_63 ?_
      refine G_iconst 1 (by decide) d_Mo_oftenTill_64 ?_
      refine G_iadd d_Mo_oftenTill_65 ?_
      obtain ⟨l2_66, e_66, h⟩ := ob_s h
      refine G_istore_n [(2, .int l2_66), (0, .ref 0), (1, .int l1), (3, .int l3)] e_66 rfl (by decide) d_Mo_oftenTill_66 ?_
      refine G_goto 26 (by decide) d_Mo_oftenTill_67 ?_
      exact G_sub _ [1, 2, 0] rfl (hk_26 S l1 l2_66 _ h)
    · replace h := ob_f h c_38
      refine G_aload_n 0 rfl d_Mo_oftenTill_41 ?_
      refine G_getR fl_Mo_101 km_0 sm_0 rfl (by decide) d_Mo_oftenTill_42 ?_
      refine G_iload_n 3 rfl d_Mo_oftenTill_45 ?_
      refine G_aload_n 0 rfl d_Mo_oftenTill_46 ?_
      refine G_aload_n 0 rfl d_Mo_oftenTill_47 ?_
      refine G_getR fl_Mo_101 km_0 sm_0 rfl (by decide) d_Mo_oftenTill_48 ?_
      refine G_iload_n 3 rfl d_Mo_oftenTill_51 ?_
      obtain ⟨g_52, h⟩ := ob_g h
      refine G_iaload km_31 sm_31 g_52 d_Mo_oftenTill_52 ?_
      obtain ⟨v_53, q_53, h⟩ := ob_b h
      refine G_callV [.int (S 31 l3.toNatClampNeg)] [.int l3, .ref 31] (t_Mo_comesOut q_53) (by decide) (by decide) mv_Mo_comesOut rfl ml_Mo_344 km_0 sm_0 cl_12 rfl (Nat.le_of_ble_eq_true rfl) d_Mo_oftenTill_53 ?_
      obtain ⟨g_56, h⟩ := ob_g h
      obtain ⟨S_56, e_56, h⟩ := ob_s h
      refine G_iastore e_56 km_31 sm_31 g_56 d_Mo_oftenTill_56 ?_
      obtain ⟨l3_57, e_57, h⟩ := ob_s h
      refine G_iinc 1 3 [(3, .int l3_57), (0, .ref 0), (1, .int l1), (2, .int l2)] (by decide) rfl e_57 rfl (by decide) d_Mo_oftenTill_57 ?_
      refine G_goto 36 (by decide) d_Mo_oftenTill_60 ?_
      exact G_sub _ [1, 2, 3, 0] rfl (ih S_56 l1 l2 l3_57 _ h)
def f_Mo_oftenTill_26 : Nat → St → Int32 → Int32 → Option (Int32 × St)
  | 0, _, _, _ => none
  | n + 1, S, l1, l2 =>
    (f_Mo_areHome S l1).bind fun v_28 =>
    if v_28 = 0 then (
    (some (0 : Int32)).bind fun l3_35 =>
    f_Mo_oftenTill_36 (f_Mo_oftenTill_26 n) FU S l1 l2 l3_35)
    else (
    some (l2, S))
set_option maxHeartbeats 4000000 in
set_option maxRecDepth 20000 in
theorem t_Mo_oftenTill_26  : ∀ (n : Nat) (S : St) (l1 : Int32) (l2 : Int32) (w : Int32 × St), f_Mo_oftenTill_26 n S l1 l2 = some w → G SM m_Mo_oftenTill 2 (some w.1) w.2 26 [(0, .ref 0), (1, .int l1), (2, .int l2)] [] S := by
  intro n
  induction n with
  | zero =>
    intro S l1 l2 w h
    rw [f_Mo_oftenTill_26] at h
    cases h
  | succ n ih =>
    intro S l1 l2 w h
    rw [f_Mo_oftenTill_26] at h
    refine G_aload_n 0 rfl d_Mo_oftenTill_26 ?_
    refine G_iload_n 1 rfl d_Mo_oftenTill_27 ?_
    obtain ⟨v_28, q_28, h⟩ := ob_b h
    refine G_callV [.int l1] [] (t_Mo_areHome q_28) (by decide) (by decide) mv_Mo_areHome rfl ml_Mo_347 km_0 sm_0 cl_12 rfl (Nat.le_of_ble_eq_true rfl) d_Mo_oftenTill_28 ?_
    refine G_if_ne 70 (by decide) d_Mo_oftenTill_31 (fun c_31 => ?_) (fun c_31 => ?_)
    · replace h := ob_f h c_31
      refine G_iload_n 2 rfl d_Mo_oftenTill_70 ?_
      cases h
      exact G_iret rfl d_Mo_oftenTill_71
    · replace h := ob_t h c_31
      refine G_iconst 0 (by decide) d_Mo_oftenTill_34 ?_
      obtain ⟨l3_35, e_35, h⟩ := ob_s h
      refine G_istore_n [(3, .int l3_35), (0, .ref 0), (1, .int l1), (2, .int l2)] e_35 rfl (by decide) d_Mo_oftenTill_35 ?_
      exact G_sub _ [1, 2, 3, 0] rfl (t_Mo_oftenTill_36 ih FU S l1 l2 l3_35 _ h)
def f_Mo_oftenTill_2 : Nat → St → Int32 → Int32 → Option (Int32 × St)
  | 0, _, _, _ => none
  | n + 1, S, l1, l2 =>
    if l1 ≤ l2 then (
    (some (1 : Int32)).bind fun l2_25 =>
    f_Mo_oftenTill_26 FU S l1 l2_25)
    else (
    (f_Mo_comesOut S l2).bind fun v_14 =>
    if ig l2 8 then (
    (some (sF S 31 l2.toNatClampNeg v_14)).bind fun S_17 =>
    (some (l2 + 1)).bind fun l2_18 =>
    f_Mo_oftenTill_2 n S_17 l1 l2_18) else none)
set_option maxHeartbeats 4000000 in
set_option maxRecDepth 20000 in
theorem t_Mo_oftenTill_2  : ∀ (n : Nat) (S : St) (l1 : Int32) (l2 : Int32) (w : Int32 × St), f_Mo_oftenTill_2 n S l1 l2 = some w → G SM m_Mo_oftenTill 2 (some w.1) w.2 2 [(0, .ref 0), (1, .int l1), (2, .int l2)] [] S := by
  intro n
  induction n with
  | zero =>
    intro S l1 l2 w h
    rw [f_Mo_oftenTill_2] at h
    cases h
  | succ n ih =>
    intro S l1 l2 w h
    rw [f_Mo_oftenTill_2] at h
    refine G_iload_n 2 rfl d_Mo_oftenTill_2 ?_
    refine G_iload_n 1 rfl d_Mo_oftenTill_3 ?_
    refine G_icmp_ge 24 (by decide) d_Mo_oftenTill_4 (fun c_4 => ?_) (fun c_4 => ?_)
    · replace h := ob_t h c_4
      refine G_iconst 1 (by decide) d_Mo_oftenTill_24 ?_
      obtain ⟨l2_25, e_25, h⟩ := ob_s h
      refine G_istore_n [(2, .int l2_25), (0, .ref 0), (1, .int l1)] e_25 rfl (by decide) d_Mo_oftenTill_25 ?_
      exact G_sub _ [1, 2, 0] rfl (t_Mo_oftenTill_26 FU S l1 l2_25 _ h)
    · replace h := ob_f h c_4
      refine G_aload_n 0 rfl d_Mo_oftenTill_7 ?_
      refine G_getR fl_Mo_101 km_0 sm_0 rfl (by decide) d_Mo_oftenTill_8 ?_
      refine G_iload_n 2 rfl d_Mo_oftenTill_11 ?_
      refine G_aload_n 0 rfl d_Mo_oftenTill_12 ?_
      refine G_iload_n 2 rfl d_Mo_oftenTill_13 ?_
      obtain ⟨v_14, q_14, h⟩ := ob_b h
      refine G_callV [.int l2] [.int l2, .ref 31] (t_Mo_comesOut q_14) (by decide) (by decide) mv_Mo_comesOut rfl ml_Mo_344 km_0 sm_0 cl_12 rfl (Nat.le_of_ble_eq_true rfl) d_Mo_oftenTill_14 ?_
      obtain ⟨g_17, h⟩ := ob_g h
      obtain ⟨S_17, e_17, h⟩ := ob_s h
      refine G_iastore e_17 km_31 sm_31 g_17 d_Mo_oftenTill_17 ?_
      obtain ⟨l2_18, e_18, h⟩ := ob_s h
      refine G_iinc 1 2 [(2, .int l2_18), (0, .ref 0), (1, .int l1)] (by decide) rfl e_18 rfl (by decide) d_Mo_oftenTill_18 ?_
      refine G_goto 2 (by decide) d_Mo_oftenTill_21 ?_
      exact G_sub _ [1, 2, 0] rfl (ih S_17 l1 l2_18 _ h)
def f_Mo_oftenTill (S : St) (l1 : Int32) : Option (Int32 × St) :=
    (some (0 : Int32)).bind fun l2_1 =>
    f_Mo_oftenTill_2 FU S l1 l2_1
set_option maxHeartbeats 4000000 in
set_option maxRecDepth 20000 in
theorem t_Mo_oftenTill  {S : St} {l1 : Int32} {w : Int32 × St} (h : f_Mo_oftenTill S l1 = some w) : Ct SM m_Mo_oftenTill 2 [.ref 0, .int l1] S (some w.1) w.2 := by
  unfold f_Mo_oftenTill at h
  refine Ct.of pn_Mo (Nat.le_of_ble_eq_true rfl) ?_
  show G SM m_Mo_oftenTill 2 (some w.1) w.2 0 [(0, .ref 0), (1, .int l1)] [] S
  refine G_iconst 0 (by decide) d_Mo_oftenTill_0 ?_
  obtain ⟨l2_1, e_1, h⟩ := ob_s h
  refine G_istore_n [(2, .int l2_1), (0, .ref 0), (1, .int l1)] e_1 rfl (by decide) d_Mo_oftenTill_1 ?_
  exact G_sub _ [1, 2, 0] rfl (t_Mo_oftenTill_2 FU S l1 l2_1 _ h)
theorem d_Mo_twist_0 : decode m_Mo_twist.2.1 0 = .ok (.iload_n 1, 1) := by decide +kernel
theorem d_Mo_twist_1 : decode m_Mo_twist.2.1 1 = .ok (.iconst 2, 1) := by decide +kernel
theorem d_Mo_twist_2 : decode m_Mo_twist.2.1 2 = .ok (.bipush 8, 2) := by decide +kernel
theorem d_Mo_twist_4 : decode m_Mo_twist.2.1 4 = .ok (.invokestatic 124, 3) := by decide +kernel
theorem d_Mo_twist_7 : decode m_Mo_twist.2.1 7 = .ok (.ifCond .eq 43, 3) := by decide +kernel
theorem d_Mo_twist_10 : decode m_Mo_twist.2.1 10 = .ok (.iload_n 2, 1) := by decide +kernel
theorem d_Mo_twist_11 : decode m_Mo_twist.2.1 11 = .ok (.iconst 1, 1) := by decide +kernel
theorem d_Mo_twist_12 : decode m_Mo_twist.2.1 12 = .ok (.bipush 80, 2) := by decide +kernel
theorem d_Mo_twist_14 : decode m_Mo_twist.2.1 14 = .ok (.invokestatic 124, 3) := by decide +kernel
theorem d_Mo_twist_17 : decode m_Mo_twist.2.1 17 = .ok (.ifCond .eq 33, 3) := by decide +kernel
theorem d_Mo_twist_20 : decode m_Mo_twist.2.1 20 = .ok (.iload_n 3, 1) := by decide +kernel
theorem d_Mo_twist_21 : decode m_Mo_twist.2.1 21 = .ok (.iconst 0, 1) := by decide +kernel
theorem d_Mo_twist_22 : decode m_Mo_twist.2.1 22 = .ok (.iload_n 1, 1) := by decide +kernel
theorem d_Mo_twist_23 : decode m_Mo_twist.2.1 23 = .ok (.iconst 1, 1) := by decide +kernel
theorem d_Mo_twist_24 : decode m_Mo_twist.2.1 24 = .ok (.isub, 1) := by decide +kernel
theorem d_Mo_twist_25 : decode m_Mo_twist.2.1 25 = .ok (.invokestatic 124, 3) := by decide +kernel
theorem d_Mo_twist_28 : decode m_Mo_twist.2.1 28 = .ok (.ifCond .ne 14, 3) := by decide +kernel
theorem d_Mo_twist_31 : decode m_Mo_twist.2.1 31 = .ok (.iload_n 3, 1) := by decide +kernel
theorem d_Mo_twist_32 : decode m_Mo_twist.2.1 32 = .ok (.bipush 100, 2) := by decide +kernel
theorem d_Mo_twist_34 : decode m_Mo_twist.2.1 34 = .ok (.bipush 103, 2) := by decide +kernel
theorem d_Mo_twist_36 : decode m_Mo_twist.2.1 36 = .ok (.invokestatic 124, 3) := by decide +kernel
theorem d_Mo_twist_39 : decode m_Mo_twist.2.1 39 = .ok (.ifCond .eq 11, 3) := by decide +kernel
theorem d_Mo_twist_42 : decode m_Mo_twist.2.1 42 = .ok (.iload_n 2, 1) := by decide +kernel
theorem d_Mo_twist_43 : decode m_Mo_twist.2.1 43 = .ok (.aload_n 0, 1) := by decide +kernel
theorem d_Mo_twist_44 : decode m_Mo_twist.2.1 44 = .ok (.getfield 135, 3) := by decide +kernel
theorem d_Mo_twist_47 : decode m_Mo_twist.2.1 47 = .ok (.if_icmp .le 5, 3) := by decide +kernel
theorem d_Mo_twist_50 : decode m_Mo_twist.2.1 50 = .ok (.iconst (-1), 1) := by decide +kernel
theorem d_Mo_twist_51 : decode m_Mo_twist.2.1 51 = .ok (.ireturn, 1) := by decide +kernel
theorem d_Mo_twist_52 : decode m_Mo_twist.2.1 52 = .ok (.aload_n 0, 1) := by decide +kernel
theorem d_Mo_twist_53 : decode m_Mo_twist.2.1 53 = .ok (.iload_n 2, 1) := by decide +kernel
theorem d_Mo_twist_54 : decode m_Mo_twist.2.1 54 = .ok (.invokevirtual 227, 3) := by decide +kernel
theorem d_Mo_twist_57 : decode m_Mo_twist.2.1 57 = .ok (.aload_n 0, 1) := by decide +kernel
theorem d_Mo_twist_58 : decode m_Mo_twist.2.1 58 = .ok (.iconst 0, 1) := by decide +kernel
theorem d_Mo_twist_59 : decode m_Mo_twist.2.1 59 = .ok (.putfield 329, 3) := by decide +kernel
theorem d_Mo_twist_62 : decode m_Mo_twist.2.1 62 = .ok (.aload_n 0, 1) := by decide +kernel
theorem d_Mo_twist_63 : decode m_Mo_twist.2.1 63 = .ok (.iconst 0, 1) := by decide +kernel
theorem d_Mo_twist_64 : decode m_Mo_twist.2.1 64 = .ok (.putfield 335, 3) := by decide +kernel
theorem d_Mo_twist_67 : decode m_Mo_twist.2.1 67 = .ok (.aload_n 0, 1) := by decide +kernel
theorem d_Mo_twist_68 : decode m_Mo_twist.2.1 68 = .ok (.iload_n 1, 1) := by decide +kernel
theorem d_Mo_twist_69 : decode m_Mo_twist.2.1 69 = .ok (.invokevirtual 350, 3) := by decide +kernel
theorem d_Mo_twist_72 : decode m_Mo_twist.2.1 72 = .ok (.istore 4, 2) := by decide +kernel
theorem d_Mo_twist_74 : decode m_Mo_twist.2.1 74 = .ok (.iload 4, 2) := by decide +kernel
theorem d_Mo_twist_76 : decode m_Mo_twist.2.1 76 = .ok (.ifCond .eq 31, 3) := by decide +kernel
theorem d_Mo_twist_79 : decode m_Mo_twist.2.1 79 = .ok (.aload_n 0, 1) := by decide +kernel
theorem d_Mo_twist_80 : decode m_Mo_twist.2.1 80 = .ok (.getfield 142, 3) := by decide +kernel
theorem d_Mo_twist_83 : decode m_Mo_twist.2.1 83 = .ok (.aload_n 0, 1) := by decide +kernel
theorem d_Mo_twist_84 : decode m_Mo_twist.2.1 84 = .ok (.getfield 145, 3) := by decide +kernel
theorem d_Mo_twist_87 : decode m_Mo_twist.2.1 87 = .ok (.if_icmp .lt 10, 3) := by decide +kernel
theorem d_Mo_twist_90 : decode m_Mo_twist.2.1 90 = .ok (.aload_n 0, 1) := by decide +kernel
theorem d_Mo_twist_91 : decode m_Mo_twist.2.1 91 = .ok (.getfield 335, 3) := by decide +kernel
theorem d_Mo_twist_94 : decode m_Mo_twist.2.1 94 = .ok (.ifCond .le 13, 3) := by decide +kernel
theorem d_Mo_twist_97 : decode m_Mo_twist.2.1 97 = .ok (.aload_n 0, 1) := by decide +kernel
theorem d_Mo_twist_98 : decode m_Mo_twist.2.1 98 = .ok (.iload_n 1, 1) := by decide +kernel
theorem d_Mo_twist_99 : decode m_Mo_twist.2.1 99 = .ok (.invokevirtual 350, 3) := by decide +kernel
theorem d_Mo_twist_102 : decode m_Mo_twist.2.1 102 = .ok (.istore 4, 2) := by decide +kernel
theorem d_Mo_twist_104 : decode m_Mo_twist.2.1 104 = .ok (.goto (-30), 3) := by decide +kernel
theorem d_Mo_twist_107 : decode m_Mo_twist.2.1 107 = .ok (.aload_n 0, 1) := by decide +kernel
theorem d_Mo_twist_108 : decode m_Mo_twist.2.1 108 = .ok (.iconst 0, 1) := by decide +kernel
theorem d_Mo_twist_109 : decode m_Mo_twist.2.1 109 = .ok (.putfield 135, 3) := by decide +kernel
theorem d_Mo_twist_112 : decode m_Mo_twist.2.1 112 = .ok (.iload 4, 2) := by decide +kernel
theorem d_Mo_twist_114 : decode m_Mo_twist.2.1 114 = .ok (.ifCond .ne 8, 3) := by decide +kernel
theorem d_Mo_twist_117 : decode m_Mo_twist.2.1 117 = .ok (.aload_n 0, 1) := by decide +kernel
theorem d_Mo_twist_118 : decode m_Mo_twist.2.1 118 = .ok (.getfield 152, 3) := by decide +kernel
theorem d_Mo_twist_121 : decode m_Mo_twist.2.1 121 = .ok (.ireturn, 1) := by decide +kernel
theorem d_Mo_twist_122 : decode m_Mo_twist.2.1 122 = .ok (.aload_n 0, 1) := by decide +kernel
theorem d_Mo_twist_123 : decode m_Mo_twist.2.1 123 = .ok (.iload_n 1, 1) := by decide +kernel
theorem d_Mo_twist_124 : decode m_Mo_twist.2.1 124 = .ok (.invokevirtual 353, 3) := by decide +kernel
theorem d_Mo_twist_127 : decode m_Mo_twist.2.1 127 = .ok (.iload_n 3, 1) := by decide +kernel
theorem d_Mo_twist_128 : decode m_Mo_twist.2.1 128 = .ok (.tableswitch 53 100 103 #[32, 37, 42, 47], 32) := by decide +kernel
theorem d_Mo_twist_160 : decode m_Mo_twist.2.1 160 = .ok (.aload_n 0, 1) := by decide +kernel
theorem d_Mo_twist_161 : decode m_Mo_twist.2.1 161 = .ok (.getfield 329, 3) := by decide +kernel
theorem d_Mo_twist_164 : decode m_Mo_twist.2.1 164 = .ok (.ireturn, 1) := by decide +kernel
theorem d_Mo_twist_165 : decode m_Mo_twist.2.1 165 = .ok (.aload_n 0, 1) := by decide +kernel
theorem d_Mo_twist_166 : decode m_Mo_twist.2.1 166 = .ok (.invokevirtual 356, 3) := by decide +kernel
theorem d_Mo_twist_169 : decode m_Mo_twist.2.1 169 = .ok (.ireturn, 1) := by decide +kernel
theorem d_Mo_twist_170 : decode m_Mo_twist.2.1 170 = .ok (.aload_n 0, 1) := by decide +kernel
theorem d_Mo_twist_171 : decode m_Mo_twist.2.1 171 = .ok (.invokevirtual 359, 3) := by decide +kernel
theorem d_Mo_twist_174 : decode m_Mo_twist.2.1 174 = .ok (.ireturn, 1) := by decide +kernel
theorem d_Mo_twist_175 : decode m_Mo_twist.2.1 175 = .ok (.aload_n 0, 1) := by decide +kernel
theorem d_Mo_twist_176 : decode m_Mo_twist.2.1 176 = .ok (.iload_n 1, 1) := by decide +kernel
theorem d_Mo_twist_177 : decode m_Mo_twist.2.1 177 = .ok (.invokevirtual 362, 3) := by decide +kernel
theorem d_Mo_twist_180 : decode m_Mo_twist.2.1 180 = .ok (.ireturn, 1) := by decide +kernel
theorem d_Mo_twist_181 : decode m_Mo_twist.2.1 181 = .ok (.aload_n 0, 1) := by decide +kernel
theorem d_Mo_twist_182 : decode m_Mo_twist.2.1 182 = .ok (.iload_n 3, 1) := by decide +kernel
theorem d_Mo_twist_183 : decode m_Mo_twist.2.1 183 = .ok (.invokevirtual 344, 3) := by decide +kernel
theorem d_Mo_twist_186 : decode m_Mo_twist.2.1 186 = .ok (.ireturn, 1) := by decide +kernel
def f_Mo_twist_97 (k_74 : St → Int32 → Int32 → Int32 → Option (Int32 × St)) (S : St) (l1 : Int32) (l3 : Int32) : Option (Int32 × St) :=
    (f_Mo_readsTurn S l1).bind fun w_99 =>
    (some w_99.1).bind fun l4_102 =>
    k_74 w_99.2 l1 l3 l4_102
set_option maxHeartbeats 4000000 in
set_option maxRecDepth 20000 in
theorem t_Mo_twist_97  {k_74 : St → Int32 → Int32 → Int32 → Option (Int32 × St)} (hk_74 : ∀ (S : St) (l1 : Int32) (l3 : Int32) (l4 : Int32) (w : Int32 × St), k_74 S l1 l3 l4 = some w → G SM m_Mo_twist 4 (some w.1) w.2 74 [(0, .ref 0), (1, .int l1), (3, .int l3), (4, .int l4)] [] S) (S : St) (l1 : Int32) (l3 : Int32) (w : Int32 × St) (h : f_Mo_twist_97 k_74 S l1 l3 = some w) : G SM m_Mo_twist 4 (some w.1) w.2 97 [(0, .ref 0), (1, .int l1), (3, .int l3)] [] S := by
  unfold f_Mo_twist_97 at h
  refine G_aload_n 0 rfl d_Mo_twist_97 ?_
  refine G_iload_n 1 rfl d_Mo_twist_98 ?_
  obtain ⟨w_99, q_99, h⟩ := ob_b h
  refine G_callV [.int l1] [] (t_Mo_readsTurn q_99) (by decide) (by decide) mv_Mo_readsTurn rfl ml_Mo_350 km_0 sm_0 cl_12 rfl (Nat.le_of_ble_eq_true rfl) d_Mo_twist_99 ?_
  obtain ⟨l4_102, e_102, h⟩ := ob_s h
  refine G_istore [(4, .int l4_102), (0, .ref 0), (1, .int l1), (3, .int l3)] e_102 rfl (by decide) d_Mo_twist_102 ?_
  refine G_goto 74 (by decide) d_Mo_twist_104 ?_
  exact G_sub _ [1, 2, 3, 0] rfl (hk_74 w_99.2 l1 l3 l4_102 _ h)
def f_Mo_twist_107 (S : St) (l1 : Int32) (l3 : Int32) (l4 : Int32) : Option (Int32 × St) :=
    (some (sF S 0 7 0)).bind fun S_109 =>
    if l4 = 0 then (
    some ((S_109 0 10), S_109))
    else (
    (f_Mo_turnsAll S_109 l1).bind fun w_124 =>
    if l3 = 100 then (
    some ((w_124 0 45), w_124))
    else if l3 = 101 then (
    (f_Mo_overs w_124).bind fun v_166 =>
    some (v_166, w_124))
    else if l3 = 102 then (
    (f_Mo_shortened w_124).bind fun w_171 =>
    some (w_171.1, w_171.2))
    else if l3 = 103 then (
    (f_Mo_oftenTill w_124 l1).bind fun w_177 =>
    some (w_177.1, w_177.2))
    else (
    (f_Mo_comesOut w_124 l3).bind fun v_183 =>
    some (v_183, w_124)))
set_option maxHeartbeats 4000000 in
set_option maxRecDepth 20000 in
theorem t_Mo_twist_107  (S : St) (l1 : Int32) (l3 : Int32) (l4 : Int32) (w : Int32 × St) (h : f_Mo_twist_107 S l1 l3 l4 = some w) : G SM m_Mo_twist 4 (some w.1) w.2 107 [(0, .ref 0), (1, .int l1), (3, .int l3), (4, .int l4)] [] S := by
  unfold f_Mo_twist_107 at h
  refine G_aload_n 0 rfl d_Mo_twist_107 ?_
  refine G_iconst 0 (by decide) d_Mo_twist_108 ?_
  obtain ⟨S_109, e_109, h⟩ := ob_s h
  refine G_putI e_109 fp_Mo_135 km_0 sm_0 rfl d_Mo_twist_109 ?_
  refine G_iload 3 rfl d_Mo_twist_112 ?_
  refine G_if_ne 122 (by decide) d_Mo_twist_114 (fun c_114 => ?_) (fun c_114 => ?_)
  · replace h := ob_f h c_114
    refine G_aload_n 0 rfl d_Mo_twist_122 ?_
    refine G_iload_n 1 rfl d_Mo_twist_123 ?_
    obtain ⟨w_124, q_124, h⟩ := ob_b h
    refine G_callV [.int l1] [] (t_Mo_turnsAll q_124) (by decide) (by decide) mv_Mo_turnsAll rfl ml_Mo_353 km_0 sm_0 cl_12 rfl (Nat.le_of_ble_eq_true rfl) d_Mo_twist_124 ?_
    refine G_iload_n 2 rfl d_Mo_twist_127 ?_
    by_cases c_128_0 : l3 = 100
    · replace h := ob_t h c_128_0
      refine G_tin (100) (by rw [c_128_0]; decide) 160 (by decide) (by decide) rfl (by decide) d_Mo_twist_128 ?_
      refine G_aload_n 0 rfl d_Mo_twist_160 ?_
      refine G_getI fl_Mo_329 km_0 sm_0 rfl d_Mo_twist_161 ?_
      cases h
      exact G_iret rfl d_Mo_twist_164
    replace h := ob_f h c_128_0
    by_cases c_128_1 : l3 = 101
    · replace h := ob_t h c_128_1
      refine G_tin (101) (by rw [c_128_1]; decide) 165 (by decide) (by decide) rfl (by decide) d_Mo_twist_128 ?_
      refine G_aload_n 0 rfl d_Mo_twist_165 ?_
      obtain ⟨v_166, q_166, h⟩ := ob_b h
      refine G_callV [] [] (t_Mo_overs q_166) (by decide) (by decide) mv_Mo_overs rfl ml_Mo_356 km_0 sm_0 cl_12 rfl (Nat.le_of_ble_eq_true rfl) d_Mo_twist_166 ?_
      cases h
      exact G_iret rfl d_Mo_twist_169
    replace h := ob_f h c_128_1
    by_cases c_128_2 : l3 = 102
    · replace h := ob_t h c_128_2
      refine G_tin (102) (by rw [c_128_2]; decide) 170 (by decide) (by decide) rfl (by decide) d_Mo_twist_128 ?_
      refine G_aload_n 0 rfl d_Mo_twist_170 ?_
      obtain ⟨w_171, q_171, h⟩ := ob_b h
      refine G_callV [] [] (t_Mo_shortened q_171) (by decide) (by decide) mv_Mo_shortened rfl ml_Mo_359 km_0 sm_0 cl_12 rfl (Nat.le_of_ble_eq_true rfl) d_Mo_twist_171 ?_
      cases h
      exact G_iret rfl d_Mo_twist_174
    replace h := ob_f h c_128_2
    by_cases c_128_3 : l3 = 103
    · replace h := ob_t h c_128_3
      refine G_tin (103) (by rw [c_128_3]; decide) 175 (by decide) (by decide) rfl (by decide) d_Mo_twist_128 ?_
      refine G_aload_n 0 rfl d_Mo_twist_175 ?_
      refine G_iload_n 1 rfl d_Mo_twist_176 ?_
      obtain ⟨w_177, q_177, h⟩ := ob_b h
      refine G_callV [.int l1] [] (t_Mo_oftenTill q_177) (by decide) (by decide) mv_Mo_oftenTill rfl ml_Mo_362 km_0 sm_0 cl_12 rfl (Nat.le_of_ble_eq_true rfl) d_Mo_twist_177 ?_
      cases h
      exact G_iret rfl d_Mo_twist_180
    replace h := ob_f h c_128_3
    have n_128_0 := lv_neT c_128_0 (a := 100) (by decide)
    have n_128_1 := lv_neT c_128_1 (a := 101) (by decide)
    have n_128_2 := lv_neT c_128_2 (a := 102) (by decide)
    have n_128_3 := lv_neT c_128_3 (a := 103) (by decide)
    refine G_tout (by omega) 181 (by decide) d_Mo_twist_128 ?_
    refine G_aload_n 0 rfl d_Mo_twist_181 ?_
    refine G_iload_n 2 rfl d_Mo_twist_182 ?_
    obtain ⟨v_183, q_183, h⟩ := ob_b h
    refine G_callV [.int l3] [] (t_Mo_comesOut q_183) (by decide) (by decide) mv_Mo_comesOut rfl ml_Mo_344 km_0 sm_0 cl_12 rfl (Nat.le_of_ble_eq_true rfl) d_Mo_twist_183 ?_
    cases h
    exact G_iret rfl d_Mo_twist_186
  · replace h := ob_t h c_114
    refine G_aload_n 0 rfl d_Mo_twist_117 ?_
    refine G_getI fl_Mo_152 km_0 sm_0 rfl d_Mo_twist_118 ?_
    cases h
    exact G_iret rfl d_Mo_twist_121
def f_Mo_twist_74 : Nat → St → Int32 → Int32 → Int32 → Option (Int32 × St)
  | 0, _, _, _, _ => none
  | n + 1, S, l1, l3, l4 =>
    if l4 = 0 then (
    f_Mo_twist_107 S l1 l3 l4)
    else (
    if (S 0 8) < (S 0 9) then (
    f_Mo_twist_97 (f_Mo_twist_74 n) S l1 l3)
    else (
    if (S 0 46) ≤ 0 then (
    f_Mo_twist_107 S l1 l3 l4)
    else (
    f_Mo_twist_97 (f_Mo_twist_74 n) S l1 l3)))
set_option maxHeartbeats 4000000 in
set_option maxRecDepth 20000 in
theorem t_Mo_twist_74  : ∀ (n : Nat) (S : St) (l1 : Int32) (l3 : Int32) (l4 : Int32) (w : Int32 × St), f_Mo_twist_74 n S l1 l3 l4 = some w → G SM m_Mo_twist 4 (some w.1) w.2 74 [(0, .ref 0), (1, .int l1), (3, .int l3), (4, .int l4)] [] S := by
  intro n
  induction n with
  | zero =>
    intro S l1 l3 l4 w h
    rw [f_Mo_twist_74] at h
    cases h
  | succ n ih =>
    intro S l1 l3 l4 w h
    rw [f_Mo_twist_74] at h
    refine G_iload 3 rfl d_Mo_twist_74 ?_
    refine G_if_eq 107 (by decide) d_Mo_twist_76 (fun c_76 => ?_) (fun c_76 => ?_)
    · replace h := ob_t h c_76
      exact G_sub _ [0, 1, 2, 3] rfl (t_Mo_twist_107 S l1 l3 l4 _ h)
    · replace h := ob_f h c_76
      refine G_aload_n 0 rfl d_Mo_twist_79 ?_
      refine G_getI fl_Mo_142 km_0 sm_0 rfl d_Mo_twist_80 ?_
      refine G_aload_n 0 rfl d_Mo_twist_83 ?_
      refine G_getI fl_Mo_145 km_0 sm_0 rfl d_Mo_twist_84 ?_
      refine G_icmp_lt 97 (by decide) d_Mo_twist_87 (fun c_87 => ?_) (fun c_87 => ?_)
      · replace h := ob_t h c_87
        exact G_sub _ [0, 1, 2] rfl (t_Mo_twist_97 ih S l1 l3 _ h)
      · replace h := ob_f h c_87
        refine G_aload_n 0 rfl d_Mo_twist_90 ?_
        refine G_getI fl_Mo_335 km_0 sm_0 rfl d_Mo_twist_91 ?_
        refine G_if_le 107 (by decide) d_Mo_twist_94 (fun c_94 => ?_) (fun c_94 => ?_)
        · replace h := ob_t h c_94
          exact G_sub _ [0, 1, 2, 3] rfl (t_Mo_twist_107 S l1 l3 l4 _ h)
        · replace h := ob_f h c_94
          exact G_sub _ [0, 1, 2] rfl (t_Mo_twist_97 ih S l1 l3 _ h)
def f_Mo_twist_42 (S : St) (l1 : Int32) (l2 : Int32) (l3 : Int32) : Option (Int32 × St) :=
    if l2 ≤ (S 0 7) then (
    (f_Mo_beginsText S l2).bind fun w_54 =>
    (some (sF w_54 0 45 0)).bind fun S_59 =>
    (some (sF S_59 0 46 0)).bind fun S_64 =>
    (f_Mo_readsTurn S_64 l1).bind fun w_69 =>
    (some w_69.1).bind fun l4_72 =>
    f_Mo_twist_74 FU w_69.2 l1 l3 l4_72)
    else (
    some ((-1), S))
set_option maxHeartbeats 4000000 in
set_option maxRecDepth 20000 in
theorem t_Mo_twist_42  (S : St) (l1 : Int32) (l2 : Int32) (l3 : Int32) (w : Int32 × St) (h : f_Mo_twist_42 S l1 l2 l3 = some w) : G SM m_Mo_twist 4 (some w.1) w.2 42 [(0, .ref 0), (1, .int l1), (2, .int l2), (3, .int l3)] [] S := by
  unfold f_Mo_twist_42 at h
  refine G_iload_n 2 rfl d_Mo_twist_42 ?_
  refine G_aload_n 0 rfl d_Mo_twist_43 ?_
  refine G_getI fl_Mo_135 km_0 sm_0 rfl d_Mo_twist_44 ?_
  refine G_icmp_le 52 (by decide) d_Mo_twist_47 (fun c_47 => ?_) (fun c_47 => ?_)
  · replace h := ob_t h c_47
    refine G_aload_n 0 rfl d_Mo_twist_52 ?_
    refine G_iload_n 2 rfl d_Mo_twist_53 ?_
    obtain ⟨w_54, q_54, h⟩ := ob_b h
    refine G_callV [.int l2] [] (t_Mo_beginsText q_54) (by decide) (by decide) mv_Mo_beginsText rfl ml_Mo_227 km_0 sm_0 cl_12 rfl (Nat.le_of_ble_eq_true rfl) d_Mo_twist_54 ?_
    refine G_aload_n 0 rfl d_Mo_twist_57 ?_
    refine G_iconst 0 (by decide) d_Mo_twist_58 ?_
    obtain ⟨S_59, e_59, h⟩ := ob_s h
    refine G_putI e_59 fp_Mo_329 km_0 sm_0 rfl d_Mo_twist_59 ?_
    refine G_aload_n 0 rfl d_Mo_twist_62 ?_
    refine G_iconst 0 (by decide) d_Mo_twist_63 ?_
    obtain ⟨S_64, e_64, h⟩ := ob_s h
    refine G_putI e_64 fp_Mo_335 km_0 sm_0 rfl d_Mo_twist_64 ?_
    refine G_aload_n 0 rfl d_Mo_twist_67 ?_
    refine G_iload_n 1 rfl d_Mo_twist_68 ?_
    obtain ⟨w_69, q_69, h⟩ := ob_b h
    refine G_callV [.int l1] [] (t_Mo_readsTurn q_69) (by decide) (by decide) mv_Mo_readsTurn rfl ml_Mo_350 km_0 sm_0 cl_12 rfl (Nat.le_of_ble_eq_true rfl) d_Mo_twist_69 ?_
    obtain ⟨l4_72, e_72, h⟩ := ob_s h
    refine G_istore [(4, .int l4_72), (0, .ref 0), (1, .int l1), (2, .int l2), (3, .int l3)] e_72 rfl (by decide) d_Mo_twist_72 ?_
    exact G_sub _ [1, 2, 4, 0] rfl (t_Mo_twist_74 FU w_69.2 l1 l3 l4_72 _ h)
  · replace h := ob_f h c_47
    refine G_iconst (-1) (by decide) d_Mo_twist_50 ?_
    cases h
    exact G_iret rfl d_Mo_twist_51
def f_Mo_twist (S : St) (l1 : Int32) (l2 : Int32) (l3 : Int32) : Option (Int32 × St) :=
    (f_Mo_in S l1 (2 : Int32) (8 : Int32)).bind fun v_4 =>
    if v_4 = 0 then (
    some ((-1), S))
    else (
    (f_Mo_in S l2 (1 : Int32) (80 : Int32)).bind fun v_14 =>
    if v_14 = 0 then (
    some ((-1), S))
    else (
    (f_Mo_in S l3 (0 : Int32) (l1 - 1)).bind fun v_25 =>
    if v_25 = 0 then (
    (f_Mo_in S l3 (100 : Int32) (103 : Int32)).bind fun v_36 =>
    if v_36 = 0 then (
    some ((-1), S))
    else (
    f_Mo_twist_42 S l1 l2 l3))
    else (
    f_Mo_twist_42 S l1 l2 l3)))
set_option maxHeartbeats 4000000 in
set_option maxRecDepth 20000 in
theorem t_Mo_twist  {S : St} {l1 : Int32} {l2 : Int32} {l3 : Int32} {w : Int32 × St} (h : f_Mo_twist S l1 l2 l3 = some w) : Ct SM m_Mo_twist 4 [.ref 0, .int l1, .int l2, .int l3] S (some w.1) w.2 := by
  unfold f_Mo_twist at h
  refine Ct.of pn_Mo (Nat.le_of_ble_eq_true rfl) ?_
  show G SM m_Mo_twist 4 (some w.1) w.2 0 [(0, .ref 0), (1, .int l1), (2, .int l2), (3, .int l3)] [] S
  refine G_iload_n 1 rfl d_Mo_twist_0 ?_
  refine G_iconst 2 (by decide) d_Mo_twist_1 ?_
  refine G_bipush 8 (by decide) d_Mo_twist_2 ?_
  obtain ⟨v_4, q_4, h⟩ := ob_b h
  refine G_callS [.int l1, .int 2, .int 8] [] (t_Mo_in q_4) (by decide) (by decide) mt_Mo_in rfl ml_Mo_124 rfl (Nat.le_of_ble_eq_true rfl) d_Mo_twist_4 ?_
  refine G_if_eq 50 (by decide) d_Mo_twist_7 (fun c_7 => ?_) (fun c_7 => ?_)
  · replace h := ob_t h c_7
    refine G_iconst (-1) (by decide) d_Mo_twist_50 ?_
    cases h
    exact G_iret rfl d_Mo_twist_51
  · replace h := ob_f h c_7
    refine G_iload_n 2 rfl d_Mo_twist_10 ?_
    refine G_iconst 1 (by decide) d_Mo_twist_11 ?_
    refine G_bipush 80 (by decide) d_Mo_twist_12 ?_
    obtain ⟨v_14, q_14, h⟩ := ob_b h
    refine G_callS [.int l2, .int 1, .int 80] [] (t_Mo_in q_14) (by decide) (by decide) mt_Mo_in rfl ml_Mo_124 rfl (Nat.le_of_ble_eq_true rfl) d_Mo_twist_14 ?_
    refine G_if_eq 50 (by decide) d_Mo_twist_17 (fun c_17 => ?_) (fun c_17 => ?_)
    · replace h := ob_t h c_17
      refine G_iconst (-1) (by decide) d_Mo_twist_50 ?_
      cases h
      exact G_iret rfl d_Mo_twist_51
    · replace h := ob_f h c_17
      refine G_iload_n 3 rfl d_Mo_twist_20 ?_
      refine G_iconst 0 (by decide) d_Mo_twist_21 ?_
      refine G_iload_n 1 rfl d_Mo_twist_22 ?_
      refine G_iconst 1 (by decide) d_Mo_twist_23 ?_
      refine G_isub d_Mo_twist_24 ?_
      obtain ⟨v_25, q_25, h⟩ := ob_b h
      refine G_callS [.int l3, .int 0, .int (l1 - 1)] [] (t_Mo_in q_25) (by decide) (by decide) mt_Mo_in rfl ml_Mo_124 rfl (Nat.le_of_ble_eq_true rfl) d_Mo_twist_25 ?_
      refine G_if_ne 42 (by decide) d_Mo_twist_28 (fun c_28 => ?_) (fun c_28 => ?_)
      · replace h := ob_f h c_28
        exact G_sub _ [0, 1, 2, 3] rfl (t_Mo_twist_42 S l1 l2 l3 _ h)
      · replace h := ob_t h c_28
        refine G_iload_n 3 rfl d_Mo_twist_31 ?_
        refine G_bipush 100 (by decide) d_Mo_twist_32 ?_
        refine G_bipush 103 (by decide) d_Mo_twist_34 ?_
        obtain ⟨v_36, q_36, h⟩ := ob_b h
        refine G_callS [.int l3, .int 100, .int 103] [] (t_Mo_in q_36) (by decide) (by decide) mt_Mo_in rfl ml_Mo_124 rfl (Nat.le_of_ble_eq_true rfl) d_Mo_twist_36 ?_
        refine G_if_eq 50 (by decide) d_Mo_twist_39 (fun c_39 => ?_) (fun c_39 => ?_)
        · replace h := ob_t h c_39
          refine G_iconst (-1) (by decide) d_Mo_twist_50 ?_
          cases h
          exact G_iret rfl d_Mo_twist_51
        · replace h := ob_f h c_39
          exact G_sub _ [0, 1, 2, 3] rfl (t_Mo_twist_42 S l1 l2 l3 _ h)
theorem d_Mo_forEver_0 : decode m_Mo_forEver.2.1 0 = .ok (.ldc_w 365, 3) := by decide +kernel
theorem d_Mo_forEver_3 : decode m_Mo_forEver.2.1 3 = .ok (.istore_n 1, 1) := by decide +kernel
theorem d_Mo_forEver_4 : decode m_Mo_forEver.2.1 4 = .ok (.iconst 0, 1) := by decide +kernel
theorem d_Mo_forEver_5 : decode m_Mo_forEver.2.1 5 = .ok (.istore_n 2, 1) := by decide +kernel
theorem d_Mo_forEver_6 : decode m_Mo_forEver.2.1 6 = .ok (.iload_n 1, 1) := by decide +kernel
theorem d_Mo_forEver_7 : decode m_Mo_forEver.2.1 7 = .ok (.iload_n 2, 1) := by decide +kernel
theorem d_Mo_forEver_8 : decode m_Mo_forEver.2.1 8 = .ok (.if_icmp .eq 41, 3) := by decide +kernel
theorem d_Mo_forEver_11 : decode m_Mo_forEver.2.1 11 = .ok (.iload_n 1, 1) := by decide +kernel
theorem d_Mo_forEver_12 : decode m_Mo_forEver.2.1 12 = .ok (.istore_n 2, 1) := by decide +kernel
theorem d_Mo_forEver_13 : decode m_Mo_forEver.2.1 13 = .ok (.iconst 0, 1) := by decide +kernel
theorem d_Mo_forEver_14 : decode m_Mo_forEver.2.1 14 = .ok (.istore_n 3, 1) := by decide +kernel
theorem d_Mo_forEver_15 : decode m_Mo_forEver.2.1 15 = .ok (.iload_n 3, 1) := by decide +kernel
theorem d_Mo_forEver_16 : decode m_Mo_forEver.2.1 16 = .ok (.bipush 16, 2) := by decide +kernel
theorem d_Mo_forEver_18 : decode m_Mo_forEver.2.1 18 = .ok (.if_icmp .ge 28, 3) := by decide +kernel
theorem d_Mo_forEver_21 : decode m_Mo_forEver.2.1 21 = .ok (.aload_n 0, 1) := by decide +kernel
theorem d_Mo_forEver_22 : decode m_Mo_forEver.2.1 22 = .ok (.getfield 107, 3) := by decide +kernel
theorem d_Mo_forEver_25 : decode m_Mo_forEver.2.1 25 = .ok (.iload_n 3, 1) := by decide +kernel
theorem d_Mo_forEver_26 : decode m_Mo_forEver.2.1 26 = .ok (.iaload, 1) := by decide +kernel
theorem d_Mo_forEver_27 : decode m_Mo_forEver.2.1 27 = .ok (.iload_n 2, 1) := by decide +kernel
theorem d_Mo_forEver_28 : decode m_Mo_forEver.2.1 28 = .ok (.iand, 1) := by decide +kernel
theorem d_Mo_forEver_29 : decode m_Mo_forEver.2.1 29 = .ok (.ifCond .ne 11, 3) := by decide +kernel
theorem d_Mo_forEver_32 : decode m_Mo_forEver.2.1 32 = .ok (.iload_n 1, 1) := by decide +kernel
theorem d_Mo_forEver_33 : decode m_Mo_forEver.2.1 33 = .ok (.iconst 1, 1) := by decide +kernel
theorem d_Mo_forEver_34 : decode m_Mo_forEver.2.1 34 = .ok (.iload_n 3, 1) := by decide +kernel
theorem d_Mo_forEver_35 : decode m_Mo_forEver.2.1 35 = .ok (.ishl, 1) := by decide +kernel
theorem d_Mo_forEver_36 : decode m_Mo_forEver.2.1 36 = .ok (.iconst (-1), 1) := by decide +kernel
theorem d_Mo_forEver_37 : decode m_Mo_forEver.2.1 37 = .ok (.ixor, 1) := by decide +kernel
theorem d_Mo_forEver_38 : decode m_Mo_forEver.2.1 38 = .ok (.iand, 1) := by decide +kernel
theorem d_Mo_forEver_39 : decode m_Mo_forEver.2.1 39 = .ok (.istore_n 1, 1) := by decide +kernel
theorem d_Mo_forEver_40 : decode m_Mo_forEver.2.1 40 = .ok (.iinc 3 1, 3) := by decide +kernel
theorem d_Mo_forEver_43 : decode m_Mo_forEver.2.1 43 = .ok (.goto (-28), 3) := by decide +kernel
theorem d_Mo_forEver_46 : decode m_Mo_forEver.2.1 46 = .ok (.goto (-40), 3) := by decide +kernel
theorem d_Mo_forEver_49 : decode m_Mo_forEver.2.1 49 = .ok (.iload_n 1, 1) := by decide +kernel
theorem d_Mo_forEver_50 : decode m_Mo_forEver.2.1 50 = .ok (.ireturn, 1) := by decide +kernel
def f_Mo_forEver_40 (k_6 : St → Int32 → Int32 → Option (Int32)) (k_15 : St → Int32 → Int32 → Int32 → Option (Int32)) (S : St) (l1 : Int32) (l2 : Int32) (l3 : Int32) : Option (Int32) :=
    (some (l3 + 1)).bind fun l3_40 =>
    k_15 S l1 l2 l3_40
set_option maxHeartbeats 4000000 in
set_option maxRecDepth 20000 in
theorem t_Mo_forEver_40  {k_6 : St → Int32 → Int32 → Option (Int32)} {k_15 : St → Int32 → Int32 → Int32 → Option (Int32)} (hk_6 : ∀ (S : St) (l1 : Int32) (l2 : Int32) (w : Int32), k_6 S l1 l2 = some w → G SM m_Mo_forEver 1 (some w) S 6 [(0, .ref 0), (1, .int l1), (2, .int l2)] [] S) (hk_15 : ∀ (S : St) (l1 : Int32) (l2 : Int32) (l3 : Int32) (w : Int32), k_15 S l1 l2 l3 = some w → G SM m_Mo_forEver 1 (some w) S 15 [(0, .ref 0), (1, .int l1), (2, .int l2), (3, .int l3)] [] S) (S : St) (l1 : Int32) (l2 : Int32) (l3 : Int32) (w : Int32) (h : f_Mo_forEver_40 k_6 k_15 S l1 l2 l3 = some w) : G SM m_Mo_forEver 1 (some w) S 40 [(0, .ref 0), (1, .int l1), (2, .int l2), (3, .int l3)] [] S := by
  unfold f_Mo_forEver_40 at h
  obtain ⟨l3_40, e_40, h⟩ := ob_s h
  refine G_iinc 1 3 [(3, .int l3_40), (0, .ref 0), (1, .int l1), (2, .int l2)] (by decide) rfl e_40 rfl (by decide) d_Mo_forEver_40 ?_
  refine G_goto 15 (by decide) d_Mo_forEver_43 ?_
  exact G_sub _ [1, 2, 3, 0] rfl (hk_15 S l1 l2 l3_40 _ h)
def f_Mo_forEver_15 (k_6 : St → Int32 → Int32 → Option (Int32)) : Nat → St → Int32 → Int32 → Int32 → Option (Int32)
  | 0, _, _, _, _ => none
  | n + 1, S, l1, l2, l3 =>
    if (16 : Int32) ≤ l3 then (
    k_6 S l1 l2)
    else (
    if ig l3 16 then (
    if ((S 33 l3.toNatClampNeg) &&& l2) = 0 then (
    (some (l1 &&& ((jshl 1 l3) ^^^ (-1)))).bind fun l1_39 =>
    f_Mo_forEver_40 k_6 (f_Mo_forEver_15 k_6 n) S l1_39 l2 l3)
    else (
    f_Mo_forEver_40 k_6 (f_Mo_forEver_15 k_6 n) S l1 l2 l3)) else none)
set_option maxHeartbeats 4000000 in
set_option maxRecDepth 20000 in
theorem t_Mo_forEver_15  {k_6 : St → Int32 → Int32 → Option (Int32)} (hk_6 : ∀ (S : St) (l1 : Int32) (l2 : Int32) (w : Int32), k_6 S l1 l2 = some w → G SM m_Mo_forEver 1 (some w) S 6 [(0, .ref 0), (1, .int l1), (2, .int l2)] [] S) : ∀ (n : Nat) (S : St) (l1 : Int32) (l2 : Int32) (l3 : Int32) (w : Int32), f_Mo_forEver_15 k_6 n S l1 l2 l3 = some w → G SM m_Mo_forEver 1 (some w) S 15 [(0, .ref 0), (1, .int l1), (2, .int l2), (3, .int l3)] [] S := by
  intro n
  induction n with
  | zero =>
    intro S l1 l2 l3 w h
    rw [f_Mo_forEver_15] at h
    cases h
  | succ n ih =>
    intro S l1 l2 l3 w h
    rw [f_Mo_forEver_15] at h
    refine G_iload_n 3 rfl d_Mo_forEver_15 ?_
    refine G_bipush 16 (by decide) d_Mo_forEver_16 ?_
    refine G_icmp_ge 46 (by decide) d_Mo_forEver_18 (fun c_18 => ?_) (fun c_18 => ?_)
    · replace h := ob_t h c_18
      refine G_goto 6 (by decide) d_Mo_forEver_46 ?_
      exact G_sub _ [0, 1, 2] rfl (hk_6 S l1 l2 _ h)
    · replace h := ob_f h c_18
      refine G_aload_n 0 rfl d_Mo_forEver_21 ?_
      refine G_getR fl_Mo_107 km_0 sm_0 rfl (by decide) d_Mo_forEver_22 ?_
      refine G_iload_n 3 rfl d_Mo_forEver_25 ?_
      obtain ⟨g_26, h⟩ := ob_g h
      refine G_iaload km_33 sm_33 g_26 d_Mo_forEver_26 ?_
      refine G_iload_n 2 rfl d_Mo_forEver_27 ?_
      refine G_iand d_Mo_forEver_28 ?_
      refine G_if_ne 40 (by decide) d_Mo_forEver_29 (fun c_29 => ?_) (fun c_29 => ?_)
      · replace h := ob_f h c_29
        exact G_sub _ [0, 1, 2, 3] rfl (t_Mo_forEver_40 hk_6 ih S l1 l2 l3 _ h)
      · replace h := ob_t h c_29
        refine G_iload_n 1 rfl d_Mo_forEver_32 ?_
        refine G_iconst 1 (by decide) d_Mo_forEver_33 ?_
        refine G_iload_n 3 rfl d_Mo_forEver_34 ?_
        refine G_ishl d_Mo_forEver_35 ?_
        refine G_iconst (-1) (by decide) d_Mo_forEver_36 ?_
        refine G_ixor d_Mo_forEver_37 ?_
        refine G_iand d_Mo_forEver_38 ?_
        obtain ⟨l1_39, e_39, h⟩ := ob_s h
        refine G_istore_n [(1, .int l1_39), (0, .ref 0), (2, .int l2), (3, .int l3)] e_39 rfl (by decide) d_Mo_forEver_39 ?_
        exact G_sub _ [1, 0, 2, 3] rfl (t_Mo_forEver_40 hk_6 ih S l1_39 l2 l3 _ h)
def f_Mo_forEver_6 : Nat → St → Int32 → Int32 → Option (Int32)
  | 0, _, _, _ => none
  | n + 1, S, l1, l2 =>
    if l1 = l2 then (
    some l1)
    else (
    (some (0 : Int32)).bind fun l3_14 =>
    f_Mo_forEver_15 (f_Mo_forEver_6 n) FU S l1 l1 l3_14)
set_option maxHeartbeats 4000000 in
set_option maxRecDepth 20000 in
theorem t_Mo_forEver_6  : ∀ (n : Nat) (S : St) (l1 : Int32) (l2 : Int32) (w : Int32), f_Mo_forEver_6 n S l1 l2 = some w → G SM m_Mo_forEver 1 (some w) S 6 [(0, .ref 0), (1, .int l1), (2, .int l2)] [] S := by
  intro n
  induction n with
  | zero =>
    intro S l1 l2 w h
    rw [f_Mo_forEver_6] at h
    cases h
  | succ n ih =>
    intro S l1 l2 w h
    rw [f_Mo_forEver_6] at h
    refine G_iload_n 1 rfl d_Mo_forEver_6 ?_
    refine G_iload_n 2 rfl d_Mo_forEver_7 ?_
    refine G_icmp_eq 49 (by decide) d_Mo_forEver_8 (fun c_8 => ?_) (fun c_8 => ?_)
    · replace h := ob_t h c_8
      refine G_iload_n 1 rfl d_Mo_forEver_49 ?_
      cases h
      exact G_iret rfl d_Mo_forEver_50
    · replace h := ob_f h c_8
      refine G_iload_n 1 rfl d_Mo_forEver_11 ?_
      refine G_istore_n [(2, .int l1), (0, .ref 0), (1, .int l1)] rfl rfl (by decide) d_Mo_forEver_12 ?_
      refine G_iconst 0 (by decide) d_Mo_forEver_13 ?_
      obtain ⟨l3_14, e_14, h⟩ := ob_s h
      refine G_istore_n [(3, .int l3_14), (2, .int l1), (0, .ref 0), (1, .int l1)] e_14 rfl (by decide) d_Mo_forEver_14 ?_
      exact G_sub _ [2, 3, 1, 0] rfl (t_Mo_forEver_15 ih FU S l1 l1 l3_14 _ h)
def f_Mo_forEver (S : St) : Option (Int32) :=
    (some (65535 : Int32)).bind fun l1_3 =>
    (some (0 : Int32)).bind fun l2_5 =>
    f_Mo_forEver_6 FU S l1_3 l2_5
set_option maxHeartbeats 4000000 in
set_option maxRecDepth 20000 in
theorem t_Mo_forEver  {S : St} {w : Int32} (h : f_Mo_forEver S = some w) : Ct SM m_Mo_forEver 1 [.ref 0] S (some w) S := by
  unfold f_Mo_forEver at h
  refine Ct.of pn_Mo (Nat.le_of_ble_eq_true rfl) ?_
  show G SM m_Mo_forEver 1 (some w) S 0 [(0, .ref 0)] [] S
  refine G_ldcw c_Mo_365 d_Mo_forEver_0 ?_
  obtain ⟨l1_3, e_3, h⟩ := ob_s h
  refine G_istore_n [(1, .int l1_3), (0, .ref 0)] e_3 rfl (by decide) d_Mo_forEver_3 ?_
  refine G_iconst 0 (by decide) d_Mo_forEver_4 ?_
  obtain ⟨l2_5, e_5, h⟩ := ob_s h
  refine G_istore_n [(2, .int l2_5), (1, .int l1_3), (0, .ref 0)] e_5 rfl (by decide) d_Mo_forEver_5 ?_
  exact G_sub _ [2, 1, 0] rfl (t_Mo_forEver_6 FU S l1_3 l2_5 _ h)
