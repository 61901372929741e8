theorem d_Reckoner_face_0 : decode m_Reckoner_face.2.1 0 = .ok (.aload_n 0, 1) := by decide +kernel
theorem d_Reckoner_face_1 : decode m_Reckoner_face.2.1 1 = .ok (.aload_n 1, 1) := by decide +kernel
theorem d_Reckoner_face_2 : decode m_Reckoner_face.2.1 2 = .ok (.putfield 33, 3) := by decide +kernel
theorem d_Reckoner_face_5 : decode m_Reckoner_face.2.1 5 = .ok (.aload_n 0, 1) := by decide +kernel
theorem d_Reckoner_face_6 : decode m_Reckoner_face.2.1 6 = .ok (.iload_n 2, 1) := by decide +kernel
theorem d_Reckoner_face_7 : decode m_Reckoner_face.2.1 7 = .ok (.putfield 23, 3) := by decide +kernel
theorem d_Reckoner_face_10 : decode m_Reckoner_face.2.1 10 = .ok (.aload_n 0, 1) := by decide +kernel
theorem d_Reckoner_face_11 : decode m_Reckoner_face.2.1 11 = .ok (.iload_n 3, 1) := by decide +kernel
theorem d_Reckoner_face_12 : decode m_Reckoner_face.2.1 12 = .ok (.putfield 26, 3) := by decide +kernel
theorem d_Reckoner_face_15 : decode m_Reckoner_face.2.1 15 = .ok (.return_, 1) := by decide +kernel
def f_Reckoner_face (S : St) (P : Nat) (l2 : Int32) (l3 : Int32) : Option (St) :=
    (some (sF S 40 4 (nI P))).bind fun S_2 =>
    (some (sF S_2 40 5 l2)).bind fun S_7 =>
    (some (sF S_7 40 6 l3)).bind fun S_12 =>
    some S_12
set_option maxHeartbeats 4000000 in
set_option maxRecDepth 20000 in
theorem t_Reckoner_face  {P : Nat} (hP : isP P) {S : St} {l2 : Int32} {l3 : Int32} {w : St} (h : f_Reckoner_face S P l2 l3 = some w) : Ct SX m_Reckoner_face 1 [.ref 40, .ref P, .int l2, .int l3] S none w := by
  unfold f_Reckoner_face at h
  refine Ct.of pn_Reckoner (Nat.le_of_ble_eq_true rfl) ?_
  show G SX m_Reckoner_face 1 none w 0 [(0, .ref 40), (1, .ref P), (2, .int l2), (3, .int l3)] [] S
  refine G_aload_n 0 rfl d_Reckoner_face_0 ?_
  refine G_aload_n 1 rfl d_Reckoner_face_1 ?_
  obtain ⟨S_2, e_2, h⟩ := ob_s h
  refine G_putM e_2 (lP hP) fp_Reckoner_33 kx_40 sx_40 rfl d_Reckoner_face_2 ?_
  refine G_aload_n 0 rfl d_Reckoner_face_5 ?_
  refine G_iload_n 2 rfl d_Reckoner_face_6 ?_
  obtain ⟨S_7, e_7, h⟩ := ob_s h
  refine G_putI e_7 fp_Reckoner_23 kx_40 sx_40 rfl d_Reckoner_face_7 ?_
  refine G_aload_n 0 rfl d_Reckoner_face_10 ?_
  refine G_iload_n 3 rfl d_Reckoner_face_11 ?_
  obtain ⟨S_12, e_12, h⟩ := ob_s h
  refine G_putI e_12 fp_Reckoner_26 kx_40 sx_40 rfl d_Reckoner_face_12 ?_
  cases h
  exact G_vret rfl d_Reckoner_face_15
theorem d_Reckoner_push_0 : decode m_Reckoner_push.2.1 0 = .ok (.aload_n 0, 1) := by decide +kernel
theorem d_Reckoner_push_1 : decode m_Reckoner_push.2.1 1 = .ok (.getfield 15, 3) := by decide +kernel
theorem d_Reckoner_push_4 : decode m_Reckoner_push.2.1 4 = .ok (.bipush 64, 2) := by decide +kernel
theorem d_Reckoner_push_6 : decode m_Reckoner_push.2.1 6 = .ok (.if_icmp .ge 23, 3) := by decide +kernel
theorem d_Reckoner_push_9 : decode m_Reckoner_push.2.1 9 = .ok (.aload_n 0, 1) := by decide +kernel
theorem d_Reckoner_push_10 : decode m_Reckoner_push.2.1 10 = .ok (.getfield 11, 3) := by decide +kernel
theorem d_Reckoner_push_13 : decode m_Reckoner_push.2.1 13 = .ok (.aload_n 0, 1) := by decide +kernel
theorem d_Reckoner_push_14 : decode m_Reckoner_push.2.1 14 = .ok (.getfield 15, 3) := by decide +kernel
theorem d_Reckoner_push_17 : decode m_Reckoner_push.2.1 17 = .ok (.iload_n 1, 1) := by decide +kernel
theorem d_Reckoner_push_18 : decode m_Reckoner_push.2.1 18 = .ok (.iastore, 1) := by decide +kernel
theorem d_Reckoner_push_19 : decode m_Reckoner_push.2.1 19 = .ok (.aload_n 0, 1) := by decide +kernel
theorem d_Reckoner_push_20 : decode m_Reckoner_push.2.1 20 = .ok (.dup, 1) := by decide +kernel
theorem d_Reckoner_push_21 : decode m_Reckoner_push.2.1 21 = .ok (.getfield 15, 3) := by decide +kernel
theorem d_Reckoner_push_24 : decode m_Reckoner_push.2.1 24 = .ok (.iconst 1, 1) := by decide +kernel
theorem d_Reckoner_push_25 : decode m_Reckoner_push.2.1 25 = .ok (.iadd, 1) := by decide +kernel
theorem d_Reckoner_push_26 : decode m_Reckoner_push.2.1 26 = .ok (.putfield 15, 3) := by decide +kernel
theorem d_Reckoner_push_29 : decode m_Reckoner_push.2.1 29 = .ok (.return_, 1) := by decide +kernel
def f_Reckoner_push (S : St) (l1 : Int32) : Option (St) :=
    if (64 : Int32) ≤ (S 40 2) then (
    some S)
    else (
    if ig (S 40 2) 64 then (
    (some (sF S 41 (S 40 2).toNatClampNeg l1)).bind fun S_18 =>
    (some (sF S_18 40 2 ((S_18 40 2) + 1))).bind fun S_26 =>
    some S_26) else none)
set_option maxHeartbeats 4000000 in
set_option maxRecDepth 20000 in
theorem t_Reckoner_push  {S : St} {l1 : Int32} {w : St} (h : f_Reckoner_push S l1 = some w) : Ct SX m_Reckoner_push 1 [.ref 40, .int l1] S none w := by
  unfold f_Reckoner_push at h
  refine Ct.of pn_Reckoner (Nat.le_of_ble_eq_true rfl) ?_
  show G SX m_Reckoner_push 1 none w 0 [(0, .ref 40), (1, .int l1)] [] S
  refine G_aload_n 0 rfl d_Reckoner_push_0 ?_
  refine G_getI fl_Reckoner_15 kx_40 sx_40 rfl d_Reckoner_push_1 ?_
  refine G_bipush 64 (by decide) d_Reckoner_push_4 ?_
  refine G_icmp_ge 29 (by decide) d_Reckoner_push_6 (fun c_6 => ?_) (fun c_6 => ?_)
  · replace h := ob_t h c_6
    cases h
    exact G_vret rfl d_Reckoner_push_29
  · replace h := ob_f h c_6
    refine G_aload_n 0 rfl d_Reckoner_push_9 ?_
    refine G_getR fl_Reckoner_11 kx_40 sx_40 rfl (by decide) d_Reckoner_push_10 ?_
    refine G_aload_n 0 rfl d_Reckoner_push_13 ?_
    refine G_getI fl_Reckoner_15 kx_40 sx_40 rfl d_Reckoner_push_14 ?_
    refine G_iload_n 1 rfl d_Reckoner_push_17 ?_
    obtain ⟨g_18, h⟩ := ob_g h
    obtain ⟨S_18, e_18, h⟩ := ob_s h
    refine G_iastore e_18 kx_41 sx_41 g_18 d_Reckoner_push_18 ?_
    refine G_aload_n 0 rfl d_Reckoner_push_19 ?_
    refine G_dup rfl d_Reckoner_push_20 ?_
    refine G_getI fl_Reckoner_15 kx_40 sx_40 rfl d_Reckoner_push_21 ?_
    refine G_iconst 1 (by decide) d_Reckoner_push_24 ?_
    refine G_iadd d_Reckoner_push_25 ?_
    obtain ⟨S_26, e_26, h⟩ := ob_s h
    refine G_putI e_26 fp_Reckoner_15 kx_40 sx_40 rfl d_Reckoner_push_26 ?_
    cases h
    exact G_vret rfl d_Reckoner_push_29
theorem d_Reckoner_fact_0 : decode m_Reckoner_fact.2.1 0 = .ok (.aload_n 0, 1) := by decide +kernel
theorem d_Reckoner_fact_1 : decode m_Reckoner_fact.2.1 1 = .ok (.getfield 33, 3) := by decide +kernel
theorem d_Reckoner_fact_4 : decode m_Reckoner_fact.2.1 4 = .ok (.aload_n 0, 1) := by decide +kernel
theorem d_Reckoner_fact_5 : decode m_Reckoner_fact.2.1 5 = .ok (.getfield 23, 3) := by decide +kernel
theorem d_Reckoner_fact_8 : decode m_Reckoner_fact.2.1 8 = .ok (.invokevirtual 88, 3) := by decide +kernel
theorem d_Reckoner_fact_11 : decode m_Reckoner_fact.2.1 11 = .ok (.ifCond .ne 5, 3) := by decide +kernel
theorem d_Reckoner_fact_14 : decode m_Reckoner_fact.2.1 14 = .ok (.iconst 0, 1) := by decide +kernel
theorem d_Reckoner_fact_15 : decode m_Reckoner_fact.2.1 15 = .ok (.ireturn, 1) := by decide +kernel
theorem d_Reckoner_fact_16 : decode m_Reckoner_fact.2.1 16 = .ok (.iload_n 1, 1) := by decide +kernel
theorem d_Reckoner_fact_17 : decode m_Reckoner_fact.2.1 17 = .ok (.tableswitch 170 105 116 #[107, 170, 63, 94, 127, 81, 147, 68, 170, 170, 170, 159], 63) := by decide +kernel
theorem d_Reckoner_fact_80 : decode m_Reckoner_fact.2.1 80 = .ok (.aload_n 0, 1) := by decide +kernel
theorem d_Reckoner_fact_81 : decode m_Reckoner_fact.2.1 81 = .ok (.getfield 23, 3) := by decide +kernel
theorem d_Reckoner_fact_84 : decode m_Reckoner_fact.2.1 84 = .ok (.ireturn, 1) := by decide +kernel
theorem d_Reckoner_fact_85 : decode m_Reckoner_fact.2.1 85 = .ok (.aload_n 0, 1) := by decide +kernel
theorem d_Reckoner_fact_86 : decode m_Reckoner_fact.2.1 86 = .ok (.getfield 33, 3) := by decide +kernel
theorem d_Reckoner_fact_89 : decode m_Reckoner_fact.2.1 89 = .ok (.getfield 94, 3) := by decide +kernel
theorem d_Reckoner_fact_92 : decode m_Reckoner_fact.2.1 92 = .ok (.aload_n 0, 1) := by decide +kernel
theorem d_Reckoner_fact_93 : decode m_Reckoner_fact.2.1 93 = .ok (.getfield 23, 3) := by decide +kernel
theorem d_Reckoner_fact_96 : decode m_Reckoner_fact.2.1 96 = .ok (.iaload, 1) := by decide +kernel
theorem d_Reckoner_fact_97 : decode m_Reckoner_fact.2.1 97 = .ok (.ireturn, 1) := by decide +kernel
theorem d_Reckoner_fact_98 : decode m_Reckoner_fact.2.1 98 = .ok (.aload_n 0, 1) := by decide +kernel
theorem d_Reckoner_fact_99 : decode m_Reckoner_fact.2.1 99 = .ok (.getfield 33, 3) := by decide +kernel
theorem d_Reckoner_fact_102 : decode m_Reckoner_fact.2.1 102 = .ok (.getfield 97, 3) := by decide +kernel
theorem d_Reckoner_fact_105 : decode m_Reckoner_fact.2.1 105 = .ok (.aload_n 0, 1) := by decide +kernel
theorem d_Reckoner_fact_106 : decode m_Reckoner_fact.2.1 106 = .ok (.getfield 23, 3) := by decide +kernel
theorem d_Reckoner_fact_109 : decode m_Reckoner_fact.2.1 109 = .ok (.iaload, 1) := by decide +kernel
theorem d_Reckoner_fact_110 : decode m_Reckoner_fact.2.1 110 = .ok (.ireturn, 1) := by decide +kernel
theorem d_Reckoner_fact_111 : decode m_Reckoner_fact.2.1 111 = .ok (.aload_n 0, 1) := by decide +kernel
theorem d_Reckoner_fact_112 : decode m_Reckoner_fact.2.1 112 = .ok (.getfield 33, 3) := by decide +kernel
theorem d_Reckoner_fact_115 : decode m_Reckoner_fact.2.1 115 = .ok (.getfield 100, 3) := by decide +kernel
theorem d_Reckoner_fact_118 : decode m_Reckoner_fact.2.1 118 = .ok (.aload_n 0, 1) := by decide +kernel
theorem d_Reckoner_fact_119 : decode m_Reckoner_fact.2.1 119 = .ok (.getfield 23, 3) := by decide +kernel
theorem d_Reckoner_fact_122 : decode m_Reckoner_fact.2.1 122 = .ok (.iaload, 1) := by decide +kernel
theorem d_Reckoner_fact_123 : decode m_Reckoner_fact.2.1 123 = .ok (.ireturn, 1) := by decide +kernel
theorem d_Reckoner_fact_124 : decode m_Reckoner_fact.2.1 124 = .ok (.aload_n 0, 1) := by decide +kernel
theorem d_Reckoner_fact_125 : decode m_Reckoner_fact.2.1 125 = .ok (.getfield 33, 3) := by decide +kernel
theorem d_Reckoner_fact_128 : decode m_Reckoner_fact.2.1 128 = .ok (.aload_n 0, 1) := by decide +kernel
theorem d_Reckoner_fact_129 : decode m_Reckoner_fact.2.1 129 = .ok (.getfield 23, 3) := by decide +kernel
theorem d_Reckoner_fact_132 : decode m_Reckoner_fact.2.1 132 = .ok (.invokevirtual 103, 3) := by decide +kernel
theorem d_Reckoner_fact_135 : decode m_Reckoner_fact.2.1 135 = .ok (.ifCond .eq 7, 3) := by decide +kernel
theorem d_Reckoner_fact_138 : decode m_Reckoner_fact.2.1 138 = .ok (.iconst 1, 1) := by decide +kernel
theorem d_Reckoner_fact_139 : decode m_Reckoner_fact.2.1 139 = .ok (.goto 4, 3) := by decide +kernel
theorem d_Reckoner_fact_142 : decode m_Reckoner_fact.2.1 142 = .ok (.iconst 0, 1) := by decide +kernel
theorem d_Reckoner_fact_143 : decode m_Reckoner_fact.2.1 143 = .ok (.ireturn, 1) := by decide +kernel
theorem d_Reckoner_fact_144 : decode m_Reckoner_fact.2.1 144 = .ok (.aload_n 0, 1) := by decide +kernel
theorem d_Reckoner_fact_145 : decode m_Reckoner_fact.2.1 145 = .ok (.getfield 33, 3) := by decide +kernel
theorem d_Reckoner_fact_148 : decode m_Reckoner_fact.2.1 148 = .ok (.aload_n 0, 1) := by decide +kernel
theorem d_Reckoner_fact_149 : decode m_Reckoner_fact.2.1 149 = .ok (.getfield 33, 3) := by decide +kernel
theorem d_Reckoner_fact_152 : decode m_Reckoner_fact.2.1 152 = .ok (.getfield 94, 3) := by decide +kernel
theorem d_Reckoner_fact_155 : decode m_Reckoner_fact.2.1 155 = .ok (.aload_n 0, 1) := by decide +kernel
theorem d_Reckoner_fact_156 : decode m_Reckoner_fact.2.1 156 = .ok (.getfield 23, 3) := by decide +kernel
theorem d_Reckoner_fact_159 : decode m_Reckoner_fact.2.1 159 = .ok (.iaload, 1) := by decide +kernel
theorem d_Reckoner_fact_160 : decode m_Reckoner_fact.2.1 160 = .ok (.invokevirtual 106, 3) := by decide +kernel
theorem d_Reckoner_fact_163 : decode m_Reckoner_fact.2.1 163 = .ok (.ireturn, 1) := by decide +kernel
theorem d_Reckoner_fact_164 : decode m_Reckoner_fact.2.1 164 = .ok (.aload_n 0, 1) := by decide +kernel
theorem d_Reckoner_fact_165 : decode m_Reckoner_fact.2.1 165 = .ok (.getfield 33, 3) := by decide +kernel
theorem d_Reckoner_fact_168 : decode m_Reckoner_fact.2.1 168 = .ok (.aload_n 0, 1) := by decide +kernel
theorem d_Reckoner_fact_169 : decode m_Reckoner_fact.2.1 169 = .ok (.getfield 23, 3) := by decide +kernel
theorem d_Reckoner_fact_172 : decode m_Reckoner_fact.2.1 172 = .ok (.invokevirtual 109, 3) := by decide +kernel
theorem d_Reckoner_fact_175 : decode m_Reckoner_fact.2.1 175 = .ok (.ireturn, 1) := by decide +kernel
theorem d_Reckoner_fact_176 : decode m_Reckoner_fact.2.1 176 = .ok (.aload_n 0, 1) := by decide +kernel
theorem d_Reckoner_fact_177 : decode m_Reckoner_fact.2.1 177 = .ok (.getfield 33, 3) := by decide +kernel
theorem d_Reckoner_fact_180 : decode m_Reckoner_fact.2.1 180 = .ok (.getfield 112, 3) := by decide +kernel
theorem d_Reckoner_fact_183 : decode m_Reckoner_fact.2.1 183 = .ok (.bipush 100, 2) := by decide +kernel
theorem d_Reckoner_fact_185 : decode m_Reckoner_fact.2.1 185 = .ok (.irem, 1) := by decide +kernel
theorem d_Reckoner_fact_186 : decode m_Reckoner_fact.2.1 186 = .ok (.ireturn, 1) := by decide +kernel
theorem d_Reckoner_fact_187 : decode m_Reckoner_fact.2.1 187 = .ok (.aload_n 0, 1) := by decide +kernel
theorem d_Reckoner_fact_188 : decode m_Reckoner_fact.2.1 188 = .ok (.getfield 26, 3) := by decide +kernel
theorem d_Reckoner_fact_191 : decode m_Reckoner_fact.2.1 191 = .ok (.ireturn, 1) := by decide +kernel
def f_Reckoner_fact (S : St) (l1 : Int32) : Option (Int32) :=
    (some (S 40 4).toNatClampNeg).bind fun P_1 =>
    if isP P_1 then (
    (f_Parish_has S P_1 (S 40 5)).bind fun v_8 =>
    if v_8 = 0 then (
    some (0 : Int32))
    else (
    if l1 = 105 then (
    (some (S 40 4).toNatClampNeg).bind fun P_125 =>
    if isP P_125 then (
    (f_Parish_isLit S P_125 (S 40 5)).bind fun v_132 =>
    if v_132 = 0 then (
    some (0 : Int32))
    else (
    some (1 : Int32))) else none)
    else if l1 = 107 then (
    some (S 40 5))
    else if l1 = 108 then (
    (some (S 40 4).toNatClampNeg).bind fun P_112 =>
    if isP P_112 then (
    if ig (S 40 5) 24 then (
    some (S (P_112 + 3) (S 40 5).toNatClampNeg)) else none) else none)
    else if l1 = 109 then (
    (some (S 40 4).toNatClampNeg).bind fun P_145 =>
    if isP P_145 then (
    (some (S 40 4).toNatClampNeg).bind fun P_149 =>
    if isP P_149 then (
    if ig (S 40 5) 24 then (
    (f_Parish_leftOf S P_145 (S (P_149 + 1) (S 40 5).toNatClampNeg)).bind fun v_160 =>
    some v_160) else none) else none) else none)
    else if l1 = 110 then (
    (some (S 40 4).toNatClampNeg).bind fun P_99 =>
    if isP P_99 then (
    if ig (S 40 5) 24 then (
    some (S (P_99 + 4) (S 40 5).toNatClampNeg)) else none) else none)
    else if l1 = 111 then (
    (some (S 40 4).toNatClampNeg).bind fun P_165 =>
    if isP P_165 then (
    (f_Parish_waitersFor S P_165 (S 40 5)).bind fun v_172 =>
    some v_172) else none)
    else if l1 = 112 then (
    (some (S 40 4).toNatClampNeg).bind fun P_86 =>
    if isP P_86 then (
    if ig (S 40 5) 24 then (
    some (S (P_86 + 1) (S 40 5).toNatClampNeg)) else none) else none)
    else if l1 = 116 then (
    (some (S 40 4).toNatClampNeg).bind fun P_177 =>
    if isP P_177 then (
    some (jrem (S P_177 8) 100)) else none)
    else (
    some (S 40 6)))) else none
set_option maxHeartbeats 4000000 in
set_option maxRecDepth 20000 in
theorem t_Reckoner_fact  {S : St} {l1 : Int32} {w : Int32} (h : f_Reckoner_fact S l1 = some w) : Ct SX m_Reckoner_fact 3 [.ref 40, .int l1] S (some w) S := by
  unfold f_Reckoner_fact at h
  refine Ct.of pn_Reckoner (Nat.le_of_ble_eq_true rfl) ?_
  show G SX m_Reckoner_fact 3 (some w) S 0 [(0, .ref 40), (1, .int l1)] [] S
  refine G_aload_n 0 rfl d_Reckoner_fact_0 ?_
  obtain ⟨P_1, e_1, h⟩ := ob_s h
  obtain ⟨hP_1, h⟩ := ob_g h
  refine G_getM e_1 fl_Reckoner_33 kx_40 sx_40 rfl d_Reckoner_fact_1 ?_
  refine G_aload_n 0 rfl d_Reckoner_fact_4 ?_
  refine G_getI fl_Reckoner_23 kx_40 sx_40 rfl d_Reckoner_fact_5 ?_
  obtain ⟨v_8, q_8, h⟩ := ob_b h
  refine G_callV [.int (S 40 5)] [] (t_Parish_has hP_1 q_8) (by decide) (by decide) mv_Parish_has rfl ml_Reckoner_88 (kP hP_1) (sP hP_1) cl_2 rfl (Nat.le_of_ble_eq_true rfl) d_Reckoner_fact_8 ?_
  refine G_if_ne 16 (by decide) d_Reckoner_fact_11 (fun c_11 => ?_) (fun c_11 => ?_)
  · replace h := ob_f h c_11
    refine G_iload_n 1 rfl d_Reckoner_fact_16 ?_
    by_cases c_17_0 : l1 = 105
    · replace h := ob_t h c_17_0
      refine G_tin (105) (by rw [c_17_0]; decide) 124 (by decide) (by decide) rfl (by decide) d_Reckoner_fact_17 ?_
      refine G_aload_n 0 rfl d_Reckoner_fact_124 ?_
      obtain ⟨P_125, e_125, h⟩ := ob_s h
      obtain ⟨hP_125, h⟩ := ob_g h
      refine G_getM e_125 fl_Reckoner_33 kx_40 sx_40 rfl d_Reckoner_fact_125 ?_
      refine G_aload_n 0 rfl d_Reckoner_fact_128 ?_
      refine G_getI fl_Reckoner_23 kx_40 sx_40 rfl d_Reckoner_fact_129 ?_
      obtain ⟨v_132, q_132, h⟩ := ob_b h
      refine G_callV [.int (S 40 5)] [] (t_Parish_isLit hP_125 q_132) (by decide) (by decide) mv_Parish_isLit rfl ml_Reckoner_103 (kP hP_125) (sP hP_125) cl_2 rfl (Nat.le_of_ble_eq_true rfl) d_Reckoner_fact_132 ?_
      refine G_if_eq 142 (by decide) d_Reckoner_fact_135 (fun c_135 => ?_) (fun c_135 => ?_)
      · replace h := ob_t h c_135
        refine G_iconst 0 (by decide) d_Reckoner_fact_142 ?_
        cases h
        exact G_iret rfl d_Reckoner_fact_143
      · replace h := ob_f h c_135
        refine G_iconst 1 (by decide) d_Reckoner_fact_138 ?_
        refine G_goto 143 (by decide) d_Reckoner_fact_139 ?_
        cases h
        exact G_iret rfl d_Reckoner_fact_143
    replace h := ob_f h c_17_0
    by_cases c_17_1 : l1 = 107
    · replace h := ob_t h c_17_1
      refine G_tin (107) (by rw [c_17_1]; decide) 80 (by decide) (by decide) rfl (by decide) d_Reckoner_fact_17 ?_
      refine G_aload_n 0 rfl d_Reckoner_fact_80 ?_
      refine G_getI fl_Reckoner_23 kx_40 sx_40 rfl d_Reckoner_fact_81 ?_
      cases h
      exact G_iret rfl d_Reckoner_fact_84
    replace h := ob_f h c_17_1
    by_cases c_17_2 : l1 = 108
    · replace h := ob_t h c_17_2
      refine G_tin (108) (by rw [c_17_2]; decide) 111 (by decide) (by decide) rfl (by decide) d_Reckoner_fact_17 ?_
      refine G_aload_n 0 rfl d_Reckoner_fact_111 ?_
      obtain ⟨P_112, e_112, h⟩ := ob_s h
      obtain ⟨hP_112, h⟩ := ob_g h
      refine G_getM e_112 fl_Reckoner_33 kx_40 sx_40 rfl d_Reckoner_fact_112 ?_
      refine G_getR fl_Reckoner_100 (kP hP_112) (sP hP_112) rfl (qP3 hP_112) d_Reckoner_fact_115 ?_
      refine G_aload_n 0 rfl d_Reckoner_fact_118 ?_
      refine G_getI fl_Reckoner_23 kx_40 sx_40 rfl d_Reckoner_fact_119 ?_
      obtain ⟨g_122, h⟩ := ob_g h
      refine G_iaload (kPa3 hP_112) (sPa3 hP_112) g_122 d_Reckoner_fact_122 ?_
      cases h
      exact G_iret rfl d_Reckoner_fact_123
    replace h := ob_f h c_17_2
    by_cases c_17_3 : l1 = 109
    · replace h := ob_t h c_17_3
      refine G_tin (109) (by rw [c_17_3]; decide) 144 (by decide) (by decide) rfl (by decide) d_Reckoner_fact_17 ?_
      refine G_aload_n 0 rfl d_Reckoner_fact_144 ?_
      obtain ⟨P_145, e_145, h⟩ := ob_s h
      obtain ⟨hP_145, h⟩ := ob_g h
      refine G_getM e_145 fl_Reckoner_33 kx_40 sx_40 rfl d_Reckoner_fact_145 ?_
      refine G_aload_n 0 rfl d_Reckoner_fact_148 ?_
      obtain ⟨P_149, e_149, h⟩ := ob_s h
      obtain ⟨hP_149, h⟩ := ob_g h
      refine G_getM e_149 fl_Reckoner_33 kx_40 sx_40 rfl d_Reckoner_fact_149 ?_
      refine G_getR fl_Reckoner_94 (kP hP_149) (sP hP_149) rfl (qP1 hP_149) d_Reckoner_fact_152 ?_
      refine G_aload_n 0 rfl d_Reckoner_fact_155 ?_
      refine G_getI fl_Reckoner_23 kx_40 sx_40 rfl d_Reckoner_fact_156 ?_
      obtain ⟨g_159, h⟩ := ob_g h
      refine G_iaload (kPa1 hP_149) (sPa1 hP_149) g_159 d_Reckoner_fact_159 ?_
      obtain ⟨v_160, q_160, h⟩ := ob_b h
      refine G_callV [.int (S (P_149 + 1) (S 40 5).toNatClampNeg)] [] (t_Parish_leftOf hP_145 q_160) (by decide) (by decide) mv_Parish_leftOf rfl ml_Reckoner_106 (kP hP_145) (sP hP_145) cl_2 rfl (Nat.le_of_ble_eq_true rfl) d_Reckoner_fact_160 ?_
      cases h
      exact G_iret rfl d_Reckoner_fact_163
    replace h := ob_f h c_17_3
    by_cases c_17_4 : l1 = 110
    · replace h := ob_t h c_17_4
      refine G_tin (110) (by rw [c_17_4]; decide) 98 (by decide) (by decide) rfl (by decide) d_Reckoner_fact_17 ?_
      refine G_aload_n 0 rfl d_Reckoner_fact_98 ?_
      obtain ⟨P_99, e_99, h⟩ := ob_s h
      obtain ⟨hP_99, h⟩ := ob_g h
      refine G_getM e_99 fl_Reckoner_33 kx_40 sx_40 rfl d_Reckoner_fact_99 ?_
      refine G_getR fl_Reckoner_97 (kP hP_99) (sP hP_99) rfl (qP4 hP_99) d_Reckoner_fact_102 ?_
      refine G_aload_n 0 rfl d_Reckoner_fact_105 ?_
      refine G_getI fl_Reckoner_23 kx_40 sx_40 rfl d_Reckoner_fact_106 ?_
      obtain ⟨g_109, h⟩ := ob_g h
      refine G_iaload (kPa4 hP_99) (sPa4 hP_99) g_109 d_Reckoner_fact_109 ?_
      cases h
      exact G_iret rfl d_Reckoner_fact_110
    replace h := ob_f h c_17_4
    by_cases c_17_5 : l1 = 111
    · replace h := ob_t h c_17_5
      refine G_tin (111) (by rw [c_17_5]; decide) 164 (by decide) (by decide) rfl (by decide) d_Reckoner_fact_17 ?_
      refine G_aload_n 0 rfl d_Reckoner_fact_164 ?_
      obtain ⟨P_165, e_165, h⟩ := ob_s h
      obtain ⟨hP_165, h⟩ := ob_g h
      refine G_getM e_165 fl_Reckoner_33 kx_40 sx_40 rfl d_Reckoner_fact_165 ?_
      refine G_aload_n 0 rfl d_Reckoner_fact_168 ?_
      refine G_getI fl_Reckoner_23 kx_40 sx_40 rfl d_Reckoner_fact_169 ?_
      obtain ⟨v_172, q_172, h⟩ := ob_b h
      refine G_callV [.int (S 40 5)] [] (t_Parish_waitersFor hP_165 q_172) (by decide) (by decide) mv_Parish_waitersFor rfl ml_Reckoner_109 (kP hP_165) (sP hP_165) cl_2 rfl (Nat.le_of_ble_eq_true rfl) d_Reckoner_fact_172 ?_
      cases h
      exact G_iret rfl d_Reckoner_fact_175
    replace h := ob_f h c_17_5
    by_cases c_17_6 : l1 = 112
    · replace h := ob_t h c_17_6
      refine G_tin (112) (by rw [c_17_6]; decide) 85 (by decide) (by decide) rfl (by decide) d_Reckoner_fact_17 ?_
      refine G_aload_n 0 rfl d_Reckoner_fact_85 ?_
      obtain ⟨P_86, e_86, h⟩ := ob_s h
      obtain ⟨hP_86, h⟩ := ob_g h
      refine G_getM e_86 fl_Reckoner_33 kx_40 sx_40 rfl d_Reckoner_fact_86 ?_
      refine G_getR fl_Reckoner_94 (kP hP_86) (sP hP_86) rfl (qP1 hP_86) d_Reckoner_fact_89 ?_
      refine G_aload_n 0 rfl d_Reckoner_fact_92 ?_
      refine G_getI fl_Reckoner_23 kx_40 sx_40 rfl d_Reckoner_fact_93 ?_
      obtain ⟨g_96, h⟩ := ob_g h
      refine G_iaload (kPa1 hP_86) (sPa1 hP_86) g_96 d_Reckoner_fact_96 ?_
      cases h
      exact G_iret rfl d_Reckoner_fact_97
    replace h := ob_f h c_17_6
    by_cases c_17_7 : l1 = 116
    · replace h := ob_t h c_17_7
      refine G_tin (116) (by rw [c_17_7]; decide) 176 (by decide) (by decide) rfl (by decide) d_Reckoner_fact_17 ?_
      refine G_aload_n 0 rfl d_Reckoner_fact_176 ?_
      obtain ⟨P_177, e_177, h⟩ := ob_s h
      obtain ⟨hP_177, h⟩ := ob_g h
      refine G_getM e_177 fl_Reckoner_33 kx_40 sx_40 rfl d_Reckoner_fact_177 ?_
      refine G_getI fl_Reckoner_112 (kP hP_177) (sP hP_177) rfl d_Reckoner_fact_180 ?_
      refine G_bipush 100 (by decide) d_Reckoner_fact_183 ?_
      refine G_irem (by decide) d_Reckoner_fact_185 ?_
      cases h
      exact G_iret rfl d_Reckoner_fact_186
    replace h := ob_f h c_17_7
    by_cases c_17_h106 : l1 = 106
    · refine G_tin (106) (by rw [c_17_h106]; decide) 187 (by decide) (by decide) rfl (by decide) d_Reckoner_fact_17 ?_
      refine G_aload_n 0 rfl d_Reckoner_fact_187 ?_
      refine G_getI fl_Reckoner_26 kx_40 sx_40 rfl d_Reckoner_fact_188 ?_
      cases h
      exact G_iret rfl d_Reckoner_fact_191
    by_cases c_17_h113 : l1 = 113
    · refine G_tin (113) (by rw [c_17_h113]; decide) 187 (by decide) (by decide) rfl (by decide) d_Reckoner_fact_17 ?_
      refine G_aload_n 0 rfl d_Reckoner_fact_187 ?_
      refine G_getI fl_Reckoner_26 kx_40 sx_40 rfl d_Reckoner_fact_188 ?_
      cases h
      exact G_iret rfl d_Reckoner_fact_191
    by_cases c_17_h114 : l1 = 114
    · refine G_tin (114) (by rw [c_17_h114]; decide) 187 (by decide) (by decide) rfl (by decide) d_Reckoner_fact_17 ?_
      refine G_aload_n 0 rfl d_Reckoner_fact_187 ?_
      refine G_getI fl_Reckoner_26 kx_40 sx_40 rfl d_Reckoner_fact_188 ?_
      cases h
      exact G_iret rfl d_Reckoner_fact_191
    by_cases c_17_h115 : l1 = 115
    · refine G_tin (115) (by rw [c_17_h115]; decide) 187 (by decide) (by decide) rfl (by decide) d_Reckoner_fact_17 ?_
      refine G_aload_n 0 rfl d_Reckoner_fact_187 ?_
      refine G_getI fl_Reckoner_26 kx_40 sx_40 rfl d_Reckoner_fact_188 ?_
      cases h
      exact G_iret rfl d_Reckoner_fact_191
    have n_17_0 := lv_neT c_17_0 (a := 105) (by decide)
    have n_17_1 := lv_neT c_17_1 (a := 107) (by decide)
    have n_17_2 := lv_neT c_17_2 (a := 108) (by decide)
    have n_17_3 := lv_neT c_17_3 (a := 109) (by decide)
    have n_17_4 := lv_neT c_17_4 (a := 110) (by decide)
    have n_17_5 := lv_neT c_17_5 (a := 111) (by decide)
    have n_17_6 := lv_neT c_17_6 (a := 112) (by decide)
    have n_17_7 := lv_neT c_17_7 (a := 116) (by decide)
    have n_17_h106 := lv_neT c_17_h106 (a := 106) (by decide)
    have n_17_h113 := lv_neT c_17_h113 (a := 113) (by decide)
    have n_17_h114 := lv_neT c_17_h114 (a := 114) (by decide)
    have n_17_h115 := lv_neT c_17_h115 (a := 115) (by decide)
    refine G_tout (by omega) 187 (by decide) d_Reckoner_fact_17 ?_
    refine G_aload_n 0 rfl d_Reckoner_fact_187 ?_
    refine G_getI fl_Reckoner_26 kx_40 sx_40 rfl d_Reckoner_fact_188 ?_
    cases h
    exact G_iret rfl d_Reckoner_fact_191
  · replace h := ob_t h c_11
    refine G_iconst 0 (by decide) d_Reckoner_fact_14 ?_
    cases h
    exact G_iret rfl d_Reckoner_fact_15
theorem d_Reckoner_pop_0 : decode m_Reckoner_pop.2.1 0 = .ok (.aload_n 0, 1) := by decide +kernel
theorem d_Reckoner_pop_1 : decode m_Reckoner_pop.2.1 1 = .ok (.getfield 15, 3) := by decide +kernel
theorem d_Reckoner_pop_4 : decode m_Reckoner_pop.2.1 4 = .ok (.ifCond .gt 5, 3) := by decide +kernel
theorem d_Reckoner_pop_7 : decode m_Reckoner_pop.2.1 7 = .ok (.iconst 0, 1) := by decide +kernel
theorem d_Reckoner_pop_8 : decode m_Reckoner_pop.2.1 8 = .ok (.ireturn, 1) := by decide +kernel
theorem d_Reckoner_pop_9 : decode m_Reckoner_pop.2.1 9 = .ok (.aload_n 0, 1) := by decide +kernel
theorem d_Reckoner_pop_10 : decode m_Reckoner_pop.2.1 10 = .ok (.dup, 1) := by decide +kernel
theorem d_Reckoner_pop_11 : decode m_Reckoner_pop.2.1 11 = .ok (.getfield 15, 3) := by decide +kernel
theorem d_Reckoner_pop_14 : decode m_Reckoner_pop.2.1 14 = .ok (.iconst 1, 1) := by decide +kernel
theorem d_Reckoner_pop_15 : decode m_Reckoner_pop.2.1 15 = .ok (.isub, 1) := by decide +kernel
theorem d_Reckoner_pop_16 : decode m_Reckoner_pop.2.1 16 = .ok (.putfield 15, 3) := by decide +kernel
theorem d_Reckoner_pop_19 : decode m_Reckoner_pop.2.1 19 = .ok (.aload_n 0, 1) := by decide +kernel
theorem d_Reckoner_pop_20 : decode m_Reckoner_pop.2.1 20 = .ok (.getfield 11, 3) := by decide +kernel
theorem d_Reckoner_pop_23 : decode m_Reckoner_pop.2.1 23 = .ok (.aload_n 0, 1) := by decide +kernel
theorem d_Reckoner_pop_24 : decode m_Reckoner_pop.2.1 24 = .ok (.getfield 15, 3) := by decide +kernel
theorem d_Reckoner_pop_27 : decode m_Reckoner_pop.2.1 27 = .ok (.iaload, 1) := by decide +kernel
theorem d_Reckoner_pop_28 : decode m_Reckoner_pop.2.1 28 = .ok (.ireturn, 1) := by decide +kernel
def f_Reckoner_pop (S : St) : Option (Int32 × St) :=
    if 0 < (S 40 2) then (
    (some (sF S 40 2 ((S 40 2) - 1))).bind fun S_16 =>
    if ig (S_16 40 2) 64 then (
    some ((S_16 41 (S_16 40 2).toNatClampNeg), S_16)) else none)
    else (
    some (0, S))
set_option maxHeartbeats 4000000 in
set_option maxRecDepth 20000 in
theorem t_Reckoner_pop  {S : St} {w : Int32 × St} (h : f_Reckoner_pop S = some w) : Ct SX m_Reckoner_pop 1 [.ref 40] S (some w.1) w.2 := by
  unfold f_Reckoner_pop at h
  refine Ct.of pn_Reckoner (Nat.le_of_ble_eq_true rfl) ?_
  show G SX m_Reckoner_pop 1 (some w.1) w.2 0 [(0, .ref 40)] [] S
  refine G_aload_n 0 rfl d_Reckoner_pop_0 ?_
  refine G_getI fl_Reckoner_15 kx_40 sx_40 rfl d_Reckoner_pop_1 ?_
  refine G_if_gt 9 (by decide) d_Reckoner_pop_4 (fun c_4 => ?_) (fun c_4 => ?_)
  · replace h := ob_t h c_4
    refine G_aload_n 0 rfl d_Reckoner_pop_9 ?_
    refine G_dup rfl d_Reckoner_pop_10 ?_
    refine G_getI fl_Reckoner_15 kx_40 sx_40 rfl d_Reckoner_pop_11 ?_
    refine G_iconst 1 (by decide) d_Reckoner_pop_14 ?_
    refine G_isub d_Reckoner_pop_15 ?_
    obtain ⟨S_16, e_16, h⟩ := ob_s h
    refine G_putI e_16 fp_Reckoner_15 kx_40 sx_40 rfl d_Reckoner_pop_16 ?_
    refine G_aload_n 0 rfl d_Reckoner_pop_19 ?_
    refine G_getR fl_Reckoner_11 kx_40 sx_40 rfl (by decide) d_Reckoner_pop_20 ?_
    refine G_aload_n 0 rfl d_Reckoner_pop_23 ?_
    refine G_getI fl_Reckoner_15 kx_40 sx_40 rfl d_Reckoner_pop_24 ?_
    obtain ⟨g_27, h⟩ := ob_g h
    refine G_iaload kx_41 sx_41 g_27 d_Reckoner_pop_27 ?_
    cases h
    exact G_iret rfl d_Reckoner_pop_28
  · replace h := ob_f h c_4
    refine G_iconst 0 (by decide) d_Reckoner_pop_7 ?_
    cases h
    exact G_iret rfl d_Reckoner_pop_8
theorem d_Reckoner_joined_0 : decode m_Reckoner_joined.2.1 0 = .ok (.iload_n 1, 1) := by decide +kernel
theorem d_Reckoner_joined_1 : decode m_Reckoner_joined.2.1 1 = .ok (.bipush 47, 2) := by decide +kernel
theorem d_Reckoner_joined_3 : decode m_Reckoner_joined.2.1 3 = .ok (.if_icmp .eq 9, 3) := by decide +kernel
theorem d_Reckoner_joined_6 : decode m_Reckoner_joined.2.1 6 = .ok (.iload_n 1, 1) := by decide +kernel
theorem d_Reckoner_joined_7 : decode m_Reckoner_joined.2.1 7 = .ok (.bipush 37, 2) := by decide +kernel
theorem d_Reckoner_joined_9 : decode m_Reckoner_joined.2.1 9 = .ok (.if_icmp .ne 14, 3) := by decide +kernel
theorem d_Reckoner_joined_12 : decode m_Reckoner_joined.2.1 12 = .ok (.iload_n 3, 1) := by decide +kernel
theorem d_Reckoner_joined_13 : decode m_Reckoner_joined.2.1 13 = .ok (.ifCond .ne 10, 3) := by decide +kernel
theorem d_Reckoner_joined_16 : decode m_Reckoner_joined.2.1 16 = .ok (.aload_n 0, 1) := by decide +kernel
theorem d_Reckoner_joined_17 : decode m_Reckoner_joined.2.1 17 = .ok (.iconst 1, 1) := by decide +kernel
theorem d_Reckoner_joined_18 : decode m_Reckoner_joined.2.1 18 = .ok (.putfield 19, 3) := by decide +kernel
theorem d_Reckoner_joined_21 : decode m_Reckoner_joined.2.1 21 = .ok (.iconst 0, 1) := by decide +kernel
theorem d_Reckoner_joined_22 : decode m_Reckoner_joined.2.1 22 = .ok (.ireturn, 1) := by decide +kernel
theorem d_Reckoner_joined_23 : decode m_Reckoner_joined.2.1 23 = .ok (.iload_n 1, 1) := by decide +kernel
theorem d_Reckoner_joined_24 : decode m_Reckoner_joined.2.1 24 = .ok (.lookupswitch 126 #[(37, 92), (42, 76), (43, 68), (45, 72), (47, 80), (60, 104), (62, 115)], 68) := by decide +kernel
theorem d_Reckoner_joined_92 : decode m_Reckoner_joined.2.1 92 = .ok (.iload_n 2, 1) := by decide +kernel
theorem d_Reckoner_joined_93 : decode m_Reckoner_joined.2.1 93 = .ok (.iload_n 3, 1) := by decide +kernel
theorem d_Reckoner_joined_94 : decode m_Reckoner_joined.2.1 94 = .ok (.iadd, 1) := by decide +kernel
theorem d_Reckoner_joined_95 : decode m_Reckoner_joined.2.1 95 = .ok (.ireturn, 1) := by decide +kernel
theorem d_Reckoner_joined_96 : decode m_Reckoner_joined.2.1 96 = .ok (.iload_n 2, 1) := by decide +kernel
theorem d_Reckoner_joined_97 : decode m_Reckoner_joined.2.1 97 = .ok (.iload_n 3, 1) := by decide +kernel
theorem d_Reckoner_joined_98 : decode m_Reckoner_joined.2.1 98 = .ok (.isub, 1) := by decide +kernel
theorem d_Reckoner_joined_99 : decode m_Reckoner_joined.2.1 99 = .ok (.ireturn, 1) := by decide +kernel
theorem d_Reckoner_joined_100 : decode m_Reckoner_joined.2.1 100 = .ok (.iload_n 2, 1) := by decide +kernel
theorem d_Reckoner_joined_101 : decode m_Reckoner_joined.2.1 101 = .ok (.iload_n 3, 1) := by decide +kernel
theorem d_Reckoner_joined_102 : decode m_Reckoner_joined.2.1 102 = .ok (.imul, 1) := by decide +kernel
theorem d_Reckoner_joined_103 : decode m_Reckoner_joined.2.1 103 = .ok (.ireturn, 1) := by decide +kernel
theorem d_Reckoner_joined_104 : decode m_Reckoner_joined.2.1 104 = .ok (.iload_n 3, 1) := by decide +kernel
theorem d_Reckoner_joined_105 : decode m_Reckoner_joined.2.1 105 = .ok (.ifCond .ne 7, 3) := by decide +kernel
theorem d_Reckoner_joined_108 : decode m_Reckoner_joined.2.1 108 = .ok (.iconst 0, 1) := by decide +kernel
theorem d_Reckoner_joined_109 : decode m_Reckoner_joined.2.1 109 = .ok (.goto 6, 3) := by decide +kernel
theorem d_Reckoner_joined_112 : decode m_Reckoner_joined.2.1 112 = .ok (.iload_n 2, 1) := by decide +kernel
theorem d_Reckoner_joined_113 : decode m_Reckoner_joined.2.1 113 = .ok (.iload_n 3, 1) := by decide +kernel
theorem d_Reckoner_joined_114 : decode m_Reckoner_joined.2.1 114 = .ok (.idiv, 1) := by decide +kernel
theorem d_Reckoner_joined_115 : decode m_Reckoner_joined.2.1 115 = .ok (.ireturn, 1) := by decide +kernel
theorem d_Reckoner_joined_116 : decode m_Reckoner_joined.2.1 116 = .ok (.iload_n 3, 1) := by decide +kernel
theorem d_Reckoner_joined_117 : decode m_Reckoner_joined.2.1 117 = .ok (.ifCond .ne 7, 3) := by decide +kernel
theorem d_Reckoner_joined_120 : decode m_Reckoner_joined.2.1 120 = .ok (.iconst 0, 1) := by decide +kernel
theorem d_Reckoner_joined_121 : decode m_Reckoner_joined.2.1 121 = .ok (.goto 6, 3) := by decide +kernel
theorem d_Reckoner_joined_124 : decode m_Reckoner_joined.2.1 124 = .ok (.iload_n 2, 1) := by decide +kernel
theorem d_Reckoner_joined_125 : decode m_Reckoner_joined.2.1 125 = .ok (.iload_n 3, 1) := by decide +kernel
theorem d_Reckoner_joined_126 : decode m_Reckoner_joined.2.1 126 = .ok (.irem, 1) := by decide +kernel
theorem d_Reckoner_joined_127 : decode m_Reckoner_joined.2.1 127 = .ok (.ireturn, 1) := by decide +kernel
theorem d_Reckoner_joined_128 : decode m_Reckoner_joined.2.1 128 = .ok (.iload_n 2, 1) := by decide +kernel
theorem d_Reckoner_joined_129 : decode m_Reckoner_joined.2.1 129 = .ok (.iload_n 3, 1) := by decide +kernel
theorem d_Reckoner_joined_130 : decode m_Reckoner_joined.2.1 130 = .ok (.if_icmp .ge 7, 3) := by decide +kernel
theorem d_Reckoner_joined_133 : decode m_Reckoner_joined.2.1 133 = .ok (.iconst 1, 1) := by decide +kernel
theorem d_Reckoner_joined_134 : decode m_Reckoner_joined.2.1 134 = .ok (.goto 4, 3) := by decide +kernel
theorem d_Reckoner_joined_137 : decode m_Reckoner_joined.2.1 137 = .ok (.iconst 0, 1) := by decide +kernel
theorem d_Reckoner_joined_138 : decode m_Reckoner_joined.2.1 138 = .ok (.ireturn, 1) := by decide +kernel
theorem d_Reckoner_joined_139 : decode m_Reckoner_joined.2.1 139 = .ok (.iload_n 2, 1) := by decide +kernel
theorem d_Reckoner_joined_140 : decode m_Reckoner_joined.2.1 140 = .ok (.iload_n 3, 1) := by decide +kernel
theorem d_Reckoner_joined_141 : decode m_Reckoner_joined.2.1 141 = .ok (.if_icmp .le 7, 3) := by decide +kernel
theorem d_Reckoner_joined_144 : decode m_Reckoner_joined.2.1 144 = .ok (.iconst 1, 1) := by decide +kernel
theorem d_Reckoner_joined_145 : decode m_Reckoner_joined.2.1 145 = .ok (.goto 4, 3) := by decide +kernel
theorem d_Reckoner_joined_148 : decode m_Reckoner_joined.2.1 148 = .ok (.iconst 0, 1) := by decide +kernel
theorem d_Reckoner_joined_149 : decode m_Reckoner_joined.2.1 149 = .ok (.ireturn, 1) := by decide +kernel
theorem d_Reckoner_joined_150 : decode m_Reckoner_joined.2.1 150 = .ok (.iload_n 2, 1) := by decide +kernel
theorem d_Reckoner_joined_151 : decode m_Reckoner_joined.2.1 151 = .ok (.iload_n 3, 1) := by decide +kernel
theorem d_Reckoner_joined_152 : decode m_Reckoner_joined.2.1 152 = .ok (.if_icmp .ne 7, 3) := by decide +kernel
theorem d_Reckoner_joined_155 : decode m_Reckoner_joined.2.1 155 = .ok (.iconst 1, 1) := by decide +kernel
theorem d_Reckoner_joined_156 : decode m_Reckoner_joined.2.1 156 = .ok (.goto 4, 3) := by decide +kernel
theorem d_Reckoner_joined_159 : decode m_Reckoner_joined.2.1 159 = .ok (.iconst 0, 1) := by decide +kernel
theorem d_Reckoner_joined_160 : decode m_Reckoner_joined.2.1 160 = .ok (.ireturn, 1) := by decide +kernel
def f_Reckoner_joined_23 (S : St) (l1 : Int32) (l2 : Int32) (l3 : Int32) : Option (Int32 × St) :=
    if l1 = 37 then (
    if l3 = 0 then (
    some (0, S))
    else (
    if ¬ (l3 = 0) then (
    some ((jrem l2 l3), S)) else none))
    else if l1 = 42 then (
    some ((l2 * l3), S))
    else if l1 = 43 then (
    some ((l2 + l3), S))
    else if l1 = 45 then (
    some ((l2 - l3), S))
    else if l1 = 47 then (
    if l3 = 0 then (
    some (0, S))
    else (
    if ¬ (l3 = 0) then (
    some ((l2 / l3), S)) else none))
    else if l1 = 60 then (
    if l3 ≤ l2 then (
    some (0, S))
    else (
    some (1, S)))
    else if l1 = 62 then (
    if l2 ≤ l3 then (
    some (0, S))
    else (
    some (1, S)))
    else (
    if l2 = l3 then (
    some (1, S))
    else (
    some (0, S)))
set_option maxHeartbeats 4000000 in
set_option maxRecDepth 20000 in
theorem t_Reckoner_joined_23  (S : St) (l1 : Int32) (l2 : Int32) (l3 : Int32) (w : Int32 × St) (h : f_Reckoner_joined_23 S l1 l2 l3 = some w) : G SX m_Reckoner_joined 1 (some w.1) w.2 23 [(0, .ref 40), (1, .int l1), (2, .int l2), (3, .int l3)] [] S := by
  unfold f_Reckoner_joined_23 at h
  refine G_iload_n 1 rfl d_Reckoner_joined_23 ?_
  by_cases c_24_0 : l1 = 37
  · replace h := ob_t h c_24_0
    refine G_look (off := 92) 116 (by decide) (by rw [c_24_0]; first | done | rfl) (by decide) d_Reckoner_joined_24 ?_
    refine G_iload_n 3 rfl d_Reckoner_joined_116 ?_
    refine G_if_ne 124 (by decide) d_Reckoner_joined_117 (fun c_117 => ?_) (fun c_117 => ?_)
    · replace h := ob_f h c_117
      refine G_iload_n 2 rfl d_Reckoner_joined_124 ?_
      refine G_iload_n 3 rfl d_Reckoner_joined_125 ?_
      obtain ⟨g_126, h⟩ := ob_g h
      refine G_irem g_126 d_Reckoner_joined_126 ?_
      cases h
      exact G_iret rfl d_Reckoner_joined_127
    · replace h := ob_t h c_117
      refine G_iconst 0 (by decide) d_Reckoner_joined_120 ?_
      refine G_goto 127 (by decide) d_Reckoner_joined_121 ?_
      cases h
      exact G_iret rfl d_Reckoner_joined_127
  replace h := ob_f h c_24_0
  by_cases c_24_1 : l1 = 42
  · replace h := ob_t h c_24_1
    refine G_look (off := 76) 100 (by decide) (by rw [c_24_1]; first | done | rfl) (by decide) d_Reckoner_joined_24 ?_
    refine G_iload_n 2 rfl d_Reckoner_joined_100 ?_
    refine G_iload_n 3 rfl d_Reckoner_joined_101 ?_
    refine G_imul d_Reckoner_joined_102 ?_
    cases h
    exact G_iret rfl d_Reckoner_joined_103
  replace h := ob_f h c_24_1
  by_cases c_24_2 : l1 = 43
  · replace h := ob_t h c_24_2
    refine G_look (off := 68) 92 (by decide) (by rw [c_24_2]; first | done | rfl) (by decide) d_Reckoner_joined_24 ?_
    refine G_iload_n 2 rfl d_Reckoner_joined_92 ?_
    refine G_iload_n 3 rfl d_Reckoner_joined_93 ?_
    refine G_iadd d_Reckoner_joined_94 ?_
    cases h
    exact G_iret rfl d_Reckoner_joined_95
  replace h := ob_f h c_24_2
  by_cases c_24_3 : l1 = 45
  · replace h := ob_t h c_24_3
    refine G_look (off := 72) 96 (by decide) (by rw [c_24_3]; first | done | rfl) (by decide) d_Reckoner_joined_24 ?_
    refine G_iload_n 2 rfl d_Reckoner_joined_96 ?_
    refine G_iload_n 3 rfl d_Reckoner_joined_97 ?_
    refine G_isub d_Reckoner_joined_98 ?_
    cases h
    exact G_iret rfl d_Reckoner_joined_99
  replace h := ob_f h c_24_3
  by_cases c_24_4 : l1 = 47
  · replace h := ob_t h c_24_4
    refine G_look (off := 80) 104 (by decide) (by rw [c_24_4]; first | done | rfl) (by decide) d_Reckoner_joined_24 ?_
    refine G_iload_n 3 rfl d_Reckoner_joined_104 ?_
    refine G_if_ne 112 (by decide) d_Reckoner_joined_105 (fun c_105 => ?_) (fun c_105 => ?_)
    · replace h := ob_f h c_105
      refine G_iload_n 2 rfl d_Reckoner_joined_112 ?_
      refine G_iload_n 3 rfl d_Reckoner_joined_113 ?_
      obtain ⟨g_114, h⟩ := ob_g h
      refine G_idiv g_114 d_Reckoner_joined_114 ?_
      cases h
      exact G_iret rfl d_Reckoner_joined_115
    · replace h := ob_t h c_105
      refine G_iconst 0 (by decide) d_Reckoner_joined_108 ?_
      refine G_goto 115 (by decide) d_Reckoner_joined_109 ?_
      cases h
      exact G_iret rfl d_Reckoner_joined_115
  replace h := ob_f h c_24_4
  by_cases c_24_5 : l1 = 60
  · replace h := ob_t h c_24_5
    refine G_look (off := 104) 128 (by decide) (by rw [c_24_5]; first | done | rfl) (by decide) d_Reckoner_joined_24 ?_
    refine G_iload_n 2 rfl d_Reckoner_joined_128 ?_
    refine G_iload_n 3 rfl d_Reckoner_joined_129 ?_
    refine G_icmp_ge 137 (by decide) d_Reckoner_joined_130 (fun c_130 => ?_) (fun c_130 => ?_)
    · replace h := ob_t h c_130
      refine G_iconst 0 (by decide) d_Reckoner_joined_137 ?_
      cases h
      exact G_iret rfl d_Reckoner_joined_138
    · replace h := ob_f h c_130
      refine G_iconst 1 (by decide) d_Reckoner_joined_133 ?_
      refine G_goto 138 (by decide) d_Reckoner_joined_134 ?_
      cases h
      exact G_iret rfl d_Reckoner_joined_138
  replace h := ob_f h c_24_5
  by_cases c_24_6 : l1 = 62
  · replace h := ob_t h c_24_6
    refine G_look (off := 115) 139 (by decide) (by rw [c_24_6]; first | done | rfl) (by decide) d_Reckoner_joined_24 ?_
    refine G_iload_n 2 rfl d_Reckoner_joined_139 ?_
    refine G_iload_n 3 rfl d_Reckoner_joined_140 ?_
    refine G_icmp_le 148 (by decide) d_Reckoner_joined_141 (fun c_141 => ?_) (fun c_141 => ?_)
    · replace h := ob_t h c_141
      refine G_iconst 0 (by decide) d_Reckoner_joined_148 ?_
      cases h
      exact G_iret rfl d_Reckoner_joined_149
    · replace h := ob_f h c_141
      refine G_iconst 1 (by decide) d_Reckoner_joined_144 ?_
      refine G_goto 149 (by decide) d_Reckoner_joined_145 ?_
      cases h
      exact G_iret rfl d_Reckoner_joined_149
  replace h := ob_f h c_24_6
  refine G_look (off := 126) 150 (by decide) (by show Op.lookupswitch.offset [(37, 92), (42, 76), (43, 68), (45, 72), (47, 80), (60, 104), (62, 115)] 126 _ = _; rw [lv_osw c_24_0 (a := 37) (by decide), lv_osw c_24_1 (a := 42) (by decide), lv_osw c_24_2 (a := 43) (by decide), lv_osw c_24_3 (a := 45) (by decide), lv_osw c_24_4 (a := 47) (by decide), lv_osw c_24_5 (a := 60) (by decide), lv_osw c_24_6 (a := 62) (by decide)]; first | done | rfl) (by decide) d_Reckoner_joined_24 ?_
  refine G_iload_n 2 rfl d_Reckoner_joined_150 ?_
  refine G_iload_n 3 rfl d_Reckoner_joined_151 ?_
  refine G_icmp_ne 159 (by decide) d_Reckoner_joined_152 (fun c_152 => ?_) (fun c_152 => ?_)
  · replace h := ob_f h c_152
    refine G_iconst 0 (by decide) d_Reckoner_joined_159 ?_
    cases h
    exact G_iret rfl d_Reckoner_joined_160
  · replace h := ob_t h c_152
    refine G_iconst 1 (by decide) d_Reckoner_joined_155 ?_
    refine G_goto 160 (by decide) d_Reckoner_joined_156 ?_
    cases h
    exact G_iret rfl d_Reckoner_joined_160
def f_Reckoner_joined_12 (S : St) (l1 : Int32) (l2 : Int32) (l3 : Int32) : Option (Int32 × St) :=
    if l3 = 0 then (
    (some (sF S 40 3 1)).bind fun S_18 =>
    some (0, S_18))
    else (
    f_Reckoner_joined_23 S l1 l2 l3)
set_option maxHeartbeats 4000000 in
set_option maxRecDepth 20000 in
theorem t_Reckoner_joined_12  (S : St) (l1 : Int32) (l2 : Int32) (l3 : Int32) (w : Int32 × St) (h : f_Reckoner_joined_12 S l1 l2 l3 = some w) : G SX m_Reckoner_joined 1 (some w.1) w.2 12 [(0, .ref 40), (1, .int l1), (2, .int l2), (3, .int l3)] [] S := by
  unfold f_Reckoner_joined_12 at h
  refine G_iload_n 3 rfl d_Reckoner_joined_12 ?_
  refine G_if_ne 23 (by decide) d_Reckoner_joined_13 (fun c_13 => ?_) (fun c_13 => ?_)
  · replace h := ob_f h c_13
    exact G_sub _ [0, 1, 2, 3] rfl (t_Reckoner_joined_23 S l1 l2 l3 _ h)
  · replace h := ob_t h c_13
    refine G_aload_n 0 rfl d_Reckoner_joined_16 ?_
    refine G_iconst 1 (by decide) d_Reckoner_joined_17 ?_
    obtain ⟨S_18, e_18, h⟩ := ob_s h
    refine G_putZ e_18 (by decide) fp_Reckoner_19 kx_40 sx_40 rfl d_Reckoner_joined_18 ?_
    refine G_iconst 0 (by decide) d_Reckoner_joined_21 ?_
    cases h
    exact G_iret rfl d_Reckoner_joined_22
def f_Reckoner_joined (S : St) (l1 : Int32) (l2 : Int32) (l3 : Int32) : Option (Int32 × St) :=
    if l1 = 47 then (
    f_Reckoner_joined_12 S l1 l2 l3)
    else (
    if l1 = 37 then (
    f_Reckoner_joined_12 S l1 l2 l3)
    else (
    f_Reckoner_joined_23 S l1 l2 l3))
set_option maxHeartbeats 4000000 in
set_option maxRecDepth 20000 in
theorem t_Reckoner_joined  {S : St} {l1 : Int32} {l2 : Int32} {l3 : Int32} {w : Int32 × St} (h : f_Reckoner_joined S l1 l2 l3 = some w) : Ct SX m_Reckoner_joined 1 [.ref 40, .int l1, .int l2, .int l3] S (some w.1) w.2 := by
  unfold f_Reckoner_joined at h
  refine Ct.of pn_Reckoner (Nat.le_of_ble_eq_true rfl) ?_
  show G SX m_Reckoner_joined 1 (some w.1) w.2 0 [(0, .ref 40), (1, .int l1), (2, .int l2), (3, .int l3)] [] S
  refine G_iload_n 1 rfl d_Reckoner_joined_0 ?_
  refine G_bipush 47 (by decide) d_Reckoner_joined_1 ?_
  refine G_icmp_eq 12 (by decide) d_Reckoner_joined_3 (fun c_3 => ?_) (fun c_3 => ?_)
  · replace h := ob_t h c_3
    exact G_sub _ [0, 1, 2, 3] rfl (t_Reckoner_joined_12 S l1 l2 l3 _ h)
  · replace h := ob_f h c_3
    refine G_iload_n 1 rfl d_Reckoner_joined_6 ?_
    refine G_bipush 37 (by decide) d_Reckoner_joined_7 ?_
    refine G_icmp_ne 23 (by decide) d_Reckoner_joined_9 (fun c_9 => ?_) (fun c_9 => ?_)
    · replace h := ob_f h c_9
      exact G_sub _ [0, 1, 2, 3] rfl (t_Reckoner_joined_23 S l1 l2 l3 _ h)
    · replace h := ob_t h c_9
      exact G_sub _ [0, 1, 2, 3] rfl (t_Reckoner_joined_12 S l1 l2 l3 _ h)
theorem d_Reckoner_reckon_0 : decode m_Reckoner_reckon.2.1 0 = .ok (.aload_n 0, 1) := by decide +kernel
theorem d_Reckoner_reckon_1 : decode m_Reckoner_reckon.2.1 1 = .ok (.iconst 0, 1) := by decide +kernel
theorem d_Reckoner_reckon_2 : decode m_Reckoner_reckon.2.1 2 = .ok (.putfield 15, 3) := by decide +kernel
theorem d_Reckoner_reckon_5 : decode m_Reckoner_reckon.2.1 5 = .ok (.aload_n 0, 1) := by decide +kernel
theorem d_Reckoner_reckon_6 : decode m_Reckoner_reckon.2.1 6 = .ok (.iconst 0, 1) := by decide +kernel
theorem d_Reckoner_reckon_7 : decode m_Reckoner_reckon.2.1 7 = .ok (.putfield 19, 3) := by decide +kernel
theorem d_Reckoner_reckon_10 : decode m_Reckoner_reckon.2.1 10 = .ok (.iload_n 1, 1) := by decide +kernel
theorem d_Reckoner_reckon_11 : decode m_Reckoner_reckon.2.1 11 = .ok (.istore_n 3, 1) := by decide +kernel
theorem d_Reckoner_reckon_12 : decode m_Reckoner_reckon.2.1 12 = .ok (.iconst 0, 1) := by decide +kernel
theorem d_Reckoner_reckon_13 : decode m_Reckoner_reckon.2.1 13 = .ok (.istore 4, 2) := by decide +kernel
theorem d_Reckoner_reckon_15 : decode m_Reckoner_reckon.2.1 15 = .ok (.iload 4, 2) := by decide +kernel
theorem d_Reckoner_reckon_17 : decode m_Reckoner_reckon.2.1 17 = .ok (.sipush 240, 3) := by decide +kernel
theorem d_Reckoner_reckon_20 : decode m_Reckoner_reckon.2.1 20 = .ok (.if_icmp .ge 185, 3) := by decide +kernel
theorem d_Reckoner_reckon_23 : decode m_Reckoner_reckon.2.1 23 = .ok (.iload_n 3, 1) := by decide +kernel
theorem d_Reckoner_reckon_24 : decode m_Reckoner_reckon.2.1 24 = .ok (.ifCond .lt 181, 3) := by decide +kernel
theorem d_Reckoner_reckon_27 : decode m_Reckoner_reckon.2.1 27 = .ok (.iload_n 3, 1) := by decide +kernel
theorem d_Reckoner_reckon_28 : decode m_Reckoner_reckon.2.1 28 = .ok (.iload_n 2, 1) := by decide +kernel
theorem d_Reckoner_reckon_29 : decode m_Reckoner_reckon.2.1 29 = .ok (.if_icmp .ge 176, 3) := by decide +kernel
theorem d_Reckoner_reckon_32 : decode m_Reckoner_reckon.2.1 32 = .ok (.iload_n 3, 1) := by decide +kernel
theorem d_Reckoner_reckon_33 : decode m_Reckoner_reckon.2.1 33 = .ok (.sipush 240, 3) := by decide +kernel
theorem d_Reckoner_reckon_36 : decode m_Reckoner_reckon.2.1 36 = .ok (.if_icmp .ge 169, 3) := by decide +kernel
theorem d_Reckoner_reckon_39 : decode m_Reckoner_reckon.2.1 39 = .ok (.aload_n 0, 1) := by decide +kernel
theorem d_Reckoner_reckon_40 : decode m_Reckoner_reckon.2.1 40 = .ok (.getfield 29, 3) := by decide +kernel
theorem d_Reckoner_reckon_43 : decode m_Reckoner_reckon.2.1 43 = .ok (.getfield 66, 3) := by decide +kernel
theorem d_Reckoner_reckon_46 : decode m_Reckoner_reckon.2.1 46 = .ok (.iload_n 3, 1) := by decide +kernel
theorem d_Reckoner_reckon_47 : decode m_Reckoner_reckon.2.1 47 = .ok (.iaload, 1) := by decide +kernel
theorem d_Reckoner_reckon_48 : decode m_Reckoner_reckon.2.1 48 = .ok (.istore 5, 2) := by decide +kernel
theorem d_Reckoner_reckon_50 : decode m_Reckoner_reckon.2.1 50 = .ok (.aload_n 0, 1) := by decide +kernel
theorem d_Reckoner_reckon_51 : decode m_Reckoner_reckon.2.1 51 = .ok (.getfield 29, 3) := by decide +kernel
theorem d_Reckoner_reckon_54 : decode m_Reckoner_reckon.2.1 54 = .ok (.getfield 69, 3) := by decide +kernel
theorem d_Reckoner_reckon_57 : decode m_Reckoner_reckon.2.1 57 = .ok (.iload_n 3, 1) := by decide +kernel
theorem d_Reckoner_reckon_58 : decode m_Reckoner_reckon.2.1 58 = .ok (.iaload, 1) := by decide +kernel
theorem d_Reckoner_reckon_59 : decode m_Reckoner_reckon.2.1 59 = .ok (.istore 6, 2) := by decide +kernel
theorem d_Reckoner_reckon_61 : decode m_Reckoner_reckon.2.1 61 = .ok (.iinc 3 1, 3) := by decide +kernel
theorem d_Reckoner_reckon_64 : decode m_Reckoner_reckon.2.1 64 = .ok (.iload 5, 2) := by decide +kernel
theorem d_Reckoner_reckon_66 : decode m_Reckoner_reckon.2.1 66 = .ok (.ifCond .ne 12, 3) := by decide +kernel
theorem d_Reckoner_reckon_69 : decode m_Reckoner_reckon.2.1 69 = .ok (.aload_n 0, 1) := by decide +kernel
theorem d_Reckoner_reckon_70 : decode m_Reckoner_reckon.2.1 70 = .ok (.iload 6, 2) := by decide +kernel
theorem d_Reckoner_reckon_72 : decode m_Reckoner_reckon.2.1 72 = .ok (.invokevirtual 72, 3) := by decide +kernel
theorem d_Reckoner_reckon_75 : decode m_Reckoner_reckon.2.1 75 = .ok (.goto 115, 3) := by decide +kernel
theorem d_Reckoner_reckon_78 : decode m_Reckoner_reckon.2.1 78 = .ok (.iload 5, 2) := by decide +kernel
theorem d_Reckoner_reckon_80 : decode m_Reckoner_reckon.2.1 80 = .ok (.iconst 1, 1) := by decide +kernel
theorem d_Reckoner_reckon_81 : decode m_Reckoner_reckon.2.1 81 = .ok (.if_icmp .ne 16, 3) := by decide +kernel
theorem d_Reckoner_reckon_84 : decode m_Reckoner_reckon.2.1 84 = .ok (.aload_n 0, 1) := by decide +kernel
theorem d_Reckoner_reckon_85 : decode m_Reckoner_reckon.2.1 85 = .ok (.aload_n 0, 1) := by decide +kernel
theorem d_Reckoner_reckon_86 : decode m_Reckoner_reckon.2.1 86 = .ok (.iload 6, 2) := by decide +kernel
theorem d_Reckoner_reckon_88 : decode m_Reckoner_reckon.2.1 88 = .ok (.invokevirtual 76, 3) := by decide +kernel
theorem d_Reckoner_reckon_91 : decode m_Reckoner_reckon.2.1 91 = .ok (.invokevirtual 72, 3) := by decide +kernel
theorem d_Reckoner_reckon_94 : decode m_Reckoner_reckon.2.1 94 = .ok (.goto 96, 3) := by decide +kernel
theorem d_Reckoner_reckon_97 : decode m_Reckoner_reckon.2.1 97 = .ok (.aload_n 0, 1) := by decide +kernel
theorem d_Reckoner_reckon_98 : decode m_Reckoner_reckon.2.1 98 = .ok (.invokevirtual 80, 3) := by decide +kernel
theorem d_Reckoner_reckon_101 : decode m_Reckoner_reckon.2.1 101 = .ok (.istore 7, 2) := by decide +kernel
theorem d_Reckoner_reckon_103 : decode m_Reckoner_reckon.2.1 103 = .ok (.iload 5, 2) := by decide +kernel
theorem d_Reckoner_reckon_105 : decode m_Reckoner_reckon.2.1 105 = .ok (.iconst 2, 1) := by decide +kernel
theorem d_Reckoner_reckon_106 : decode m_Reckoner_reckon.2.1 106 = .ok (.if_icmp .ne 20, 3) := by decide +kernel
theorem d_Reckoner_reckon_109 : decode m_Reckoner_reckon.2.1 109 = .ok (.aload_n 0, 1) := by decide +kernel
theorem d_Reckoner_reckon_110 : decode m_Reckoner_reckon.2.1 110 = .ok (.iload 7, 2) := by decide +kernel
theorem d_Reckoner_reckon_112 : decode m_Reckoner_reckon.2.1 112 = .ok (.ifCond .ne 7, 3) := by decide +kernel
theorem d_Reckoner_reckon_115 : decode m_Reckoner_reckon.2.1 115 = .ok (.iconst 1, 1) := by decide +kernel
theorem d_Reckoner_reckon_116 : decode m_Reckoner_reckon.2.1 116 = .ok (.goto 4, 3) := by decide +kernel
theorem d_Reckoner_reckon_119 : decode m_Reckoner_reckon.2.1 119 = .ok (.iconst 0, 1) := by decide +kernel
theorem d_Reckoner_reckon_120 : decode m_Reckoner_reckon.2.1 120 = .ok (.invokevirtual 72, 3) := by decide +kernel
theorem d_Reckoner_reckon_123 : decode m_Reckoner_reckon.2.1 123 = .ok (.goto 67, 3) := by decide +kernel
theorem d_Reckoner_reckon_126 : decode m_Reckoner_reckon.2.1 126 = .ok (.iload 5, 2) := by decide +kernel
theorem d_Reckoner_reckon_128 : decode m_Reckoner_reckon.2.1 128 = .ok (.iconst 3, 1) := by decide +kernel
theorem d_Reckoner_reckon_129 : decode m_Reckoner_reckon.2.1 129 = .ok (.if_icmp .eq 28, 3) := by decide +kernel
theorem d_Reckoner_reckon_132 : decode m_Reckoner_reckon.2.1 132 = .ok (.iload 5, 2) := by decide +kernel
theorem d_Reckoner_reckon_134 : decode m_Reckoner_reckon.2.1 134 = .ok (.iconst 4, 1) := by decide +kernel
theorem d_Reckoner_reckon_135 : decode m_Reckoner_reckon.2.1 135 = .ok (.if_icmp .eq 22, 3) := by decide +kernel
theorem d_Reckoner_reckon_138 : decode m_Reckoner_reckon.2.1 138 = .ok (.aload_n 0, 1) := by decide +kernel
theorem d_Reckoner_reckon_139 : decode m_Reckoner_reckon.2.1 139 = .ok (.aload_n 0, 1) := by decide +kernel
theorem d_Reckoner_reckon_140 : decode m_Reckoner_reckon.2.1 140 = .ok (.iload 5, 2) := by decide +kernel
theorem d_Reckoner_reckon_142 : decode m_Reckoner_reckon.2.1 142 = .ok (.aload_n 0, 1) := by decide +kernel
theorem d_Reckoner_reckon_143 : decode m_Reckoner_reckon.2.1 143 = .ok (.invokevirtual 80, 3) := by decide +kernel
theorem d_Reckoner_reckon_146 : decode m_Reckoner_reckon.2.1 146 = .ok (.iload 7, 2) := by decide +kernel
theorem d_Reckoner_reckon_148 : decode m_Reckoner_reckon.2.1 148 = .ok (.invokevirtual 84, 3) := by decide +kernel
theorem d_Reckoner_reckon_151 : decode m_Reckoner_reckon.2.1 151 = .ok (.invokevirtual 72, 3) := by decide +kernel
theorem d_Reckoner_reckon_154 : decode m_Reckoner_reckon.2.1 154 = .ok (.goto 36, 3) := by decide +kernel
theorem d_Reckoner_reckon_157 : decode m_Reckoner_reckon.2.1 157 = .ok (.iload 7, 2) := by decide +kernel
theorem d_Reckoner_reckon_159 : decode m_Reckoner_reckon.2.1 159 = .ok (.ifCond .eq 7, 3) := by decide +kernel
theorem d_Reckoner_reckon_162 : decode m_Reckoner_reckon.2.1 162 = .ok (.iconst 1, 1) := by decide +kernel
theorem d_Reckoner_reckon_163 : decode m_Reckoner_reckon.2.1 163 = .ok (.goto 4, 3) := by decide +kernel
theorem d_Reckoner_reckon_166 : decode m_Reckoner_reckon.2.1 166 = .ok (.iconst 0, 1) := by decide +kernel
theorem d_Reckoner_reckon_167 : decode m_Reckoner_reckon.2.1 167 = .ok (.iload 5, 2) := by decide +kernel
theorem d_Reckoner_reckon_169 : decode m_Reckoner_reckon.2.1 169 = .ok (.iconst 3, 1) := by decide +kernel
theorem d_Reckoner_reckon_170 : decode m_Reckoner_reckon.2.1 170 = .ok (.if_icmp .ne 7, 3) := by decide +kernel
theorem d_Reckoner_reckon_173 : decode m_Reckoner_reckon.2.1 173 = .ok (.iconst 1, 1) := by decide +kernel
theorem d_Reckoner_reckon_174 : decode m_Reckoner_reckon.2.1 174 = .ok (.goto 4, 3) := by decide +kernel
theorem d_Reckoner_reckon_177 : decode m_Reckoner_reckon.2.1 177 = .ok (.iconst 0, 1) := by decide +kernel
theorem d_Reckoner_reckon_178 : decode m_Reckoner_reckon.2.1 178 = .ok (.if_icmp .ne 12, 3) := by decide +kernel
theorem d_Reckoner_reckon_181 : decode m_Reckoner_reckon.2.1 181 = .ok (.aload_n 0, 1) := by decide +kernel
theorem d_Reckoner_reckon_182 : decode m_Reckoner_reckon.2.1 182 = .ok (.iload 7, 2) := by decide +kernel
theorem d_Reckoner_reckon_184 : decode m_Reckoner_reckon.2.1 184 = .ok (.invokevirtual 72, 3) := by decide +kernel
theorem d_Reckoner_reckon_187 : decode m_Reckoner_reckon.2.1 187 = .ok (.iload 6, 2) := by decide +kernel
theorem d_Reckoner_reckon_189 : decode m_Reckoner_reckon.2.1 189 = .ok (.istore_n 3, 1) := by decide +kernel
theorem d_Reckoner_reckon_190 : decode m_Reckoner_reckon.2.1 190 = .ok (.aload_n 0, 1) := by decide +kernel
theorem d_Reckoner_reckon_191 : decode m_Reckoner_reckon.2.1 191 = .ok (.getfield 19, 3) := by decide +kernel
theorem d_Reckoner_reckon_194 : decode m_Reckoner_reckon.2.1 194 = .ok (.ifCond .eq 5, 3) := by decide +kernel
theorem d_Reckoner_reckon_197 : decode m_Reckoner_reckon.2.1 197 = .ok (.iconst 0, 1) := by decide +kernel
theorem d_Reckoner_reckon_198 : decode m_Reckoner_reckon.2.1 198 = .ok (.ireturn, 1) := by decide +kernel
theorem d_Reckoner_reckon_199 : decode m_Reckoner_reckon.2.1 199 = .ok (.iinc 4 1, 3) := by decide +kernel
theorem d_Reckoner_reckon_202 : decode m_Reckoner_reckon.2.1 202 = .ok (.goto (-187), 3) := by decide +kernel
theorem d_Reckoner_reckon_205 : decode m_Reckoner_reckon.2.1 205 = .ok (.aload_n 0, 1) := by decide +kernel
theorem d_Reckoner_reckon_206 : decode m_Reckoner_reckon.2.1 206 = .ok (.invokevirtual 80, 3) := by decide +kernel
theorem d_Reckoner_reckon_209 : decode m_Reckoner_reckon.2.1 209 = .ok (.ireturn, 1) := by decide +kernel
def f_Reckoner_reckon_190 (k_15 : St → Int32 → Int32 → Int32 → Option (Int32 × St)) (S : St) (l2 : Int32) (l3 : Int32) (l4 : Int32) : Option (Int32 × St) :=
    if (S 40 3) = 0 then (
    (some (l4 + 1)).bind fun l4_199 =>
    k_15 S l2 l3 l4_199)
    else (
    some (0, S))
set_option maxHeartbeats 4000000 in
set_option maxRecDepth 20000 in
theorem t_Reckoner_reckon_190  {k_15 : St → Int32 → Int32 → Int32 → Option (Int32 × St)} (hk_15 : ∀ (S : St) (l2 : Int32) (l3 : Int32) (l4 : Int32) (w : Int32 × St), k_15 S l2 l3 l4 = some w → G SX m_Reckoner_reckon 4 (some w.1) w.2 15 [(0, .ref 40), (2, .int l2), (3, .int l3), (4, .int l4)] [] S) (S : St) (l2 : Int32) (l3 : Int32) (l4 : Int32) (w : Int32 × St) (h : f_Reckoner_reckon_190 k_15 S l2 l3 l4 = some w) : G SX m_Reckoner_reckon 4 (some w.1) w.2 190 [(0, .ref 40), (2, .int l2), (3, .int l3), (4, .int l4)] [] S := by
  unfold f_Reckoner_reckon_190 at h
  refine G_aload_n 0 rfl d_Reckoner_reckon_190 ?_
  refine G_getI fl_Reckoner_19 kx_40 sx_40 rfl d_Reckoner_reckon_191 ?_
  refine G_if_eq 199 (by decide) d_Reckoner_reckon_194 (fun c_194 => ?_) (fun c_194 => ?_)
  · replace h := ob_t h c_194
    obtain ⟨l4_199, e_199, h⟩ := ob_s h
    refine G_iinc 1 3 [(4, .int l4_199), (0, .ref 40), (2, .int l2), (3, .int l3)] (by decide) rfl e_199 rfl (by decide) d_Reckoner_reckon_199 ?_
    refine G_goto 15 (by decide) d_Reckoner_reckon_202 ?_
    exact G_sub _ [1, 2, 3, 0] rfl (hk_15 S l2 l3 l4_199 _ h)
  · replace h := ob_f h c_194
    refine G_iconst 0 (by decide) d_Reckoner_reckon_197 ?_
    cases h
    exact G_iret rfl d_Reckoner_reckon_198
def f_Reckoner_reckon_120 (k_15 : St → Int32 → Int32 → Int32 → Option (Int32 × St)) (S : St) (l2 : Int32) (l3 : Int32) (l4 : Int32) (s0 : Int32) : Option (Int32 × St) :=
    (f_Reckoner_push S s0).bind fun w_120 =>
    f_Reckoner_reckon_190 k_15 w_120 l2 l3 l4
set_option maxHeartbeats 4000000 in
set_option maxRecDepth 20000 in
theorem t_Reckoner_reckon_120  {k_15 : St → Int32 → Int32 → Int32 → Option (Int32 × St)} (hk_15 : ∀ (S : St) (l2 : Int32) (l3 : Int32) (l4 : Int32) (w : Int32 × St), k_15 S l2 l3 l4 = some w → G SX m_Reckoner_reckon 4 (some w.1) w.2 15 [(0, .ref 40), (2, .int l2), (3, .int l3), (4, .int l4)] [] S) (S : St) (l2 : Int32) (l3 : Int32) (l4 : Int32) (s0 : Int32) (w : Int32 × St) (h : f_Reckoner_reckon_120 k_15 S l2 l3 l4 s0 = some w) : G SX m_Reckoner_reckon 4 (some w.1) w.2 120 [(0, .ref 40), (2, .int l2), (3, .int l3), (4, .int l4)] [.int s0, .ref 40] S := by
  unfold f_Reckoner_reckon_120 at h
  obtain ⟨w_120, q_120, h⟩ := ob_b h
  refine G_callV [.int s0] [] (t_Reckoner_push q_120) (by decide) (by decide) mv_Reckoner_push rfl ml_Reckoner_72 kx_40 sx_40 cl_5 rfl (Nat.le_of_ble_eq_true rfl) d_Reckoner_reckon_120 ?_
  refine G_goto 190 (by decide) d_Reckoner_reckon_123 ?_
  exact G_sub _ [0, 1, 2, 3] rfl (t_Reckoner_reckon_190 hk_15 w_120 l2 l3 l4 _ h)
def f_Reckoner_reckon_178 (k_15 : St → Int32 → Int32 → Int32 → Option (Int32 × St)) (S : St) (l2 : Int32) (l3 : Int32) (l4 : Int32) (l6 : Int32) (l7 : Int32) (s0 : Int32) (s1 : Int32) : Option (Int32 × St) :=
    if s1 = s0 then (
    (f_Reckoner_push S l7).bind fun w_184 =>
    f_Reckoner_reckon_190 k_15 w_184 l2 l6 l4)
    else (
    f_Reckoner_reckon_190 k_15 S l2 l3 l4)
set_option maxHeartbeats 4000000 in
set_option maxRecDepth 20000 in
theorem t_Reckoner_reckon_178  {k_15 : St → Int32 → Int32 → Int32 → Option (Int32 × St)} (hk_15 : ∀ (S : St) (l2 : Int32) (l3 : Int32) (l4 : Int32) (w : Int32 × St), k_15 S l2 l3 l4 = some w → G SX m_Reckoner_reckon 4 (some w.1) w.2 15 [(0, .ref 40), (2, .int l2), (3, .int l3), (4, .int l4)] [] S) (S : St) (l2 : Int32) (l3 : Int32) (l4 : Int32) (l6 : Int32) (l7 : Int32) (s0 : Int32) (s1 : Int32) (w : Int32 × St) (h : f_Reckoner_reckon_178 k_15 S l2 l3 l4 l6 l7 s0 s1 = some w) : G SX m_Reckoner_reckon 4 (some w.1) w.2 178 [(0, .ref 40), (2, .int l2), (3, .int l3), (4, .int l4), (6, .int l6), (7, .int l7)] [.int s0, .int s1] S := by
  unfold f_Reckoner_reckon_178 at h
  refine G_icmp_ne 190 (by decide) d_Reckoner_reckon_178 (fun c_178 => ?_) (fun c_178 => ?_)
  · replace h := ob_f h c_178
    exact G_sub _ [0, 1, 2, 3] rfl (t_Reckoner_reckon_190 hk_15 S l2 l3 l4 _ h)
  · replace h := ob_t h c_178
    refine G_aload_n 0 rfl d_Reckoner_reckon_181 ?_
    refine G_iload 5 rfl d_Reckoner_reckon_182 ?_
    obtain ⟨w_184, q_184, h⟩ := ob_b h
    refine G_callV [.int l7] [] (t_Reckoner_push q_184) (by decide) (by decide) mv_Reckoner_push rfl ml_Reckoner_72 kx_40 sx_40 cl_5 rfl (Nat.le_of_ble_eq_true rfl) d_Reckoner_reckon_184 ?_
    refine G_iload 4 rfl d_Reckoner_reckon_187 ?_
    refine G_istore_n [(3, .int l6), (0, .ref 40), (2, .int l2), (4, .int l4), (6, .int l6), (7, .int l7)] rfl rfl (by decide) d_Reckoner_reckon_189 ?_
    exact G_sub _ [1, 2, 0, 3] rfl (t_Reckoner_reckon_190 hk_15 w_184 l2 l6 l4 _ h)
def f_Reckoner_reckon_167 (k_15 : St → Int32 → Int32 → Int32 → Option (Int32 × St)) (S : St) (l2 : Int32) (l3 : Int32) (l4 : Int32) (l5 : Int32) (l6 : Int32) (l7 : Int32) (s0 : Int32) : Option (Int32 × St) :=
    if l5 = 3 then (
    f_Reckoner_reckon_178 k_15 S l2 l3 l4 l6 l7 (1 : Int32) s0)
    else (
    f_Reckoner_reckon_178 k_15 S l2 l3 l4 l6 l7 (0 : Int32) s0)
set_option maxHeartbeats 4000000 in
set_option maxRecDepth 20000 in
theorem t_Reckoner_reckon_167  {k_15 : St → Int32 → Int32 → Int32 → Option (Int32 × St)} (hk_15 : ∀ (S : St) (l2 : Int32) (l3 : Int32) (l4 : Int32) (w : Int32 × St), k_15 S l2 l3 l4 = some w → G SX m_Reckoner_reckon 4 (some w.1) w.2 15 [(0, .ref 40), (2, .int l2), (3, .int l3), (4, .int l4)] [] S) (S : St) (l2 : Int32) (l3 : Int32) (l4 : Int32) (l5 : Int32) (l6 : Int32) (l7 : Int32) (s0 : Int32) (w : Int32 × St) (h : f_Reckoner_reckon_167 k_15 S l2 l3 l4 l5 l6 l7 s0 = some w) : G SX m_Reckoner_reckon 4 (some w.1) w.2 167 [(0, .ref 40), (2, .int l2), (3, .int l3), (4, .int l4), (5, .int l5), (6, .int l6), (7, .int l7)] [.int s0] S := by
  unfold f_Reckoner_reckon_167 at h
  refine G_iload 4 rfl d_Reckoner_reckon_167 ?_
  refine G_iconst 3 (by decide) d_Reckoner_reckon_169 ?_
  refine G_icmp_ne 177 (by decide) d_Reckoner_reckon_170 (fun c_170 => ?_) (fun c_170 => ?_)
  · replace h := ob_f h c_170
    refine G_iconst 0 (by decide) d_Reckoner_reckon_177 ?_
    exact G_sub _ [0, 1, 2, 3, 5, 6] rfl (t_Reckoner_reckon_178 hk_15 S l2 l3 l4 l6 l7 (0 : Int32) s0 _ h)
  · replace h := ob_t h c_170
    refine G_iconst 1 (by decide) d_Reckoner_reckon_173 ?_
    refine G_goto 178 (by decide) d_Reckoner_reckon_174 ?_
    exact G_sub _ [0, 1, 2, 3, 5, 6] rfl (t_Reckoner_reckon_178 hk_15 S l2 l3 l4 l6 l7 (1 : Int32) s0 _ h)
def f_Reckoner_reckon_157 (k_15 : St → Int32 → Int32 → Int32 → Option (Int32 × St)) (S : St) (l2 : Int32) (l3 : Int32) (l4 : Int32) (l5 : Int32) (l6 : Int32) (l7 : Int32) : Option (Int32 × St) :=
    if l7 = 0 then (
    f_Reckoner_reckon_167 k_15 S l2 l3 l4 l5 l6 l7 (0 : Int32))
    else (
    f_Reckoner_reckon_167 k_15 S l2 l3 l4 l5 l6 l7 (1 : Int32))
set_option maxHeartbeats 4000000 in
set_option maxRecDepth 20000 in
theorem t_Reckoner_reckon_157  {k_15 : St → Int32 → Int32 → Int32 → Option (Int32 × St)} (hk_15 : ∀ (S : St) (l2 : Int32) (l3 : Int32) (l4 : Int32) (w : Int32 × St), k_15 S l2 l3 l4 = some w → G SX m_Reckoner_reckon 4 (some w.1) w.2 15 [(0, .ref 40), (2, .int l2), (3, .int l3), (4, .int l4)] [] S) (S : St) (l2 : Int32) (l3 : Int32) (l4 : Int32) (l5 : Int32) (l6 : Int32) (l7 : Int32) (w : Int32 × St) (h : f_Reckoner_reckon_157 k_15 S l2 l3 l4 l5 l6 l7 = some w) : G SX m_Reckoner_reckon 4 (some w.1) w.2 157 [(0, .ref 40), (2, .int l2), (3, .int l3), (4, .int l4), (5, .int l5), (6, .int l6), (7, .int l7)] [] S := by
  unfold f_Reckoner_reckon_157 at h
  refine G_iload 6 rfl d_Reckoner_reckon_157 ?_
  refine G_if_eq 166 (by decide) d_Reckoner_reckon_159 (fun c_159 => ?_) (fun c_159 => ?_)
  · replace h := ob_t h c_159
    refine G_iconst 0 (by decide) d_Reckoner_reckon_166 ?_
    exact G_sub _ [0, 1, 2, 3, 4, 5, 6] rfl (t_Reckoner_reckon_167 hk_15 S l2 l3 l4 l5 l6 l7 (0 : Int32) _ h)
  · replace h := ob_f h c_159
    refine G_iconst 1 (by decide) d_Reckoner_reckon_162 ?_
    refine G_goto 167 (by decide) d_Reckoner_reckon_163 ?_
    exact G_sub _ [0, 1, 2, 3, 4, 5, 6] rfl (t_Reckoner_reckon_167 hk_15 S l2 l3 l4 l5 l6 l7 (1 : Int32) _ h)
def f_Reckoner_reckon_205 (S : St) : Option (Int32 × St) :=
    (f_Reckoner_pop S).bind fun w_206 =>
    some (w_206.1, w_206.2)
set_option maxHeartbeats 4000000 in
set_option maxRecDepth 20000 in
theorem t_Reckoner_reckon_205  (S : St) (w : Int32 × St) (h : f_Reckoner_reckon_205 S = some w) : G SX m_Reckoner_reckon 4 (some w.1) w.2 205 [(0, .ref 40)] [] S := by
  unfold f_Reckoner_reckon_205 at h
  refine G_aload_n 0 rfl d_Reckoner_reckon_205 ?_
  obtain ⟨w_206, q_206, h⟩ := ob_b h
  refine G_callV [] [] (t_Reckoner_pop q_206) (by decide) (by decide) mv_Reckoner_pop rfl ml_Reckoner_80 kx_40 sx_40 cl_5 rfl (Nat.le_of_ble_eq_true rfl) d_Reckoner_reckon_206 ?_
  cases h
  exact G_iret rfl d_Reckoner_reckon_209
def f_Reckoner_reckon_15 : Nat → St → Int32 → Int32 → Int32 → Option (Int32 × St)
  | 0, _, _, _, _ => none
  | n + 1, S, l2, l3, l4 =>
    if (240 : Int32) ≤ l4 then (
    f_Reckoner_reckon_205 S)
    else (
    if l3 < 0 then (
    f_Reckoner_reckon_205 S)
    else (
    if l2 ≤ l3 then (
    f_Reckoner_reckon_205 S)
    else (
    if (240 : Int32) ≤ l3 then (
    f_Reckoner_reckon_205 S)
    else (
    if ig l3 240 then (
    (some (S 26 l3.toNatClampNeg)).bind fun l5_48 =>
    if ig l3 240 then (
    (some (S 27 l3.toNatClampNeg)).bind fun l6_59 =>
    (some (l3 + 1)).bind fun l3_61 =>
    if l5_48 = 0 then (
    (f_Reckoner_push S l6_59).bind fun w_72 =>
    f_Reckoner_reckon_190 (f_Reckoner_reckon_15 n) w_72 l2 l3_61 l4)
    else (
    if l5_48 = 1 then (
    (f_Reckoner_fact S l6_59).bind fun v_88 =>
    (f_Reckoner_push S v_88).bind fun w_91 =>
    f_Reckoner_reckon_190 (f_Reckoner_reckon_15 n) w_91 l2 l3_61 l4)
    else (
    (f_Reckoner_pop S).bind fun w_98 =>
    (some w_98.1).bind fun l7_101 =>
    if l5_48 = 2 then (
    if l7_101 = 0 then (
    f_Reckoner_reckon_120 (f_Reckoner_reckon_15 n) w_98.2 l2 l3_61 l4 (1 : Int32))
    else (
    f_Reckoner_reckon_120 (f_Reckoner_reckon_15 n) w_98.2 l2 l3_61 l4 (0 : Int32)))
    else (
    if l5_48 = 3 then (
    f_Reckoner_reckon_157 (f_Reckoner_reckon_15 n) w_98.2 l2 l3_61 l4 l5_48 l6_59 l7_101)
    else (
    if l5_48 = 4 then (
    f_Reckoner_reckon_157 (f_Reckoner_reckon_15 n) w_98.2 l2 l3_61 l4 l5_48 l6_59 l7_101)
    else (
    (f_Reckoner_pop w_98.2).bind fun w_143 =>
    (f_Reckoner_joined w_143.2 l5_48 w_143.1 l7_101).bind fun w_148 =>
    (f_Reckoner_push w_148.2 w_148.1).bind fun w_151 =>
    f_Reckoner_reckon_190 (f_Reckoner_reckon_15 n) w_151 l2 l3_61 l4)))))) else none) else none))))
set_option maxHeartbeats 4000000 in
set_option maxRecDepth 20000 in
theorem t_Reckoner_reckon_15  : ∀ (n : Nat) (S : St) (l2 : Int32) (l3 : Int32) (l4 : Int32) (w : Int32 × St), f_Reckoner_reckon_15 n S l2 l3 l4 = some w → G SX m_Reckoner_reckon 4 (some w.1) w.2 15 [(0, .ref 40), (2, .int l2), (3, .int l3), (4, .int l4)] [] S := by
  intro n
  induction n with
  | zero =>
    intro S l2 l3 l4 w h
    rw [f_Reckoner_reckon_15] at h
    cases h
  | succ n ih =>
    intro S l2 l3 l4 w h
    rw [f_Reckoner_reckon_15] at h
    refine G_iload 3 rfl d_Reckoner_reckon_15 ?_
    refine G_sipush 240 (by decide) d_Reckoner_reckon_17 ?_
    refine G_icmp_ge 205 (by decide) d_Reckoner_reckon_20 (fun c_20 => ?_) (fun c_20 => ?_)
    · replace h := ob_t h c_20
      exact G_sub _ [0] rfl (t_Reckoner_reckon_205 S _ h)
    · replace h := ob_f h c_20
      refine G_iload_n 2 rfl d_Reckoner_reckon_23 ?_
      refine G_if_lt 205 (by decide) d_Reckoner_reckon_24 (fun c_24 => ?_) (fun c_24 => ?_)
      · replace h := ob_t h c_24
        exact G_sub _ [0] rfl (t_Reckoner_reckon_205 S _ h)
      · replace h := ob_f h c_24
        refine G_iload_n 2 rfl d_Reckoner_reckon_27 ?_
        refine G_iload_n 1 rfl d_Reckoner_reckon_28 ?_
        refine G_icmp_ge 205 (by decide) d_Reckoner_reckon_29 (fun c_29 => ?_) (fun c_29 => ?_)
        · replace h := ob_t h c_29
          exact G_sub _ [0] rfl (t_Reckoner_reckon_205 S _ h)
        · replace h := ob_f h c_29
          refine G_iload_n 2 rfl d_Reckoner_reckon_32 ?_
          refine G_sipush 240 (by decide) d_Reckoner_reckon_33 ?_
          refine G_icmp_ge 205 (by decide) d_Reckoner_reckon_36 (fun c_36 => ?_) (fun c_36 => ?_)
          · replace h := ob_t h c_36
            exact G_sub _ [0] rfl (t_Reckoner_reckon_205 S _ h)
          · replace h := ob_f h c_36
            refine G_aload_n 0 rfl d_Reckoner_reckon_39 ?_
            refine G_getR fl_Reckoner_29 kx_40 sx_40 rfl (by decide) d_Reckoner_reckon_40 ?_
            refine G_getR fl_Reckoner_66 kx_25 sx_25 rfl (by decide) d_Reckoner_reckon_43 ?_
            refine G_iload_n 2 rfl d_Reckoner_reckon_46 ?_
            obtain ⟨g_47, h⟩ := ob_g h
            refine G_iaload kx_26 sx_26 g_47 d_Reckoner_reckon_47 ?_
            obtain ⟨l5_48, e_48, h⟩ := ob_s h
            refine G_istore [(5, .int l5_48), (0, .ref 40), (2, .int l2), (3, .int l3), (4, .int l4)] e_48 rfl (by decide) d_Reckoner_reckon_48 ?_
            refine G_aload_n 1 rfl d_Reckoner_reckon_50 ?_
            refine G_getR fl_Reckoner_29 kx_40 sx_40 rfl (by decide) d_Reckoner_reckon_51 ?_
            refine G_getR fl_Reckoner_69 kx_25 sx_25 rfl (by decide) d_Reckoner_reckon_54 ?_
            refine G_iload_n 3 rfl d_Reckoner_reckon_57 ?_
            obtain ⟨g_58, h⟩ := ob_g h
            refine G_iaload kx_27 sx_27 g_58 d_Reckoner_reckon_58 ?_
            obtain ⟨l6_59, e_59, h⟩ := ob_s h
            refine G_istore [(6, .int l6_59), (5, .int l5_48), (0, .ref 40), (2, .int l2), (3, .int l3), (4, .int l4)] e_59 rfl (by decide) d_Reckoner_reckon_59 ?_
            obtain ⟨l3_61, e_61, h⟩ := ob_s h
            refine G_iinc 1 4 [(3, .int l3_61), (6, .int l6_59), (5, .int l5_48), (0, .ref 40), (2, .int l2), (4, .int l4)] (by decide) rfl e_61 rfl (by decide) d_Reckoner_reckon_61 ?_
            refine G_iload 2 rfl d_Reckoner_reckon_64 ?_
            refine G_if_ne 78 (by decide) d_Reckoner_reckon_66 (fun c_66 => ?_) (fun c_66 => ?_)
            · replace h := ob_f h c_66
              refine G_iload 2 rfl d_Reckoner_reckon_78 ?_
              refine G_iconst 1 (by decide) d_Reckoner_reckon_80 ?_
              refine G_icmp_ne 97 (by decide) d_Reckoner_reckon_81 (fun c_81 => ?_) (fun c_81 => ?_)
              · replace h := ob_f h c_81
                refine G_aload_n 3 rfl d_Reckoner_reckon_97 ?_
                obtain ⟨w_98, q_98, h⟩ := ob_b h
                refine G_callV [] [] (t_Reckoner_pop q_98) (by decide) (by decide) mv_Reckoner_pop rfl ml_Reckoner_80 kx_40 sx_40 cl_5 rfl (Nat.le_of_ble_eq_true rfl) d_Reckoner_reckon_98 ?_
                obtain ⟨l7_101, e_101, h⟩ := ob_s h
                refine G_istore [(7, .int l7_101), (3, .int l3_61), (6, .int l6_59), (5, .int l5_48), (0, .ref 40), (2, .int l2), (4, .int l4)] e_101 rfl (by decide) d_Reckoner_reckon_101 ?_
                refine G_iload 3 rfl d_Reckoner_reckon_103 ?_
                refine G_iconst 2 (by decide) d_Reckoner_reckon_105 ?_
                refine G_icmp_ne 126 (by decide) d_Reckoner_reckon_106 (fun c_106 => ?_) (fun c_106 => ?_)
                · replace h := ob_f h c_106
                  refine G_iload 3 rfl d_Reckoner_reckon_126 ?_
                  refine G_iconst 3 (by decide) d_Reckoner_reckon_128 ?_
                  refine G_icmp_eq 157 (by decide) d_Reckoner_reckon_129 (fun c_129 => ?_) (fun c_129 => ?_)
                  · replace h := ob_t h c_129
                    exact G_sub _ [4, 5, 1, 6, 3, 2, 0] rfl (t_Reckoner_reckon_157 ih w_98.2 l2 l3_61 l4 l5_48 l6_59 l7_101 _ h)
                  · replace h := ob_f h c_129
                    refine G_iload 3 rfl d_Reckoner_reckon_132 ?_
                    refine G_iconst 4 (by decide) d_Reckoner_reckon_134 ?_
                    refine G_icmp_eq 157 (by decide) d_Reckoner_reckon_135 (fun c_135 => ?_) (fun c_135 => ?_)
                    · replace h := ob_t h c_135
                      exact G_sub _ [4, 5, 1, 6, 3, 2, 0] rfl (t_Reckoner_reckon_157 ih w_98.2 l2 l3_61 l4 l5_48 l6_59 l7_101 _ h)
                    · replace h := ob_f h c_135
                      refine G_aload_n 4 rfl d_Reckoner_reckon_138 ?_
                      refine G_aload_n 4 rfl d_Reckoner_reckon_139 ?_
                      refine G_iload 3 rfl d_Reckoner_reckon_140 ?_
                      refine G_aload_n 4 rfl d_Reckoner_reckon_142 ?_
                      obtain ⟨w_143, q_143, h⟩ := ob_b h
                      refine G_callV [] [.int l5_48, .ref 40, .ref 40] (t_Reckoner_pop q_143) (by decide) (by decide) mv_Reckoner_pop rfl ml_Reckoner_80 kx_40 sx_40 cl_5 rfl (Nat.le_of_ble_eq_true rfl) d_Reckoner_reckon_143 ?_
                      refine G_iload 0 rfl d_Reckoner_reckon_146 ?_
                      obtain ⟨w_148, q_148, h⟩ := ob_b h
                      refine G_callV [.int l5_48, .int w_143.1, .int l7_101] [.ref 40] (t_Reckoner_joined q_148) (by decide) (by decide) mv_Reckoner_joined rfl ml_Reckoner_84 kx_40 sx_40 cl_5 rfl (Nat.le_of_ble_eq_true rfl) d_Reckoner_reckon_148 ?_
                      obtain ⟨w_151, q_151, h⟩ := ob_b h
                      refine G_callV [.int w_148.1] [] (t_Reckoner_push q_151) (by decide) (by decide) mv_Reckoner_push rfl ml_Reckoner_72 kx_40 sx_40 cl_5 rfl (Nat.le_of_ble_eq_true rfl) d_Reckoner_reckon_151 ?_
                      refine G_goto 190 (by decide) d_Reckoner_reckon_154 ?_
                      exact G_sub _ [4, 5, 1, 6] rfl (t_Reckoner_reckon_190 ih w_151 l2 l3_61 l4 _ h)
                · replace h := ob_t h c_106
                  refine G_aload_n 4 rfl d_Reckoner_reckon_109 ?_
                  refine G_iload 0 rfl d_Reckoner_reckon_110 ?_
                  refine G_if_ne 119 (by decide) d_Reckoner_reckon_112 (fun c_112 => ?_) (fun c_112 => ?_)
                  · replace h := ob_f h c_112
                    refine G_iconst 0 (by decide) d_Reckoner_reckon_119 ?_
                    exact G_sub _ [4, 5, 1, 6] rfl (t_Reckoner_reckon_120 ih w_98.2 l2 l3_61 l4 (0 : Int32) _ h)
                  · replace h := ob_t h c_112
                    refine G_iconst 1 (by decide) d_Reckoner_reckon_115 ?_
                    refine G_goto 120 (by decide) d_Reckoner_reckon_116 ?_
                    exact G_sub _ [4, 5, 1, 6] rfl (t_Reckoner_reckon_120 ih w_98.2 l2 l3_61 l4 (1 : Int32) _ h)
              · replace h := ob_t h c_81
                refine G_aload_n 3 rfl d_Reckoner_reckon_84 ?_
                refine G_aload_n 3 rfl d_Reckoner_reckon_85 ?_
                refine G_iload 1 rfl d_Reckoner_reckon_86 ?_
                obtain ⟨v_88, q_88, h⟩ := ob_b h
                refine G_callV [.int l6_59] [.ref 40] (t_Reckoner_fact q_88) (by decide) (by decide) mv_Reckoner_fact rfl ml_Reckoner_76 kx_40 sx_40 cl_5 rfl (Nat.le_of_ble_eq_true rfl) d_Reckoner_reckon_88 ?_
                obtain ⟨w_91, q_91, h⟩ := ob_b h
                refine G_callV [.int v_88] [] (t_Reckoner_push q_91) (by decide) (by decide) mv_Reckoner_push rfl ml_Reckoner_72 kx_40 sx_40 cl_5 rfl (Nat.le_of_ble_eq_true rfl) d_Reckoner_reckon_91 ?_
                refine G_goto 190 (by decide) d_Reckoner_reckon_94 ?_
                exact G_sub _ [3, 4, 0, 5] rfl (t_Reckoner_reckon_190 ih w_91 l2 l3_61 l4 _ h)
            · replace h := ob_t h c_66
              refine G_aload_n 3 rfl d_Reckoner_reckon_69 ?_
              refine G_iload 1 rfl d_Reckoner_reckon_70 ?_
              obtain ⟨w_72, q_72, h⟩ := ob_b h
              refine G_callV [.int l6_59] [] (t_Reckoner_push q_72) (by decide) (by decide) mv_Reckoner_push rfl ml_Reckoner_72 kx_40 sx_40 cl_5 rfl (Nat.le_of_ble_eq_true rfl) d_Reckoner_reckon_72 ?_
              refine G_goto 190 (by decide) d_Reckoner_reckon_75 ?_
              exact G_sub _ [3, 4, 0, 5] rfl (t_Reckoner_reckon_190 ih w_72 l2 l3_61 l4 _ h)
def f_Reckoner_reckon (S : St) (l1 : Int32) (l2 : Int32) : Option (Int32 × St) :=
    (some (sF S 40 2 0)).bind fun S_2 =>
    (some (sF S_2 40 3 0)).bind fun S_7 =>
    (some (0 : Int32)).bind fun l4_13 =>
    f_Reckoner_reckon_15 FU S_7 l2 l1 l4_13
set_option maxHeartbeats 4000000 in
set_option maxRecDepth 20000 in
theorem t_Reckoner_reckon  {S : St} {l1 : Int32} {l2 : Int32} {w : Int32 × St} (h : f_Reckoner_reckon S l1 l2 = some w) : Ct SX m_Reckoner_reckon 4 [.ref 40, .int l1, .int l2] S (some w.1) w.2 := by
  unfold f_Reckoner_reckon at h
  refine Ct.of pn_Reckoner (Nat.le_of_ble_eq_true rfl) ?_
  show G SX m_Reckoner_reckon 4 (some w.1) w.2 0 [(0, .ref 40), (1, .int l1), (2, .int l2)] [] S
  refine G_aload_n 0 rfl d_Reckoner_reckon_0 ?_
  refine G_iconst 0 (by decide) d_Reckoner_reckon_1 ?_
  obtain ⟨S_2, e_2, h⟩ := ob_s h
  refine G_putI e_2 fp_Reckoner_15 kx_40 sx_40 rfl d_Reckoner_reckon_2 ?_
  refine G_aload_n 0 rfl d_Reckoner_reckon_5 ?_
  refine G_iconst 0 (by decide) d_Reckoner_reckon_6 ?_
  obtain ⟨S_7, e_7, h⟩ := ob_s h
  refine G_putZ e_7 (by decide) fp_Reckoner_19 kx_40 sx_40 rfl d_Reckoner_reckon_7 ?_
  refine G_iload_n 1 rfl d_Reckoner_reckon_10 ?_
  refine G_istore_n [(3, .int l1), (0, .ref 40), (1, .int l1), (2, .int l2)] rfl rfl (by decide) d_Reckoner_reckon_11 ?_
  refine G_iconst 0 (by decide) d_Reckoner_reckon_12 ?_
  obtain ⟨l4_13, e_13, h⟩ := ob_s h
  refine G_istore [(4, .int l4_13), (3, .int l1), (0, .ref 40), (1, .int l1), (2, .int l2)] e_13 rfl (by decide) d_Reckoner_reckon_13 ?_
  exact G_sub _ [2, 4, 1, 0] rfl (t_Reckoner_reckon_15 FU S_7 l2 l1 l4_13 _ h)
theorem d_Reckoner_ask_0 : decode m_Reckoner_ask.2.1 0 = .ok (.iconst 0, 1) := by decide +kernel
theorem d_Reckoner_ask_1 : decode m_Reckoner_ask.2.1 1 = .ok (.istore 4, 2) := by decide +kernel
theorem d_Reckoner_ask_3 : decode m_Reckoner_ask.2.1 3 = .ok (.iload 4, 2) := by decide +kernel
theorem d_Reckoner_ask_5 : decode m_Reckoner_ask.2.1 5 = .ok (.aload_n 0, 1) := by decide +kernel
theorem d_Reckoner_ask_6 : decode m_Reckoner_ask.2.1 6 = .ok (.getfield 29, 3) := by decide +kernel
theorem d_Reckoner_ask_9 : decode m_Reckoner_ask.2.1 9 = .ok (.getfield 37, 3) := by decide +kernel
theorem d_Reckoner_ask_12 : decode m_Reckoner_ask.2.1 12 = .ok (.if_icmp .ge 90, 3) := by decide +kernel
theorem d_Reckoner_ask_15 : decode m_Reckoner_ask.2.1 15 = .ok (.iload 4, 2) := by decide +kernel
theorem d_Reckoner_ask_17 : decode m_Reckoner_ask.2.1 17 = .ok (.bipush 16, 2) := by decide +kernel
theorem d_Reckoner_ask_19 : decode m_Reckoner_ask.2.1 19 = .ok (.if_icmp .ge 83, 3) := by decide +kernel
theorem d_Reckoner_ask_22 : decode m_Reckoner_ask.2.1 22 = .ok (.aload_n 0, 1) := by decide +kernel
theorem d_Reckoner_ask_23 : decode m_Reckoner_ask.2.1 23 = .ok (.getfield 29, 3) := by decide +kernel
theorem d_Reckoner_ask_26 : decode m_Reckoner_ask.2.1 26 = .ok (.getfield 42, 3) := by decide +kernel
theorem d_Reckoner_ask_29 : decode m_Reckoner_ask.2.1 29 = .ok (.iload 4, 2) := by decide +kernel
theorem d_Reckoner_ask_31 : decode m_Reckoner_ask.2.1 31 = .ok (.iaload, 1) := by decide +kernel
theorem d_Reckoner_ask_32 : decode m_Reckoner_ask.2.1 32 = .ok (.iload_n 1, 1) := by decide +kernel
theorem d_Reckoner_ask_33 : decode m_Reckoner_ask.2.1 33 = .ok (.if_icmp .ne 63, 3) := by decide +kernel
theorem d_Reckoner_ask_36 : decode m_Reckoner_ask.2.1 36 = .ok (.aload_n 0, 1) := by decide +kernel
theorem d_Reckoner_ask_37 : decode m_Reckoner_ask.2.1 37 = .ok (.aload_n 0, 1) := by decide +kernel
theorem d_Reckoner_ask_38 : decode m_Reckoner_ask.2.1 38 = .ok (.getfield 29, 3) := by decide +kernel
theorem d_Reckoner_ask_41 : decode m_Reckoner_ask.2.1 41 = .ok (.getfield 45, 3) := by decide +kernel
theorem d_Reckoner_ask_44 : decode m_Reckoner_ask.2.1 44 = .ok (.iload 4, 2) := by decide +kernel
theorem d_Reckoner_ask_46 : decode m_Reckoner_ask.2.1 46 = .ok (.iaload, 1) := by decide +kernel
theorem d_Reckoner_ask_47 : decode m_Reckoner_ask.2.1 47 = .ok (.aload_n 0, 1) := by decide +kernel
theorem d_Reckoner_ask_48 : decode m_Reckoner_ask.2.1 48 = .ok (.getfield 29, 3) := by decide +kernel
theorem d_Reckoner_ask_51 : decode m_Reckoner_ask.2.1 51 = .ok (.getfield 48, 3) := by decide +kernel
theorem d_Reckoner_ask_54 : decode m_Reckoner_ask.2.1 54 = .ok (.iload 4, 2) := by decide +kernel
theorem d_Reckoner_ask_56 : decode m_Reckoner_ask.2.1 56 = .ok (.iaload, 1) := by decide +kernel
theorem d_Reckoner_ask_57 : decode m_Reckoner_ask.2.1 57 = .ok (.invokevirtual 51, 3) := by decide +kernel
theorem d_Reckoner_ask_60 : decode m_Reckoner_ask.2.1 60 = .ok (.ifCond .eq 36, 3) := by decide +kernel
theorem d_Reckoner_ask_63 : decode m_Reckoner_ask.2.1 63 = .ok (.iconst 0, 1) := by decide +kernel
theorem d_Reckoner_ask_64 : decode m_Reckoner_ask.2.1 64 = .ok (.iload_n 3, 1) := by decide +kernel
theorem d_Reckoner_ask_65 : decode m_Reckoner_ask.2.1 65 = .ok (.aload_n 0, 1) := by decide +kernel
theorem d_Reckoner_ask_66 : decode m_Reckoner_ask.2.1 66 = .ok (.aload_n 0, 1) := by decide +kernel
theorem d_Reckoner_ask_67 : decode m_Reckoner_ask.2.1 67 = .ok (.getfield 29, 3) := by decide +kernel
theorem d_Reckoner_ask_70 : decode m_Reckoner_ask.2.1 70 = .ok (.getfield 55, 3) := by decide +kernel
theorem d_Reckoner_ask_73 : decode m_Reckoner_ask.2.1 73 = .ok (.iload 4, 2) := by decide +kernel
theorem d_Reckoner_ask_75 : decode m_Reckoner_ask.2.1 75 = .ok (.iaload, 1) := by decide +kernel
theorem d_Reckoner_ask_76 : decode m_Reckoner_ask.2.1 76 = .ok (.aload_n 0, 1) := by decide +kernel
theorem d_Reckoner_ask_77 : decode m_Reckoner_ask.2.1 77 = .ok (.getfield 29, 3) := by decide +kernel
theorem d_Reckoner_ask_80 : decode m_Reckoner_ask.2.1 80 = .ok (.getfield 45, 3) := by decide +kernel
theorem d_Reckoner_ask_83 : decode m_Reckoner_ask.2.1 83 = .ok (.iload 4, 2) := by decide +kernel
theorem d_Reckoner_ask_85 : decode m_Reckoner_ask.2.1 85 = .ok (.iaload, 1) := by decide +kernel
theorem d_Reckoner_ask_86 : decode m_Reckoner_ask.2.1 86 = .ok (.invokevirtual 51, 3) := by decide +kernel
theorem d_Reckoner_ask_89 : decode m_Reckoner_ask.2.1 89 = .ok (.invokestatic 58, 3) := by decide +kernel
theorem d_Reckoner_ask_92 : decode m_Reckoner_ask.2.1 92 = .ok (.invokestatic 63, 3) := by decide +kernel
theorem d_Reckoner_ask_95 : decode m_Reckoner_ask.2.1 95 = .ok (.ireturn, 1) := by decide +kernel
theorem d_Reckoner_ask_96 : decode m_Reckoner_ask.2.1 96 = .ok (.iinc 4 1, 3) := by decide +kernel
theorem d_Reckoner_ask_99 : decode m_Reckoner_ask.2.1 99 = .ok (.goto (-96), 3) := by decide +kernel
theorem d_Reckoner_ask_102 : decode m_Reckoner_ask.2.1 102 = .ok (.iload_n 2, 1) := by decide +kernel
theorem d_Reckoner_ask_103 : decode m_Reckoner_ask.2.1 103 = .ok (.ireturn, 1) := by decide +kernel
def f_Reckoner_ask_96 (k_3 : St → Int32 → Int32 → Int32 → Int32 → Option (Int32 × St)) (S : St) (l1 : Int32) (l2 : Int32) (l3 : Int32) (l4 : Int32) : Option (Int32 × St) :=
    (some (l4 + 1)).bind fun l4_96 =>
    k_3 S l1 l2 l3 l4_96
set_option maxHeartbeats 4000000 in
set_option maxRecDepth 20000 in
theorem t_Reckoner_ask_96  {k_3 : St → Int32 → Int32 → Int32 → Int32 → Option (Int32 × St)} (hk_3 : ∀ (S : St) (l1 : Int32) (l2 : Int32) (l3 : Int32) (l4 : Int32) (w : Int32 × St), k_3 S l1 l2 l3 l4 = some w → G SX m_Reckoner_ask 5 (some w.1) w.2 3 [(0, .ref 40), (1, .int l1), (2, .int l2), (3, .int l3), (4, .int l4)] [] S) (S : St) (l1 : Int32) (l2 : Int32) (l3 : Int32) (l4 : Int32) (w : Int32 × St) (h : f_Reckoner_ask_96 k_3 S l1 l2 l3 l4 = some w) : G SX m_Reckoner_ask 5 (some w.1) w.2 96 [(0, .ref 40), (1, .int l1), (2, .int l2), (3, .int l3), (4, .int l4)] [] S := by
  unfold f_Reckoner_ask_96 at h
  obtain ⟨l4_96, e_96, h⟩ := ob_s h
  refine G_iinc 1 4 [(4, .int l4_96), (0, .ref 40), (1, .int l1), (2, .int l2), (3, .int l3)] (by decide) rfl e_96 rfl (by decide) d_Reckoner_ask_96 ?_
  refine G_goto 3 (by decide) d_Reckoner_ask_99 ?_
  exact G_sub _ [1, 2, 3, 4, 0] rfl (hk_3 S l1 l2 l3 l4_96 _ h)
def f_Reckoner_ask_3 : Nat → St → Int32 → Int32 → Int32 → Int32 → Option (Int32 × St)
  | 0, _, _, _, _, _ => none
  | n + 1, S, l1, l2, l3, l4 =>
    if (S 25 8) ≤ l4 then (
    some (l2, S))
    else (
    if (16 : Int32) ≤ l4 then (
    some (l2, S))
    else (
    if ig l4 16 then (
    if (S 28 l4.toNatClampNeg) = l1 then (
    if ig l4 16 then (
    if ig l4 16 then (
    (f_Reckoner_reckon S (S 30 l4.toNatClampNeg) (S 31 l4.toNatClampNeg)).bind fun w_57 =>
    if w_57.1 = 0 then (
    f_Reckoner_ask_96 (f_Reckoner_ask_3 n) w_57.2 l1 l2 l3 l4)
    else (
    if ig l4 16 then (
    if ig l4 16 then (
    (f_Reckoner_reckon w_57.2 (w_57.2 29 l4.toNatClampNeg) (w_57.2 30 l4.toNatClampNeg)).bind fun w_86 =>
    some ((jmax (0 : Int32) (jmin l3 w_86.1)), w_86.2)) else none) else none)) else none) else none)
    else (
    f_Reckoner_ask_96 (f_Reckoner_ask_3 n) S l1 l2 l3 l4)) else none))
set_option maxHeartbeats 4000000 in
set_option maxRecDepth 20000 in
theorem t_Reckoner_ask_3  : ∀ (n : Nat) (S : St) (l1 : Int32) (l2 : Int32) (l3 : Int32) (l4 : Int32) (w : Int32 × St), f_Reckoner_ask_3 n S l1 l2 l3 l4 = some w → G SX m_Reckoner_ask 5 (some w.1) w.2 3 [(0, .ref 40), (1, .int l1), (2, .int l2), (3, .int l3), (4, .int l4)] [] S := by
  intro n
  induction n with
  | zero =>
    intro S l1 l2 l3 l4 w h
    rw [f_Reckoner_ask_3] at h
    cases h
  | succ n ih =>
    intro S l1 l2 l3 l4 w h
    rw [f_Reckoner_ask_3] at h
    refine G_iload 4 rfl d_Reckoner_ask_3 ?_
    refine G_aload_n 0 rfl d_Reckoner_ask_5 ?_
    refine G_getR fl_Reckoner_29 kx_40 sx_40 rfl (by decide) d_Reckoner_ask_6 ?_
    refine G_getI fl_Reckoner_37 kx_25 sx_25 rfl d_Reckoner_ask_9 ?_
    refine G_icmp_ge 102 (by decide) d_Reckoner_ask_12 (fun c_12 => ?_) (fun c_12 => ?_)
    · replace h := ob_t h c_12
      refine G_iload_n 2 rfl d_Reckoner_ask_102 ?_
      cases h
      exact G_iret rfl d_Reckoner_ask_103
    · replace h := ob_f h c_12
      refine G_iload 4 rfl d_Reckoner_ask_15 ?_
      refine G_bipush 16 (by decide) d_Reckoner_ask_17 ?_
      refine G_icmp_ge 102 (by decide) d_Reckoner_ask_19 (fun c_19 => ?_) (fun c_19 => ?_)
      · replace h := ob_t h c_19
        refine G_iload_n 2 rfl d_Reckoner_ask_102 ?_
        cases h
        exact G_iret rfl d_Reckoner_ask_103
      · replace h := ob_f h c_19
        refine G_aload_n 0 rfl d_Reckoner_ask_22 ?_
        refine G_getR fl_Reckoner_29 kx_40 sx_40 rfl (by decide) d_Reckoner_ask_23 ?_
        refine G_getR fl_Reckoner_42 kx_25 sx_25 rfl (by decide) d_Reckoner_ask_26 ?_
        refine G_iload 4 rfl d_Reckoner_ask_29 ?_
        obtain ⟨g_31, h⟩ := ob_g h
        refine G_iaload kx_28 sx_28 g_31 d_Reckoner_ask_31 ?_
        refine G_iload_n 1 rfl d_Reckoner_ask_32 ?_
        refine G_icmp_ne 96 (by decide) d_Reckoner_ask_33 (fun c_33 => ?_) (fun c_33 => ?_)
        · replace h := ob_f h c_33
          exact G_sub _ [0, 1, 2, 3, 4] rfl (t_Reckoner_ask_96 ih S l1 l2 l3 l4 _ h)
        · replace h := ob_t h c_33
          refine G_aload_n 0 rfl d_Reckoner_ask_36 ?_
          refine G_aload_n 0 rfl d_Reckoner_ask_37 ?_
          refine G_getR fl_Reckoner_29 kx_40 sx_40 rfl (by decide) d_Reckoner_ask_38 ?_
          refine G_getR fl_Reckoner_45 kx_25 sx_25 rfl (by decide) d_Reckoner_ask_41 ?_
          refine G_iload 4 rfl d_Reckoner_ask_44 ?_
          obtain ⟨g_46, h⟩ := ob_g h
          refine G_iaload kx_30 sx_30 g_46 d_Reckoner_ask_46 ?_
          refine G_aload_n 0 rfl d_Reckoner_ask_47 ?_
          refine G_getR fl_Reckoner_29 kx_40 sx_40 rfl (by decide) d_Reckoner_ask_48 ?_
          refine G_getR fl_Reckoner_48 kx_25 sx_25 rfl (by decide) d_Reckoner_ask_51 ?_
          refine G_iload 4 rfl d_Reckoner_ask_54 ?_
          obtain ⟨g_56, h⟩ := ob_g h
          refine G_iaload kx_31 sx_31 g_56 d_Reckoner_ask_56 ?_
          obtain ⟨w_57, q_57, h⟩ := ob_b h
          refine G_callV [.int (S 30 l4.toNatClampNeg), .int (S 31 l4.toNatClampNeg)] [] (t_Reckoner_reckon q_57) (by decide) (by decide) mv_Reckoner_reckon rfl ml_Reckoner_51 kx_40 sx_40 cl_5 rfl (Nat.le_of_ble_eq_true rfl) d_Reckoner_ask_57 ?_
          refine G_if_eq 96 (by decide) d_Reckoner_ask_60 (fun c_60 => ?_) (fun c_60 => ?_)
          · replace h := ob_t h c_60
            exact G_sub _ [0, 1, 2, 3, 4] rfl (t_Reckoner_ask_96 ih w_57.2 l1 l2 l3 l4 _ h)
          · replace h := ob_f h c_60
            refine G_iconst 0 (by decide) d_Reckoner_ask_63 ?_
            refine G_iload_n 3 rfl d_Reckoner_ask_64 ?_
            refine G_aload_n 0 rfl d_Reckoner_ask_65 ?_
            refine G_aload_n 0 rfl d_Reckoner_ask_66 ?_
            refine G_getR fl_Reckoner_29 kx_40 sx_40 rfl (by decide) d_Reckoner_ask_67 ?_
            refine G_getR fl_Reckoner_55 kx_25 sx_25 rfl (by decide) d_Reckoner_ask_70 ?_
            refine G_iload 4 rfl d_Reckoner_ask_73 ?_
            obtain ⟨g_75, h⟩ := ob_g h
            refine G_iaload kx_29 sx_29 g_75 d_Reckoner_ask_75 ?_
            refine G_aload_n 0 rfl d_Reckoner_ask_76 ?_
            refine G_getR fl_Reckoner_29 kx_40 sx_40 rfl (by decide) d_Reckoner_ask_77 ?_
            refine G_getR fl_Reckoner_45 kx_25 sx_25 rfl (by decide) d_Reckoner_ask_80 ?_
            refine G_iload 4 rfl d_Reckoner_ask_83 ?_
            obtain ⟨g_85, h⟩ := ob_g h
            refine G_iaload kx_30 sx_30 g_85 d_Reckoner_ask_85 ?_
            obtain ⟨w_86, q_86, h⟩ := ob_b h
            refine G_callV [.int (w_57.2 29 l4.toNatClampNeg), .int (w_57.2 30 l4.toNatClampNeg)] [.int l3, .int 0] (t_Reckoner_reckon q_86) (by decide) (by decide) mv_Reckoner_reckon rfl ml_Reckoner_51 kx_40 sx_40 cl_5 rfl (Nat.le_of_ble_eq_true rfl) d_Reckoner_ask_86 ?_
            refine G_mmin ms_Reckoner_58 (by decide) (Nat.le_of_ble_eq_true rfl) d_Reckoner_ask_89 ?_
            refine G_mmax ms_Reckoner_63 (by decide) (Nat.le_of_ble_eq_true rfl) d_Reckoner_ask_92 ?_
            cases h
            exact G_iret rfl d_Reckoner_ask_95
def f_Reckoner_ask (S : St) (l1 : Int32) (l2 : Int32) (l3 : Int32) : Option (Int32 × St) :=
    (some (0 : Int32)).bind fun l4_1 =>
    f_Reckoner_ask_3 FU S l1 l2 l3 l4_1
set_option maxHeartbeats 4000000 in
set_option maxRecDepth 20000 in
theorem t_Reckoner_ask  {S : St} {l1 : Int32} {l2 : Int32} {l3 : Int32} {w : Int32 × St} (h : f_Reckoner_ask S l1 l2 l3 = some w) : Ct SX m_Reckoner_ask 5 [.ref 40, .int l1, .int l2, .int l3] S (some w.1) w.2 := by
  unfold f_Reckoner_ask at h
  refine Ct.of pn_Reckoner (Nat.le_of_ble_eq_true rfl) ?_
  show G SX m_Reckoner_ask 5 (some w.1) w.2 0 [(0, .ref 40), (1, .int l1), (2, .int l2), (3, .int l3)] [] S
  refine G_iconst 0 (by decide) d_Reckoner_ask_0 ?_
  obtain ⟨l4_1, e_1, h⟩ := ob_s h
  refine G_istore [(4, .int l4_1), (0, .ref 40), (1, .int l1), (2, .int l2), (3, .int l3)] e_1 rfl (by decide) d_Reckoner_ask_1 ?_
  exact G_sub _ [1, 2, 3, 4, 0] rfl (t_Reckoner_ask_3 FU S l1 l2 l3 l4_1 _ h)
theorem d_Almanac_passOver_0 : decode m_Almanac_passOver.2.1 0 = .ok (.aload_n 0, 1) := by decide +kernel
theorem d_Almanac_passOver_1 : decode m_Almanac_passOver.2.1 1 = .ok (.getfield 9, 3) := by decide +kernel
theorem d_Almanac_passOver_4 : decode m_Almanac_passOver.2.1 4 = .ok (.aload_n 1, 1) := by decide +kernel
theorem d_Almanac_passOver_5 : decode m_Almanac_passOver.2.1 5 = .ok (.iload_n 2, 1) := by decide +kernel
theorem d_Almanac_passOver_6 : decode m_Almanac_passOver.2.1 6 = .ok (.aload_n 1, 1) := by decide +kernel
theorem d_Almanac_passOver_7 : decode m_Almanac_passOver.2.1 7 = .ok (.invokevirtual 41, 3) := by decide +kernel
theorem d_Almanac_passOver_10 : decode m_Almanac_passOver.2.1 10 = .ok (.invokevirtual 45, 3) := by decide +kernel
theorem d_Almanac_passOver_13 : decode m_Almanac_passOver.2.1 13 = .ok (.aload_n 0, 1) := by decide +kernel
theorem d_Almanac_passOver_14 : decode m_Almanac_passOver.2.1 14 = .ok (.getfield 9, 3) := by decide +kernel
theorem d_Almanac_passOver_17 : decode m_Almanac_passOver.2.1 17 = .ok (.bipush 120, 2) := by decide +kernel
theorem d_Almanac_passOver_19 : decode m_Almanac_passOver.2.1 19 = .ok (.iconst 0, 1) := by decide +kernel
theorem d_Almanac_passOver_20 : decode m_Almanac_passOver.2.1 20 = .ok (.iconst 1, 1) := by decide +kernel
theorem d_Almanac_passOver_21 : decode m_Almanac_passOver.2.1 21 = .ok (.invokevirtual 51, 3) := by decide +kernel
theorem d_Almanac_passOver_24 : decode m_Almanac_passOver.2.1 24 = .ok (.istore_n 3, 1) := by decide +kernel
theorem d_Almanac_passOver_25 : decode m_Almanac_passOver.2.1 25 = .ok (.aload_n 0, 1) := by decide +kernel
theorem d_Almanac_passOver_26 : decode m_Almanac_passOver.2.1 26 = .ok (.getfield 9, 3) := by decide +kernel
theorem d_Almanac_passOver_29 : decode m_Almanac_passOver.2.1 29 = .ok (.bipush 98, 2) := by decide +kernel
theorem d_Almanac_passOver_31 : decode m_Almanac_passOver.2.1 31 = .ok (.iconst 1, 1) := by decide +kernel
theorem d_Almanac_passOver_32 : decode m_Almanac_passOver.2.1 32 = .ok (.bipush 99, 2) := by decide +kernel
theorem d_Almanac_passOver_34 : decode m_Almanac_passOver.2.1 34 = .ok (.invokevirtual 51, 3) := by decide +kernel
theorem d_Almanac_passOver_37 : decode m_Almanac_passOver.2.1 37 = .ok (.istore 4, 2) := by decide +kernel
theorem d_Almanac_passOver_39 : decode m_Almanac_passOver.2.1 39 = .ok (.aload_n 0, 1) := by decide +kernel
theorem d_Almanac_passOver_40 : decode m_Almanac_passOver.2.1 40 = .ok (.getfield 9, 3) := by decide +kernel
theorem d_Almanac_passOver_43 : decode m_Almanac_passOver.2.1 43 = .ok (.bipush 100, 2) := by decide +kernel
theorem d_Almanac_passOver_45 : decode m_Almanac_passOver.2.1 45 = .ok (.iconst 0, 1) := by decide +kernel
theorem d_Almanac_passOver_46 : decode m_Almanac_passOver.2.1 46 = .ok (.bipush 10, 2) := by decide +kernel
theorem d_Almanac_passOver_48 : decode m_Almanac_passOver.2.1 48 = .ok (.invokevirtual 51, 3) := by decide +kernel
theorem d_Almanac_passOver_51 : decode m_Almanac_passOver.2.1 51 = .ok (.istore 5, 2) := by decide +kernel
theorem d_Almanac_passOver_53 : decode m_Almanac_passOver.2.1 53 = .ok (.iload_n 3, 1) := by decide +kernel
theorem d_Almanac_passOver_54 : decode m_Almanac_passOver.2.1 54 = .ok (.ifCond .le 18, 3) := by decide +kernel
theorem d_Almanac_passOver_57 : decode m_Almanac_passOver.2.1 57 = .ok (.aload_n 1, 1) := by decide +kernel
theorem d_Almanac_passOver_58 : decode m_Almanac_passOver.2.1 58 = .ok (.getfield 55, 3) := by decide +kernel
theorem d_Almanac_passOver_61 : decode m_Almanac_passOver.2.1 61 = .ok (.iload_n 2, 1) := by decide +kernel
theorem d_Almanac_passOver_62 : decode m_Almanac_passOver.2.1 62 = .ok (.iaload, 1) := by decide +kernel
theorem d_Almanac_passOver_63 : decode m_Almanac_passOver.2.1 63 = .ok (.ifCond .le 9, 3) := by decide +kernel
theorem d_Almanac_passOver_66 : decode m_Almanac_passOver.2.1 66 = .ok (.aload_n 1, 1) := by decide +kernel
theorem d_Almanac_passOver_67 : decode m_Almanac_passOver.2.1 67 = .ok (.iload_n 2, 1) := by decide +kernel
theorem d_Almanac_passOver_68 : decode m_Almanac_passOver.2.1 68 = .ok (.iconst 1, 1) := by decide +kernel
theorem d_Almanac_passOver_69 : decode m_Almanac_passOver.2.1 69 = .ok (.invokevirtual 59, 3) := by decide +kernel
theorem d_Almanac_passOver_72 : decode m_Almanac_passOver.2.1 72 = .ok (.aload_n 1, 1) := by decide +kernel
theorem d_Almanac_passOver_73 : decode m_Almanac_passOver.2.1 73 = .ok (.iload_n 2, 1) := by decide +kernel
theorem d_Almanac_passOver_74 : decode m_Almanac_passOver.2.1 74 = .ok (.invokevirtual 63, 3) := by decide +kernel
theorem d_Almanac_passOver_77 : decode m_Almanac_passOver.2.1 77 = .ok (.ifCond .eq 10, 3) := by decide +kernel
theorem d_Almanac_passOver_80 : decode m_Almanac_passOver.2.1 80 = .ok (.aload_n 1, 1) := by decide +kernel
theorem d_Almanac_passOver_81 : decode m_Almanac_passOver.2.1 81 = .ok (.iload_n 2, 1) := by decide +kernel
theorem d_Almanac_passOver_82 : decode m_Almanac_passOver.2.1 82 = .ok (.iload 4, 2) := by decide +kernel
theorem d_Almanac_passOver_84 : decode m_Almanac_passOver.2.1 84 = .ok (.invokevirtual 66, 3) := by decide +kernel
theorem d_Almanac_passOver_87 : decode m_Almanac_passOver.2.1 87 = .ok (.aload_n 1, 1) := by decide +kernel
theorem d_Almanac_passOver_88 : decode m_Almanac_passOver.2.1 88 = .ok (.invokevirtual 41, 3) := by decide +kernel
theorem d_Almanac_passOver_91 : decode m_Almanac_passOver.2.1 91 = .ok (.iload 5, 2) := by decide +kernel
theorem d_Almanac_passOver_93 : decode m_Almanac_passOver.2.1 93 = .ok (.if_icmp .ge 7, 3) := by decide +kernel
theorem d_Almanac_passOver_96 : decode m_Almanac_passOver.2.1 96 = .ok (.iconst 1, 1) := by decide +kernel
theorem d_Almanac_passOver_97 : decode m_Almanac_passOver.2.1 97 = .ok (.goto 4, 3) := by decide +kernel
theorem d_Almanac_passOver_100 : decode m_Almanac_passOver.2.1 100 = .ok (.iconst 0, 1) := by decide +kernel
theorem d_Almanac_passOver_101 : decode m_Almanac_passOver.2.1 101 = .ok (.istore 6, 2) := by decide +kernel
theorem d_Almanac_passOver_103 : decode m_Almanac_passOver.2.1 103 = .ok (.iload 6, 2) := by decide +kernel
theorem d_Almanac_passOver_105 : decode m_Almanac_passOver.2.1 105 = .ok (.ifCond .eq 19, 3) := by decide +kernel
theorem d_Almanac_passOver_108 : decode m_Almanac_passOver.2.1 108 = .ok (.aload_n 1, 1) := by decide +kernel
theorem d_Almanac_passOver_109 : decode m_Almanac_passOver.2.1 109 = .ok (.iload_n 2, 1) := by decide +kernel
theorem d_Almanac_passOver_110 : decode m_Almanac_passOver.2.1 110 = .ok (.invokevirtual 70, 3) := by decide +kernel
theorem d_Almanac_passOver_113 : decode m_Almanac_passOver.2.1 113 = .ok (.ifCond .eq 11, 3) := by decide +kernel
theorem d_Almanac_passOver_116 : decode m_Almanac_passOver.2.1 116 = .ok (.aload_n 1, 1) := by decide +kernel
theorem d_Almanac_passOver_117 : decode m_Almanac_passOver.2.1 117 = .ok (.iload_n 2, 1) := by decide +kernel
theorem d_Almanac_passOver_118 : decode m_Almanac_passOver.2.1 118 = .ok (.invokevirtual 73, 3) := by decide +kernel
theorem d_Almanac_passOver_121 : decode m_Almanac_passOver.2.1 121 = .ok (.goto 8, 3) := by decide +kernel
theorem d_Almanac_passOver_124 : decode m_Almanac_passOver.2.1 124 = .ok (.aload_n 1, 1) := by decide +kernel
theorem d_Almanac_passOver_125 : decode m_Almanac_passOver.2.1 125 = .ok (.iload_n 2, 1) := by decide +kernel
theorem d_Almanac_passOver_126 : decode m_Almanac_passOver.2.1 126 = .ok (.invokevirtual 77, 3) := by decide +kernel
theorem d_Almanac_passOver_129 : decode m_Almanac_passOver.2.1 129 = .ok (.return_, 1) := by decide +kernel
def f_Almanac_passOver_124 (P : Nat) (S : St) (l2 : Int32) : Option (St) :=
    (f_Parish_putItOff S P l2).bind fun w_126 =>
    some w_126
set_option maxHeartbeats 4000000 in
set_option maxRecDepth 20000 in
theorem t_Almanac_passOver_124  {P : Nat} (hP : isP P) (S : St) (l2 : Int32) (w : St) (h : f_Almanac_passOver_124 P S l2 = some w) : G SX m_Almanac_passOver 6 none w 124 [(0, .ref 39), (1, .ref P), (2, .int l2)] [] S := by
  unfold f_Almanac_passOver_124 at h
  refine G_aload_n 1 rfl d_Almanac_passOver_124 ?_
  refine G_iload_n 2 rfl d_Almanac_passOver_125 ?_
  obtain ⟨w_126, q_126, h⟩ := ob_b h
  refine G_callV [.int l2] [] (t_Parish_putItOff hP q_126) (by decide) (by decide) mv_Parish_putItOff rfl ml_Almanac_77 (kP hP) (sP hP) cl_2 rfl (Nat.le_of_ble_eq_true rfl) d_Almanac_passOver_126 ?_
  cases h
  exact G_vret rfl d_Almanac_passOver_129
def f_Almanac_passOver_101 (P : Nat) (S : St) (l2 : Int32) (s0 : Int32) : Option (St) :=
    if s0 = 0 then (
    f_Almanac_passOver_124 P S l2)
    else (
    (f_Parish_isFree S P l2).bind fun v_110 =>
    if v_110 = 0 then (
    f_Almanac_passOver_124 P S l2)
    else (
    (f_Parish_finish S P l2).bind fun w_118 =>
    some w_118))
set_option maxHeartbeats 4000000 in
set_option maxRecDepth 20000 in
theorem t_Almanac_passOver_101  {P : Nat} (hP : isP P) (S : St) (l2 : Int32) (s0 : Int32) (w : St) (h : f_Almanac_passOver_101 P S l2 s0 = some w) : G SX m_Almanac_passOver 6 none w 101 [(0, .ref 39), (1, .ref P), (2, .int l2)] [.int s0] S := by
  unfold f_Almanac_passOver_101 at h
  refine G_istore [(6, .int s0), (0, .ref 39), (1, .ref P), (2, .int l2)] rfl rfl (by decide) d_Almanac_passOver_101 ?_
  refine G_iload 0 rfl d_Almanac_passOver_103 ?_
  refine G_if_eq 124 (by decide) d_Almanac_passOver_105 (fun c_105 => ?_) (fun c_105 => ?_)
  · replace h := ob_t h c_105
    exact G_sub _ [1, 2, 3] rfl (t_Almanac_passOver_124 hP S l2 _ h)
  · replace h := ob_f h c_105
    refine G_aload_n 2 rfl d_Almanac_passOver_108 ?_
    refine G_iload_n 3 rfl d_Almanac_passOver_109 ?_
    obtain ⟨v_110, q_110, h⟩ := ob_b h
    refine G_callV [.int l2] [] (t_Parish_isFree hP q_110) (by decide) (by decide) mv_Parish_isFree rfl ml_Almanac_70 (kP hP) (sP hP) cl_2 rfl (Nat.le_of_ble_eq_true rfl) d_Almanac_passOver_110 ?_
    refine G_if_eq 124 (by decide) d_Almanac_passOver_113 (fun c_113 => ?_) (fun c_113 => ?_)
    · replace h := ob_t h c_113
      exact G_sub _ [1, 2, 3] rfl (t_Almanac_passOver_124 hP S l2 _ h)
    · replace h := ob_f h c_113
      refine G_aload_n 2 rfl d_Almanac_passOver_116 ?_
      refine G_iload_n 3 rfl d_Almanac_passOver_117 ?_
      obtain ⟨w_118, q_118, h⟩ := ob_b h
      refine G_callV [.int l2] [] (t_Parish_finish hP q_118) (by decide) (by decide) mv_Parish_finish rfl ml_Almanac_73 (kP hP) (sP hP) cl_2 rfl (Nat.le_of_ble_eq_true rfl) d_Almanac_passOver_118 ?_
      refine G_goto 129 (by decide) d_Almanac_passOver_121 ?_
      cases h
      exact G_vret rfl d_Almanac_passOver_129
def f_Almanac_passOver_87 (P : Nat) (S : St) (l2 : Int32) (l5 : Int32) : Option (St) :=
    (f_Parish_draw S P).bind fun w_88 =>
    if l5 ≤ w_88.1 then (
    f_Almanac_passOver_101 P w_88.2 l2 (0 : Int32))
    else (
    f_Almanac_passOver_101 P w_88.2 l2 (1 : Int32))
set_option maxHeartbeats 4000000 in
set_option maxRecDepth 20000 in
theorem t_Almanac_passOver_87  {P : Nat} (hP : isP P) (S : St) (l2 : Int32) (l5 : Int32) (w : St) (h : f_Almanac_passOver_87 P S l2 l5 = some w) : G SX m_Almanac_passOver 6 none w 87 [(0, .ref 39), (1, .ref P), (2, .int l2), (5, .int l5)] [] S := by
  unfold f_Almanac_passOver_87 at h
  refine G_aload_n 1 rfl d_Almanac_passOver_87 ?_
  obtain ⟨w_88, q_88, h⟩ := ob_b h
  refine G_callV [] [] (t_Parish_draw hP q_88) (by decide) (by decide) mv_Parish_draw rfl ml_Almanac_41 (kP hP) (sP hP) cl_2 rfl (Nat.le_of_ble_eq_true rfl) d_Almanac_passOver_88 ?_
  refine G_iload 3 rfl d_Almanac_passOver_91 ?_
  refine G_icmp_ge 100 (by decide) d_Almanac_passOver_93 (fun c_93 => ?_) (fun c_93 => ?_)
  · replace h := ob_t h c_93
    refine G_iconst 0 (by decide) d_Almanac_passOver_100 ?_
    exact G_sub _ [0, 1, 2] rfl (t_Almanac_passOver_101 hP w_88.2 l2 (0 : Int32) _ h)
  · replace h := ob_f h c_93
    refine G_iconst 1 (by decide) d_Almanac_passOver_96 ?_
    refine G_goto 101 (by decide) d_Almanac_passOver_97 ?_
    exact G_sub _ [0, 1, 2] rfl (t_Almanac_passOver_101 hP w_88.2 l2 (1 : Int32) _ h)
def f_Almanac_passOver_72 (P : Nat) (S : St) (l2 : Int32) (l4 : Int32) (l5 : Int32) : Option (St) :=
    (f_Parish_isLit S P l2).bind fun v_74 =>
    if v_74 = 0 then (
    f_Almanac_passOver_87 P S l2 l5)
    else (
    (f_Parish_burn S P l2 l4).bind fun w_84 =>
    f_Almanac_passOver_87 P w_84 l2 l5)
set_option maxHeartbeats 4000000 in
set_option maxRecDepth 20000 in
theorem t_Almanac_passOver_72  {P : Nat} (hP : isP P) (S : St) (l2 : Int32) (l4 : Int32) (l5 : Int32) (w : St) (h : f_Almanac_passOver_72 P S l2 l4 l5 = some w) : G SX m_Almanac_passOver 6 none w 72 [(0, .ref 39), (1, .ref P), (2, .int l2), (4, .int l4), (5, .int l5)] [] S := by
  unfold f_Almanac_passOver_72 at h
  refine G_aload_n 1 rfl d_Almanac_passOver_72 ?_
  refine G_iload_n 2 rfl d_Almanac_passOver_73 ?_
  obtain ⟨v_74, q_74, h⟩ := ob_b h
  refine G_callV [.int l2] [] (t_Parish_isLit hP q_74) (by decide) (by decide) mv_Parish_isLit rfl ml_Almanac_63 (kP hP) (sP hP) cl_2 rfl (Nat.le_of_ble_eq_true rfl) d_Almanac_passOver_74 ?_
  refine G_if_eq 87 (by decide) d_Almanac_passOver_77 (fun c_77 => ?_) (fun c_77 => ?_)
  · replace h := ob_t h c_77
    exact G_sub _ [0, 1, 2, 4] rfl (t_Almanac_passOver_87 hP S l2 l5 _ h)
  · replace h := ob_f h c_77
    refine G_aload_n 1 rfl d_Almanac_passOver_80 ?_
    refine G_iload_n 2 rfl d_Almanac_passOver_81 ?_
    refine G_iload 3 rfl d_Almanac_passOver_82 ?_
    obtain ⟨w_84, q_84, h⟩ := ob_b h
    refine G_callV [.int l2, .int l4] [] (t_Parish_burn hP q_84) (by decide) (by decide) mv_Parish_burn rfl ml_Almanac_66 (kP hP) (sP hP) cl_2 rfl (Nat.le_of_ble_eq_true rfl) d_Almanac_passOver_84 ?_
    exact G_sub _ [0, 1, 2, 4] rfl (t_Almanac_passOver_87 hP w_84 l2 l5 _ h)
def f_Almanac_passOver (S : St) (P : Nat) (l2 : Int32) : Option (St) :=
    (f_Parish_draw S P).bind fun w_7 =>
    (f_Reckoner_face w_7.2 P l2 w_7.1).bind fun w_10 =>
    (f_Reckoner_ask w_10 (120 : Int32) (0 : Int32) (1 : Int32)).bind fun w_21 =>
    (some w_21.1).bind fun l3_24 =>
    (f_Reckoner_ask w_21.2 (98 : Int32) (1 : Int32) (99 : Int32)).bind fun w_34 =>
    (some w_34.1).bind fun l4_37 =>
    (f_Reckoner_ask w_34.2 (100 : Int32) (0 : Int32) (10 : Int32)).bind fun w_48 =>
    (some w_48.1).bind fun l5_51 =>
    if l3_24 ≤ 0 then (
    f_Almanac_passOver_72 P w_48.2 l2 l4_37 l5_51)
    else (
    if ig l2 24 then (
    if (w_48.2 (P + 3) l2.toNatClampNeg) ≤ 0 then (
    f_Almanac_passOver_72 P w_48.2 l2 l4_37 l5_51)
    else (
    (f_Parish_putLight w_48.2 P l2 (1 : Int32)).bind fun w_69 =>
    f_Almanac_passOver_72 P w_69 l2 l4_37 l5_51)) else none)
set_option maxHeartbeats 4000000 in
set_option maxRecDepth 20000 in
theorem t_Almanac_passOver  {P : Nat} (hP : isP P) {S : St} {l2 : Int32} {w : St} (h : f_Almanac_passOver S P l2 = some w) : Ct SX m_Almanac_passOver 6 [.ref 39, .ref P, .int l2] S none w := by
  unfold f_Almanac_passOver at h
  refine Ct.of pn_Almanac (Nat.le_of_ble_eq_true rfl) ?_
  show G SX m_Almanac_passOver 6 none w 0 [(0, .ref 39), (1, .ref P), (2, .int l2)] [] S
  refine G_aload_n 0 rfl d_Almanac_passOver_0 ?_
  refine G_getR fl_Almanac_9 kx_39 sx_39 rfl (by decide) d_Almanac_passOver_1 ?_
  refine G_aload_n 1 rfl d_Almanac_passOver_4 ?_
  refine G_iload_n 2 rfl d_Almanac_passOver_5 ?_
  refine G_aload_n 1 rfl d_Almanac_passOver_6 ?_
  obtain ⟨w_7, q_7, h⟩ := ob_b h
  refine G_callV [] [.int l2, .ref P, .ref 40] (t_Parish_draw hP q_7) (by decide) (by decide) mv_Parish_draw rfl ml_Almanac_41 (kP hP) (sP hP) cl_2 rfl (Nat.le_of_ble_eq_true rfl) d_Almanac_passOver_7 ?_
  obtain ⟨w_10, q_10, h⟩ := ob_b h
  refine G_callV [.ref P, .int l2, .int w_7.1] [] (t_Reckoner_face hP q_10) (by decide) (by decide) mv_Reckoner_face rfl ml_Almanac_45 kx_40 sx_40 cl_5 rfl (Nat.le_of_ble_eq_true rfl) d_Almanac_passOver_10 ?_
  refine G_aload_n 0 rfl d_Almanac_passOver_13 ?_
  refine G_getR fl_Almanac_9 kx_39 sx_39 rfl (by decide) d_Almanac_passOver_14 ?_
  refine G_bipush 120 (by decide) d_Almanac_passOver_17 ?_
  refine G_iconst 0 (by decide) d_Almanac_passOver_19 ?_
  refine G_iconst 1 (by decide) d_Almanac_passOver_20 ?_
  obtain ⟨w_21, q_21, h⟩ := ob_b h
  refine G_callV [.int 120, .int 0, .int 1] [] (t_Reckoner_ask q_21) (by decide) (by decide) mv_Reckoner_ask rfl ml_Almanac_51 kx_40 sx_40 cl_5 rfl (Nat.le_of_ble_eq_true rfl) d_Almanac_passOver_21 ?_
  obtain ⟨l3_24, e_24, h⟩ := ob_s h
  refine G_istore_n [(3, .int l3_24), (0, .ref 39), (1, .ref P), (2, .int l2)] e_24 rfl (by decide) d_Almanac_passOver_24 ?_
  refine G_aload_n 1 rfl d_Almanac_passOver_25 ?_
  refine G_getR fl_Almanac_9 kx_39 sx_39 rfl (by decide) d_Almanac_passOver_26 ?_
  refine G_bipush 98 (by decide) d_Almanac_passOver_29 ?_
  refine G_iconst 1 (by decide) d_Almanac_passOver_31 ?_
  refine G_bipush 99 (by decide) d_Almanac_passOver_32 ?_
  obtain ⟨w_34, q_34, h⟩ := ob_b h
  refine G_callV [.int 98, .int 1, .int 99] [] (t_Reckoner_ask q_34) (by decide) (by decide) mv_Reckoner_ask rfl ml_Almanac_51 kx_40 sx_40 cl_5 rfl (Nat.le_of_ble_eq_true rfl) d_Almanac_passOver_34 ?_
  obtain ⟨l4_37, e_37, h⟩ := ob_s h
  refine G_istore [(4, .int l4_37), (3, .int l3_24), (0, .ref 39), (1, .ref P), (2, .int l2)] e_37 rfl (by decide) d_Almanac_passOver_37 ?_
  refine G_aload_n 2 rfl d_Almanac_passOver_39 ?_
  refine G_getR fl_Almanac_9 kx_39 sx_39 rfl (by decide) d_Almanac_passOver_40 ?_
  refine G_bipush 100 (by decide) d_Almanac_passOver_43 ?_
  refine G_iconst 0 (by decide) d_Almanac_passOver_45 ?_
  refine G_bipush 10 (by decide) d_Almanac_passOver_46 ?_
  obtain ⟨w_48, q_48, h⟩ := ob_b h
  refine G_callV [.int 100, .int 0, .int 10] [] (t_Reckoner_ask q_48) (by decide) (by decide) mv_Reckoner_ask rfl ml_Almanac_51 kx_40 sx_40 cl_5 rfl (Nat.le_of_ble_eq_true rfl) d_Almanac_passOver_48 ?_
  obtain ⟨l5_51, e_51, h⟩ := ob_s h
  refine G_istore [(5, .int l5_51), (4, .int l4_37), (3, .int l3_24), (0, .ref 39), (1, .ref P), (2, .int l2)] e_51 rfl (by decide) d_Almanac_passOver_51 ?_
  refine G_iload_n 2 rfl d_Almanac_passOver_53 ?_
  refine G_if_le 72 (by decide) d_Almanac_passOver_54 (fun c_54 => ?_) (fun c_54 => ?_)
  · replace h := ob_t h c_54
    exact G_sub _ [3, 4, 5, 1, 0] rfl (t_Almanac_passOver_72 hP w_48.2 l2 l4_37 l5_51 _ h)
  · replace h := ob_f h c_54
    refine G_aload_n 4 rfl d_Almanac_passOver_57 ?_
    refine G_getR fl_Almanac_55 (kP hP) (sP hP) rfl (qP3 hP) d_Almanac_passOver_58 ?_
    refine G_iload_n 5 rfl d_Almanac_passOver_61 ?_
    obtain ⟨g_62, h⟩ := ob_g h
    refine G_iaload (kPa3 hP) (sPa3 hP) g_62 d_Almanac_passOver_62 ?_
    refine G_if_le 72 (by decide) d_Almanac_passOver_63 (fun c_63 => ?_) (fun c_63 => ?_)
    · replace h := ob_t h c_63
      exact G_sub _ [3, 4, 5, 1, 0] rfl (t_Almanac_passOver_72 hP w_48.2 l2 l4_37 l5_51 _ h)
    · replace h := ob_f h c_63
      refine G_aload_n 4 rfl d_Almanac_passOver_66 ?_
      refine G_iload_n 5 rfl d_Almanac_passOver_67 ?_
      refine G_iconst 1 (by decide) d_Almanac_passOver_68 ?_
      obtain ⟨w_69, q_69, h⟩ := ob_b h
      refine G_callV [.int l2, .int 1] [] (t_Parish_putLight hP q_69) (by decide) (by decide) mv_Parish_putLight rfl ml_Almanac_59 (kP hP) (sP hP) cl_2 rfl (Nat.le_of_ble_eq_true rfl) d_Almanac_passOver_69 ?_
      exact G_sub _ [3, 4, 5, 1, 0] rfl (t_Almanac_passOver_72 hP w_69 l2 l4_37 l5_51 _ h)
theorem d_Almanac_pass_0 : decode m_Almanac_pass.2.1 0 = .ok (.aload_n 1, 1) := by decide +kernel
theorem d_Almanac_pass_1 : decode m_Almanac_pass.2.1 1 = .ok (.getfield 15, 3) := by decide +kernel
theorem d_Almanac_pass_4 : decode m_Almanac_pass.2.1 4 = .ok (.invokestatic 21, 3) := by decide +kernel
theorem d_Almanac_pass_7 : decode m_Almanac_pass.2.1 7 = .ok (.istore_n 3, 1) := by decide +kernel
theorem d_Almanac_pass_8 : decode m_Almanac_pass.2.1 8 = .ok (.iconst 0, 1) := by decide +kernel
theorem d_Almanac_pass_9 : decode m_Almanac_pass.2.1 9 = .ok (.istore 4, 2) := by decide +kernel
theorem d_Almanac_pass_11 : decode m_Almanac_pass.2.1 11 = .ok (.iload 4, 2) := by decide +kernel
theorem d_Almanac_pass_13 : decode m_Almanac_pass.2.1 13 = .ok (.iload_n 2, 1) := by decide +kernel
theorem d_Almanac_pass_14 : decode m_Almanac_pass.2.1 14 = .ok (.if_icmp .ge 70, 3) := by decide +kernel
theorem d_Almanac_pass_17 : decode m_Almanac_pass.2.1 17 = .ok (.aload_n 1, 1) := by decide +kernel
theorem d_Almanac_pass_18 : decode m_Almanac_pass.2.1 18 = .ok (.getfield 27, 3) := by decide +kernel
theorem d_Almanac_pass_21 : decode m_Almanac_pass.2.1 21 = .ok (.sipush 9999, 3) := by decide +kernel
theorem d_Almanac_pass_24 : decode m_Almanac_pass.2.1 24 = .ok (.if_icmp .ge 60, 3) := by decide +kernel
theorem d_Almanac_pass_27 : decode m_Almanac_pass.2.1 27 = .ok (.iconst 0, 1) := by decide +kernel
theorem d_Almanac_pass_28 : decode m_Almanac_pass.2.1 28 = .ok (.istore 5, 2) := by decide +kernel
theorem d_Almanac_pass_30 : decode m_Almanac_pass.2.1 30 = .ok (.iload 5, 2) := by decide +kernel
theorem d_Almanac_pass_32 : decode m_Almanac_pass.2.1 32 = .ok (.aload_n 1, 1) := by decide +kernel
theorem d_Almanac_pass_33 : decode m_Almanac_pass.2.1 33 = .ok (.getfield 30, 3) := by decide +kernel
theorem d_Almanac_pass_36 : decode m_Almanac_pass.2.1 36 = .ok (.if_icmp .ge 32, 3) := by decide +kernel
theorem d_Almanac_pass_39 : decode m_Almanac_pass.2.1 39 = .ok (.iload 5, 2) := by decide +kernel
theorem d_Almanac_pass_41 : decode m_Almanac_pass.2.1 41 = .ok (.bipush 24, 2) := by decide +kernel
theorem d_Almanac_pass_43 : decode m_Almanac_pass.2.1 43 = .ok (.if_icmp .ge 25, 3) := by decide +kernel
theorem d_Almanac_pass_46 : decode m_Almanac_pass.2.1 46 = .ok (.aload_n 1, 1) := by decide +kernel
theorem d_Almanac_pass_47 : decode m_Almanac_pass.2.1 47 = .ok (.iload 5, 2) := by decide +kernel
theorem d_Almanac_pass_49 : decode m_Almanac_pass.2.1 49 = .ok (.invokevirtual 33, 3) := by decide +kernel
theorem d_Almanac_pass_52 : decode m_Almanac_pass.2.1 52 = .ok (.ifCond .ne 10, 3) := by decide +kernel
theorem d_Almanac_pass_55 : decode m_Almanac_pass.2.1 55 = .ok (.aload_n 0, 1) := by decide +kernel
theorem d_Almanac_pass_56 : decode m_Almanac_pass.2.1 56 = .ok (.aload_n 1, 1) := by decide +kernel
theorem d_Almanac_pass_57 : decode m_Almanac_pass.2.1 57 = .ok (.iload 5, 2) := by decide +kernel
theorem d_Almanac_pass_59 : decode m_Almanac_pass.2.1 59 = .ok (.invokevirtual 37, 3) := by decide +kernel
theorem d_Almanac_pass_62 : decode m_Almanac_pass.2.1 62 = .ok (.iinc 5 1, 3) := by decide +kernel
theorem d_Almanac_pass_65 : decode m_Almanac_pass.2.1 65 = .ok (.goto (-35), 3) := by decide +kernel
theorem d_Almanac_pass_68 : decode m_Almanac_pass.2.1 68 = .ok (.aload_n 1, 1) := by decide +kernel
theorem d_Almanac_pass_69 : decode m_Almanac_pass.2.1 69 = .ok (.dup, 1) := by decide +kernel
theorem d_Almanac_pass_70 : decode m_Almanac_pass.2.1 70 = .ok (.getfield 27, 3) := by decide +kernel
theorem d_Almanac_pass_73 : decode m_Almanac_pass.2.1 73 = .ok (.iconst 1, 1) := by decide +kernel
theorem d_Almanac_pass_74 : decode m_Almanac_pass.2.1 74 = .ok (.iadd, 1) := by decide +kernel
theorem d_Almanac_pass_75 : decode m_Almanac_pass.2.1 75 = .ok (.putfield 27, 3) := by decide +kernel
theorem d_Almanac_pass_78 : decode m_Almanac_pass.2.1 78 = .ok (.iinc 4 1, 3) := by decide +kernel
theorem d_Almanac_pass_81 : decode m_Almanac_pass.2.1 81 = .ok (.goto (-70), 3) := by decide +kernel
theorem d_Almanac_pass_84 : decode m_Almanac_pass.2.1 84 = .ok (.aload_n 1, 1) := by decide +kernel
theorem d_Almanac_pass_85 : decode m_Almanac_pass.2.1 85 = .ok (.getfield 15, 3) := by decide +kernel
theorem d_Almanac_pass_88 : decode m_Almanac_pass.2.1 88 = .ok (.invokestatic 21, 3) := by decide +kernel
theorem d_Almanac_pass_91 : decode m_Almanac_pass.2.1 91 = .ok (.iload_n 3, 1) := by decide +kernel
theorem d_Almanac_pass_92 : decode m_Almanac_pass.2.1 92 = .ok (.isub, 1) := by decide +kernel
theorem d_Almanac_pass_93 : decode m_Almanac_pass.2.1 93 = .ok (.ireturn, 1) := by decide +kernel
def f_Almanac_pass_62 (P : Nat) (k_11 : St → Int32 → Int32 → Int32 → Option (Int32 × St)) (k_30 : St → Int32 → Int32 → Int32 → Int32 → Option (Int32 × St)) (S : St) (l2 : Int32) (l3 : Int32) (l4 : Int32) (l5 : Int32) : Option (Int32 × St) :=
    (some (l5 + 1)).bind fun l5_62 =>
    k_30 S l2 l3 l4 l5_62
set_option maxHeartbeats 4000000 in
set_option maxRecDepth 20000 in
theorem t_Almanac_pass_62  {P : Nat} (hP : isP P) {k_11 : St → Int32 → Int32 → Int32 → Option (Int32 × St)} {k_30 : St → Int32 → Int32 → Int32 → Int32 → Option (Int32 × St)} (hk_11 : ∀ (S : St) (l2 : Int32) (l3 : Int32) (l4 : Int32) (w : Int32 × St), k_11 S l2 l3 l4 = some w → G SX m_Almanac_pass 7 (some w.1) w.2 11 [(0, .ref 39), (1, .ref P), (2, .int l2), (3, .int l3), (4, .int l4)] [] S) (hk_30 : ∀ (S : St) (l2 : Int32) (l3 : Int32) (l4 : Int32) (l5 : Int32) (w : Int32 × St), k_30 S l2 l3 l4 l5 = some w → G SX m_Almanac_pass 7 (some w.1) w.2 30 [(0, .ref 39), (1, .ref P), (2, .int l2), (3, .int l3), (4, .int l4), (5, .int l5)] [] S) (S : St) (l2 : Int32) (l3 : Int32) (l4 : Int32) (l5 : Int32) (w : Int32 × St) (h : f_Almanac_pass_62 P k_11 k_30 S l2 l3 l4 l5 = some w) : G SX m_Almanac_pass 7 (some w.1) w.2 62 [(0, .ref 39), (1, .ref P), (2, .int l2), (3, .int l3), (4, .int l4), (5, .int l5)] [] S := by
  unfold f_Almanac_pass_62 at h
  obtain ⟨l5_62, e_62, h⟩ := ob_s h
  refine G_iinc 1 5 [(5, .int l5_62), (0, .ref 39), (1, .ref P), (2, .int l2), (3, .int l3), (4, .int l4)] (by decide) rfl e_62 rfl (by decide) d_Almanac_pass_62 ?_
  refine G_goto 30 (by decide) d_Almanac_pass_65 ?_
  exact G_sub _ [1, 2, 3, 4, 5, 0] rfl (hk_30 S l2 l3 l4 l5_62 _ h)
def f_Almanac_pass_68 (P : Nat) (k_11 : St → Int32 → Int32 → Int32 → Option (Int32 × St)) (S : St) (l2 : Int32) (l3 : Int32) (l4 : Int32) : Option (Int32 × St) :=
    (some (sF S P 8 ((S P 8) + 1))).bind fun S_75 =>
    (some (l4 + 1)).bind fun l4_78 =>
    k_11 S_75 l2 l3 l4_78
set_option maxHeartbeats 4000000 in
set_option maxRecDepth 20000 in
theorem t_Almanac_pass_68  {P : Nat} (hP : isP P) {k_11 : St → Int32 → Int32 → Int32 → Option (Int32 × St)} (hk_11 : ∀ (S : St) (l2 : Int32) (l3 : Int32) (l4 : Int32) (w : Int32 × St), k_11 S l2 l3 l4 = some w → G SX m_Almanac_pass 7 (some w.1) w.2 11 [(0, .ref 39), (1, .ref P), (2, .int l2), (3, .int l3), (4, .int l4)] [] S) (S : St) (l2 : Int32) (l3 : Int32) (l4 : Int32) (w : Int32 × St) (h : f_Almanac_pass_68 P k_11 S l2 l3 l4 = some w) : G SX m_Almanac_pass 7 (some w.1) w.2 68 [(0, .ref 39), (1, .ref P), (2, .int l2), (3, .int l3), (4, .int l4)] [] S := by
  unfold f_Almanac_pass_68 at h
  refine G_aload_n 1 rfl d_Almanac_pass_68 ?_
  refine G_dup rfl d_Almanac_pass_69 ?_
  refine G_getI fl_Almanac_27 (kP hP) (sP hP) rfl d_Almanac_pass_70 ?_
  refine G_iconst 1 (by decide) d_Almanac_pass_73 ?_
  refine G_iadd d_Almanac_pass_74 ?_
  obtain ⟨S_75, e_75, h⟩ := ob_s h
  refine G_putI e_75 fp_Almanac_27 (kP hP) (sP hP) rfl d_Almanac_pass_75 ?_
  obtain ⟨l4_78, e_78, h⟩ := ob_s h
  refine G_iinc 1 4 [(4, .int l4_78), (0, .ref 39), (1, .ref P), (2, .int l2), (3, .int l3)] (by decide) rfl e_78 rfl (by decide) d_Almanac_pass_78 ?_
  refine G_goto 11 (by decide) d_Almanac_pass_81 ?_
  exact G_sub _ [1, 2, 3, 4, 0] rfl (hk_11 S_75 l2 l3 l4_78 _ h)
def f_Almanac_pass_30 (P : Nat) (k_11 : St → Int32 → Int32 → Int32 → Option (Int32 × St)) : Nat → St → Int32 → Int32 → Int32 → Int32 → Option (Int32 × St)
  | 0, _, _, _, _, _ => none
  | n + 1, S, l2, l3, l4, l5 =>
    if (S P 6) ≤ l5 then (
    f_Almanac_pass_68 P k_11 S l2 l3 l4)
    else (
    if (24 : Int32) ≤ l5 then (
    f_Almanac_pass_68 P k_11 S l2 l3 l4)
    else (
    (f_Parish_isDone S P l5).bind fun v_49 =>
    if v_49 = 0 then (
    (f_Almanac_passOver S P l5).bind fun w_59 =>
    f_Almanac_pass_62 P k_11 (f_Almanac_pass_30 P k_11 n) w_59 l2 l3 l4 l5)
    else (
    f_Almanac_pass_62 P k_11 (f_Almanac_pass_30 P k_11 n) S l2 l3 l4 l5)))
set_option maxHeartbeats 4000000 in
set_option maxRecDepth 20000 in
theorem t_Almanac_pass_30  {P : Nat} (hP : isP P) {k_11 : St → Int32 → Int32 → Int32 → Option (Int32 × St)} (hk_11 : ∀ (S : St) (l2 : Int32) (l3 : Int32) (l4 : Int32) (w : Int32 × St), k_11 S l2 l3 l4 = some w → G SX m_Almanac_pass 7 (some w.1) w.2 11 [(0, .ref 39), (1, .ref P), (2, .int l2), (3, .int l3), (4, .int l4)] [] S) : ∀ (n : Nat) (S : St) (l2 : Int32) (l3 : Int32) (l4 : Int32) (l5 : Int32) (w : Int32 × St), f_Almanac_pass_30 P k_11 n S l2 l3 l4 l5 = some w → G SX m_Almanac_pass 7 (some w.1) w.2 30 [(0, .ref 39), (1, .ref P), (2, .int l2), (3, .int l3), (4, .int l4), (5, .int l5)] [] S := by
  intro n
  induction n with
  | zero =>
    intro S l2 l3 l4 l5 w h
    rw [f_Almanac_pass_30] at h
    cases h
  | succ n ih =>
    intro S l2 l3 l4 l5 w h
    rw [f_Almanac_pass_30] at h
    refine G_iload 5 rfl d_Almanac_pass_30 ?_
    refine G_aload_n 1 rfl d_Almanac_pass_32 ?_
    refine G_getI fl_Almanac_30 (kP hP) (sP hP) rfl d_Almanac_pass_33 ?_
    refine G_icmp_ge 68 (by decide) d_Almanac_pass_36 (fun c_36 => ?_) (fun c_36 => ?_)
    · replace h := ob_t h c_36
      exact G_sub _ [0, 1, 2, 3, 4] rfl (t_Almanac_pass_68 hP hk_11 S l2 l3 l4 _ h)
    · replace h := ob_f h c_36
      refine G_iload 5 rfl d_Almanac_pass_39 ?_
      refine G_bipush 24 (by decide) d_Almanac_pass_41 ?_
      refine G_icmp_ge 68 (by decide) d_Almanac_pass_43 (fun c_43 => ?_) (fun c_43 => ?_)
      · replace h := ob_t h c_43
        exact G_sub _ [0, 1, 2, 3, 4] rfl (t_Almanac_pass_68 hP hk_11 S l2 l3 l4 _ h)
      · replace h := ob_f h c_43
        refine G_aload_n 1 rfl d_Almanac_pass_46 ?_
        refine G_iload 5 rfl d_Almanac_pass_47 ?_
        obtain ⟨v_49, q_49, h⟩ := ob_b h
        refine G_callV [.int l5] [] (t_Parish_isDone hP q_49) (by decide) (by decide) mv_Parish_isDone rfl ml_Almanac_33 (kP hP) (sP hP) cl_2 rfl (Nat.le_of_ble_eq_true rfl) d_Almanac_pass_49 ?_
        refine G_if_ne 62 (by decide) d_Almanac_pass_52 (fun c_52 => ?_) (fun c_52 => ?_)
        · replace h := ob_f h c_52
          exact G_sub _ [0, 1, 2, 3, 4, 5] rfl (t_Almanac_pass_62 hP hk_11 ih S l2 l3 l4 l5 _ h)
        · replace h := ob_t h c_52
          refine G_aload_n 0 rfl d_Almanac_pass_55 ?_
          refine G_aload_n 1 rfl d_Almanac_pass_56 ?_
          refine G_iload 5 rfl d_Almanac_pass_57 ?_
          obtain ⟨w_59, q_59, h⟩ := ob_b h
          refine G_callV [.ref P, .int l5] [] (t_Almanac_passOver hP q_59) (by decide) (by decide) mv_Almanac_passOver rfl ml_Almanac_37 kx_39 sx_39 cl_0 rfl (Nat.le_of_ble_eq_true rfl) d_Almanac_pass_59 ?_
          exact G_sub _ [0, 1, 2, 3, 4, 5] rfl (t_Almanac_pass_62 hP hk_11 ih w_59 l2 l3 l4 l5 _ h)
def f_Almanac_pass_84 (P : Nat) (S : St) (l3 : Int32) : Option (Int32 × St) :=
    (f_JI_bitCount S (S P 5)).bind fun v_88 =>
    some ((v_88 - l3), S)
set_option maxHeartbeats 4000000 in
set_option maxRecDepth 20000 in
theorem t_Almanac_pass_84  {P : Nat} (hP : isP P) (S : St) (l3 : Int32) (w : Int32 × St) (h : f_Almanac_pass_84 P S l3 = some w) : G SX m_Almanac_pass 7 (some w.1) w.2 84 [(0, .ref 39), (1, .ref P), (3, .int l3)] [] S := by
  unfold f_Almanac_pass_84 at h
  refine G_aload_n 1 rfl d_Almanac_pass_84 ?_
  refine G_getI fl_Almanac_15 (kP hP) (sP hP) rfl d_Almanac_pass_85 ?_
  obtain ⟨v_88, q_88, h⟩ := ob_b h
  refine G_callS [.int (S P 5)] [] (t_JI_bitCount q_88) (by decide) (by decide) mt_JI_bitCount rfl ml_Almanac_21 rfl (Nat.le_of_ble_eq_true rfl) d_Almanac_pass_88 ?_
  refine G_iload_n 2 rfl d_Almanac_pass_91 ?_
  refine G_isub d_Almanac_pass_92 ?_
  cases h
  exact G_iret rfl d_Almanac_pass_93
def f_Almanac_pass_11 (P : Nat) : Nat → St → Int32 → Int32 → Int32 → Option (Int32 × St)
  | 0, _, _, _, _ => none
  | n + 1, S, l2, l3, l4 =>
    if l2 ≤ l4 then (
    f_Almanac_pass_84 P S l3)
    else (
    if (9999 : Int32) ≤ (S P 8) then (
    f_Almanac_pass_84 P S l3)
    else (
    (some (0 : Int32)).bind fun l5_28 =>
    f_Almanac_pass_30 P (f_Almanac_pass_11 P n) FU S l2 l3 l4 l5_28))
set_option maxHeartbeats 4000000 in
set_option maxRecDepth 20000 in
theorem t_Almanac_pass_11  {P : Nat} (hP : isP P) : ∀ (n : Nat) (S : St) (l2 : Int32) (l3 : Int32) (l4 : Int32) (w : Int32 × St), f_Almanac_pass_11 P n S l2 l3 l4 = some w → G SX m_Almanac_pass 7 (some w.1) w.2 11 [(0, .ref 39), (1, .ref P), (2, .int l2), (3, .int l3), (4, .int l4)] [] S := by
  intro n
  induction n with
  | zero =>
    intro S l2 l3 l4 w h
    rw [f_Almanac_pass_11] at h
    cases h
  | succ n ih =>
    intro S l2 l3 l4 w h
    rw [f_Almanac_pass_11] at h
    refine G_iload 4 rfl d_Almanac_pass_11 ?_
    refine G_iload_n 2 rfl d_Almanac_pass_13 ?_
    refine G_icmp_ge 84 (by decide) d_Almanac_pass_14 (fun c_14 => ?_) (fun c_14 => ?_)
    · replace h := ob_t h c_14
      exact G_sub _ [0, 1, 3] rfl (t_Almanac_pass_84 hP S l3 _ h)
    · replace h := ob_f h c_14
      refine G_aload_n 1 rfl d_Almanac_pass_17 ?_
      refine G_getI fl_Almanac_27 (kP hP) (sP hP) rfl d_Almanac_pass_18 ?_
      refine G_sipush 9999 (by decide) d_Almanac_pass_21 ?_
      refine G_icmp_ge 84 (by decide) d_Almanac_pass_24 (fun c_24 => ?_) (fun c_24 => ?_)
      · replace h := ob_t h c_24
        exact G_sub _ [0, 1, 3] rfl (t_Almanac_pass_84 hP S l3 _ h)
      · replace h := ob_f h c_24
        refine G_iconst 0 (by decide) d_Almanac_pass_27 ?_
        obtain ⟨l5_28, e_28, h⟩ := ob_s h
        refine G_istore [(5, .int l5_28), (0, .ref 39), (1, .ref P), (2, .int l2), (3, .int l3), (4, .int l4)] e_28 rfl (by decide) d_Almanac_pass_28 ?_
        exact G_sub _ [1, 2, 3, 4, 5, 0] rfl (t_Almanac_pass_30 hP ih FU S l2 l3 l4 l5_28 _ h)
def f_Almanac_pass (S : St) (P : Nat) (l2 : Int32) : Option (Int32 × St) :=
    (f_JI_bitCount S (S P 5)).bind fun v_4 =>
    (some (0 : Int32)).bind fun l4_9 =>
    f_Almanac_pass_11 P FU S l2 v_4 l4_9
set_option maxHeartbeats 4000000 in
set_option maxRecDepth 20000 in
theorem t_Almanac_pass  {P : Nat} (hP : isP P) {S : St} {l2 : Int32} {w : Int32 × St} (h : f_Almanac_pass S P l2 = some w) : Ct SX m_Almanac_pass 7 [.ref 39, .ref P, .int l2] S (some w.1) w.2 := by
  unfold f_Almanac_pass at h
  refine Ct.of pn_Almanac (Nat.le_of_ble_eq_true rfl) ?_
  show G SX m_Almanac_pass 7 (some w.1) w.2 0 [(0, .ref 39), (1, .ref P), (2, .int l2)] [] S
  refine G_aload_n 1 rfl d_Almanac_pass_0 ?_
  refine G_getI fl_Almanac_15 (kP hP) (sP hP) rfl d_Almanac_pass_1 ?_
  obtain ⟨v_4, q_4, h⟩ := ob_b h
  refine G_callS [.int (S P 5)] [] (t_JI_bitCount q_4) (by decide) (by decide) mt_JI_bitCount rfl ml_Almanac_21 rfl (Nat.le_of_ble_eq_true rfl) d_Almanac_pass_4 ?_
  refine G_istore_n [(3, .int v_4), (0, .ref 39), (1, .ref P), (2, .int l2)] rfl rfl (by decide) d_Almanac_pass_7 ?_
  refine G_iconst 0 (by decide) d_Almanac_pass_8 ?_
  obtain ⟨l4_9, e_9, h⟩ := ob_s h
  refine G_istore [(4, .int l4_9), (3, .int v_4), (0, .ref 39), (1, .ref P), (2, .int l2)] e_9 rfl (by decide) d_Almanac_pass_9 ?_
  exact G_sub _ [2, 3, 4, 1, 0] rfl (t_Almanac_pass_11 hP FU S l2 v_4 l4_9 _ h)
