theorem d_Mo_mustEnd_0 : decode m_Mo_mustEnd.2.1 0 = .ok (.iconst 0, 1) := by decide +kernel
theorem d_Mo_mustEnd_1 : decode m_Mo_mustEnd.2.1 1 = .ok (.istore_n 1, 1) := by decide +kernel
theorem d_Mo_mustEnd_2 : decode m_Mo_mustEnd.2.1 2 = .ok (.iload_n 1, 1) := by decide +kernel
theorem d_Mo_mustEnd_3 : decode m_Mo_mustEnd.2.1 3 = .ok (.ldc 110, 2) := by decide +kernel
theorem d_Mo_mustEnd_5 : decode m_Mo_mustEnd.2.1 5 = .ok (.if_icmp .ge 92, 3) := by decide +kernel
theorem d_Mo_mustEnd_8 : decode m_Mo_mustEnd.2.1 8 = .ok (.aload_n 0, 1) := by decide +kernel
theorem d_Mo_mustEnd_9 : decode m_Mo_mustEnd.2.1 9 = .ok (.getfield 111, 3) := by decide +kernel
theorem d_Mo_mustEnd_12 : decode m_Mo_mustEnd.2.1 12 = .ok (.iload_n 1, 1) := by decide +kernel
theorem d_Mo_mustEnd_13 : decode m_Mo_mustEnd.2.1 13 = .ok (.iload_n 1, 1) := by decide +kernel
theorem d_Mo_mustEnd_14 : decode m_Mo_mustEnd.2.1 14 = .ok (.ifCond .ne 7, 3) := by decide +kernel
theorem d_Mo_mustEnd_17 : decode m_Mo_mustEnd.2.1 17 = .ok (.iconst 0, 1) := by decide +kernel
theorem d_Mo_mustEnd_18 : decode m_Mo_mustEnd.2.1 18 = .ok (.goto 6, 3) := by decide +kernel
theorem d_Mo_mustEnd_21 : decode m_Mo_mustEnd.2.1 21 = .ok (.ldc_w 366, 3) := by decide +kernel
theorem d_Mo_mustEnd_24 : decode m_Mo_mustEnd.2.1 24 = .ok (.iastore, 1) := by decide +kernel
theorem d_Mo_mustEnd_25 : decode m_Mo_mustEnd.2.1 25 = .ok (.iconst 0, 1) := by decide +kernel
theorem d_Mo_mustEnd_26 : decode m_Mo_mustEnd.2.1 26 = .ok (.istore_n 2, 1) := by decide +kernel
theorem d_Mo_mustEnd_27 : decode m_Mo_mustEnd.2.1 27 = .ok (.iload_n 2, 1) := by decide +kernel
theorem d_Mo_mustEnd_28 : decode m_Mo_mustEnd.2.1 28 = .ok (.bipush 16, 2) := by decide +kernel
theorem d_Mo_mustEnd_30 : decode m_Mo_mustEnd.2.1 30 = .ok (.if_icmp .ge 61, 3) := by decide +kernel
theorem d_Mo_mustEnd_33 : decode m_Mo_mustEnd.2.1 33 = .ok (.iload_n 1, 1) := by decide +kernel
theorem d_Mo_mustEnd_34 : decode m_Mo_mustEnd.2.1 34 = .ok (.iload_n 2, 1) := by decide +kernel
theorem d_Mo_mustEnd_35 : decode m_Mo_mustEnd.2.1 35 = .ok (.invokestatic 314, 3) := by decide +kernel
theorem d_Mo_mustEnd_38 : decode m_Mo_mustEnd.2.1 38 = .ok (.ifCond .ne 6, 3) := by decide +kernel
theorem d_Mo_mustEnd_41 : decode m_Mo_mustEnd.2.1 41 = .ok (.goto 44, 3) := by decide +kernel
theorem d_Mo_mustEnd_44 : decode m_Mo_mustEnd.2.1 44 = .ok (.iload_n 1, 1) := by decide +kernel
theorem d_Mo_mustEnd_45 : decode m_Mo_mustEnd.2.1 45 = .ok (.iconst 1, 1) := by decide +kernel
theorem d_Mo_mustEnd_46 : decode m_Mo_mustEnd.2.1 46 = .ok (.iload_n 2, 1) := by decide +kernel
theorem d_Mo_mustEnd_47 : decode m_Mo_mustEnd.2.1 47 = .ok (.ishl, 1) := by decide +kernel
theorem d_Mo_mustEnd_48 : decode m_Mo_mustEnd.2.1 48 = .ok (.iconst (-1), 1) := by decide +kernel
theorem d_Mo_mustEnd_49 : decode m_Mo_mustEnd.2.1 49 = .ok (.ixor, 1) := by decide +kernel
theorem d_Mo_mustEnd_50 : decode m_Mo_mustEnd.2.1 50 = .ok (.iand, 1) := by decide +kernel
theorem d_Mo_mustEnd_51 : decode m_Mo_mustEnd.2.1 51 = .ok (.istore_n 3, 1) := by decide +kernel
theorem d_Mo_mustEnd_52 : decode m_Mo_mustEnd.2.1 52 = .ok (.aload_n 0, 1) := by decide +kernel
theorem d_Mo_mustEnd_53 : decode m_Mo_mustEnd.2.1 53 = .ok (.getfield 111, 3) := by decide +kernel
theorem d_Mo_mustEnd_56 : decode m_Mo_mustEnd.2.1 56 = .ok (.iload_n 1, 1) := by decide +kernel
theorem d_Mo_mustEnd_57 : decode m_Mo_mustEnd.2.1 57 = .ok (.aload_n 0, 1) := by decide +kernel
theorem d_Mo_mustEnd_58 : decode m_Mo_mustEnd.2.1 58 = .ok (.getfield 111, 3) := by decide +kernel
theorem d_Mo_mustEnd_61 : decode m_Mo_mustEnd.2.1 61 = .ok (.iload_n 1, 1) := by decide +kernel
theorem d_Mo_mustEnd_62 : decode m_Mo_mustEnd.2.1 62 = .ok (.iaload, 1) := by decide +kernel
theorem d_Mo_mustEnd_63 : decode m_Mo_mustEnd.2.1 63 = .ok (.aload_n 0, 1) := by decide +kernel
theorem d_Mo_mustEnd_64 : decode m_Mo_mustEnd.2.1 64 = .ok (.getfield 111, 3) := by decide +kernel
theorem d_Mo_mustEnd_67 : decode m_Mo_mustEnd.2.1 67 = .ok (.iload_n 3, 1) := by decide +kernel
theorem d_Mo_mustEnd_68 : decode m_Mo_mustEnd.2.1 68 = .ok (.iaload, 1) := by decide +kernel
theorem d_Mo_mustEnd_69 : decode m_Mo_mustEnd.2.1 69 = .ok (.aload_n 0, 1) := by decide +kernel
theorem d_Mo_mustEnd_70 : decode m_Mo_mustEnd.2.1 70 = .ok (.getfield 107, 3) := by decide +kernel
theorem d_Mo_mustEnd_73 : decode m_Mo_mustEnd.2.1 73 = .ok (.iload_n 2, 1) := by decide +kernel
theorem d_Mo_mustEnd_74 : decode m_Mo_mustEnd.2.1 74 = .ok (.iaload, 1) := by decide +kernel
theorem d_Mo_mustEnd_75 : decode m_Mo_mustEnd.2.1 75 = .ok (.iload_n 3, 1) := by decide +kernel
theorem d_Mo_mustEnd_76 : decode m_Mo_mustEnd.2.1 76 = .ok (.iand, 1) := by decide +kernel
theorem d_Mo_mustEnd_77 : decode m_Mo_mustEnd.2.1 77 = .ok (.invokestatic 367, 3) := by decide +kernel
theorem d_Mo_mustEnd_80 : decode m_Mo_mustEnd.2.1 80 = .ok (.iadd, 1) := by decide +kernel
theorem d_Mo_mustEnd_81 : decode m_Mo_mustEnd.2.1 81 = .ok (.invokestatic 271, 3) := by decide +kernel
theorem d_Mo_mustEnd_84 : decode m_Mo_mustEnd.2.1 84 = .ok (.iastore, 1) := by decide +kernel
theorem d_Mo_mustEnd_85 : decode m_Mo_mustEnd.2.1 85 = .ok (.iinc 2 1, 3) := by decide +kernel
theorem d_Mo_mustEnd_88 : decode m_Mo_mustEnd.2.1 88 = .ok (.goto (-61), 3) := by decide +kernel
theorem d_Mo_mustEnd_91 : decode m_Mo_mustEnd.2.1 91 = .ok (.iinc 1 1, 3) := by decide +kernel
theorem d_Mo_mustEnd_94 : decode m_Mo_mustEnd.2.1 94 = .ok (.goto (-92), 3) := by decide +kernel
theorem d_Mo_mustEnd_97 : decode m_Mo_mustEnd.2.1 97 = .ok (.aload_n 0, 1) := by decide +kernel
theorem d_Mo_mustEnd_98 : decode m_Mo_mustEnd.2.1 98 = .ok (.getfield 111, 3) := by decide +kernel
theorem d_Mo_mustEnd_101 : decode m_Mo_mustEnd.2.1 101 = .ok (.ldc_w 365, 3) := by decide +kernel
theorem d_Mo_mustEnd_104 : decode m_Mo_mustEnd.2.1 104 = .ok (.iaload, 1) := by decide +kernel
theorem d_Mo_mustEnd_105 : decode m_Mo_mustEnd.2.1 105 = .ok (.ireturn, 1) := by decide +kernel
def f_Mo_mustEnd_85 (k_2 : St → Int32 → Option (Int32 × St)) (k_27 : St → Int32 → Int32 → Option (Int32 × St)) (S : St) (l1 : Int32) (l2 : Int32) : Option (Int32 × St) :=
    (some (l2 + 1)).bind fun l2_85 =>
    k_27 S l1 l2_85
set_option maxHeartbeats 4000000 in
set_option maxRecDepth 20000 in
theorem t_Mo_mustEnd_85  {k_2 : St → Int32 → Option (Int32 × St)} {k_27 : St → Int32 → Int32 → Option (Int32 × St)} (hk_2 : ∀ (S : St) (l1 : Int32) (w : Int32 × St), k_2 S l1 = some w → G SM m_Mo_mustEnd 2 (some w.1) w.2 2 [(0, .ref 0), (1, .int l1)] [] S) (hk_27 : ∀ (S : St) (l1 : Int32) (l2 : Int32) (w : Int32 × St), k_27 S l1 l2 = some w → G SM m_Mo_mustEnd 2 (some w.1) w.2 27 [(0, .ref 0), (1, .int l1), (2, .int l2)] [] S) (S : St) (l1 : Int32) (l2 : Int32) (w : Int32 × St) (h : f_Mo_mustEnd_85 k_2 k_27 S l1 l2 = some w) : G SM m_Mo_mustEnd 2 (some w.1) w.2 85 [(0, .ref 0), (1, .int l1), (2, .int l2)] [] S := by
  unfold f_Mo_mustEnd_85 at h
  obtain ⟨l2_85, e_85, h⟩ := ob_s h
  refine G_iinc 1 2 [(2, .int l2_85), (0, .ref 0), (1, .int l1)] (by decide) rfl e_85 rfl (by decide) d_Mo_mustEnd_85 ?_
  refine G_goto 27 (by decide) d_Mo_mustEnd_88 ?_
  exact G_sub _ [1, 2, 0] rfl (hk_27 S l1 l2_85 _ h)
def f_Mo_mustEnd_27 (k_2 : St → Int32 → Option (Int32 × St)) : Nat → St → Int32 → Int32 → Option (Int32 × St)
  | 0, _, _, _ => none
  | n + 1, S, l1, l2 =>
    if (16 : Int32) ≤ l2 then (
    (some (l1 + 1)).bind fun l1_91 =>
    k_2 S l1_91)
    else (
    (f_Mo_has S l1 l2).bind fun v_35 =>
    if v_35 = 0 then (
    f_Mo_mustEnd_85 k_2 (f_Mo_mustEnd_27 k_2 n) S l1 l2)
    else (
    (some (l1 &&& ((jshl 1 l2) ^^^ (-1)))).bind fun l3_51 =>
    if ig l1 65536 then (
    if ig l3_51 65536 then (
    if ig l2 16 then (
    (f_Mo_bits S ((S 33 l2.toNatClampNeg) &&& l3_51)).bind fun v_77 =>
    (f_Mo_min S (S 34 l1.toNatClampNeg) ((S 34 l3_51.toNatClampNeg) + v_77)).bind fun v_81 =>
    if ig l1 65536 then (
    (some (sF S 34 l1.toNatClampNeg v_81)).bind fun S_84 =>
    f_Mo_mustEnd_85 k_2 (f_Mo_mustEnd_27 k_2 n) S_84 l1 l2) else none) else none) else none) else none))
set_option maxHeartbeats 4000000 in
set_option maxRecDepth 20000 in
theorem t_Mo_mustEnd_27  {k_2 : St → Int32 → Option (Int32 × St)} (hk_2 : ∀ (S : St) (l1 : Int32) (w : Int32 × St), k_2 S l1 = some w → G SM m_Mo_mustEnd 2 (some w.1) w.2 2 [(0, .ref 0), (1, .int l1)] [] S) : ∀ (n : Nat) (S : St) (l1 : Int32) (l2 : Int32) (w : Int32 × St), f_Mo_mustEnd_27 k_2 n S l1 l2 = some w → G SM m_Mo_mustEnd 2 (some w.1) w.2 27 [(0, .ref 0), (1, .int l1), (2, .int l2)] [] S := by
  intro n
  induction n with
  | zero =>
    intro S l1 l2 w h
    rw [f_Mo_mustEnd_27] at h
    cases h
  | succ n ih =>
    intro S l1 l2 w h
    rw [f_Mo_mustEnd_27] at h
    refine G_iload_n 2 rfl d_Mo_mustEnd_27 ?_
    refine G_bipush 16 (by decide) d_Mo_mustEnd_28 ?_
    refine G_icmp_ge 91 (by decide) d_Mo_mustEnd_30 (fun c_30 => ?_) (fun c_30 => ?_)
    · replace h := ob_t h c_30
      obtain ⟨l1_91, e_91, h⟩ := ob_s h
      refine G_iinc 1 1 [(1, .int l1_91), (0, .ref 0), (2, .int l2)] (by decide) rfl e_91 rfl (by decide) d_Mo_mustEnd_91 ?_
      refine G_goto 2 (by decide) d_Mo_mustEnd_94 ?_
      exact G_sub _ [1, 0] rfl (hk_2 S l1_91 _ h)
    · replace h := ob_f h c_30
      refine G_iload_n 1 rfl d_Mo_mustEnd_33 ?_
      refine G_iload_n 2 rfl d_Mo_mustEnd_34 ?_
      obtain ⟨v_35, q_35, h⟩ := ob_b h
      refine G_callS [.int l1, .int l2] [] (t_Mo_has q_35) (by decide) (by decide) mt_Mo_has rfl ml_Mo_314 rfl (Nat.le_of_ble_eq_true rfl) d_Mo_mustEnd_35 ?_
      refine G_if_ne 44 (by decide) d_Mo_mustEnd_38 (fun c_38 => ?_) (fun c_38 => ?_)
      · replace h := ob_f h c_38
        refine G_iload_n 1 rfl d_Mo_mustEnd_44 ?_
        refine G_iconst 1 (by decide) d_Mo_mustEnd_45 ?_
        refine G_iload_n 2 rfl d_Mo_mustEnd_46 ?_
        refine G_ishl d_Mo_mustEnd_47 ?_
        refine G_iconst (-1) (by decide) d_Mo_mustEnd_48 ?_
        refine G_ixor d_Mo_mustEnd_49 ?_
        refine G_iand d_Mo_mustEnd_50 ?_
        obtain ⟨l3_51, e_51, h⟩ := ob_s h
        refine G_istore_n [(3, .int l3_51), (0, .ref 0), (1, .int l1), (2, .int l2)] e_51 rfl (by decide) d_Mo_mustEnd_51 ?_
        refine G_aload_n 1 rfl d_Mo_mustEnd_52 ?_
        refine G_getR fl_Mo_111 km_0 sm_0 rfl (by decide) d_Mo_mustEnd_53 ?_
        refine G_iload_n 2 rfl d_Mo_mustEnd_56 ?_
        refine G_aload_n 1 rfl d_Mo_mustEnd_57 ?_
        refine G_getR fl_Mo_111 km_0 sm_0 rfl (by decide) d_Mo_mustEnd_58 ?_
        refine G_iload_n 2 rfl d_Mo_mustEnd_61 ?_
        obtain ⟨g_62, h⟩ := ob_g h
        refine G_iaload km_34 sm_34 g_62 d_Mo_mustEnd_62 ?_
        refine G_aload_n 1 rfl d_Mo_mustEnd_63 ?_
        refine G_getR fl_Mo_111 km_0 sm_0 rfl (by decide) d_Mo_mustEnd_64 ?_
        refine G_iload_n 0 rfl d_Mo_mustEnd_67 ?_
        obtain ⟨g_68, h⟩ := ob_g h
        refine G_iaload km_34 sm_34 g_68 d_Mo_mustEnd_68 ?_
        refine G_aload_n 1 rfl d_Mo_mustEnd_69 ?_
        refine G_getR fl_Mo_107 km_0 sm_0 rfl (by decide) d_Mo_mustEnd_70 ?_
        refine G_iload_n 3 rfl d_Mo_mustEnd_73 ?_
        obtain ⟨g_74, h⟩ := ob_g h
        refine G_iaload km_33 sm_33 g_74 d_Mo_mustEnd_74 ?_
        refine G_iload_n 0 rfl d_Mo_mustEnd_75 ?_
        refine G_iand d_Mo_mustEnd_76 ?_
        obtain ⟨v_77, q_77, h⟩ := ob_b h
        refine G_callS [.int ((S 33 l2.toNatClampNeg) &&& l3_51)] [.int (S 34 l3_51.toNatClampNeg), .int (S 34 l1.toNatClampNeg), .int l1, .ref 34] (t_Mo_bits q_77) (by decide) (by decide) mt_Mo_bits rfl ml_Mo_367 rfl (Nat.le_of_ble_eq_true rfl) d_Mo_mustEnd_77 ?_
        refine G_iadd d_Mo_mustEnd_80 ?_
        obtain ⟨v_81, q_81, h⟩ := ob_b h
        refine G_callS [.int (S 34 l1.toNatClampNeg), .int ((S 34 l3_51.toNatClampNeg) + v_77)] [.int l1, .ref 34] (t_Mo_min q_81) (by decide) (by decide) mt_Mo_min rfl ml_Mo_271 rfl (Nat.le_of_ble_eq_true rfl) d_Mo_mustEnd_81 ?_
        obtain ⟨g_84, h⟩ := ob_g h
        obtain ⟨S_84, e_84, h⟩ := ob_s h
        refine G_iastore e_84 km_34 sm_34 g_84 d_Mo_mustEnd_84 ?_
        exact G_sub _ [1, 2, 3] rfl (t_Mo_mustEnd_85 hk_2 ih S_84 l1 l2 _ h)
      · replace h := ob_t h c_38
        refine G_goto 85 (by decide) d_Mo_mustEnd_41 ?_
        exact G_sub _ [0, 1, 2] rfl (t_Mo_mustEnd_85 hk_2 ih S l1 l2 _ h)
def f_Mo_mustEnd_24 (k_2 : St → Int32 → Option (Int32 × St)) (S : St) (l1 : Int32) (s0 : Int32) (s1 : Int32) : Option (Int32 × St) :=
    if ig s1 65536 then (
    (some (sF S 34 s1.toNatClampNeg s0)).bind fun S_24 =>
    (some (0 : Int32)).bind fun l2_26 =>
    f_Mo_mustEnd_27 k_2 FU S_24 l1 l2_26) else none
set_option maxHeartbeats 4000000 in
set_option maxRecDepth 20000 in
theorem t_Mo_mustEnd_24  {k_2 : St → Int32 → Option (Int32 × St)} (hk_2 : ∀ (S : St) (l1 : Int32) (w : Int32 × St), k_2 S l1 = some w → G SM m_Mo_mustEnd 2 (some w.1) w.2 2 [(0, .ref 0), (1, .int l1)] [] S) (S : St) (l1 : Int32) (s0 : Int32) (s1 : Int32) (w : Int32 × St) (h : f_Mo_mustEnd_24 k_2 S l1 s0 s1 = some w) : G SM m_Mo_mustEnd 2 (some w.1) w.2 24 [(0, .ref 0), (1, .int l1)] [.int s0, .int s1, .ref 34] S := by
  unfold f_Mo_mustEnd_24 at h
  obtain ⟨g_24, h⟩ := ob_g h
  obtain ⟨S_24, e_24, h⟩ := ob_s h
  refine G_iastore e_24 km_34 sm_34 g_24 d_Mo_mustEnd_24 ?_
  refine G_iconst 0 (by decide) d_Mo_mustEnd_25 ?_
  obtain ⟨l2_26, e_26, h⟩ := ob_s h
  refine G_istore_n [(2, .int l2_26), (0, .ref 0), (1, .int l1)] e_26 rfl (by decide) d_Mo_mustEnd_26 ?_
  exact G_sub _ [1, 2, 0] rfl (t_Mo_mustEnd_27 hk_2 FU S_24 l1 l2_26 _ h)
def f_Mo_mustEnd_2 : Nat → St → Int32 → Option (Int32 × St)
  | 0, _, _ => none
  | n + 1, S, l1 =>
    if (65536 : Int32) ≤ l1 then (
    if ig (65535 : Int32) 65536 then (
    some ((S 34 (65535 : Int32).toNatClampNeg), S)) else none)
    else (
    if l1 = 0 then (
    f_Mo_mustEnd_24 (f_Mo_mustEnd_2 n) S l1 (0 : Int32) l1)
    else (
    f_Mo_mustEnd_24 (f_Mo_mustEnd_2 n) S l1 (1000000 : Int32) l1))
set_option maxHeartbeats 4000000 in
set_option maxRecDepth 20000 in
theorem t_Mo_mustEnd_2  : ∀ (n : Nat) (S : St) (l1 : Int32) (w : Int32 × St), f_Mo_mustEnd_2 n S l1 = some w → G SM m_Mo_mustEnd 2 (some w.1) w.2 2 [(0, .ref 0), (1, .int l1)] [] S := by
  intro n
  induction n with
  | zero =>
    intro S l1 w h
    rw [f_Mo_mustEnd_2] at h
    cases h
  | succ n ih =>
    intro S l1 w h
    rw [f_Mo_mustEnd_2] at h
    refine G_iload_n 1 rfl d_Mo_mustEnd_2 ?_
    refine G_ldc c_Mo_110 d_Mo_mustEnd_3 ?_
    refine G_icmp_ge 97 (by decide) d_Mo_mustEnd_5 (fun c_5 => ?_) (fun c_5 => ?_)
    · replace h := ob_t h c_5
      refine G_aload_n 0 rfl d_Mo_mustEnd_97 ?_
      refine G_getR fl_Mo_111 km_0 sm_0 rfl (by decide) d_Mo_mustEnd_98 ?_
      refine G_ldcw c_Mo_365 d_Mo_mustEnd_101 ?_
      obtain ⟨g_104, h⟩ := ob_g h
      refine G_iaload km_34 sm_34 g_104 d_Mo_mustEnd_104 ?_
      cases h
      exact G_iret rfl d_Mo_mustEnd_105
    · replace h := ob_f h c_5
      refine G_aload_n 0 rfl d_Mo_mustEnd_8 ?_
      refine G_getR fl_Mo_111 km_0 sm_0 rfl (by decide) d_Mo_mustEnd_9 ?_
      refine G_iload_n 1 rfl d_Mo_mustEnd_12 ?_
      refine G_iload_n 1 rfl d_Mo_mustEnd_13 ?_
      refine G_if_ne 21 (by decide) d_Mo_mustEnd_14 (fun c_14 => ?_) (fun c_14 => ?_)
      · replace h := ob_f h c_14
        refine G_ldcw c_Mo_366 d_Mo_mustEnd_21 ?_
        exact G_sub _ [0, 1] rfl (t_Mo_mustEnd_24 ih S l1 (1000000 : Int32) l1 _ h)
      · replace h := ob_t h c_14
        refine G_iconst 0 (by decide) d_Mo_mustEnd_17 ?_
        refine G_goto 24 (by decide) d_Mo_mustEnd_18 ?_
        exact G_sub _ [0, 1] rfl (t_Mo_mustEnd_24 ih S l1 (0 : Int32) l1 _ h)
def f_Mo_mustEnd (S : St) : Option (Int32 × St) :=
    (some (0 : Int32)).bind fun l1_1 =>
    f_Mo_mustEnd_2 FU S l1_1
set_option maxHeartbeats 4000000 in
set_option maxRecDepth 20000 in
theorem t_Mo_mustEnd  {S : St} {w : Int32 × St} (h : f_Mo_mustEnd S = some w) : Ct SM m_Mo_mustEnd 2 [.ref 0] S (some w.1) w.2 := by
  unfold f_Mo_mustEnd at h
  refine Ct.of pn_Mo (Nat.le_of_ble_eq_true rfl) ?_
  show G SM m_Mo_mustEnd 2 (some w.1) w.2 0 [(0, .ref 0)] [] S
  refine G_iconst 0 (by decide) d_Mo_mustEnd_0 ?_
  obtain ⟨l1_1, e_1, h⟩ := ob_s h
  refine G_istore_n [(1, .int l1_1), (0, .ref 0)] e_1 rfl (by decide) d_Mo_mustEnd_1 ?_
  exact G_sub _ [1, 0] rfl (t_Mo_mustEnd_2 FU S l1_1 _ h)
theorem d_Mo_waiting_0 : decode m_Mo_waiting.2.1 0 = .ok (.iload_n 1, 1) := by decide +kernel
theorem d_Mo_waiting_1 : decode m_Mo_waiting.2.1 1 = .ok (.iconst 1, 1) := by decide +kernel
theorem d_Mo_waiting_2 : decode m_Mo_waiting.2.1 2 = .ok (.bipush 20, 2) := by decide +kernel
theorem d_Mo_waiting_4 : decode m_Mo_waiting.2.1 4 = .ok (.invokestatic 124, 3) := by decide +kernel
theorem d_Mo_waiting_7 : decode m_Mo_waiting.2.1 7 = .ok (.ifCond .eq 22, 3) := by decide +kernel
theorem d_Mo_waiting_10 : decode m_Mo_waiting.2.1 10 = .ok (.iload_n 2, 1) := by decide +kernel
theorem d_Mo_waiting_11 : decode m_Mo_waiting.2.1 11 = .ok (.iconst 0, 1) := by decide +kernel
theorem d_Mo_waiting_12 : decode m_Mo_waiting.2.1 12 = .ok (.iconst 1, 1) := by decide +kernel
theorem d_Mo_waiting_13 : decode m_Mo_waiting.2.1 13 = .ok (.invokestatic 124, 3) := by decide +kernel
theorem d_Mo_waiting_16 : decode m_Mo_waiting.2.1 16 = .ok (.ifCond .eq 13, 3) := by decide +kernel
theorem d_Mo_waiting_19 : decode m_Mo_waiting.2.1 19 = .ok (.iconst 2, 1) := by decide +kernel
theorem d_Mo_waiting_20 : decode m_Mo_waiting.2.1 20 = .ok (.iload_n 1, 1) := by decide +kernel
theorem d_Mo_waiting_21 : decode m_Mo_waiting.2.1 21 = .ok (.imul, 1) := by decide +kernel
theorem d_Mo_waiting_22 : decode m_Mo_waiting.2.1 22 = .ok (.aload_n 0, 1) := by decide +kernel
theorem d_Mo_waiting_23 : decode m_Mo_waiting.2.1 23 = .ok (.getfield 135, 3) := by decide +kernel
theorem d_Mo_waiting_26 : decode m_Mo_waiting.2.1 26 = .ok (.if_icmp .le 5, 3) := by decide +kernel
theorem d_Mo_waiting_29 : decode m_Mo_waiting.2.1 29 = .ok (.iconst (-1), 1) := by decide +kernel
theorem d_Mo_waiting_30 : decode m_Mo_waiting.2.1 30 = .ok (.ireturn, 1) := by decide +kernel
theorem d_Mo_waiting_31 : decode m_Mo_waiting.2.1 31 = .ok (.aload_n 0, 1) := by decide +kernel
theorem d_Mo_waiting_32 : decode m_Mo_waiting.2.1 32 = .ok (.iconst 0, 1) := by decide +kernel
theorem d_Mo_waiting_33 : decode m_Mo_waiting.2.1 33 = .ok (.putfield 135, 3) := by decide +kernel
theorem d_Mo_waiting_36 : decode m_Mo_waiting.2.1 36 = .ok (.iconst 0, 1) := by decide +kernel
theorem d_Mo_waiting_37 : decode m_Mo_waiting.2.1 37 = .ok (.istore_n 3, 1) := by decide +kernel
theorem d_Mo_waiting_38 : decode m_Mo_waiting.2.1 38 = .ok (.iload_n 3, 1) := by decide +kernel
theorem d_Mo_waiting_39 : decode m_Mo_waiting.2.1 39 = .ok (.bipush 16, 2) := by decide +kernel
theorem d_Mo_waiting_41 : decode m_Mo_waiting.2.1 41 = .ok (.if_icmp .ge 16, 3) := by decide +kernel
theorem d_Mo_waiting_44 : decode m_Mo_waiting.2.1 44 = .ok (.aload_n 0, 1) := by decide +kernel
theorem d_Mo_waiting_45 : decode m_Mo_waiting.2.1 45 = .ok (.getfield 107, 3) := by decide +kernel
theorem d_Mo_waiting_48 : decode m_Mo_waiting.2.1 48 = .ok (.iload_n 3, 1) := by decide +kernel
theorem d_Mo_waiting_49 : decode m_Mo_waiting.2.1 49 = .ok (.iconst 0, 1) := by decide +kernel
theorem d_Mo_waiting_50 : decode m_Mo_waiting.2.1 50 = .ok (.iastore, 1) := by decide +kernel
theorem d_Mo_waiting_51 : decode m_Mo_waiting.2.1 51 = .ok (.iinc 3 1, 3) := by decide +kernel
theorem d_Mo_waiting_54 : decode m_Mo_waiting.2.1 54 = .ok (.goto (-16), 3) := by decide +kernel
theorem d_Mo_waiting_57 : decode m_Mo_waiting.2.1 57 = .ok (.iconst 0, 1) := by decide +kernel
theorem d_Mo_waiting_58 : decode m_Mo_waiting.2.1 58 = .ok (.istore_n 3, 1) := by decide +kernel
theorem d_Mo_waiting_59 : decode m_Mo_waiting.2.1 59 = .ok (.iload_n 3, 1) := by decide +kernel
theorem d_Mo_waiting_60 : decode m_Mo_waiting.2.1 60 = .ok (.iload_n 1, 1) := by decide +kernel
theorem d_Mo_waiting_61 : decode m_Mo_waiting.2.1 61 = .ok (.if_icmp .ge 72, 3) := by decide +kernel
theorem d_Mo_waiting_64 : decode m_Mo_waiting.2.1 64 = .ok (.aload_n 0, 1) := by decide +kernel
theorem d_Mo_waiting_65 : decode m_Mo_waiting.2.1 65 = .ok (.iconst 2, 1) := by decide +kernel
theorem d_Mo_waiting_66 : decode m_Mo_waiting.2.1 66 = .ok (.iload_n 3, 1) := by decide +kernel
theorem d_Mo_waiting_67 : decode m_Mo_waiting.2.1 67 = .ok (.imul, 1) := by decide +kernel
theorem d_Mo_waiting_68 : decode m_Mo_waiting.2.1 68 = .ok (.invokevirtual 370, 3) := by decide +kernel
theorem d_Mo_waiting_71 : decode m_Mo_waiting.2.1 71 = .ok (.istore 4, 2) := by decide +kernel
theorem d_Mo_waiting_73 : decode m_Mo_waiting.2.1 73 = .ok (.aload_n 0, 1) := by decide +kernel
theorem d_Mo_waiting_74 : decode m_Mo_waiting.2.1 74 = .ok (.iconst 2, 1) := by decide +kernel
theorem d_Mo_waiting_75 : decode m_Mo_waiting.2.1 75 = .ok (.iload_n 3, 1) := by decide +kernel
theorem d_Mo_waiting_76 : decode m_Mo_waiting.2.1 76 = .ok (.imul, 1) := by decide +kernel
theorem d_Mo_waiting_77 : decode m_Mo_waiting.2.1 77 = .ok (.iconst 1, 1) := by decide +kernel
theorem d_Mo_waiting_78 : decode m_Mo_waiting.2.1 78 = .ok (.iadd, 1) := by decide +kernel
theorem d_Mo_waiting_79 : decode m_Mo_waiting.2.1 79 = .ok (.invokevirtual 370, 3) := by decide +kernel
theorem d_Mo_waiting_82 : decode m_Mo_waiting.2.1 82 = .ok (.istore 5, 2) := by decide +kernel
theorem d_Mo_waiting_84 : decode m_Mo_waiting.2.1 84 = .ok (.iload 4, 2) := by decide +kernel
theorem d_Mo_waiting_86 : decode m_Mo_waiting.2.1 86 = .ok (.bipush 16, 2) := by decide +kernel
theorem d_Mo_waiting_88 : decode m_Mo_waiting.2.1 88 = .ok (.if_icmp .ge 17, 3) := by decide +kernel
theorem d_Mo_waiting_91 : decode m_Mo_waiting.2.1 91 = .ok (.iload 5, 2) := by decide +kernel
theorem d_Mo_waiting_93 : decode m_Mo_waiting.2.1 93 = .ok (.bipush 16, 2) := by decide +kernel
theorem d_Mo_waiting_95 : decode m_Mo_waiting.2.1 95 = .ok (.if_icmp .ge 10, 3) := by decide +kernel
theorem d_Mo_waiting_98 : decode m_Mo_waiting.2.1 98 = .ok (.iload 4, 2) := by decide +kernel
theorem d_Mo_waiting_100 : decode m_Mo_waiting.2.1 100 = .ok (.iload 5, 2) := by decide +kernel
theorem d_Mo_waiting_102 : decode m_Mo_waiting.2.1 102 = .ok (.if_icmp .ne 6, 3) := by decide +kernel
theorem d_Mo_waiting_105 : decode m_Mo_waiting.2.1 105 = .ok (.bipush (-3), 2) := by decide +kernel
theorem d_Mo_waiting_107 : decode m_Mo_waiting.2.1 107 = .ok (.ireturn, 1) := by decide +kernel
theorem d_Mo_waiting_108 : decode m_Mo_waiting.2.1 108 = .ok (.aload_n 0, 1) := by decide +kernel
theorem d_Mo_waiting_109 : decode m_Mo_waiting.2.1 109 = .ok (.getfield 107, 3) := by decide +kernel
theorem d_Mo_waiting_112 : decode m_Mo_waiting.2.1 112 = .ok (.iload 4, 2) := by decide +kernel
theorem d_Mo_waiting_114 : decode m_Mo_waiting.2.1 114 = .ok (.aload_n 0, 1) := by decide +kernel
theorem d_Mo_waiting_115 : decode m_Mo_waiting.2.1 115 = .ok (.getfield 107, 3) := by decide +kernel
theorem d_Mo_waiting_118 : decode m_Mo_waiting.2.1 118 = .ok (.iload 4, 2) := by decide +kernel
theorem d_Mo_waiting_120 : decode m_Mo_waiting.2.1 120 = .ok (.iaload, 1) := by decide +kernel
theorem d_Mo_waiting_121 : decode m_Mo_waiting.2.1 121 = .ok (.iconst 1, 1) := by decide +kernel
theorem d_Mo_waiting_122 : decode m_Mo_waiting.2.1 122 = .ok (.iload 5, 2) := by decide +kernel
theorem d_Mo_waiting_124 : decode m_Mo_waiting.2.1 124 = .ok (.ishl, 1) := by decide +kernel
theorem d_Mo_waiting_125 : decode m_Mo_waiting.2.1 125 = .ok (.ior, 1) := by decide +kernel
theorem d_Mo_waiting_126 : decode m_Mo_waiting.2.1 126 = .ok (.iastore, 1) := by decide +kernel
theorem d_Mo_waiting_127 : decode m_Mo_waiting.2.1 127 = .ok (.iinc 3 1, 3) := by decide +kernel
theorem d_Mo_waiting_130 : decode m_Mo_waiting.2.1 130 = .ok (.goto (-71), 3) := by decide +kernel
theorem d_Mo_waiting_133 : decode m_Mo_waiting.2.1 133 = .ok (.iload_n 2, 1) := by decide +kernel
theorem d_Mo_waiting_134 : decode m_Mo_waiting.2.1 134 = .ok (.ifCond .ne 10, 3) := by decide +kernel
theorem d_Mo_waiting_137 : decode m_Mo_waiting.2.1 137 = .ok (.aload_n 0, 1) := by decide +kernel
theorem d_Mo_waiting_138 : decode m_Mo_waiting.2.1 138 = .ok (.invokevirtual 373, 3) := by decide +kernel
theorem d_Mo_waiting_141 : decode m_Mo_waiting.2.1 141 = .ok (.goto 7, 3) := by decide +kernel
theorem d_Mo_waiting_144 : decode m_Mo_waiting.2.1 144 = .ok (.aload_n 0, 1) := by decide +kernel
theorem d_Mo_waiting_145 : decode m_Mo_waiting.2.1 145 = .ok (.invokevirtual 376, 3) := by decide +kernel
theorem d_Mo_waiting_148 : decode m_Mo_waiting.2.1 148 = .ok (.ireturn, 1) := by decide +kernel
def f_Mo_waiting_59 : Nat → St → Int32 → Int32 → Int32 → Option (Int32 × St)
  | 0, _, _, _, _ => none
  | n + 1, S, l1, l2, l3 =>
    if l1 ≤ l3 then (
    if l2 = 0 then (
    (f_Mo_forEver S).bind fun v_138 =>
    some (v_138, S))
    else (
    (f_Mo_mustEnd S).bind fun w_145 =>
    some (w_145.1, w_145.2)))
    else (
    (f_Mo_octet S (2 * l3)).bind fun v_68 =>
    (f_Mo_octet S ((2 * l3) + 1)).bind fun v_79 =>
    if (16 : Int32) ≤ v_68 then (
    some ((-3), S))
    else (
    if (16 : Int32) ≤ v_79 then (
    some ((-3), S))
    else (
    if v_68 = v_79 then (
    some ((-3), S))
    else (
    if ig v_68 16 then (
    if ig v_68 16 then (
    (some (sF S 33 v_68.toNatClampNeg ((S 33 v_68.toNatClampNeg) ||| (jshl 1 v_79)))).bind fun S_126 =>
    (some (l3 + 1)).bind fun l3_127 =>
    f_Mo_waiting_59 n S_126 l1 l2 l3_127) else none) else none))))
set_option maxHeartbeats 4000000 in
set_option maxRecDepth 20000 in
theorem t_Mo_waiting_59  : ∀ (n : Nat) (S : St) (l1 : Int32) (l2 : Int32) (l3 : Int32) (w : Int32 × St), f_Mo_waiting_59 n S l1 l2 l3 = some w → G SM m_Mo_waiting 3 (some w.1) w.2 59 [(0, .ref 0), (1, .int l1), (2, .int l2), (3, .int l3)] [] S := by
  intro n
  induction n with
  | zero =>
    intro S l1 l2 l3 w h
    rw [f_Mo_waiting_59] at h
    cases h
  | succ n ih =>
    intro S l1 l2 l3 w h
    rw [f_Mo_waiting_59] at h
    refine G_iload_n 3 rfl d_Mo_waiting_59 ?_
    refine G_iload_n 1 rfl d_Mo_waiting_60 ?_
    refine G_icmp_ge 133 (by decide) d_Mo_waiting_61 (fun c_61 => ?_) (fun c_61 => ?_)
    · replace h := ob_t h c_61
      refine G_iload_n 2 rfl d_Mo_waiting_133 ?_
      refine G_if_ne 144 (by decide) d_Mo_waiting_134 (fun c_134 => ?_) (fun c_134 => ?_)
      · replace h := ob_f h c_134
        refine G_aload_n 0 rfl d_Mo_waiting_144 ?_
        obtain ⟨w_145, q_145, h⟩ := ob_b h
        refine G_callV [] [] (t_Mo_mustEnd q_145) (by decide) (by decide) mv_Mo_mustEnd rfl ml_Mo_376 km_0 sm_0 cl_12 rfl (Nat.le_of_ble_eq_true rfl) d_Mo_waiting_145 ?_
        cases h
        exact G_iret rfl d_Mo_waiting_148
      · replace h := ob_t h c_134
        refine G_aload_n 0 rfl d_Mo_waiting_137 ?_
        obtain ⟨v_138, q_138, h⟩ := ob_b h
        refine G_callV [] [] (t_Mo_forEver q_138) (by decide) (by decide) mv_Mo_forEver rfl ml_Mo_373 km_0 sm_0 cl_12 rfl (Nat.le_of_ble_eq_true rfl) d_Mo_waiting_138 ?_
        refine G_goto 148 (by decide) d_Mo_waiting_141 ?_
        cases h
        exact G_iret rfl d_Mo_waiting_148
    · replace h := ob_f h c_61
      refine G_aload_n 0 rfl d_Mo_waiting_64 ?_
      refine G_iconst 2 (by decide) d_Mo_waiting_65 ?_
      refine G_iload_n 3 rfl d_Mo_waiting_66 ?_
      refine G_imul d_Mo_waiting_67 ?_
      obtain ⟨v_68, q_68, h⟩ := ob_b h
      refine G_callV [.int (2 * l3)] [] (t_Mo_octet q_68) (by decide) (by decide) mv_Mo_octet rfl ml_Mo_370 km_0 sm_0 cl_12 rfl (Nat.le_of_ble_eq_true rfl) d_Mo_waiting_68 ?_
      refine G_istore [(4, .int v_68), (0, .ref 0), (1, .int l1), (2, .int l2), (3, .int l3)] rfl rfl (by decide) d_Mo_waiting_71 ?_
      refine G_aload_n 1 rfl d_Mo_waiting_73 ?_
      refine G_iconst 2 (by decide) d_Mo_waiting_74 ?_
      refine G_iload_n 4 rfl d_Mo_waiting_75 ?_
      refine G_imul d_Mo_waiting_76 ?_
      refine G_iconst 1 (by decide) d_Mo_waiting_77 ?_
      refine G_iadd d_Mo_waiting_78 ?_
      obtain ⟨v_79, q_79, h⟩ := ob_b h
      refine G_callV [.int ((2 * l3) + 1)] [] (t_Mo_octet q_79) (by decide) (by decide) mv_Mo_octet rfl ml_Mo_370 km_0 sm_0 cl_12 rfl (Nat.le_of_ble_eq_true rfl) d_Mo_waiting_79 ?_
      refine G_istore [(5, .int v_79), (4, .int v_68), (0, .ref 0), (1, .int l1), (2, .int l2), (3, .int l3)] rfl rfl (by decide) d_Mo_waiting_82 ?_
      refine G_iload 1 rfl d_Mo_waiting_84 ?_
      refine G_bipush 16 (by decide) d_Mo_waiting_86 ?_
      refine G_icmp_ge 105 (by decide) d_Mo_waiting_88 (fun c_88 => ?_) (fun c_88 => ?_)
      · replace h := ob_t h c_88
        refine G_bipush (-3) (by decide) d_Mo_waiting_105 ?_
        cases h
        exact G_iret rfl d_Mo_waiting_107
      · replace h := ob_f h c_88
        refine G_iload 0 rfl d_Mo_waiting_91 ?_
        refine G_bipush 16 (by decide) d_Mo_waiting_93 ?_
        refine G_icmp_ge 105 (by decide) d_Mo_waiting_95 (fun c_95 => ?_) (fun c_95 => ?_)
        · replace h := ob_t h c_95
          refine G_bipush (-3) (by decide) d_Mo_waiting_105 ?_
          cases h
          exact G_iret rfl d_Mo_waiting_107
        · replace h := ob_f h c_95
          refine G_iload 1 rfl d_Mo_waiting_98 ?_
          refine G_iload 0 rfl d_Mo_waiting_100 ?_
          refine G_icmp_ne 108 (by decide) d_Mo_waiting_102 (fun c_102 => ?_) (fun c_102 => ?_)
          · replace h := ob_f h c_102
            refine G_aload_n 2 rfl d_Mo_waiting_108 ?_
            refine G_getR fl_Mo_107 km_0 sm_0 rfl (by decide) d_Mo_waiting_109 ?_
            refine G_iload 1 rfl d_Mo_waiting_112 ?_
            refine G_aload_n 2 rfl d_Mo_waiting_114 ?_
            refine G_getR fl_Mo_107 km_0 sm_0 rfl (by decide) d_Mo_waiting_115 ?_
            refine G_iload 1 rfl d_Mo_waiting_118 ?_
            obtain ⟨g_120, h⟩ := ob_g h
            refine G_iaload km_33 sm_33 g_120 d_Mo_waiting_120 ?_
            refine G_iconst 1 (by decide) d_Mo_waiting_121 ?_
            refine G_iload 0 rfl d_Mo_waiting_122 ?_
            refine G_ishl d_Mo_waiting_124 ?_
            refine G_ior d_Mo_waiting_125 ?_
            obtain ⟨g_126, h⟩ := ob_g h
            obtain ⟨S_126, e_126, h⟩ := ob_s h
            refine G_iastore e_126 km_33 sm_33 g_126 d_Mo_waiting_126 ?_
            obtain ⟨l3_127, e_127, h⟩ := ob_s h
            refine G_iinc 1 5 [(3, .int l3_127), (5, .int v_79), (4, .int v_68), (0, .ref 0), (1, .int l1), (2, .int l2)] (by decide) rfl e_127 rfl (by decide) d_Mo_waiting_127 ?_
            refine G_goto 59 (by decide) d_Mo_waiting_130 ?_
            exact G_sub _ [3, 4, 5, 0] rfl (ih S_126 l1 l2 l3_127 _ h)
          · replace h := ob_t h c_102
            refine G_bipush (-3) (by decide) d_Mo_waiting_105 ?_
            cases h
            exact G_iret rfl d_Mo_waiting_107
def f_Mo_waiting_38 : Nat → St → Int32 → Int32 → Int32 → Option (Int32 × St)
  | 0, _, _, _, _ => none
  | n + 1, S, l1, l2, l3 =>
    if (16 : Int32) ≤ l3 then (
    (some (0 : Int32)).bind fun l3_58 =>
    f_Mo_waiting_59 FU S l1 l2 l3_58)
    else (
    if ig l3 16 then (
    (some (sF S 33 l3.toNatClampNeg 0)).bind fun S_50 =>
    (some (l3 + 1)).bind fun l3_51 =>
    f_Mo_waiting_38 n S_50 l1 l2 l3_51) else none)
set_option maxHeartbeats 4000000 in
set_option maxRecDepth 20000 in
theorem t_Mo_waiting_38  : ∀ (n : Nat) (S : St) (l1 : Int32) (l2 : Int32) (l3 : Int32) (w : Int32 × St), f_Mo_waiting_38 n S l1 l2 l3 = some w → G SM m_Mo_waiting 3 (some w.1) w.2 38 [(0, .ref 0), (1, .int l1), (2, .int l2), (3, .int l3)] [] S := by
  intro n
  induction n with
  | zero =>
    intro S l1 l2 l3 w h
    rw [f_Mo_waiting_38] at h
    cases h
  | succ n ih =>
    intro S l1 l2 l3 w h
    rw [f_Mo_waiting_38] at h
    refine G_iload_n 3 rfl d_Mo_waiting_38 ?_
    refine G_bipush 16 (by decide) d_Mo_waiting_39 ?_
    refine G_icmp_ge 57 (by decide) d_Mo_waiting_41 (fun c_41 => ?_) (fun c_41 => ?_)
    · replace h := ob_t h c_41
      refine G_iconst 0 (by decide) d_Mo_waiting_57 ?_
      obtain ⟨l3_58, e_58, h⟩ := ob_s h
      refine G_istore_n [(3, .int l3_58), (0, .ref 0), (1, .int l1), (2, .int l2)] e_58 rfl (by decide) d_Mo_waiting_58 ?_
      exact G_sub _ [1, 2, 3, 0] rfl (t_Mo_waiting_59 FU S l1 l2 l3_58 _ h)
    · replace h := ob_f h c_41
      refine G_aload_n 0 rfl d_Mo_waiting_44 ?_
      refine G_getR fl_Mo_107 km_0 sm_0 rfl (by decide) d_Mo_waiting_45 ?_
      refine G_iload_n 3 rfl d_Mo_waiting_48 ?_
      refine G_iconst 0 (by decide) d_Mo_waiting_49 ?_
      obtain ⟨g_50, h⟩ := ob_g h
      obtain ⟨S_50, e_50, h⟩ := ob_s h
      refine G_iastore e_50 km_33 sm_33 g_50 d_Mo_waiting_50 ?_
      obtain ⟨l3_51, e_51, h⟩ := ob_s h
      refine G_iinc 1 3 [(3, .int l3_51), (0, .ref 0), (1, .int l1), (2, .int l2)] (by decide) rfl e_51 rfl (by decide) d_Mo_waiting_51 ?_
      refine G_goto 38 (by decide) d_Mo_waiting_54 ?_
      exact G_sub _ [1, 2, 3, 0] rfl (ih S_50 l1 l2 l3_51 _ h)
def f_Mo_waiting (S : St) (l1 : Int32) (l2 : Int32) : Option (Int32 × St) :=
    (f_Mo_in S l1 (1 : Int32) (20 : Int32)).bind fun v_4 =>
    if v_4 = 0 then (
    some ((-1), S))
    else (
    (f_Mo_in S l2 (0 : Int32) (1 : Int32)).bind fun v_13 =>
    if v_13 = 0 then (
    some ((-1), S))
    else (
    if (2 * l1) ≤ (S 0 7) then (
    (some (sF S 0 7 0)).bind fun S_33 =>
    (some (0 : Int32)).bind fun l3_37 =>
    f_Mo_waiting_38 FU S_33 l1 l2 l3_37)
    else (
    some ((-1), S))))
set_option maxHeartbeats 4000000 in
set_option maxRecDepth 20000 in
theorem t_Mo_waiting  {S : St} {l1 : Int32} {l2 : Int32} {w : Int32 × St} (h : f_Mo_waiting S l1 l2 = some w) : Ct SM m_Mo_waiting 3 [.ref 0, .int l1, .int l2] S (some w.1) w.2 := by
  unfold f_Mo_waiting at h
  refine Ct.of pn_Mo (Nat.le_of_ble_eq_true rfl) ?_
  show G SM m_Mo_waiting 3 (some w.1) w.2 0 [(0, .ref 0), (1, .int l1), (2, .int l2)] [] S
  refine G_iload_n 1 rfl d_Mo_waiting_0 ?_
  refine G_iconst 1 (by decide) d_Mo_waiting_1 ?_
  refine G_bipush 20 (by decide) d_Mo_waiting_2 ?_
  obtain ⟨v_4, q_4, h⟩ := ob_b h
  refine G_callS [.int l1, .int 1, .int 20] [] (t_Mo_in q_4) (by decide) (by decide) mt_Mo_in rfl ml_Mo_124 rfl (Nat.le_of_ble_eq_true rfl) d_Mo_waiting_4 ?_
  refine G_if_eq 29 (by decide) d_Mo_waiting_7 (fun c_7 => ?_) (fun c_7 => ?_)
  · replace h := ob_t h c_7
    refine G_iconst (-1) (by decide) d_Mo_waiting_29 ?_
    cases h
    exact G_iret rfl d_Mo_waiting_30
  · replace h := ob_f h c_7
    refine G_iload_n 2 rfl d_Mo_waiting_10 ?_
    refine G_iconst 0 (by decide) d_Mo_waiting_11 ?_
    refine G_iconst 1 (by decide) d_Mo_waiting_12 ?_
    obtain ⟨v_13, q_13, h⟩ := ob_b h
    refine G_callS [.int l2, .int 0, .int 1] [] (t_Mo_in q_13) (by decide) (by decide) mt_Mo_in rfl ml_Mo_124 rfl (Nat.le_of_ble_eq_true rfl) d_Mo_waiting_13 ?_
    refine G_if_eq 29 (by decide) d_Mo_waiting_16 (fun c_16 => ?_) (fun c_16 => ?_)
    · replace h := ob_t h c_16
      refine G_iconst (-1) (by decide) d_Mo_waiting_29 ?_
      cases h
      exact G_iret rfl d_Mo_waiting_30
    · replace h := ob_f h c_16
      refine G_iconst 2 (by decide) d_Mo_waiting_19 ?_
      refine G_iload_n 1 rfl d_Mo_waiting_20 ?_
      refine G_imul d_Mo_waiting_21 ?_
      refine G_aload_n 0 rfl d_Mo_waiting_22 ?_
      refine G_getI fl_Mo_135 km_0 sm_0 rfl d_Mo_waiting_23 ?_
      refine G_icmp_le 31 (by decide) d_Mo_waiting_26 (fun c_26 => ?_) (fun c_26 => ?_)
      · replace h := ob_t h c_26
        refine G_aload_n 0 rfl d_Mo_waiting_31 ?_
        refine G_iconst 0 (by decide) d_Mo_waiting_32 ?_
        obtain ⟨S_33, e_33, h⟩ := ob_s h
        refine G_putI e_33 fp_Mo_135 km_0 sm_0 rfl d_Mo_waiting_33 ?_
        refine G_iconst 0 (by decide) d_Mo_waiting_36 ?_
        obtain ⟨l3_37, e_37, h⟩ := ob_s h
        refine G_istore_n [(3, .int l3_37), (0, .ref 0), (1, .int l1), (2, .int l2)] e_37 rfl (by decide) d_Mo_waiting_37 ?_
        exact G_sub _ [1, 2, 3, 0] rfl (t_Mo_waiting_38 FU S_33 l1 l2 l3_37 _ h)
      · replace h := ob_f h c_26
        refine G_iconst (-1) (by decide) d_Mo_waiting_29 ?_
        cases h
        exact G_iret rfl d_Mo_waiting_30
theorem d_Mo_changesRow_0 : decode m_Mo_changesRow.2.1 0 = .ok (.aload_n 0, 1) := by decide +kernel
theorem d_Mo_changesRow_1 : decode m_Mo_changesRow.2.1 1 = .ok (.getfield 114, 3) := by decide +kernel
theorem d_Mo_changesRow_4 : decode m_Mo_changesRow.2.1 4 = .ok (.iload_n 1, 1) := by decide +kernel
theorem d_Mo_changesRow_5 : decode m_Mo_changesRow.2.1 5 = .ok (.iaload, 1) := by decide +kernel
theorem d_Mo_changesRow_6 : decode m_Mo_changesRow.2.1 6 = .ok (.istore_n 3, 1) := by decide +kernel
theorem d_Mo_changesRow_7 : decode m_Mo_changesRow.2.1 7 = .ok (.aload_n 0, 1) := by decide +kernel
theorem d_Mo_changesRow_8 : decode m_Mo_changesRow.2.1 8 = .ok (.getfield 114, 3) := by decide +kernel
theorem d_Mo_changesRow_11 : decode m_Mo_changesRow.2.1 11 = .ok (.iload_n 1, 1) := by decide +kernel
theorem d_Mo_changesRow_12 : decode m_Mo_changesRow.2.1 12 = .ok (.aload_n 0, 1) := by decide +kernel
theorem d_Mo_changesRow_13 : decode m_Mo_changesRow.2.1 13 = .ok (.getfield 114, 3) := by decide +kernel
theorem d_Mo_changesRow_16 : decode m_Mo_changesRow.2.1 16 = .ok (.iload_n 2, 1) := by decide +kernel
theorem d_Mo_changesRow_17 : decode m_Mo_changesRow.2.1 17 = .ok (.iaload, 1) := by decide +kernel
theorem d_Mo_changesRow_18 : decode m_Mo_changesRow.2.1 18 = .ok (.iastore, 1) := by decide +kernel
theorem d_Mo_changesRow_19 : decode m_Mo_changesRow.2.1 19 = .ok (.aload_n 0, 1) := by decide +kernel
theorem d_Mo_changesRow_20 : decode m_Mo_changesRow.2.1 20 = .ok (.getfield 114, 3) := by decide +kernel
theorem d_Mo_changesRow_23 : decode m_Mo_changesRow.2.1 23 = .ok (.iload_n 2, 1) := by decide +kernel
theorem d_Mo_changesRow_24 : decode m_Mo_changesRow.2.1 24 = .ok (.iload_n 3, 1) := by decide +kernel
theorem d_Mo_changesRow_25 : decode m_Mo_changesRow.2.1 25 = .ok (.iastore, 1) := by decide +kernel
theorem d_Mo_changesRow_26 : decode m_Mo_changesRow.2.1 26 = .ok (.return_, 1) := by decide +kernel
def f_Mo_changesRow (S : St) (l1 : Int32) (l2 : Int32) : Option (St) :=
    if ig l1 8 then (
    (some (S 35 l1.toNatClampNeg)).bind fun l3_6 =>
    if ig l2 8 then (
    if ig l1 8 then (
    (some (sF S 35 l1.toNatClampNeg (S 35 l2.toNatClampNeg))).bind fun S_18 =>
    if ig l2 8 then (
    (some (sF S_18 35 l2.toNatClampNeg l3_6)).bind fun S_25 =>
    some S_25) else none) else none) else none) else none
set_option maxHeartbeats 4000000 in
set_option maxRecDepth 20000 in
theorem t_Mo_changesRow  {S : St} {l1 : Int32} {l2 : Int32} {w : St} (h : f_Mo_changesRow S l1 l2 = some w) : Ct SM m_Mo_changesRow 1 [.ref 0, .int l1, .int l2] S none w := by
  unfold f_Mo_changesRow at h
  refine Ct.of pn_Mo (Nat.le_of_ble_eq_true rfl) ?_
  show G SM m_Mo_changesRow 1 none w 0 [(0, .ref 0), (1, .int l1), (2, .int l2)] [] S
  refine G_aload_n 0 rfl d_Mo_changesRow_0 ?_
  refine G_getR fl_Mo_114 km_0 sm_0 rfl (by decide) d_Mo_changesRow_1 ?_
  refine G_iload_n 1 rfl d_Mo_changesRow_4 ?_
  obtain ⟨g_5, h⟩ := ob_g h
  refine G_iaload km_35 sm_35 g_5 d_Mo_changesRow_5 ?_
  obtain ⟨l3_6, e_6, h⟩ := ob_s h
  refine G_istore_n [(3, .int l3_6), (0, .ref 0), (1, .int l1), (2, .int l2)] e_6 rfl (by decide) d_Mo_changesRow_6 ?_
  refine G_aload_n 1 rfl d_Mo_changesRow_7 ?_
  refine G_getR fl_Mo_114 km_0 sm_0 rfl (by decide) d_Mo_changesRow_8 ?_
  refine G_iload_n 2 rfl d_Mo_changesRow_11 ?_
  refine G_aload_n 1 rfl d_Mo_changesRow_12 ?_
  refine G_getR fl_Mo_114 km_0 sm_0 rfl (by decide) d_Mo_changesRow_13 ?_
  refine G_iload_n 3 rfl d_Mo_changesRow_16 ?_
  obtain ⟨g_17, h⟩ := ob_g h
  refine G_iaload km_35 sm_35 g_17 d_Mo_changesRow_17 ?_
  obtain ⟨g_18, h⟩ := ob_g h
  obtain ⟨S_18, e_18, h⟩ := ob_s h
  refine G_iastore e_18 km_35 sm_35 g_18 d_Mo_changesRow_18 ?_
  refine G_aload_n 1 rfl d_Mo_changesRow_19 ?_
  refine G_getR fl_Mo_114 km_0 sm_0 rfl (by decide) d_Mo_changesRow_20 ?_
  refine G_iload_n 3 rfl d_Mo_changesRow_23 ?_
  refine G_iload_n 0 rfl d_Mo_changesRow_24 ?_
  obtain ⟨g_25, h⟩ := ob_g h
  obtain ⟨S_25, e_25, h⟩ := ob_s h
  refine G_iastore e_25 km_35 sm_35 g_25 d_Mo_changesRow_25 ?_
  cases h
  exact G_vret rfl d_Mo_changesRow_26
theorem d_Mo_nextRow_0 : decode m_Mo_nextRow.2.1 0 = .ok (.iload_n 1, 1) := by decide +kernel
theorem d_Mo_nextRow_1 : decode m_Mo_nextRow.2.1 1 = .ok (.iconst 2, 1) := by decide +kernel
theorem d_Mo_nextRow_2 : decode m_Mo_nextRow.2.1 2 = .ok (.isub, 1) := by decide +kernel
theorem d_Mo_nextRow_3 : decode m_Mo_nextRow.2.1 3 = .ok (.istore_n 2, 1) := by decide +kernel
theorem d_Mo_nextRow_4 : decode m_Mo_nextRow.2.1 4 = .ok (.iload_n 2, 1) := by decide +kernel
theorem d_Mo_nextRow_5 : decode m_Mo_nextRow.2.1 5 = .ok (.ifCond .lt 27, 3) := by decide +kernel
theorem d_Mo_nextRow_8 : decode m_Mo_nextRow.2.1 8 = .ok (.aload_n 0, 1) := by decide +kernel
theorem d_Mo_nextRow_9 : decode m_Mo_nextRow.2.1 9 = .ok (.getfield 114, 3) := by decide +kernel
theorem d_Mo_nextRow_12 : decode m_Mo_nextRow.2.1 12 = .ok (.iload_n 2, 1) := by decide +kernel
theorem d_Mo_nextRow_13 : decode m_Mo_nextRow.2.1 13 = .ok (.iaload, 1) := by decide +kernel
theorem d_Mo_nextRow_14 : decode m_Mo_nextRow.2.1 14 = .ok (.aload_n 0, 1) := by decide +kernel
theorem d_Mo_nextRow_15 : decode m_Mo_nextRow.2.1 15 = .ok (.getfield 114, 3) := by decide +kernel
theorem d_Mo_nextRow_18 : decode m_Mo_nextRow.2.1 18 = .ok (.iload_n 2, 1) := by decide +kernel
theorem d_Mo_nextRow_19 : decode m_Mo_nextRow.2.1 19 = .ok (.iconst 1, 1) := by decide +kernel
theorem d_Mo_nextRow_20 : decode m_Mo_nextRow.2.1 20 = .ok (.iadd, 1) := by decide +kernel
theorem d_Mo_nextRow_21 : decode m_Mo_nextRow.2.1 21 = .ok (.iaload, 1) := by decide +kernel
theorem d_Mo_nextRow_22 : decode m_Mo_nextRow.2.1 22 = .ok (.if_icmp .le 10, 3) := by decide +kernel
theorem d_Mo_nextRow_25 : decode m_Mo_nextRow.2.1 25 = .ok (.iload_n 2, 1) := by decide +kernel
theorem d_Mo_nextRow_26 : decode m_Mo_nextRow.2.1 26 = .ok (.iconst 1, 1) := by decide +kernel
theorem d_Mo_nextRow_27 : decode m_Mo_nextRow.2.1 27 = .ok (.isub, 1) := by decide +kernel
theorem d_Mo_nextRow_28 : decode m_Mo_nextRow.2.1 28 = .ok (.istore_n 2, 1) := by decide +kernel
theorem d_Mo_nextRow_29 : decode m_Mo_nextRow.2.1 29 = .ok (.goto (-25), 3) := by decide +kernel
theorem d_Mo_nextRow_32 : decode m_Mo_nextRow.2.1 32 = .ok (.iload_n 2, 1) := by decide +kernel
theorem d_Mo_nextRow_33 : decode m_Mo_nextRow.2.1 33 = .ok (.ifCond .ge 5, 3) := by decide +kernel
theorem d_Mo_nextRow_36 : decode m_Mo_nextRow.2.1 36 = .ok (.iconst 0, 1) := by decide +kernel
theorem d_Mo_nextRow_37 : decode m_Mo_nextRow.2.1 37 = .ok (.ireturn, 1) := by decide +kernel
theorem d_Mo_nextRow_38 : decode m_Mo_nextRow.2.1 38 = .ok (.iload_n 1, 1) := by decide +kernel
theorem d_Mo_nextRow_39 : decode m_Mo_nextRow.2.1 39 = .ok (.iconst 1, 1) := by decide +kernel
theorem d_Mo_nextRow_40 : decode m_Mo_nextRow.2.1 40 = .ok (.isub, 1) := by decide +kernel
theorem d_Mo_nextRow_41 : decode m_Mo_nextRow.2.1 41 = .ok (.istore_n 3, 1) := by decide +kernel
theorem d_Mo_nextRow_42 : decode m_Mo_nextRow.2.1 42 = .ok (.aload_n 0, 1) := by decide +kernel
theorem d_Mo_nextRow_43 : decode m_Mo_nextRow.2.1 43 = .ok (.getfield 114, 3) := by decide +kernel
theorem d_Mo_nextRow_46 : decode m_Mo_nextRow.2.1 46 = .ok (.iload_n 3, 1) := by decide +kernel
theorem d_Mo_nextRow_47 : decode m_Mo_nextRow.2.1 47 = .ok (.iaload, 1) := by decide +kernel
theorem d_Mo_nextRow_48 : decode m_Mo_nextRow.2.1 48 = .ok (.aload_n 0, 1) := by decide +kernel
theorem d_Mo_nextRow_49 : decode m_Mo_nextRow.2.1 49 = .ok (.getfield 114, 3) := by decide +kernel
theorem d_Mo_nextRow_52 : decode m_Mo_nextRow.2.1 52 = .ok (.iload_n 2, 1) := by decide +kernel
theorem d_Mo_nextRow_53 : decode m_Mo_nextRow.2.1 53 = .ok (.iaload, 1) := by decide +kernel
theorem d_Mo_nextRow_54 : decode m_Mo_nextRow.2.1 54 = .ok (.if_icmp .ge 10, 3) := by decide +kernel
theorem d_Mo_nextRow_57 : decode m_Mo_nextRow.2.1 57 = .ok (.iload_n 3, 1) := by decide +kernel
theorem d_Mo_nextRow_58 : decode m_Mo_nextRow.2.1 58 = .ok (.iconst 1, 1) := by decide +kernel
theorem d_Mo_nextRow_59 : decode m_Mo_nextRow.2.1 59 = .ok (.isub, 1) := by decide +kernel
theorem d_Mo_nextRow_60 : decode m_Mo_nextRow.2.1 60 = .ok (.istore_n 3, 1) := by decide +kernel
theorem d_Mo_nextRow_61 : decode m_Mo_nextRow.2.1 61 = .ok (.goto (-19), 3) := by decide +kernel
theorem d_Mo_nextRow_64 : decode m_Mo_nextRow.2.1 64 = .ok (.aload_n 0, 1) := by decide +kernel
theorem d_Mo_nextRow_65 : decode m_Mo_nextRow.2.1 65 = .ok (.iload_n 2, 1) := by decide +kernel
theorem d_Mo_nextRow_66 : decode m_Mo_nextRow.2.1 66 = .ok (.iload_n 3, 1) := by decide +kernel
theorem d_Mo_nextRow_67 : decode m_Mo_nextRow.2.1 67 = .ok (.invokevirtual 379, 3) := by decide +kernel
theorem d_Mo_nextRow_70 : decode m_Mo_nextRow.2.1 70 = .ok (.iload_n 2, 1) := by decide +kernel
theorem d_Mo_nextRow_71 : decode m_Mo_nextRow.2.1 71 = .ok (.iconst 1, 1) := by decide +kernel
theorem d_Mo_nextRow_72 : decode m_Mo_nextRow.2.1 72 = .ok (.iadd, 1) := by decide +kernel
theorem d_Mo_nextRow_73 : decode m_Mo_nextRow.2.1 73 = .ok (.istore 4, 2) := by decide +kernel
theorem d_Mo_nextRow_75 : decode m_Mo_nextRow.2.1 75 = .ok (.iload_n 1, 1) := by decide +kernel
theorem d_Mo_nextRow_76 : decode m_Mo_nextRow.2.1 76 = .ok (.iconst 1, 1) := by decide +kernel
theorem d_Mo_nextRow_77 : decode m_Mo_nextRow.2.1 77 = .ok (.isub, 1) := by decide +kernel
theorem d_Mo_nextRow_78 : decode m_Mo_nextRow.2.1 78 = .ok (.istore 5, 2) := by decide +kernel
theorem d_Mo_nextRow_80 : decode m_Mo_nextRow.2.1 80 = .ok (.iload 4, 2) := by decide +kernel
theorem d_Mo_nextRow_82 : decode m_Mo_nextRow.2.1 82 = .ok (.iload 5, 2) := by decide +kernel
theorem d_Mo_nextRow_84 : decode m_Mo_nextRow.2.1 84 = .ok (.if_icmp .ge 20, 3) := by decide +kernel
theorem d_Mo_nextRow_87 : decode m_Mo_nextRow.2.1 87 = .ok (.aload_n 0, 1) := by decide +kernel
theorem d_Mo_nextRow_88 : decode m_Mo_nextRow.2.1 88 = .ok (.iload 4, 2) := by decide +kernel
theorem d_Mo_nextRow_90 : decode m_Mo_nextRow.2.1 90 = .ok (.iload 5, 2) := by decide +kernel
theorem d_Mo_nextRow_92 : decode m_Mo_nextRow.2.1 92 = .ok (.invokevirtual 379, 3) := by decide +kernel
theorem d_Mo_nextRow_95 : decode m_Mo_nextRow.2.1 95 = .ok (.iinc 4 1, 3) := by decide +kernel
theorem d_Mo_nextRow_98 : decode m_Mo_nextRow.2.1 98 = .ok (.iinc 5 (-1), 3) := by decide +kernel
theorem d_Mo_nextRow_101 : decode m_Mo_nextRow.2.1 101 = .ok (.goto (-21), 3) := by decide +kernel
theorem d_Mo_nextRow_104 : decode m_Mo_nextRow.2.1 104 = .ok (.iconst 1, 1) := by decide +kernel
theorem d_Mo_nextRow_105 : decode m_Mo_nextRow.2.1 105 = .ok (.ireturn, 1) := by decide +kernel
def f_Mo_nextRow_80 : Nat → St → Int32 → Int32 → Option (Int32 × St)
  | 0, _, _, _ => none
  | n + 1, S, l4, l5 =>
    if l5 ≤ l4 then (
    some (1, S))
    else (
    (f_Mo_changesRow S l4 l5).bind fun w_92 =>
    (some (l4 + 1)).bind fun l4_95 =>
    (some (l5 + (-1))).bind fun l5_98 =>
    f_Mo_nextRow_80 n w_92 l4_95 l5_98)
set_option maxHeartbeats 4000000 in
set_option maxRecDepth 20000 in
theorem t_Mo_nextRow_80  : ∀ (n : Nat) (S : St) (l4 : Int32) (l5 : Int32) (w : Int32 × St), f_Mo_nextRow_80 n S l4 l5 = some w → G SM m_Mo_nextRow 2 (some w.1) w.2 80 [(0, .ref 0), (4, .int l4), (5, .int l5)] [] S := by
  intro n
  induction n with
  | zero =>
    intro S l4 l5 w h
    rw [f_Mo_nextRow_80] at h
    cases h
  | succ n ih =>
    intro S l4 l5 w h
    rw [f_Mo_nextRow_80] at h
    refine G_iload 1 rfl d_Mo_nextRow_80 ?_
    refine G_iload 2 rfl d_Mo_nextRow_82 ?_
    refine G_icmp_ge 104 (by decide) d_Mo_nextRow_84 (fun c_84 => ?_) (fun c_84 => ?_)
    · replace h := ob_t h c_84
      refine G_iconst 1 (by decide) d_Mo_nextRow_104 ?_
      cases h
      exact G_zret (Or.inr rfl) rfl d_Mo_nextRow_105
    · replace h := ob_f h c_84
      refine G_aload_n 0 rfl d_Mo_nextRow_87 ?_
      refine G_iload 1 rfl d_Mo_nextRow_88 ?_
      refine G_iload 2 rfl d_Mo_nextRow_90 ?_
      obtain ⟨w_92, q_92, h⟩ := ob_b h
      refine G_callV [.int l4, .int l5] [] (t_Mo_changesRow q_92) (by decide) (by decide) mv_Mo_changesRow rfl ml_Mo_379 km_0 sm_0 cl_12 rfl (Nat.le_of_ble_eq_true rfl) d_Mo_nextRow_92 ?_
      obtain ⟨l4_95, e_95, h⟩ := ob_s h
      refine G_iinc 1 1 [(4, .int l4_95), (0, .ref 0), (5, .int l5)] (by decide) rfl e_95 rfl (by decide) d_Mo_nextRow_95 ?_
      obtain ⟨l5_98, e_98, h⟩ := ob_s h
      refine G_iinc (-1) 2 [(5, .int l5_98), (4, .int l4_95), (0, .ref 0)] (by decide) rfl e_98 rfl (by decide) d_Mo_nextRow_98 ?_
      refine G_goto 80 (by decide) d_Mo_nextRow_101 ?_
      exact G_sub _ [2, 1, 0] rfl (ih w_92 l4_95 l5_98 _ h)
def f_Mo_nextRow_42 : Nat → St → Int32 → Int32 → Int32 → Option (Int32 × St)
  | 0, _, _, _, _ => none
  | n + 1, S, l1, l2, l3 =>
    if ig l3 8 then (
    if ig l2 8 then (
    if (S 35 l2.toNatClampNeg) ≤ (S 35 l3.toNatClampNeg) then (
    (f_Mo_changesRow S l2 l3).bind fun w_67 =>
    (some (l2 + 1)).bind fun l4_73 =>
    (some (l1 - 1)).bind fun l5_78 =>
    f_Mo_nextRow_80 FU w_67 l4_73 l5_78)
    else (
    (some (l3 - 1)).bind fun l3_60 =>
    f_Mo_nextRow_42 n S l1 l2 l3_60)) else none) else none
set_option maxHeartbeats 4000000 in
set_option maxRecDepth 20000 in
theorem t_Mo_nextRow_42  : ∀ (n : Nat) (S : St) (l1 : Int32) (l2 : Int32) (l3 : Int32) (w : Int32 × St), f_Mo_nextRow_42 n S l1 l2 l3 = some w → G SM m_Mo_nextRow 2 (some w.1) w.2 42 [(0, .ref 0), (1, .int l1), (2, .int l2), (3, .int l3)] [] S := by
  intro n
  induction n with
  | zero =>
    intro S l1 l2 l3 w h
    rw [f_Mo_nextRow_42] at h
    cases h
  | succ n ih =>
    intro S l1 l2 l3 w h
    rw [f_Mo_nextRow_42] at h
    refine G_aload_n 0 rfl d_Mo_nextRow_42 ?_
    refine G_getR fl_Mo_114 km_0 sm_0 rfl (by decide) d_Mo_nextRow_43 ?_
    refine G_iload_n 3 rfl d_Mo_nextRow_46 ?_
    obtain ⟨g_47, h⟩ := ob_g h
    refine G_iaload km_35 sm_35 g_47 d_Mo_nextRow_47 ?_
    refine G_aload_n 0 rfl d_Mo_nextRow_48 ?_
    refine G_getR fl_Mo_114 km_0 sm_0 rfl (by decide) d_Mo_nextRow_49 ?_
    refine G_iload_n 2 rfl d_Mo_nextRow_52 ?_
    obtain ⟨g_53, h⟩ := ob_g h
    refine G_iaload km_35 sm_35 g_53 d_Mo_nextRow_53 ?_
    refine G_icmp_ge 64 (by decide) d_Mo_nextRow_54 (fun c_54 => ?_) (fun c_54 => ?_)
    · replace h := ob_t h c_54
      refine G_aload_n 0 rfl d_Mo_nextRow_64 ?_
      refine G_iload_n 2 rfl d_Mo_nextRow_65 ?_
      refine G_iload_n 3 rfl d_Mo_nextRow_66 ?_
      obtain ⟨w_67, q_67, h⟩ := ob_b h
      refine G_callV [.int l2, .int l3] [] (t_Mo_changesRow q_67) (by decide) (by decide) mv_Mo_changesRow rfl ml_Mo_379 km_0 sm_0 cl_12 rfl (Nat.le_of_ble_eq_true rfl) d_Mo_nextRow_67 ?_
      refine G_iload_n 2 rfl d_Mo_nextRow_70 ?_
      refine G_iconst 1 (by decide) d_Mo_nextRow_71 ?_
      refine G_iadd d_Mo_nextRow_72 ?_
      obtain ⟨l4_73, e_73, h⟩ := ob_s h
      refine G_istore [(4, .int l4_73), (0, .ref 0), (1, .int l1), (2, .int l2), (3, .int l3)] e_73 rfl (by decide) d_Mo_nextRow_73 ?_
      refine G_iload_n 2 rfl d_Mo_nextRow_75 ?_
      refine G_iconst 1 (by decide) d_Mo_nextRow_76 ?_
      refine G_isub d_Mo_nextRow_77 ?_
      obtain ⟨l5_78, e_78, h⟩ := ob_s h
      refine G_istore [(5, .int l5_78), (4, .int l4_73), (0, .ref 0), (1, .int l1), (2, .int l2), (3, .int l3)] e_78 rfl (by decide) d_Mo_nextRow_78 ?_
      exact G_sub _ [2, 1, 0] rfl (t_Mo_nextRow_80 FU w_67 l4_73 l5_78 _ h)
    · replace h := ob_f h c_54
      refine G_iload_n 3 rfl d_Mo_nextRow_57 ?_
      refine G_iconst 1 (by decide) d_Mo_nextRow_58 ?_
      refine G_isub d_Mo_nextRow_59 ?_
      obtain ⟨l3_60, e_60, h⟩ := ob_s h
      refine G_istore_n [(3, .int l3_60), (0, .ref 0), (1, .int l1), (2, .int l2)] e_60 rfl (by decide) d_Mo_nextRow_60 ?_
      refine G_goto 42 (by decide) d_Mo_nextRow_61 ?_
      exact G_sub _ [1, 2, 3, 0] rfl (ih S l1 l2 l3_60 _ h)
def f_Mo_nextRow_32 (S : St) (l1 : Int32) (l2 : Int32) : Option (Int32 × St) :=
    if 0 ≤ l2 then (
    (some (l1 - 1)).bind fun l3_41 =>
    f_Mo_nextRow_42 FU S l1 l2 l3_41)
    else (
    some (0, S))
set_option maxHeartbeats 4000000 in
set_option maxRecDepth 20000 in
theorem t_Mo_nextRow_32  (S : St) (l1 : Int32) (l2 : Int32) (w : Int32 × St) (h : f_Mo_nextRow_32 S l1 l2 = some w) : G SM m_Mo_nextRow 2 (some w.1) w.2 32 [(0, .ref 0), (1, .int l1), (2, .int l2)] [] S := by
  unfold f_Mo_nextRow_32 at h
  refine G_iload_n 2 rfl d_Mo_nextRow_32 ?_
  refine G_if_ge 38 (by decide) d_Mo_nextRow_33 (fun c_33 => ?_) (fun c_33 => ?_)
  · replace h := ob_t h c_33
    refine G_iload_n 1 rfl d_Mo_nextRow_38 ?_
    refine G_iconst 1 (by decide) d_Mo_nextRow_39 ?_
    refine G_isub d_Mo_nextRow_40 ?_
    obtain ⟨l3_41, e_41, h⟩ := ob_s h
    refine G_istore_n [(3, .int l3_41), (0, .ref 0), (1, .int l1), (2, .int l2)] e_41 rfl (by decide) d_Mo_nextRow_41 ?_
    exact G_sub _ [1, 2, 3, 0] rfl (t_Mo_nextRow_42 FU S l1 l2 l3_41 _ h)
  · replace h := ob_f h c_33
    refine G_iconst 0 (by decide) d_Mo_nextRow_36 ?_
    cases h
    exact G_zret (Or.inl rfl) rfl d_Mo_nextRow_37
def f_Mo_nextRow_4 : Nat → St → Int32 → Int32 → Option (Int32 × St)
  | 0, _, _, _ => none
  | n + 1, S, l1, l2 =>
    if l2 < 0 then (
    f_Mo_nextRow_32 S l1 l2)
    else (
    if ig l2 8 then (
    if ig (l2 + 1) 8 then (
    if (S 35 l2.toNatClampNeg) ≤ (S 35 (l2 + 1).toNatClampNeg) then (
    f_Mo_nextRow_32 S l1 l2)
    else (
    (some (l2 - 1)).bind fun l2_28 =>
    f_Mo_nextRow_4 n S l1 l2_28)) else none) else none)
set_option maxHeartbeats 4000000 in
set_option maxRecDepth 20000 in
theorem t_Mo_nextRow_4  : ∀ (n : Nat) (S : St) (l1 : Int32) (l2 : Int32) (w : Int32 × St), f_Mo_nextRow_4 n S l1 l2 = some w → G SM m_Mo_nextRow 2 (some w.1) w.2 4 [(0, .ref 0), (1, .int l1), (2, .int l2)] [] S := by
  intro n
  induction n with
  | zero =>
    intro S l1 l2 w h
    rw [f_Mo_nextRow_4] at h
    cases h
  | succ n ih =>
    intro S l1 l2 w h
    rw [f_Mo_nextRow_4] at h
    refine G_iload_n 2 rfl d_Mo_nextRow_4 ?_
    refine G_if_lt 32 (by decide) d_Mo_nextRow_5 (fun c_5 => ?_) (fun c_5 => ?_)
    · replace h := ob_t h c_5
      exact G_sub _ [0, 1, 2] rfl (t_Mo_nextRow_32 S l1 l2 _ h)
    · replace h := ob_f h c_5
      refine G_aload_n 0 rfl d_Mo_nextRow_8 ?_
      refine G_getR fl_Mo_114 km_0 sm_0 rfl (by decide) d_Mo_nextRow_9 ?_
      refine G_iload_n 2 rfl d_Mo_nextRow_12 ?_
      obtain ⟨g_13, h⟩ := ob_g h
      refine G_iaload km_35 sm_35 g_13 d_Mo_nextRow_13 ?_
      refine G_aload_n 0 rfl d_Mo_nextRow_14 ?_
      refine G_getR fl_Mo_114 km_0 sm_0 rfl (by decide) d_Mo_nextRow_15 ?_
      refine G_iload_n 2 rfl d_Mo_nextRow_18 ?_
      refine G_iconst 1 (by decide) d_Mo_nextRow_19 ?_
      refine G_iadd d_Mo_nextRow_20 ?_
      obtain ⟨g_21, h⟩ := ob_g h
      refine G_iaload km_35 sm_35 g_21 d_Mo_nextRow_21 ?_
      refine G_icmp_le 32 (by decide) d_Mo_nextRow_22 (fun c_22 => ?_) (fun c_22 => ?_)
      · replace h := ob_t h c_22
        exact G_sub _ [0, 1, 2] rfl (t_Mo_nextRow_32 S l1 l2 _ h)
      · replace h := ob_f h c_22
        refine G_iload_n 2 rfl d_Mo_nextRow_25 ?_
        refine G_iconst 1 (by decide) d_Mo_nextRow_26 ?_
        refine G_isub d_Mo_nextRow_27 ?_
        obtain ⟨l2_28, e_28, h⟩ := ob_s h
        refine G_istore_n [(2, .int l2_28), (0, .ref 0), (1, .int l1)] e_28 rfl (by decide) d_Mo_nextRow_28 ?_
        refine G_goto 4 (by decide) d_Mo_nextRow_29 ?_
        exact G_sub _ [1, 2, 0] rfl (ih S l1 l2_28 _ h)
def f_Mo_nextRow (S : St) (l1 : Int32) : Option (Int32 × St) :=
    (some (l1 - 2)).bind fun l2_3 =>
    f_Mo_nextRow_4 FU S l1 l2_3
set_option maxHeartbeats 4000000 in
set_option maxRecDepth 20000 in
theorem t_Mo_nextRow  {S : St} {l1 : Int32} {w : Int32 × St} (h : f_Mo_nextRow S l1 = some w) : Ct SM m_Mo_nextRow 2 [.ref 0, .int l1] S (some w.1) w.2 := by
  unfold f_Mo_nextRow at h
  refine Ct.of pn_Mo (Nat.le_of_ble_eq_true rfl) ?_
  show G SM m_Mo_nextRow 2 (some w.1) w.2 0 [(0, .ref 0), (1, .int l1)] [] S
  refine G_iload_n 1 rfl d_Mo_nextRow_0 ?_
  refine G_iconst 2 (by decide) d_Mo_nextRow_1 ?_
  refine G_isub d_Mo_nextRow_2 ?_
  obtain ⟨l2_3, e_3, h⟩ := ob_s h
  refine G_istore_n [(2, .int l2_3), (0, .ref 0), (1, .int l1)] e_3 rfl (by decide) d_Mo_nextRow_3 ?_
  exact G_sub _ [1, 2, 0] rfl (t_Mo_nextRow_4 FU S l1 l2_3 _ h)
theorem d_Mo_hoursOfRow_0 : decode m_Mo_hoursOfRow.2.1 0 = .ok (.iconst 0, 1) := by decide +kernel
theorem d_Mo_hoursOfRow_1 : decode m_Mo_hoursOfRow.2.1 1 = .ok (.istore_n 2, 1) := by decide +kernel
theorem d_Mo_hoursOfRow_2 : decode m_Mo_hoursOfRow.2.1 2 = .ok (.iconst 0, 1) := by decide +kernel
theorem d_Mo_hoursOfRow_3 : decode m_Mo_hoursOfRow.2.1 3 = .ok (.istore_n 3, 1) := by decide +kernel
theorem d_Mo_hoursOfRow_4 : decode m_Mo_hoursOfRow.2.1 4 = .ok (.iconst 0, 1) := by decide +kernel
theorem d_Mo_hoursOfRow_5 : decode m_Mo_hoursOfRow.2.1 5 = .ok (.istore 4, 2) := by decide +kernel
theorem d_Mo_hoursOfRow_7 : decode m_Mo_hoursOfRow.2.1 7 = .ok (.iload 4, 2) := by decide +kernel
theorem d_Mo_hoursOfRow_9 : decode m_Mo_hoursOfRow.2.1 9 = .ok (.iload_n 1, 1) := by decide +kernel
theorem d_Mo_hoursOfRow_10 : decode m_Mo_hoursOfRow.2.1 10 = .ok (.if_icmp .ge 47, 3) := by decide +kernel
theorem d_Mo_hoursOfRow_13 : decode m_Mo_hoursOfRow.2.1 13 = .ok (.iload_n 2, 1) := by decide +kernel
theorem d_Mo_hoursOfRow_14 : decode m_Mo_hoursOfRow.2.1 14 = .ok (.aload_n 0, 1) := by decide +kernel
theorem d_Mo_hoursOfRow_15 : decode m_Mo_hoursOfRow.2.1 15 = .ok (.iconst 2, 1) := by decide +kernel
theorem d_Mo_hoursOfRow_16 : decode m_Mo_hoursOfRow.2.1 16 = .ok (.aload_n 0, 1) := by decide +kernel
theorem d_Mo_hoursOfRow_17 : decode m_Mo_hoursOfRow.2.1 17 = .ok (.getfield 114, 3) := by decide +kernel
theorem d_Mo_hoursOfRow_20 : decode m_Mo_hoursOfRow.2.1 20 = .ok (.iload 4, 2) := by decide +kernel
theorem d_Mo_hoursOfRow_22 : decode m_Mo_hoursOfRow.2.1 22 = .ok (.iaload, 1) := by decide +kernel
theorem d_Mo_hoursOfRow_23 : decode m_Mo_hoursOfRow.2.1 23 = .ok (.imul, 1) := by decide +kernel
theorem d_Mo_hoursOfRow_24 : decode m_Mo_hoursOfRow.2.1 24 = .ok (.invokevirtual 370, 3) := by decide +kernel
theorem d_Mo_hoursOfRow_27 : decode m_Mo_hoursOfRow.2.1 27 = .ok (.iadd, 1) := by decide +kernel
theorem d_Mo_hoursOfRow_28 : decode m_Mo_hoursOfRow.2.1 28 = .ok (.istore_n 2, 1) := by decide +kernel
theorem d_Mo_hoursOfRow_29 : decode m_Mo_hoursOfRow.2.1 29 = .ok (.iload_n 2, 1) := by decide +kernel
theorem d_Mo_hoursOfRow_30 : decode m_Mo_hoursOfRow.2.1 30 = .ok (.iload_n 3, 1) := by decide +kernel
theorem d_Mo_hoursOfRow_31 : decode m_Mo_hoursOfRow.2.1 31 = .ok (.invokestatic 265, 3) := by decide +kernel
theorem d_Mo_hoursOfRow_34 : decode m_Mo_hoursOfRow.2.1 34 = .ok (.aload_n 0, 1) := by decide +kernel
theorem d_Mo_hoursOfRow_35 : decode m_Mo_hoursOfRow.2.1 35 = .ok (.iconst 2, 1) := by decide +kernel
theorem d_Mo_hoursOfRow_36 : decode m_Mo_hoursOfRow.2.1 36 = .ok (.aload_n 0, 1) := by decide +kernel
theorem d_Mo_hoursOfRow_37 : decode m_Mo_hoursOfRow.2.1 37 = .ok (.getfield 114, 3) := by decide +kernel
theorem d_Mo_hoursOfRow_40 : decode m_Mo_hoursOfRow.2.1 40 = .ok (.iload 4, 2) := by decide +kernel
theorem d_Mo_hoursOfRow_42 : decode m_Mo_hoursOfRow.2.1 42 = .ok (.iaload, 1) := by decide +kernel
theorem d_Mo_hoursOfRow_43 : decode m_Mo_hoursOfRow.2.1 43 = .ok (.imul, 1) := by decide +kernel
theorem d_Mo_hoursOfRow_44 : decode m_Mo_hoursOfRow.2.1 44 = .ok (.iconst 1, 1) := by decide +kernel
theorem d_Mo_hoursOfRow_45 : decode m_Mo_hoursOfRow.2.1 45 = .ok (.iadd, 1) := by decide +kernel
theorem d_Mo_hoursOfRow_46 : decode m_Mo_hoursOfRow.2.1 46 = .ok (.invokevirtual 370, 3) := by decide +kernel
theorem d_Mo_hoursOfRow_49 : decode m_Mo_hoursOfRow.2.1 49 = .ok (.iadd, 1) := by decide +kernel
theorem d_Mo_hoursOfRow_50 : decode m_Mo_hoursOfRow.2.1 50 = .ok (.istore_n 3, 1) := by decide +kernel
theorem d_Mo_hoursOfRow_51 : decode m_Mo_hoursOfRow.2.1 51 = .ok (.iinc 4 1, 3) := by decide +kernel
theorem d_Mo_hoursOfRow_54 : decode m_Mo_hoursOfRow.2.1 54 = .ok (.goto (-47), 3) := by decide +kernel
theorem d_Mo_hoursOfRow_57 : decode m_Mo_hoursOfRow.2.1 57 = .ok (.iload_n 3, 1) := by decide +kernel
theorem d_Mo_hoursOfRow_58 : decode m_Mo_hoursOfRow.2.1 58 = .ok (.ireturn, 1) := by decide +kernel
def f_Mo_hoursOfRow_7 : Nat → St → Int32 → Int32 → Int32 → Int32 → Option (Int32)
  | 0, _, _, _, _, _ => none
  | n + 1, S, l1, l2, l3, l4 =>
    if l1 ≤ l4 then (
    some l3)
    else (
    if ig l4 8 then (
    (f_Mo_octet S (2 * (S 35 l4.toNatClampNeg))).bind fun v_24 =>
    (some (l2 + v_24)).bind fun l2_28 =>
    (f_Mo_max S l2_28 l3).bind fun v_31 =>
    if ig l4 8 then (
    (f_Mo_octet S ((2 * (S 35 l4.toNatClampNeg)) + 1)).bind fun v_46 =>
    (some (v_31 + v_46)).bind fun l3_50 =>
    (some (l4 + 1)).bind fun l4_51 =>
    f_Mo_hoursOfRow_7 n S l1 l2_28 l3_50 l4_51) else none) else none)
set_option maxHeartbeats 4000000 in
set_option maxRecDepth 20000 in
theorem t_Mo_hoursOfRow_7  : ∀ (n : Nat) (S : St) (l1 : Int32) (l2 : Int32) (l3 : Int32) (l4 : Int32) (w : Int32), f_Mo_hoursOfRow_7 n S l1 l2 l3 l4 = some w → G SM m_Mo_hoursOfRow 2 (some w) S 7 [(0, .ref 0), (1, .int l1), (2, .int l2), (3, .int l3), (4, .int l4)] [] S := by
  intro n
  induction n with
  | zero =>
    intro S l1 l2 l3 l4 w h
    rw [f_Mo_hoursOfRow_7] at h
    cases h
  | succ n ih =>
    intro S l1 l2 l3 l4 w h
    rw [f_Mo_hoursOfRow_7] at h
    refine G_iload 4 rfl d_Mo_hoursOfRow_7 ?_
    refine G_iload_n 1 rfl d_Mo_hoursOfRow_9 ?_
    refine G_icmp_ge 57 (by decide) d_Mo_hoursOfRow_10 (fun c_10 => ?_) (fun c_10 => ?_)
    · replace h := ob_t h c_10
      refine G_iload_n 3 rfl d_Mo_hoursOfRow_57 ?_
      cases h
      exact G_iret rfl d_Mo_hoursOfRow_58
    · replace h := ob_f h c_10
      refine G_iload_n 2 rfl d_Mo_hoursOfRow_13 ?_
      refine G_aload_n 0 rfl d_Mo_hoursOfRow_14 ?_
      refine G_iconst 2 (by decide) d_Mo_hoursOfRow_15 ?_
      refine G_aload_n 0 rfl d_Mo_hoursOfRow_16 ?_
      refine G_getR fl_Mo_114 km_0 sm_0 rfl (by decide) d_Mo_hoursOfRow_17 ?_
      refine G_iload 4 rfl d_Mo_hoursOfRow_20 ?_
      obtain ⟨g_22, h⟩ := ob_g h
      refine G_iaload km_35 sm_35 g_22 d_Mo_hoursOfRow_22 ?_
      refine G_imul d_Mo_hoursOfRow_23 ?_
      obtain ⟨v_24, q_24, h⟩ := ob_b h
      refine G_callV [.int (2 * (S 35 l4.toNatClampNeg))] [.int l2] (t_Mo_octet q_24) (by decide) (by decide) mv_Mo_octet rfl ml_Mo_370 km_0 sm_0 cl_12 rfl (Nat.le_of_ble_eq_true rfl) d_Mo_hoursOfRow_24 ?_
      refine G_iadd d_Mo_hoursOfRow_27 ?_
      obtain ⟨l2_28, e_28, h⟩ := ob_s h
      refine G_istore_n [(2, .int l2_28), (0, .ref 0), (1, .int l1), (3, .int l3), (4, .int l4)] e_28 rfl (by decide) d_Mo_hoursOfRow_28 ?_
      refine G_iload_n 0 rfl d_Mo_hoursOfRow_29 ?_
      refine G_iload_n 3 rfl d_Mo_hoursOfRow_30 ?_
      obtain ⟨v_31, q_31, h⟩ := ob_b h
      refine G_callS [.int l2_28, .int l3] [] (t_Mo_max q_31) (by decide) (by decide) mt_Mo_max rfl ml_Mo_265 rfl (Nat.le_of_ble_eq_true rfl) d_Mo_hoursOfRow_31 ?_
      refine G_aload_n 1 rfl d_Mo_hoursOfRow_34 ?_
      refine G_iconst 2 (by decide) d_Mo_hoursOfRow_35 ?_
      refine G_aload_n 1 rfl d_Mo_hoursOfRow_36 ?_
      refine G_getR fl_Mo_114 km_0 sm_0 rfl (by decide) d_Mo_hoursOfRow_37 ?_
      refine G_iload 4 rfl d_Mo_hoursOfRow_40 ?_
      obtain ⟨g_42, h⟩ := ob_g h
      refine G_iaload km_35 sm_35 g_42 d_Mo_hoursOfRow_42 ?_
      refine G_imul d_Mo_hoursOfRow_43 ?_
      refine G_iconst 1 (by decide) d_Mo_hoursOfRow_44 ?_
      refine G_iadd d_Mo_hoursOfRow_45 ?_
      obtain ⟨v_46, q_46, h⟩ := ob_b h
      refine G_callV [.int ((2 * (S 35 l4.toNatClampNeg)) + 1)] [.int v_31] (t_Mo_octet q_46) (by decide) (by decide) mv_Mo_octet rfl ml_Mo_370 km_0 sm_0 cl_12 rfl (Nat.le_of_ble_eq_true rfl) d_Mo_hoursOfRow_46 ?_
      refine G_iadd d_Mo_hoursOfRow_49 ?_
      obtain ⟨l3_50, e_50, h⟩ := ob_s h
      refine G_istore_n [(3, .int l3_50), (2, .int l2_28), (0, .ref 0), (1, .int l1), (4, .int l4)] e_50 rfl (by decide) d_Mo_hoursOfRow_50 ?_
      obtain ⟨l4_51, e_51, h⟩ := ob_s h
      refine G_iinc 1 4 [(4, .int l4_51), (3, .int l3_50), (2, .int l2_28), (0, .ref 0), (1, .int l1)] (by decide) rfl e_51 rfl (by decide) d_Mo_hoursOfRow_51 ?_
      refine G_goto 7 (by decide) d_Mo_hoursOfRow_54 ?_
      exact G_sub _ [3, 4, 2, 1, 0] rfl (ih S l1 l2_28 l3_50 l4_51 _ h)
def f_Mo_hoursOfRow (S : St) (l1 : Int32) : Option (Int32) :=
    (some (0 : Int32)).bind fun l2_1 =>
    (some (0 : Int32)).bind fun l3_3 =>
    (some (0 : Int32)).bind fun l4_5 =>
    f_Mo_hoursOfRow_7 FU S l1 l2_1 l3_3 l4_5
set_option maxHeartbeats 4000000 in
set_option maxRecDepth 20000 in
theorem t_Mo_hoursOfRow  {S : St} {l1 : Int32} {w : Int32} (h : f_Mo_hoursOfRow S l1 = some w) : Ct SM m_Mo_hoursOfRow 2 [.ref 0, .int l1] S (some w) S := by
  unfold f_Mo_hoursOfRow at h
  refine Ct.of pn_Mo (Nat.le_of_ble_eq_true rfl) ?_
  show G SM m_Mo_hoursOfRow 2 (some w) S 0 [(0, .ref 0), (1, .int l1)] [] S
  refine G_iconst 0 (by decide) d_Mo_hoursOfRow_0 ?_
  obtain ⟨l2_1, e_1, h⟩ := ob_s h
  refine G_istore_n [(2, .int l2_1), (0, .ref 0), (1, .int l1)] e_1 rfl (by decide) d_Mo_hoursOfRow_1 ?_
  refine G_iconst 0 (by decide) d_Mo_hoursOfRow_2 ?_
  obtain ⟨l3_3, e_3, h⟩ := ob_s h
  refine G_istore_n [(3, .int l3_3), (2, .int l2_1), (0, .ref 0), (1, .int l1)] e_3 rfl (by decide) d_Mo_hoursOfRow_3 ?_
  refine G_iconst 0 (by decide) d_Mo_hoursOfRow_4 ?_
  obtain ⟨l4_5, e_5, h⟩ := ob_s h
  refine G_istore [(4, .int l4_5), (3, .int l3_3), (2, .int l2_1), (0, .ref 0), (1, .int l1)] e_5 rfl (by decide) d_Mo_hoursOfRow_5 ?_
  exact G_sub _ [3, 4, 2, 1, 0] rfl (t_Mo_hoursOfRow_7 FU S l1 l2_1 l3_3 l4_5 _ h)
theorem d_Mo_spun_0 : decode m_Mo_spun.2.1 0 = .ok (.iload_n 1, 1) := by decide +kernel
theorem d_Mo_spun_1 : decode m_Mo_spun.2.1 1 = .ok (.iconst 1, 1) := by decide +kernel
theorem d_Mo_spun_2 : decode m_Mo_spun.2.1 2 = .ok (.bipush 8, 2) := by decide +kernel
theorem d_Mo_spun_4 : decode m_Mo_spun.2.1 4 = .ok (.invokestatic 124, 3) := by decide +kernel
theorem d_Mo_spun_7 : decode m_Mo_spun.2.1 7 = .ok (.ifCond .eq 22, 3) := by decide +kernel
theorem d_Mo_spun_10 : decode m_Mo_spun.2.1 10 = .ok (.iload_n 2, 1) := by decide +kernel
theorem d_Mo_spun_11 : decode m_Mo_spun.2.1 11 = .ok (.iconst 0, 1) := by decide +kernel
theorem d_Mo_spun_12 : decode m_Mo_spun.2.1 12 = .ok (.iconst 1, 1) := by decide +kernel
theorem d_Mo_spun_13 : decode m_Mo_spun.2.1 13 = .ok (.invokestatic 124, 3) := by decide +kernel
theorem d_Mo_spun_16 : decode m_Mo_spun.2.1 16 = .ok (.ifCond .eq 13, 3) := by decide +kernel
theorem d_Mo_spun_19 : decode m_Mo_spun.2.1 19 = .ok (.iconst 2, 1) := by decide +kernel
theorem d_Mo_spun_20 : decode m_Mo_spun.2.1 20 = .ok (.iload_n 1, 1) := by decide +kernel
theorem d_Mo_spun_21 : decode m_Mo_spun.2.1 21 = .ok (.imul, 1) := by decide +kernel
theorem d_Mo_spun_22 : decode m_Mo_spun.2.1 22 = .ok (.aload_n 0, 1) := by decide +kernel
theorem d_Mo_spun_23 : decode m_Mo_spun.2.1 23 = .ok (.getfield 135, 3) := by decide +kernel
theorem d_Mo_spun_26 : decode m_Mo_spun.2.1 26 = .ok (.if_icmp .le 5, 3) := by decide +kernel
theorem d_Mo_spun_29 : decode m_Mo_spun.2.1 29 = .ok (.iconst (-1), 1) := by decide +kernel
theorem d_Mo_spun_30 : decode m_Mo_spun.2.1 30 = .ok (.ireturn, 1) := by decide +kernel
theorem d_Mo_spun_31 : decode m_Mo_spun.2.1 31 = .ok (.aload_n 0, 1) := by decide +kernel
theorem d_Mo_spun_32 : decode m_Mo_spun.2.1 32 = .ok (.iconst 0, 1) := by decide +kernel
theorem d_Mo_spun_33 : decode m_Mo_spun.2.1 33 = .ok (.putfield 135, 3) := by decide +kernel
theorem d_Mo_spun_36 : decode m_Mo_spun.2.1 36 = .ok (.iconst 0, 1) := by decide +kernel
theorem d_Mo_spun_37 : decode m_Mo_spun.2.1 37 = .ok (.istore_n 3, 1) := by decide +kernel
theorem d_Mo_spun_38 : decode m_Mo_spun.2.1 38 = .ok (.iload_n 3, 1) := by decide +kernel
theorem d_Mo_spun_39 : decode m_Mo_spun.2.1 39 = .ok (.iload_n 1, 1) := by decide +kernel
theorem d_Mo_spun_40 : decode m_Mo_spun.2.1 40 = .ok (.if_icmp .ge 16, 3) := by decide +kernel
theorem d_Mo_spun_43 : decode m_Mo_spun.2.1 43 = .ok (.aload_n 0, 1) := by decide +kernel
theorem d_Mo_spun_44 : decode m_Mo_spun.2.1 44 = .ok (.getfield 114, 3) := by decide +kernel
theorem d_Mo_spun_47 : decode m_Mo_spun.2.1 47 = .ok (.iload_n 3, 1) := by decide +kernel
theorem d_Mo_spun_48 : decode m_Mo_spun.2.1 48 = .ok (.iload_n 3, 1) := by decide +kernel
theorem d_Mo_spun_49 : decode m_Mo_spun.2.1 49 = .ok (.iastore, 1) := by decide +kernel
theorem d_Mo_spun_50 : decode m_Mo_spun.2.1 50 = .ok (.iinc 3 1, 3) := by decide +kernel
theorem d_Mo_spun_53 : decode m_Mo_spun.2.1 53 = .ok (.goto (-15), 3) := by decide +kernel
theorem d_Mo_spun_56 : decode m_Mo_spun.2.1 56 = .ok (.ldc_w 366, 3) := by decide +kernel
theorem d_Mo_spun_59 : decode m_Mo_spun.2.1 59 = .ok (.istore_n 3, 1) := by decide +kernel
theorem d_Mo_spun_60 : decode m_Mo_spun.2.1 60 = .ok (.iconst 0, 1) := by decide +kernel
theorem d_Mo_spun_61 : decode m_Mo_spun.2.1 61 = .ok (.istore 4, 2) := by decide +kernel
theorem d_Mo_spun_63 : decode m_Mo_spun.2.1 63 = .ok (.iconst 1, 1) := by decide +kernel
theorem d_Mo_spun_64 : decode m_Mo_spun.2.1 64 = .ok (.istore 5, 2) := by decide +kernel
theorem d_Mo_spun_66 : decode m_Mo_spun.2.1 66 = .ok (.iload 5, 2) := by decide +kernel
theorem d_Mo_spun_68 : decode m_Mo_spun.2.1 68 = .ok (.ifCond .eq 37, 3) := by decide +kernel
theorem d_Mo_spun_71 : decode m_Mo_spun.2.1 71 = .ok (.aload_n 0, 1) := by decide +kernel
theorem d_Mo_spun_72 : decode m_Mo_spun.2.1 72 = .ok (.iload_n 1, 1) := by decide +kernel
theorem d_Mo_spun_73 : decode m_Mo_spun.2.1 73 = .ok (.invokevirtual 382, 3) := by decide +kernel
theorem d_Mo_spun_76 : decode m_Mo_spun.2.1 76 = .ok (.istore 6, 2) := by decide +kernel
theorem d_Mo_spun_78 : decode m_Mo_spun.2.1 78 = .ok (.iload 6, 2) := by decide +kernel
theorem d_Mo_spun_80 : decode m_Mo_spun.2.1 80 = .ok (.iload_n 3, 1) := by decide +kernel
theorem d_Mo_spun_81 : decode m_Mo_spun.2.1 81 = .ok (.if_icmp .ge 14, 3) := by decide +kernel
theorem d_Mo_spun_84 : decode m_Mo_spun.2.1 84 = .ok (.iload 6, 2) := by decide +kernel
theorem d_Mo_spun_86 : decode m_Mo_spun.2.1 86 = .ok (.istore_n 3, 1) := by decide +kernel
theorem d_Mo_spun_87 : decode m_Mo_spun.2.1 87 = .ok (.aload_n 0, 1) := by decide +kernel
theorem d_Mo_spun_88 : decode m_Mo_spun.2.1 88 = .ok (.getfield 114, 3) := by decide +kernel
theorem d_Mo_spun_91 : decode m_Mo_spun.2.1 91 = .ok (.iconst 0, 1) := by decide +kernel
theorem d_Mo_spun_92 : decode m_Mo_spun.2.1 92 = .ok (.iaload, 1) := by decide +kernel
theorem d_Mo_spun_93 : decode m_Mo_spun.2.1 93 = .ok (.istore 4, 2) := by decide +kernel
theorem d_Mo_spun_95 : decode m_Mo_spun.2.1 95 = .ok (.aload_n 0, 1) := by decide +kernel
theorem d_Mo_spun_96 : decode m_Mo_spun.2.1 96 = .ok (.iload_n 1, 1) := by decide +kernel
theorem d_Mo_spun_97 : decode m_Mo_spun.2.1 97 = .ok (.invokevirtual 385, 3) := by decide +kernel
theorem d_Mo_spun_100 : decode m_Mo_spun.2.1 100 = .ok (.istore 5, 2) := by decide +kernel
theorem d_Mo_spun_102 : decode m_Mo_spun.2.1 102 = .ok (.goto (-36), 3) := by decide +kernel
theorem d_Mo_spun_105 : decode m_Mo_spun.2.1 105 = .ok (.iload_n 2, 1) := by decide +kernel
theorem d_Mo_spun_106 : decode m_Mo_spun.2.1 106 = .ok (.ifCond .ne 7, 3) := by decide +kernel
theorem d_Mo_spun_109 : decode m_Mo_spun.2.1 109 = .ok (.iload_n 3, 1) := by decide +kernel
theorem d_Mo_spun_110 : decode m_Mo_spun.2.1 110 = .ok (.goto 5, 3) := by decide +kernel
theorem d_Mo_spun_113 : decode m_Mo_spun.2.1 113 = .ok (.iload 4, 2) := by decide +kernel
theorem d_Mo_spun_115 : decode m_Mo_spun.2.1 115 = .ok (.ireturn, 1) := by decide +kernel
def f_Mo_spun_95 (k_66 : St → Int32 → Int32 → Int32 → Int32 → Int32 → Option (Int32 × St)) (S : St) (l1 : Int32) (l2 : Int32) (l3 : Int32) (l4 : Int32) : Option (Int32 × St) :=
    (f_Mo_nextRow S l1).bind fun w_97 =>
    (some w_97.1).bind fun l5_100 =>
    k_66 w_97.2 l1 l2 l3 l4 l5_100
set_option maxHeartbeats 4000000 in
set_option maxRecDepth 20000 in
theorem t_Mo_spun_95  {k_66 : St → Int32 → Int32 → Int32 → Int32 → Int32 → Option (Int32 × St)} (hk_66 : ∀ (S : St) (l1 : Int32) (l2 : Int32) (l3 : Int32) (l4 : Int32) (l5 : Int32) (w : Int32 × St), k_66 S l1 l2 l3 l4 l5 = some w → G SM m_Mo_spun 3 (some w.1) w.2 66 [(0, .ref 0), (1, .int l1), (2, .int l2), (3, .int l3), (4, .int l4), (5, .int l5)] [] S) (S : St) (l1 : Int32) (l2 : Int32) (l3 : Int32) (l4 : Int32) (w : Int32 × St) (h : f_Mo_spun_95 k_66 S l1 l2 l3 l4 = some w) : G SM m_Mo_spun 3 (some w.1) w.2 95 [(0, .ref 0), (1, .int l1), (2, .int l2), (3, .int l3), (4, .int l4)] [] S := by
  unfold f_Mo_spun_95 at h
  refine G_aload_n 0 rfl d_Mo_spun_95 ?_
  refine G_iload_n 1 rfl d_Mo_spun_96 ?_
  obtain ⟨w_97, q_97, h⟩ := ob_b h
  refine G_callV [.int l1] [] (t_Mo_nextRow q_97) (by decide) (by decide) mv_Mo_nextRow rfl ml_Mo_385 km_0 sm_0 cl_12 rfl (Nat.le_of_ble_eq_true rfl) d_Mo_spun_97 ?_
  obtain ⟨l5_100, e_100, h⟩ := ob_s h
  refine G_istore [(5, .int l5_100), (0, .ref 0), (1, .int l1), (2, .int l2), (3, .int l3), (4, .int l4)] e_100 rfl (by decide) d_Mo_spun_100 ?_
  refine G_goto 66 (by decide) d_Mo_spun_102 ?_
  exact G_sub _ [1, 2, 3, 4, 5, 0] rfl (hk_66 w_97.2 l1 l2 l3 l4 l5_100 _ h)
def f_Mo_spun_66 : Nat → St → Int32 → Int32 → Int32 → Int32 → Int32 → Option (Int32 × St)
  | 0, _, _, _, _, _, _ => none
  | n + 1, S, l1, l2, l3, l4, l5 =>
    if l5 = 0 then (
    if l2 = 0 then (
    some (l3, S))
    else (
    some (l4, S)))
    else (
    (f_Mo_hoursOfRow S l1).bind fun v_73 =>
    if l3 ≤ v_73 then (
    f_Mo_spun_95 (f_Mo_spun_66 n) S l1 l2 l3 l4)
    else (
    if ig (0 : Int32) 8 then (
    (some (S 35 (0 : Int32).toNatClampNeg)).bind fun l4_93 =>
    f_Mo_spun_95 (f_Mo_spun_66 n) S l1 l2 v_73 l4_93) else none))
set_option maxHeartbeats 4000000 in
set_option maxRecDepth 20000 in
theorem t_Mo_spun_66  : ∀ (n : Nat) (S : St) (l1 : Int32) (l2 : Int32) (l3 : Int32) (l4 : Int32) (l5 : Int32) (w : Int32 × St), f_Mo_spun_66 n S l1 l2 l3 l4 l5 = some w → G SM m_Mo_spun 3 (some w.1) w.2 66 [(0, .ref 0), (1, .int l1), (2, .int l2), (3, .int l3), (4, .int l4), (5, .int l5)] [] S := by
  intro n
  induction n with
  | zero =>
    intro S l1 l2 l3 l4 l5 w h
    rw [f_Mo_spun_66] at h
    cases h
  | succ n ih =>
    intro S l1 l2 l3 l4 l5 w h
    rw [f_Mo_spun_66] at h
    refine G_iload 5 rfl d_Mo_spun_66 ?_
    refine G_if_eq 105 (by decide) d_Mo_spun_68 (fun c_68 => ?_) (fun c_68 => ?_)
    · replace h := ob_t h c_68
      refine G_iload_n 2 rfl d_Mo_spun_105 ?_
      refine G_if_ne 113 (by decide) d_Mo_spun_106 (fun c_106 => ?_) (fun c_106 => ?_)
      · replace h := ob_f h c_106
        refine G_iload 4 rfl d_Mo_spun_113 ?_
        cases h
        exact G_iret rfl d_Mo_spun_115
      · replace h := ob_t h c_106
        refine G_iload_n 3 rfl d_Mo_spun_109 ?_
        refine G_goto 115 (by decide) d_Mo_spun_110 ?_
        cases h
        exact G_iret rfl d_Mo_spun_115
    · replace h := ob_f h c_68
      refine G_aload_n 0 rfl d_Mo_spun_71 ?_
      refine G_iload_n 1 rfl d_Mo_spun_72 ?_
      obtain ⟨v_73, q_73, h⟩ := ob_b h
      refine G_callV [.int l1] [] (t_Mo_hoursOfRow q_73) (by decide) (by decide) mv_Mo_hoursOfRow rfl ml_Mo_382 km_0 sm_0 cl_12 rfl (Nat.le_of_ble_eq_true rfl) d_Mo_spun_73 ?_
      refine G_istore [(6, .int v_73), (0, .ref 0), (1, .int l1), (2, .int l2), (3, .int l3), (4, .int l4), (5, .int l5)] rfl rfl (by decide) d_Mo_spun_76 ?_
      refine G_iload 0 rfl d_Mo_spun_78 ?_
      refine G_iload_n 4 rfl d_Mo_spun_80 ?_
      refine G_icmp_ge 95 (by decide) d_Mo_spun_81 (fun c_81 => ?_) (fun c_81 => ?_)
      · replace h := ob_t h c_81
        exact G_sub _ [1, 2, 3, 4, 5] rfl (t_Mo_spun_95 ih S l1 l2 l3 l4 _ h)
      · replace h := ob_f h c_81
        refine G_iload 0 rfl d_Mo_spun_84 ?_
        refine G_istore_n [(3, .int v_73), (6, .int v_73), (0, .ref 0), (1, .int l1), (2, .int l2), (4, .int l4), (5, .int l5)] rfl rfl (by decide) d_Mo_spun_86 ?_
        refine G_aload_n 2 rfl d_Mo_spun_87 ?_
        refine G_getR fl_Mo_114 km_0 sm_0 rfl (by decide) d_Mo_spun_88 ?_
        refine G_iconst 0 (by decide) d_Mo_spun_91 ?_
        obtain ⟨g_92, h⟩ := ob_g h
        refine G_iaload km_35 sm_35 g_92 d_Mo_spun_92 ?_
        obtain ⟨l4_93, e_93, h⟩ := ob_s h
        refine G_istore [(4, .int l4_93), (3, .int v_73), (6, .int v_73), (0, .ref 0), (1, .int l1), (2, .int l2), (5, .int l5)] e_93 rfl (by decide) d_Mo_spun_93 ?_
        exact G_sub _ [3, 4, 5, 1, 0] rfl (t_Mo_spun_95 ih S l1 l2 v_73 l4_93 _ h)
def f_Mo_spun_38 : Nat → St → Int32 → Int32 → Int32 → Option (Int32 × St)
  | 0, _, _, _, _ => none
  | n + 1, S, l1, l2, l3 =>
    if l1 ≤ l3 then (
    (some (1000000 : Int32)).bind fun l3_59 =>
    (some (0 : Int32)).bind fun l4_61 =>
    (some (1 : Int32)).bind fun l5_64 =>
    f_Mo_spun_66 FU S l1 l2 l3_59 l4_61 l5_64)
    else (
    if ig l3 8 then (
    (some (sF S 35 l3.toNatClampNeg l3)).bind fun S_49 =>
    (some (l3 + 1)).bind fun l3_50 =>
    f_Mo_spun_38 n S_49 l1 l2 l3_50) else none)
set_option maxHeartbeats 4000000 in
set_option maxRecDepth 20000 in
theorem t_Mo_spun_38  : ∀ (n : Nat) (S : St) (l1 : Int32) (l2 : Int32) (l3 : Int32) (w : Int32 × St), f_Mo_spun_38 n S l1 l2 l3 = some w → G SM m_Mo_spun 3 (some w.1) w.2 38 [(0, .ref 0), (1, .int l1), (2, .int l2), (3, .int l3)] [] S := by
  intro n
  induction n with
  | zero =>
    intro S l1 l2 l3 w h
    rw [f_Mo_spun_38] at h
    cases h
  | succ n ih =>
    intro S l1 l2 l3 w h
    rw [f_Mo_spun_38] at h
    refine G_iload_n 3 rfl d_Mo_spun_38 ?_
    refine G_iload_n 1 rfl d_Mo_spun_39 ?_
    refine G_icmp_ge 56 (by decide) d_Mo_spun_40 (fun c_40 => ?_) (fun c_40 => ?_)
    · replace h := ob_t h c_40
      refine G_ldcw c_Mo_366 d_Mo_spun_56 ?_
      obtain ⟨l3_59, e_59, h⟩ := ob_s h
      refine G_istore_n [(3, .int l3_59), (0, .ref 0), (1, .int l1), (2, .int l2)] e_59 rfl (by decide) d_Mo_spun_59 ?_
      refine G_iconst 0 (by decide) d_Mo_spun_60 ?_
      obtain ⟨l4_61, e_61, h⟩ := ob_s h
      refine G_istore [(4, .int l4_61), (3, .int l3_59), (0, .ref 0), (1, .int l1), (2, .int l2)] e_61 rfl (by decide) d_Mo_spun_61 ?_
      refine G_iconst 1 (by decide) d_Mo_spun_63 ?_
      obtain ⟨l5_64, e_64, h⟩ := ob_s h
      refine G_istore [(5, .int l5_64), (4, .int l4_61), (3, .int l3_59), (0, .ref 0), (1, .int l1), (2, .int l2)] e_64 rfl (by decide) d_Mo_spun_64 ?_
      exact G_sub _ [3, 4, 5, 2, 1, 0] rfl (t_Mo_spun_66 FU S l1 l2 l3_59 l4_61 l5_64 _ h)
    · replace h := ob_f h c_40
      refine G_aload_n 0 rfl d_Mo_spun_43 ?_
      refine G_getR fl_Mo_114 km_0 sm_0 rfl (by decide) d_Mo_spun_44 ?_
      refine G_iload_n 3 rfl d_Mo_spun_47 ?_
      refine G_iload_n 3 rfl d_Mo_spun_48 ?_
      obtain ⟨g_49, h⟩ := ob_g h
      obtain ⟨S_49, e_49, h⟩ := ob_s h
      refine G_iastore e_49 km_35 sm_35 g_49 d_Mo_spun_49 ?_
      obtain ⟨l3_50, e_50, h⟩ := ob_s h
      refine G_iinc 1 3 [(3, .int l3_50), (0, .ref 0), (1, .int l1), (2, .int l2)] (by decide) rfl e_50 rfl (by decide) d_Mo_spun_50 ?_
      refine G_goto 38 (by decide) d_Mo_spun_53 ?_
      exact G_sub _ [1, 2, 3, 0] rfl (ih S_49 l1 l2 l3_50 _ h)
def f_Mo_spun (S : St) (l1 : Int32) (l2 : Int32) : Option (Int32 × St) :=
    (f_Mo_in S l1 (1 : Int32) (8 : Int32)).bind fun v_4 =>
    if v_4 = 0 then (
    some ((-1), S))
    else (
    (f_Mo_in S l2 (0 : Int32) (1 : Int32)).bind fun v_13 =>
    if v_13 = 0 then (
    some ((-1), S))
    else (
    if (2 * l1) ≤ (S 0 7) then (
    (some (sF S 0 7 0)).bind fun S_33 =>
    (some (0 : Int32)).bind fun l3_37 =>
    f_Mo_spun_38 FU S_33 l1 l2 l3_37)
    else (
    some ((-1), S))))
set_option maxHeartbeats 4000000 in
set_option maxRecDepth 20000 in
theorem t_Mo_spun  {S : St} {l1 : Int32} {l2 : Int32} {w : Int32 × St} (h : f_Mo_spun S l1 l2 = some w) : Ct SM m_Mo_spun 3 [.ref 0, .int l1, .int l2] S (some w.1) w.2 := by
  unfold f_Mo_spun at h
  refine Ct.of pn_Mo (Nat.le_of_ble_eq_true rfl) ?_
  show G SM m_Mo_spun 3 (some w.1) w.2 0 [(0, .ref 0), (1, .int l1), (2, .int l2)] [] S
  refine G_iload_n 1 rfl d_Mo_spun_0 ?_
  refine G_iconst 1 (by decide) d_Mo_spun_1 ?_
  refine G_bipush 8 (by decide) d_Mo_spun_2 ?_
  obtain ⟨v_4, q_4, h⟩ := ob_b h
  refine G_callS [.int l1, .int 1, .int 8] [] (t_Mo_in q_4) (by decide) (by decide) mt_Mo_in rfl ml_Mo_124 rfl (Nat.le_of_ble_eq_true rfl) d_Mo_spun_4 ?_
  refine G_if_eq 29 (by decide) d_Mo_spun_7 (fun c_7 => ?_) (fun c_7 => ?_)
  · replace h := ob_t h c_7
    refine G_iconst (-1) (by decide) d_Mo_spun_29 ?_
    cases h
    exact G_iret rfl d_Mo_spun_30
  · replace h := ob_f h c_7
    refine G_iload_n 2 rfl d_Mo_spun_10 ?_
    refine G_iconst 0 (by decide) d_Mo_spun_11 ?_
    refine G_iconst 1 (by decide) d_Mo_spun_12 ?_
    obtain ⟨v_13, q_13, h⟩ := ob_b h
    refine G_callS [.int l2, .int 0, .int 1] [] (t_Mo_in q_13) (by decide) (by decide) mt_Mo_in rfl ml_Mo_124 rfl (Nat.le_of_ble_eq_true rfl) d_Mo_spun_13 ?_
    refine G_if_eq 29 (by decide) d_Mo_spun_16 (fun c_16 => ?_) (fun c_16 => ?_)
    · replace h := ob_t h c_16
      refine G_iconst (-1) (by decide) d_Mo_spun_29 ?_
      cases h
      exact G_iret rfl d_Mo_spun_30
    · replace h := ob_f h c_16
      refine G_iconst 2 (by decide) d_Mo_spun_19 ?_
      refine G_iload_n 1 rfl d_Mo_spun_20 ?_
      refine G_imul d_Mo_spun_21 ?_
      refine G_aload_n 0 rfl d_Mo_spun_22 ?_
      refine G_getI fl_Mo_135 km_0 sm_0 rfl d_Mo_spun_23 ?_
      refine G_icmp_le 31 (by decide) d_Mo_spun_26 (fun c_26 => ?_) (fun c_26 => ?_)
      · replace h := ob_t h c_26
        refine G_aload_n 0 rfl d_Mo_spun_31 ?_
        refine G_iconst 0 (by decide) d_Mo_spun_32 ?_
        obtain ⟨S_33, e_33, h⟩ := ob_s h
        refine G_putI e_33 fp_Mo_135 km_0 sm_0 rfl d_Mo_spun_33 ?_
        refine G_iconst 0 (by decide) d_Mo_spun_36 ?_
        obtain ⟨l3_37, e_37, h⟩ := ob_s h
        refine G_istore_n [(3, .int l3_37), (0, .ref 0), (1, .int l1), (2, .int l2)] e_37 rfl (by decide) d_Mo_spun_37 ?_
        exact G_sub _ [1, 2, 3, 0] rfl (t_Mo_spun_38 FU S_33 l1 l2 l3_37 _ h)
      · replace h := ob_f h c_26
        refine G_iconst (-1) (by decide) d_Mo_spun_29 ?_
        cases h
        exact G_iret rfl d_Mo_spun_30
theorem d_Mo_night_0 : decode m_Mo_night.2.1 0 = .ok (.iload_n 1, 1) := by decide +kernel
theorem d_Mo_night_1 : decode m_Mo_night.2.1 1 = .ok (.iconst 1, 1) := by decide +kernel
theorem d_Mo_night_2 : decode m_Mo_night.2.1 2 = .ok (.bipush 16, 2) := by decide +kernel
theorem d_Mo_night_4 : decode m_Mo_night.2.1 4 = .ok (.invokestatic 124, 3) := by decide +kernel
theorem d_Mo_night_7 : decode m_Mo_night.2.1 7 = .ok (.ifCond .eq 24, 3) := by decide +kernel
theorem d_Mo_night_10 : decode m_Mo_night.2.1 10 = .ok (.iload_n 2, 1) := by decide +kernel
theorem d_Mo_night_11 : decode m_Mo_night.2.1 11 = .ok (.iconst 1, 1) := by decide +kernel
theorem d_Mo_night_12 : decode m_Mo_night.2.1 12 = .ok (.sipush 255, 3) := by decide +kernel
theorem d_Mo_night_15 : decode m_Mo_night.2.1 15 = .ok (.invokestatic 124, 3) := by decide +kernel
theorem d_Mo_night_18 : decode m_Mo_night.2.1 18 = .ok (.ifCond .eq 13, 3) := by decide +kernel
theorem d_Mo_night_21 : decode m_Mo_night.2.1 21 = .ok (.iconst 2, 1) := by decide +kernel
theorem d_Mo_night_22 : decode m_Mo_night.2.1 22 = .ok (.iload_n 1, 1) := by decide +kernel
theorem d_Mo_night_23 : decode m_Mo_night.2.1 23 = .ok (.imul, 1) := by decide +kernel
theorem d_Mo_night_24 : decode m_Mo_night.2.1 24 = .ok (.aload_n 0, 1) := by decide +kernel
theorem d_Mo_night_25 : decode m_Mo_night.2.1 25 = .ok (.getfield 135, 3) := by decide +kernel
theorem d_Mo_night_28 : decode m_Mo_night.2.1 28 = .ok (.if_icmp .le 5, 3) := by decide +kernel
theorem d_Mo_night_31 : decode m_Mo_night.2.1 31 = .ok (.iconst (-1), 1) := by decide +kernel
theorem d_Mo_night_32 : decode m_Mo_night.2.1 32 = .ok (.ireturn, 1) := by decide +kernel
theorem d_Mo_night_33 : decode m_Mo_night.2.1 33 = .ok (.aload_n 0, 1) := by decide +kernel
theorem d_Mo_night_34 : decode m_Mo_night.2.1 34 = .ok (.iconst 0, 1) := by decide +kernel
theorem d_Mo_night_35 : decode m_Mo_night.2.1 35 = .ok (.putfield 135, 3) := by decide +kernel
theorem d_Mo_night_38 : decode m_Mo_night.2.1 38 = .ok (.iconst 0, 1) := by decide +kernel
theorem d_Mo_night_39 : decode m_Mo_night.2.1 39 = .ok (.istore_n 3, 1) := by decide +kernel
theorem d_Mo_night_40 : decode m_Mo_night.2.1 40 = .ok (.iload_n 3, 1) := by decide +kernel
theorem d_Mo_night_41 : decode m_Mo_night.2.1 41 = .ok (.iload_n 1, 1) := by decide +kernel
theorem d_Mo_night_42 : decode m_Mo_night.2.1 42 = .ok (.if_icmp .ge 31, 3) := by decide +kernel
theorem d_Mo_night_45 : decode m_Mo_night.2.1 45 = .ok (.aload_n 0, 1) := by decide +kernel
theorem d_Mo_night_46 : decode m_Mo_night.2.1 46 = .ok (.iconst 2, 1) := by decide +kernel
theorem d_Mo_night_47 : decode m_Mo_night.2.1 47 = .ok (.iload_n 3, 1) := by decide +kernel
theorem d_Mo_night_48 : decode m_Mo_night.2.1 48 = .ok (.imul, 1) := by decide +kernel
theorem d_Mo_night_49 : decode m_Mo_night.2.1 49 = .ok (.iconst 1, 1) := by decide +kernel
theorem d_Mo_night_50 : decode m_Mo_night.2.1 50 = .ok (.iadd, 1) := by decide +kernel
theorem d_Mo_night_51 : decode m_Mo_night.2.1 51 = .ok (.invokevirtual 370, 3) := by decide +kernel
theorem d_Mo_night_54 : decode m_Mo_night.2.1 54 = .ok (.aload_n 0, 1) := by decide +kernel
theorem d_Mo_night_55 : decode m_Mo_night.2.1 55 = .ok (.iconst 2, 1) := by decide +kernel
theorem d_Mo_night_56 : decode m_Mo_night.2.1 56 = .ok (.iload_n 3, 1) := by decide +kernel
theorem d_Mo_night_57 : decode m_Mo_night.2.1 57 = .ok (.imul, 1) := by decide +kernel
theorem d_Mo_night_58 : decode m_Mo_night.2.1 58 = .ok (.invokevirtual 370, 3) := by decide +kernel
theorem d_Mo_night_61 : decode m_Mo_night.2.1 61 = .ok (.if_icmp .gt 6, 3) := by decide +kernel
theorem d_Mo_night_64 : decode m_Mo_night.2.1 64 = .ok (.bipush (-3), 2) := by decide +kernel
theorem d_Mo_night_66 : decode m_Mo_night.2.1 66 = .ok (.ireturn, 1) := by decide +kernel
theorem d_Mo_night_67 : decode m_Mo_night.2.1 67 = .ok (.iinc 3 1, 3) := by decide +kernel
theorem d_Mo_night_70 : decode m_Mo_night.2.1 70 = .ok (.goto (-30), 3) := by decide +kernel
theorem d_Mo_night_73 : decode m_Mo_night.2.1 73 = .ok (.iconst 0, 1) := by decide +kernel
theorem d_Mo_night_74 : decode m_Mo_night.2.1 74 = .ok (.istore_n 3, 1) := by decide +kernel
theorem d_Mo_night_75 : decode m_Mo_night.2.1 75 = .ok (.iconst 0, 1) := by decide +kernel
theorem d_Mo_night_76 : decode m_Mo_night.2.1 76 = .ok (.istore 4, 2) := by decide +kernel
theorem d_Mo_night_78 : decode m_Mo_night.2.1 78 = .ok (.iload 4, 2) := by decide +kernel
theorem d_Mo_night_80 : decode m_Mo_night.2.1 80 = .ok (.iload_n 2, 1) := by decide +kernel
theorem d_Mo_night_81 : decode m_Mo_night.2.1 81 = .ok (.if_icmp .ge 73, 3) := by decide +kernel
theorem d_Mo_night_84 : decode m_Mo_night.2.1 84 = .ok (.iload 4, 2) := by decide +kernel
theorem d_Mo_night_86 : decode m_Mo_night.2.1 86 = .ok (.istore 5, 2) := by decide +kernel
theorem d_Mo_night_88 : decode m_Mo_night.2.1 88 = .ok (.iconst 0, 1) := by decide +kernel
theorem d_Mo_night_89 : decode m_Mo_night.2.1 89 = .ok (.istore 6, 2) := by decide +kernel
theorem d_Mo_night_91 : decode m_Mo_night.2.1 91 = .ok (.iload 6, 2) := by decide +kernel
theorem d_Mo_night_93 : decode m_Mo_night.2.1 93 = .ok (.iload_n 1, 1) := by decide +kernel
theorem d_Mo_night_94 : decode m_Mo_night.2.1 94 = .ok (.if_icmp .ge 39, 3) := by decide +kernel
theorem d_Mo_night_97 : decode m_Mo_night.2.1 97 = .ok (.aload_n 0, 1) := by decide +kernel
theorem d_Mo_night_98 : decode m_Mo_night.2.1 98 = .ok (.iconst 2, 1) := by decide +kernel
theorem d_Mo_night_99 : decode m_Mo_night.2.1 99 = .ok (.iload 6, 2) := by decide +kernel
theorem d_Mo_night_101 : decode m_Mo_night.2.1 101 = .ok (.imul, 1) := by decide +kernel
theorem d_Mo_night_102 : decode m_Mo_night.2.1 102 = .ok (.invokevirtual 370, 3) := by decide +kernel
theorem d_Mo_night_105 : decode m_Mo_night.2.1 105 = .ok (.iload 4, 2) := by decide +kernel
theorem d_Mo_night_107 : decode m_Mo_night.2.1 107 = .ok (.if_icmp .gt 20, 3) := by decide +kernel
theorem d_Mo_night_110 : decode m_Mo_night.2.1 110 = .ok (.iload 5, 2) := by decide +kernel
theorem d_Mo_night_112 : decode m_Mo_night.2.1 112 = .ok (.aload_n 0, 1) := by decide +kernel
theorem d_Mo_night_113 : decode m_Mo_night.2.1 113 = .ok (.iconst 2, 1) := by decide +kernel
theorem d_Mo_night_114 : decode m_Mo_night.2.1 114 = .ok (.iload 6, 2) := by decide +kernel
theorem d_Mo_night_116 : decode m_Mo_night.2.1 116 = .ok (.imul, 1) := by decide +kernel
theorem d_Mo_night_117 : decode m_Mo_night.2.1 117 = .ok (.iconst 1, 1) := by decide +kernel
theorem d_Mo_night_118 : decode m_Mo_night.2.1 118 = .ok (.iadd, 1) := by decide +kernel
theorem d_Mo_night_119 : decode m_Mo_night.2.1 119 = .ok (.invokevirtual 370, 3) := by decide +kernel
theorem d_Mo_night_122 : decode m_Mo_night.2.1 122 = .ok (.invokestatic 265, 3) := by decide +kernel
theorem d_Mo_night_125 : decode m_Mo_night.2.1 125 = .ok (.istore 5, 2) := by decide +kernel
theorem d_Mo_night_127 : decode m_Mo_night.2.1 127 = .ok (.iinc 6 1, 3) := by decide +kernel
theorem d_Mo_night_130 : decode m_Mo_night.2.1 130 = .ok (.goto (-39), 3) := by decide +kernel
theorem d_Mo_night_133 : decode m_Mo_night.2.1 133 = .ok (.iload 5, 2) := by decide +kernel
theorem d_Mo_night_135 : decode m_Mo_night.2.1 135 = .ok (.iload 4, 2) := by decide +kernel
theorem d_Mo_night_137 : decode m_Mo_night.2.1 137 = .ok (.if_icmp .ne 6, 3) := by decide +kernel
theorem d_Mo_night_140 : decode m_Mo_night.2.1 140 = .ok (.bipush (-2), 2) := by decide +kernel
theorem d_Mo_night_142 : decode m_Mo_night.2.1 142 = .ok (.ireturn, 1) := by decide +kernel
theorem d_Mo_night_143 : decode m_Mo_night.2.1 143 = .ok (.iload 5, 2) := by decide +kernel
theorem d_Mo_night_145 : decode m_Mo_night.2.1 145 = .ok (.istore 4, 2) := by decide +kernel
theorem d_Mo_night_147 : decode m_Mo_night.2.1 147 = .ok (.iload_n 3, 1) := by decide +kernel
theorem d_Mo_night_148 : decode m_Mo_night.2.1 148 = .ok (.iconst 1, 1) := by decide +kernel
theorem d_Mo_night_149 : decode m_Mo_night.2.1 149 = .ok (.iadd, 1) := by decide +kernel
theorem d_Mo_night_150 : decode m_Mo_night.2.1 150 = .ok (.istore_n 3, 1) := by decide +kernel
theorem d_Mo_night_151 : decode m_Mo_night.2.1 151 = .ok (.goto (-73), 3) := by decide +kernel
theorem d_Mo_night_154 : decode m_Mo_night.2.1 154 = .ok (.iload_n 3, 1) := by decide +kernel
theorem d_Mo_night_155 : decode m_Mo_night.2.1 155 = .ok (.ireturn, 1) := by decide +kernel
def f_Mo_night_127 (k_78 : St → Int32 → Int32 → Int32 → Int32 → Option (Int32 × St)) (k_91 : St → Int32 → Int32 → Int32 → Int32 → Int32 → Int32 → Option (Int32 × St)) (S : St) (l1 : Int32) (l2 : Int32) (l3 : Int32) (l4 : Int32) (l5 : Int32) (l6 : Int32) : Option (Int32 × St) :=
    (some (l6 + 1)).bind fun l6_127 =>
    k_91 S l1 l2 l3 l4 l5 l6_127
set_option maxHeartbeats 4000000 in
set_option maxRecDepth 20000 in
theorem t_Mo_night_127  {k_78 : St → Int32 → Int32 → Int32 → Int32 → Option (Int32 × St)} {k_91 : St → Int32 → Int32 → Int32 → Int32 → Int32 → Int32 → Option (Int32 × St)} (hk_78 : ∀ (S : St) (l1 : Int32) (l2 : Int32) (l3 : Int32) (l4 : Int32) (w : Int32 × St), k_78 S l1 l2 l3 l4 = some w → G SM m_Mo_night 2 (some w.1) w.2 78 [(0, .ref 0), (1, .int l1), (2, .int l2), (3, .int l3), (4, .int l4)] [] S) (hk_91 : ∀ (S : St) (l1 : Int32) (l2 : Int32) (l3 : Int32) (l4 : Int32) (l5 : Int32) (l6 : Int32) (w : Int32 × St), k_91 S l1 l2 l3 l4 l5 l6 = some w → G SM m_Mo_night 2 (some w.1) w.2 91 [(0, .ref 0), (1, .int l1), (2, .int l2), (3, .int l3), (4, .int l4), (5, .int l5), (6, .int l6)] [] S) (S : St) (l1 : Int32) (l2 : Int32) (l3 : Int32) (l4 : Int32) (l5 : Int32) (l6 : Int32) (w : Int32 × St) (h : f_Mo_night_127 k_78 k_91 S l1 l2 l3 l4 l5 l6 = some w) : G SM m_Mo_night 2 (some w.1) w.2 127 [(0, .ref 0), (1, .int l1), (2, .int l2), (3, .int l3), (4, .int l4), (5, .int l5), (6, .int l6)] [] S := by
  unfold f_Mo_night_127 at h
  obtain ⟨l6_127, e_127, h⟩ := ob_s h
  refine G_iinc 1 6 [(6, .int l6_127), (0, .ref 0), (1, .int l1), (2, .int l2), (3, .int l3), (4, .int l4), (5, .int l5)] (by decide) rfl e_127 rfl (by decide) d_Mo_night_127 ?_
  refine G_goto 91 (by decide) d_Mo_night_130 ?_
  exact G_sub _ [1, 2, 3, 4, 5, 6, 0] rfl (hk_91 S l1 l2 l3 l4 l5 l6_127 _ h)
def f_Mo_night_91 (k_78 : St → Int32 → Int32 → Int32 → Int32 → Option (Int32 × St)) : Nat → St → Int32 → Int32 → Int32 → Int32 → Int32 → Int32 → Option (Int32 × St)
  | 0, _, _, _, _, _, _, _ => none
  | n + 1, S, l1, l2, l3, l4, l5, l6 =>
    if l1 ≤ l6 then (
    if l5 = l4 then (
    some ((-2), S))
    else (
    (some (l3 + 1)).bind fun l3_150 =>
    k_78 S l1 l2 l3_150 l5))
    else (
    (f_Mo_octet S (2 * l6)).bind fun v_102 =>
    if l4 < v_102 then (
    f_Mo_night_127 k_78 (f_Mo_night_91 k_78 n) S l1 l2 l3 l4 l5 l6)
    else (
    (f_Mo_octet S ((2 * l6) + 1)).bind fun v_119 =>
    (f_Mo_max S l5 v_119).bind fun v_122 =>
    f_Mo_night_127 k_78 (f_Mo_night_91 k_78 n) S l1 l2 l3 l4 v_122 l6))
set_option maxHeartbeats 4000000 in
set_option maxRecDepth 20000 in
theorem t_Mo_night_91  {k_78 : St → Int32 → Int32 → Int32 → Int32 → Option (Int32 × St)} (hk_78 : ∀ (S : St) (l1 : Int32) (l2 : Int32) (l3 : Int32) (l4 : Int32) (w : Int32 × St), k_78 S l1 l2 l3 l4 = some w → G SM m_Mo_night 2 (some w.1) w.2 78 [(0, .ref 0), (1, .int l1), (2, .int l2), (3, .int l3), (4, .int l4)] [] S) : ∀ (n : Nat) (S : St) (l1 : Int32) (l2 : Int32) (l3 : Int32) (l4 : Int32) (l5 : Int32) (l6 : Int32) (w : Int32 × St), f_Mo_night_91 k_78 n S l1 l2 l3 l4 l5 l6 = some w → G SM m_Mo_night 2 (some w.1) w.2 91 [(0, .ref 0), (1, .int l1), (2, .int l2), (3, .int l3), (4, .int l4), (5, .int l5), (6, .int l6)] [] S := by
  intro n
  induction n with
  | zero =>
    intro S l1 l2 l3 l4 l5 l6 w h
    rw [f_Mo_night_91] at h
    cases h
  | succ n ih =>
    intro S l1 l2 l3 l4 l5 l6 w h
    rw [f_Mo_night_91] at h
    refine G_iload 6 rfl d_Mo_night_91 ?_
    refine G_iload_n 1 rfl d_Mo_night_93 ?_
    refine G_icmp_ge 133 (by decide) d_Mo_night_94 (fun c_94 => ?_) (fun c_94 => ?_)
    · replace h := ob_t h c_94
      refine G_iload 5 rfl d_Mo_night_133 ?_
      refine G_iload 4 rfl d_Mo_night_135 ?_
      refine G_icmp_ne 143 (by decide) d_Mo_night_137 (fun c_137 => ?_) (fun c_137 => ?_)
      · replace h := ob_f h c_137
        refine G_iload 5 rfl d_Mo_night_143 ?_
        refine G_istore [(4, .int l5), (0, .ref 0), (1, .int l1), (2, .int l2), (3, .int l3), (5, .int l5), (6, .int l6)] rfl rfl (by decide) d_Mo_night_145 ?_
        refine G_iload_n 4 rfl d_Mo_night_147 ?_
        refine G_iconst 1 (by decide) d_Mo_night_148 ?_
        refine G_iadd d_Mo_night_149 ?_
        obtain ⟨l3_150, e_150, h⟩ := ob_s h
        refine G_istore_n [(3, .int l3_150), (4, .int l5), (0, .ref 0), (1, .int l1), (2, .int l2), (5, .int l5), (6, .int l6)] e_150 rfl (by decide) d_Mo_night_150 ?_
        refine G_goto 78 (by decide) d_Mo_night_151 ?_
        exact G_sub _ [2, 3, 4, 0, 1] rfl (hk_78 S l1 l2 l3_150 l5 _ h)
      · replace h := ob_t h c_137
        refine G_bipush (-2) (by decide) d_Mo_night_140 ?_
        cases h
        exact G_iret rfl d_Mo_night_142
    · replace h := ob_f h c_94
      refine G_aload_n 0 rfl d_Mo_night_97 ?_
      refine G_iconst 2 (by decide) d_Mo_night_98 ?_
      refine G_iload 6 rfl d_Mo_night_99 ?_
      refine G_imul d_Mo_night_101 ?_
      obtain ⟨v_102, q_102, h⟩ := ob_b h
      refine G_callV [.int (2 * l6)] [] (t_Mo_octet q_102) (by decide) (by decide) mv_Mo_octet rfl ml_Mo_370 km_0 sm_0 cl_12 rfl (Nat.le_of_ble_eq_true rfl) d_Mo_night_102 ?_
      refine G_iload 4 rfl d_Mo_night_105 ?_
      refine G_icmp_gt 127 (by decide) d_Mo_night_107 (fun c_107 => ?_) (fun c_107 => ?_)
      · replace h := ob_t h c_107
        exact G_sub _ [0, 1, 2, 3, 4, 5, 6] rfl (t_Mo_night_127 hk_78 ih S l1 l2 l3 l4 l5 l6 _ h)
      · replace h := ob_f h c_107
        refine G_iload 5 rfl d_Mo_night_110 ?_
        refine G_aload_n 0 rfl d_Mo_night_112 ?_
        refine G_iconst 2 (by decide) d_Mo_night_113 ?_
        refine G_iload 6 rfl d_Mo_night_114 ?_
        refine G_imul d_Mo_night_116 ?_
        refine G_iconst 1 (by decide) d_Mo_night_117 ?_
        refine G_iadd d_Mo_night_118 ?_
        obtain ⟨v_119, q_119, h⟩ := ob_b h
        refine G_callV [.int ((2 * l6) + 1)] [.int l5] (t_Mo_octet q_119) (by decide) (by decide) mv_Mo_octet rfl ml_Mo_370 km_0 sm_0 cl_12 rfl (Nat.le_of_ble_eq_true rfl) d_Mo_night_119 ?_
        obtain ⟨v_122, q_122, h⟩ := ob_b h
        refine G_callS [.int l5, .int v_119] [] (t_Mo_max q_122) (by decide) (by decide) mt_Mo_max rfl ml_Mo_265 rfl (Nat.le_of_ble_eq_true rfl) d_Mo_night_122 ?_
        refine G_istore [(5, .int v_122), (0, .ref 0), (1, .int l1), (2, .int l2), (3, .int l3), (4, .int l4), (6, .int l6)] rfl rfl (by decide) d_Mo_night_125 ?_
        exact G_sub _ [1, 2, 3, 4, 5, 0, 6] rfl (t_Mo_night_127 hk_78 ih S l1 l2 l3 l4 v_122 l6 _ h)
def f_Mo_night_78 : Nat → St → Int32 → Int32 → Int32 → Int32 → Option (Int32 × St)
  | 0, _, _, _, _, _ => none
  | n + 1, S, l1, l2, l3, l4 =>
    if l2 ≤ l4 then (
    some (l3, S))
    else (
    (some (0 : Int32)).bind fun l6_89 =>
    f_Mo_night_91 (f_Mo_night_78 n) FU S l1 l2 l3 l4 l4 l6_89)
set_option maxHeartbeats 4000000 in
set_option maxRecDepth 20000 in
theorem t_Mo_night_78  : ∀ (n : Nat) (S : St) (l1 : Int32) (l2 : Int32) (l3 : Int32) (l4 : Int32) (w : Int32 × St), f_Mo_night_78 n S l1 l2 l3 l4 = some w → G SM m_Mo_night 2 (some w.1) w.2 78 [(0, .ref 0), (1, .int l1), (2, .int l2), (3, .int l3), (4, .int l4)] [] S := by
  intro n
  induction n with
  | zero =>
    intro S l1 l2 l3 l4 w h
    rw [f_Mo_night_78] at h
    cases h
  | succ n ih =>
    intro S l1 l2 l3 l4 w h
    rw [f_Mo_night_78] at h
    refine G_iload 4 rfl d_Mo_night_78 ?_
    refine G_iload_n 2 rfl d_Mo_night_80 ?_
    refine G_icmp_ge 154 (by decide) d_Mo_night_81 (fun c_81 => ?_) (fun c_81 => ?_)
    · replace h := ob_t h c_81
      refine G_iload_n 3 rfl d_Mo_night_154 ?_
      cases h
      exact G_iret rfl d_Mo_night_155
    · replace h := ob_f h c_81
      refine G_iload 4 rfl d_Mo_night_84 ?_
      refine G_istore [(5, .int l4), (0, .ref 0), (1, .int l1), (2, .int l2), (3, .int l3), (4, .int l4)] rfl rfl (by decide) d_Mo_night_86 ?_
      refine G_iconst 0 (by decide) d_Mo_night_88 ?_
      obtain ⟨l6_89, e_89, h⟩ := ob_s h
      refine G_istore [(6, .int l6_89), (5, .int l4), (0, .ref 0), (1, .int l1), (2, .int l2), (3, .int l3), (4, .int l4)] e_89 rfl (by decide) d_Mo_night_89 ?_
      exact G_sub _ [2, 3, 4, 5, 6, 1, 0] rfl (t_Mo_night_91 ih FU S l1 l2 l3 l4 l4 l6_89 _ h)
def f_Mo_night_40 : Nat → St → Int32 → Int32 → Int32 → Option (Int32 × St)
  | 0, _, _, _, _ => none
  | n + 1, S, l1, l2, l3 =>
    if l1 ≤ l3 then (
    (some (0 : Int32)).bind fun l3_74 =>
    (some (0 : Int32)).bind fun l4_76 =>
    f_Mo_night_78 FU S l1 l2 l3_74 l4_76)
    else (
    (f_Mo_octet S ((2 * l3) + 1)).bind fun v_51 =>
    (f_Mo_octet S (2 * l3)).bind fun v_58 =>
    if v_58 < v_51 then (
    (some (l3 + 1)).bind fun l3_67 =>
    f_Mo_night_40 n S l1 l2 l3_67)
    else (
    some ((-3), S)))
set_option maxHeartbeats 4000000 in
set_option maxRecDepth 20000 in
theorem t_Mo_night_40  : ∀ (n : Nat) (S : St) (l1 : Int32) (l2 : Int32) (l3 : Int32) (w : Int32 × St), f_Mo_night_40 n S l1 l2 l3 = some w → G SM m_Mo_night 2 (some w.1) w.2 40 [(0, .ref 0), (1, .int l1), (2, .int l2), (3, .int l3)] [] S := by
  intro n
  induction n with
  | zero =>
    intro S l1 l2 l3 w h
    rw [f_Mo_night_40] at h
    cases h
  | succ n ih =>
    intro S l1 l2 l3 w h
    rw [f_Mo_night_40] at h
    refine G_iload_n 3 rfl d_Mo_night_40 ?_
    refine G_iload_n 1 rfl d_Mo_night_41 ?_
    refine G_icmp_ge 73 (by decide) d_Mo_night_42 (fun c_42 => ?_) (fun c_42 => ?_)
    · replace h := ob_t h c_42
      refine G_iconst 0 (by decide) d_Mo_night_73 ?_
      obtain ⟨l3_74, e_74, h⟩ := ob_s h
      refine G_istore_n [(3, .int l3_74), (0, .ref 0), (1, .int l1), (2, .int l2)] e_74 rfl (by decide) d_Mo_night_74 ?_
      refine G_iconst 0 (by decide) d_Mo_night_75 ?_
      obtain ⟨l4_76, e_76, h⟩ := ob_s h
      refine G_istore [(4, .int l4_76), (3, .int l3_74), (0, .ref 0), (1, .int l1), (2, .int l2)] e_76 rfl (by decide) d_Mo_night_76 ?_
      exact G_sub _ [2, 3, 4, 1, 0] rfl (t_Mo_night_78 FU S l1 l2 l3_74 l4_76 _ h)
    · replace h := ob_f h c_42
      refine G_aload_n 0 rfl d_Mo_night_45 ?_
      refine G_iconst 2 (by decide) d_Mo_night_46 ?_
      refine G_iload_n 3 rfl d_Mo_night_47 ?_
      refine G_imul d_Mo_night_48 ?_
      refine G_iconst 1 (by decide) d_Mo_night_49 ?_
      refine G_iadd d_Mo_night_50 ?_
      obtain ⟨v_51, q_51, h⟩ := ob_b h
      refine G_callV [.int ((2 * l3) + 1)] [] (t_Mo_octet q_51) (by decide) (by decide) mv_Mo_octet rfl ml_Mo_370 km_0 sm_0 cl_12 rfl (Nat.le_of_ble_eq_true rfl) d_Mo_night_51 ?_
      refine G_aload_n 0 rfl d_Mo_night_54 ?_
      refine G_iconst 2 (by decide) d_Mo_night_55 ?_
      refine G_iload_n 3 rfl d_Mo_night_56 ?_
      refine G_imul d_Mo_night_57 ?_
      obtain ⟨v_58, q_58, h⟩ := ob_b h
      refine G_callV [.int (2 * l3)] [.int v_51] (t_Mo_octet q_58) (by decide) (by decide) mv_Mo_octet rfl ml_Mo_370 km_0 sm_0 cl_12 rfl (Nat.le_of_ble_eq_true rfl) d_Mo_night_58 ?_
      refine G_icmp_gt 67 (by decide) d_Mo_night_61 (fun c_61 => ?_) (fun c_61 => ?_)
      · replace h := ob_t h c_61
        obtain ⟨l3_67, e_67, h⟩ := ob_s h
        refine G_iinc 1 3 [(3, .int l3_67), (0, .ref 0), (1, .int l1), (2, .int l2)] (by decide) rfl e_67 rfl (by decide) d_Mo_night_67 ?_
        refine G_goto 40 (by decide) d_Mo_night_70 ?_
        exact G_sub _ [1, 2, 3, 0] rfl (ih S l1 l2 l3_67 _ h)
      · replace h := ob_f h c_61
        refine G_bipush (-3) (by decide) d_Mo_night_64 ?_
        cases h
        exact G_iret rfl d_Mo_night_66
def f_Mo_night (S : St) (l1 : Int32) (l2 : Int32) : Option (Int32 × St) :=
    (f_Mo_in S l1 (1 : Int32) (16 : Int32)).bind fun v_4 =>
    if v_4 = 0 then (
    some ((-1), S))
    else (
    (f_Mo_in S l2 (1 : Int32) (255 : Int32)).bind fun v_15 =>
    if v_15 = 0 then (
    some ((-1), S))
    else (
    if (2 * l1) ≤ (S 0 7) then (
    (some (sF S 0 7 0)).bind fun S_35 =>
    (some (0 : Int32)).bind fun l3_39 =>
    f_Mo_night_40 FU S_35 l1 l2 l3_39)
    else (
    some ((-1), S))))
set_option maxHeartbeats 4000000 in
set_option maxRecDepth 20000 in
theorem t_Mo_night  {S : St} {l1 : Int32} {l2 : Int32} {w : Int32 × St} (h : f_Mo_night S l1 l2 = some w) : Ct SM m_Mo_night 2 [.ref 0, .int l1, .int l2] S (some w.1) w.2 := by
  unfold f_Mo_night at h
  refine Ct.of pn_Mo (Nat.le_of_ble_eq_true rfl) ?_
  show G SM m_Mo_night 2 (some w.1) w.2 0 [(0, .ref 0), (1, .int l1), (2, .int l2)] [] S
  refine G_iload_n 1 rfl d_Mo_night_0 ?_
  refine G_iconst 1 (by decide) d_Mo_night_1 ?_
  refine G_bipush 16 (by decide) d_Mo_night_2 ?_
  obtain ⟨v_4, q_4, h⟩ := ob_b h
  refine G_callS [.int l1, .int 1, .int 16] [] (t_Mo_in q_4) (by decide) (by decide) mt_Mo_in rfl ml_Mo_124 rfl (Nat.le_of_ble_eq_true rfl) d_Mo_night_4 ?_
  refine G_if_eq 31 (by decide) d_Mo_night_7 (fun c_7 => ?_) (fun c_7 => ?_)
  · replace h := ob_t h c_7
    refine G_iconst (-1) (by decide) d_Mo_night_31 ?_
    cases h
    exact G_iret rfl d_Mo_night_32
  · replace h := ob_f h c_7
    refine G_iload_n 2 rfl d_Mo_night_10 ?_
    refine G_iconst 1 (by decide) d_Mo_night_11 ?_
    refine G_sipush 255 (by decide) d_Mo_night_12 ?_
    obtain ⟨v_15, q_15, h⟩ := ob_b h
    refine G_callS [.int l2, .int 1, .int 255] [] (t_Mo_in q_15) (by decide) (by decide) mt_Mo_in rfl ml_Mo_124 rfl (Nat.le_of_ble_eq_true rfl) d_Mo_night_15 ?_
    refine G_if_eq 31 (by decide) d_Mo_night_18 (fun c_18 => ?_) (fun c_18 => ?_)
    · replace h := ob_t h c_18
      refine G_iconst (-1) (by decide) d_Mo_night_31 ?_
      cases h
      exact G_iret rfl d_Mo_night_32
    · replace h := ob_f h c_18
      refine G_iconst 2 (by decide) d_Mo_night_21 ?_
      refine G_iload_n 1 rfl d_Mo_night_22 ?_
      refine G_imul d_Mo_night_23 ?_
      refine G_aload_n 0 rfl d_Mo_night_24 ?_
      refine G_getI fl_Mo_135 km_0 sm_0 rfl d_Mo_night_25 ?_
      refine G_icmp_le 33 (by decide) d_Mo_night_28 (fun c_28 => ?_) (fun c_28 => ?_)
      · replace h := ob_t h c_28
        refine G_aload_n 0 rfl d_Mo_night_33 ?_
        refine G_iconst 0 (by decide) d_Mo_night_34 ?_
        obtain ⟨S_35, e_35, h⟩ := ob_s h
        refine G_putI e_35 fp_Mo_135 km_0 sm_0 rfl d_Mo_night_35 ?_
        refine G_iconst 0 (by decide) d_Mo_night_38 ?_
        obtain ⟨l3_39, e_39, h⟩ := ob_s h
        refine G_istore_n [(3, .int l3_39), (0, .ref 0), (1, .int l1), (2, .int l2)] e_39 rfl (by decide) d_Mo_night_39 ?_
        exact G_sub _ [1, 2, 3, 0] rfl (t_Mo_night_40 FU S_35 l1 l2 l3_39 _ h)
      · replace h := ob_f h c_28
        refine G_iconst (-1) (by decide) d_Mo_night_31 ?_
        cases h
        exact G_iret rfl d_Mo_night_32
theorem d_Mo_leastLater_0 : decode m_Mo_leastLater.2.1 0 = .ok (.ldc_w 366, 3) := by decide +kernel
theorem d_Mo_leastLater_3 : decode m_Mo_leastLater.2.1 3 = .ok (.istore_n 3, 1) := by decide +kernel
theorem d_Mo_leastLater_4 : decode m_Mo_leastLater.2.1 4 = .ok (.iload_n 1, 1) := by decide +kernel
theorem d_Mo_leastLater_5 : decode m_Mo_leastLater.2.1 5 = .ok (.iconst 1, 1) := by decide +kernel
theorem d_Mo_leastLater_6 : decode m_Mo_leastLater.2.1 6 = .ok (.iadd, 1) := by decide +kernel
theorem d_Mo_leastLater_7 : decode m_Mo_leastLater.2.1 7 = .ok (.istore 4, 2) := by decide +kernel
theorem d_Mo_leastLater_9 : decode m_Mo_leastLater.2.1 9 = .ok (.iload 4, 2) := by decide +kernel
theorem d_Mo_leastLater_11 : decode m_Mo_leastLater.2.1 11 = .ok (.iload_n 2, 1) := by decide +kernel
theorem d_Mo_leastLater_12 : decode m_Mo_leastLater.2.1 12 = .ok (.if_icmp .ge 20, 3) := by decide +kernel
theorem d_Mo_leastLater_15 : decode m_Mo_leastLater.2.1 15 = .ok (.iload_n 3, 1) := by decide +kernel
theorem d_Mo_leastLater_16 : decode m_Mo_leastLater.2.1 16 = .ok (.aload_n 0, 1) := by decide +kernel
theorem d_Mo_leastLater_17 : decode m_Mo_leastLater.2.1 17 = .ok (.iload 4, 2) := by decide +kernel
theorem d_Mo_leastLater_19 : decode m_Mo_leastLater.2.1 19 = .ok (.invokevirtual 370, 3) := by decide +kernel
theorem d_Mo_leastLater_22 : decode m_Mo_leastLater.2.1 22 = .ok (.invokestatic 271, 3) := by decide +kernel
theorem d_Mo_leastLater_25 : decode m_Mo_leastLater.2.1 25 = .ok (.istore_n 3, 1) := by decide +kernel
theorem d_Mo_leastLater_26 : decode m_Mo_leastLater.2.1 26 = .ok (.iinc 4 1, 3) := by decide +kernel
theorem d_Mo_leastLater_29 : decode m_Mo_leastLater.2.1 29 = .ok (.goto (-20), 3) := by decide +kernel
theorem d_Mo_leastLater_32 : decode m_Mo_leastLater.2.1 32 = .ok (.iload_n 3, 1) := by decide +kernel
theorem d_Mo_leastLater_33 : decode m_Mo_leastLater.2.1 33 = .ok (.ireturn, 1) := by decide +kernel
def f_Mo_leastLater_9 : Nat → St → Int32 → Int32 → Int32 → Option (Int32)
  | 0, _, _, _, _ => none
  | n + 1, S, l2, l3, l4 =>
    if l2 ≤ l4 then (
    some l3)
    else (
    (f_Mo_octet S l4).bind fun v_19 =>
    (f_Mo_min S l3 v_19).bind fun v_22 =>
    (some (l4 + 1)).bind fun l4_26 =>
    f_Mo_leastLater_9 n S l2 v_22 l4_26)
set_option maxHeartbeats 4000000 in
set_option maxRecDepth 20000 in
theorem t_Mo_leastLater_9  : ∀ (n : Nat) (S : St) (l2 : Int32) (l3 : Int32) (l4 : Int32) (w : Int32), f_Mo_leastLater_9 n S l2 l3 l4 = some w → G SM m_Mo_leastLater 2 (some w) S 9 [(0, .ref 0), (2, .int l2), (3, .int l3), (4, .int l4)] [] S := by
  intro n
  induction n with
  | zero =>
    intro S l2 l3 l4 w h
    rw [f_Mo_leastLater_9] at h
    cases h
  | succ n ih =>
    intro S l2 l3 l4 w h
    rw [f_Mo_leastLater_9] at h
    refine G_iload 3 rfl d_Mo_leastLater_9 ?_
    refine G_iload_n 1 rfl d_Mo_leastLater_11 ?_
    refine G_icmp_ge 32 (by decide) d_Mo_leastLater_12 (fun c_12 => ?_) (fun c_12 => ?_)
    · replace h := ob_t h c_12
      refine G_iload_n 2 rfl d_Mo_leastLater_32 ?_
      cases h
      exact G_iret rfl d_Mo_leastLater_33
    · replace h := ob_f h c_12
      refine G_iload_n 2 rfl d_Mo_leastLater_15 ?_
      refine G_aload_n 0 rfl d_Mo_leastLater_16 ?_
      refine G_iload 3 rfl d_Mo_leastLater_17 ?_
      obtain ⟨v_19, q_19, h⟩ := ob_b h
      refine G_callV [.int l4] [.int l3] (t_Mo_octet q_19) (by decide) (by decide) mv_Mo_octet rfl ml_Mo_370 km_0 sm_0 cl_12 rfl (Nat.le_of_ble_eq_true rfl) d_Mo_leastLater_19 ?_
      obtain ⟨v_22, q_22, h⟩ := ob_b h
      refine G_callS [.int l3, .int v_19] [] (t_Mo_min q_22) (by decide) (by decide) mt_Mo_min rfl ml_Mo_271 rfl (Nat.le_of_ble_eq_true rfl) d_Mo_leastLater_22 ?_
      refine G_istore_n [(3, .int v_22), (0, .ref 0), (2, .int l2), (4, .int l4)] rfl rfl (by decide) d_Mo_leastLater_25 ?_
      obtain ⟨l4_26, e_26, h⟩ := ob_s h
      refine G_iinc 1 3 [(4, .int l4_26), (3, .int v_22), (0, .ref 0), (2, .int l2)] (by decide) rfl e_26 rfl (by decide) d_Mo_leastLater_26 ?_
      refine G_goto 9 (by decide) d_Mo_leastLater_29 ?_
      exact G_sub _ [2, 3, 1, 0] rfl (ih S l2 v_22 l4_26 _ h)
def f_Mo_leastLater (S : St) (l1 : Int32) (l2 : Int32) : Option (Int32) :=
    (some (1000000 : Int32)).bind fun l3_3 =>
    (some (l1 + 1)).bind fun l4_7 =>
    f_Mo_leastLater_9 FU S l2 l3_3 l4_7
set_option maxHeartbeats 4000000 in
set_option maxRecDepth 20000 in
theorem t_Mo_leastLater  {S : St} {l1 : Int32} {l2 : Int32} {w : Int32} (h : f_Mo_leastLater S l1 l2 = some w) : Ct SM m_Mo_leastLater 2 [.ref 0, .int l1, .int l2] S (some w) S := by
  unfold f_Mo_leastLater at h
  refine Ct.of pn_Mo (Nat.le_of_ble_eq_true rfl) ?_
  show G SM m_Mo_leastLater 2 (some w) S 0 [(0, .ref 0), (1, .int l1), (2, .int l2)] [] S
  refine G_ldcw c_Mo_366 d_Mo_leastLater_0 ?_
  obtain ⟨l3_3, e_3, h⟩ := ob_s h
  refine G_istore_n [(3, .int l3_3), (0, .ref 0), (1, .int l1), (2, .int l2)] e_3 rfl (by decide) d_Mo_leastLater_3 ?_
  refine G_iload_n 2 rfl d_Mo_leastLater_4 ?_
  refine G_iconst 1 (by decide) d_Mo_leastLater_5 ?_
  refine G_iadd d_Mo_leastLater_6 ?_
  obtain ⟨l4_7, e_7, h⟩ := ob_s h
  refine G_istore [(4, .int l4_7), (3, .int l3_3), (0, .ref 0), (1, .int l1), (2, .int l2)] e_7 rfl (by decide) d_Mo_leastLater_7 ?_
  exact G_sub _ [2, 4, 1, 0] rfl (t_Mo_leastLater_9 FU S l2 l3_3 l4_7 _ h)
theorem d_Mo_unknowing_0 : decode m_Mo_unknowing.2.1 0 = .ok (.iconst 0, 1) := by decide +kernel
theorem d_Mo_unknowing_1 : decode m_Mo_unknowing.2.1 1 = .ok (.istore_n 3, 1) := by decide +kernel
theorem d_Mo_unknowing_2 : decode m_Mo_unknowing.2.1 2 = .ok (.iload_n 3, 1) := by decide +kernel
theorem d_Mo_unknowing_3 : decode m_Mo_unknowing.2.1 3 = .ok (.iload_n 1, 1) := by decide +kernel
theorem d_Mo_unknowing_4 : decode m_Mo_unknowing.2.1 4 = .ok (.iconst 1, 1) := by decide +kernel
theorem d_Mo_unknowing_5 : decode m_Mo_unknowing.2.1 5 = .ok (.isub, 1) := by decide +kernel
theorem d_Mo_unknowing_6 : decode m_Mo_unknowing.2.1 6 = .ok (.if_icmp .ge 29, 3) := by decide +kernel
theorem d_Mo_unknowing_9 : decode m_Mo_unknowing.2.1 9 = .ok (.bipush 10, 2) := by decide +kernel
theorem d_Mo_unknowing_11 : decode m_Mo_unknowing.2.1 11 = .ok (.aload_n 0, 1) := by decide +kernel
theorem d_Mo_unknowing_12 : decode m_Mo_unknowing.2.1 12 = .ok (.iload_n 3, 1) := by decide +kernel
theorem d_Mo_unknowing_13 : decode m_Mo_unknowing.2.1 13 = .ok (.invokevirtual 370, 3) := by decide +kernel
theorem d_Mo_unknowing_16 : decode m_Mo_unknowing.2.1 16 = .ok (.imul, 1) := by decide +kernel
theorem d_Mo_unknowing_17 : decode m_Mo_unknowing.2.1 17 = .ok (.iload_n 2, 1) := by decide +kernel
theorem d_Mo_unknowing_18 : decode m_Mo_unknowing.2.1 18 = .ok (.aload_n 0, 1) := by decide +kernel
theorem d_Mo_unknowing_19 : decode m_Mo_unknowing.2.1 19 = .ok (.iload_n 3, 1) := by decide +kernel
theorem d_Mo_unknowing_20 : decode m_Mo_unknowing.2.1 20 = .ok (.iload_n 1, 1) := by decide +kernel
theorem d_Mo_unknowing_21 : decode m_Mo_unknowing.2.1 21 = .ok (.invokevirtual 388, 3) := by decide +kernel
theorem d_Mo_unknowing_24 : decode m_Mo_unknowing.2.1 24 = .ok (.imul, 1) := by decide +kernel
theorem d_Mo_unknowing_25 : decode m_Mo_unknowing.2.1 25 = .ok (.if_icmp .le 10, 3) := by decide +kernel
theorem d_Mo_unknowing_28 : decode m_Mo_unknowing.2.1 28 = .ok (.iload_n 3, 1) := by decide +kernel
theorem d_Mo_unknowing_29 : decode m_Mo_unknowing.2.1 29 = .ok (.iconst 1, 1) := by decide +kernel
theorem d_Mo_unknowing_30 : decode m_Mo_unknowing.2.1 30 = .ok (.iadd, 1) := by decide +kernel
theorem d_Mo_unknowing_31 : decode m_Mo_unknowing.2.1 31 = .ok (.istore_n 3, 1) := by decide +kernel
theorem d_Mo_unknowing_32 : decode m_Mo_unknowing.2.1 32 = .ok (.goto (-30), 3) := by decide +kernel
theorem d_Mo_unknowing_35 : decode m_Mo_unknowing.2.1 35 = .ok (.iload_n 3, 1) := by decide +kernel
theorem d_Mo_unknowing_36 : decode m_Mo_unknowing.2.1 36 = .ok (.ireturn, 1) := by decide +kernel
def f_Mo_unknowing_2 : Nat → St → Int32 → Int32 → Int32 → Option (Int32)
  | 0, _, _, _, _ => none
  | n + 1, S, l1, l2, l3 =>
    if (l1 - 1) ≤ l3 then (
    some l3)
    else (
    (f_Mo_octet S l3).bind fun v_13 =>
    (f_Mo_leastLater S l3 l1).bind fun v_21 =>
    if (10 * v_13) ≤ (l2 * v_21) then (
    some l3)
    else (
    (some (l3 + 1)).bind fun l3_31 =>
    f_Mo_unknowing_2 n S l1 l2 l3_31))
set_option maxHeartbeats 4000000 in
set_option maxRecDepth 20000 in
theorem t_Mo_unknowing_2  : ∀ (n : Nat) (S : St) (l1 : Int32) (l2 : Int32) (l3 : Int32) (w : Int32), f_Mo_unknowing_2 n S l1 l2 l3 = some w → G SM m_Mo_unknowing 3 (some w) S 2 [(0, .ref 0), (1, .int l1), (2, .int l2), (3, .int l3)] [] S := by
  intro n
  induction n with
  | zero =>
    intro S l1 l2 l3 w h
    rw [f_Mo_unknowing_2] at h
    cases h
  | succ n ih =>
    intro S l1 l2 l3 w h
    rw [f_Mo_unknowing_2] at h
    refine G_iload_n 3 rfl d_Mo_unknowing_2 ?_
    refine G_iload_n 1 rfl d_Mo_unknowing_3 ?_
    refine G_iconst 1 (by decide) d_Mo_unknowing_4 ?_
    refine G_isub d_Mo_unknowing_5 ?_
    refine G_icmp_ge 35 (by decide) d_Mo_unknowing_6 (fun c_6 => ?_) (fun c_6 => ?_)
    · replace h := ob_t h c_6
      refine G_iload_n 3 rfl d_Mo_unknowing_35 ?_
      cases h
      exact G_iret rfl d_Mo_unknowing_36
    · replace h := ob_f h c_6
      refine G_bipush 10 (by decide) d_Mo_unknowing_9 ?_
      refine G_aload_n 0 rfl d_Mo_unknowing_11 ?_
      refine G_iload_n 3 rfl d_Mo_unknowing_12 ?_
      obtain ⟨v_13, q_13, h⟩ := ob_b h
      refine G_callV [.int l3] [.int 10] (t_Mo_octet q_13) (by decide) (by decide) mv_Mo_octet rfl ml_Mo_370 km_0 sm_0 cl_12 rfl (Nat.le_of_ble_eq_true rfl) d_Mo_unknowing_13 ?_
      refine G_imul d_Mo_unknowing_16 ?_
      refine G_iload_n 2 rfl d_Mo_unknowing_17 ?_
      refine G_aload_n 0 rfl d_Mo_unknowing_18 ?_
      refine G_iload_n 3 rfl d_Mo_unknowing_19 ?_
      refine G_iload_n 1 rfl d_Mo_unknowing_20 ?_
      obtain ⟨v_21, q_21, h⟩ := ob_b h
      refine G_callV [.int l3, .int l1] [.int l2, .int (10 * v_13)] (t_Mo_leastLater q_21) (by decide) (by decide) mv_Mo_leastLater rfl ml_Mo_388 km_0 sm_0 cl_12 rfl (Nat.le_of_ble_eq_true rfl) d_Mo_unknowing_21 ?_
      refine G_imul d_Mo_unknowing_24 ?_
      refine G_icmp_le 35 (by decide) d_Mo_unknowing_25 (fun c_25 => ?_) (fun c_25 => ?_)
      · replace h := ob_t h c_25
        refine G_iload_n 3 rfl d_Mo_unknowing_35 ?_
        cases h
        exact G_iret rfl d_Mo_unknowing_36
      · replace h := ob_f h c_25
        refine G_iload_n 3 rfl d_Mo_unknowing_28 ?_
        refine G_iconst 1 (by decide) d_Mo_unknowing_29 ?_
        refine G_iadd d_Mo_unknowing_30 ?_
        obtain ⟨l3_31, e_31, h⟩ := ob_s h
        refine G_istore_n [(3, .int l3_31), (0, .ref 0), (1, .int l1), (2, .int l2)] e_31 rfl (by decide) d_Mo_unknowing_31 ?_
        refine G_goto 2 (by decide) d_Mo_unknowing_32 ?_
        exact G_sub _ [1, 2, 3, 0] rfl (ih S l1 l2 l3_31 _ h)
def f_Mo_unknowing (S : St) (l1 : Int32) (l2 : Int32) : Option (Int32) :=
    (some (0 : Int32)).bind fun l3_1 =>
    f_Mo_unknowing_2 FU S l1 l2 l3_1
set_option maxHeartbeats 4000000 in
set_option maxRecDepth 20000 in
theorem t_Mo_unknowing  {S : St} {l1 : Int32} {l2 : Int32} {w : Int32} (h : f_Mo_unknowing S l1 l2 = some w) : Ct SM m_Mo_unknowing 3 [.ref 0, .int l1, .int l2] S (some w) S := by
  unfold f_Mo_unknowing at h
  refine Ct.of pn_Mo (Nat.le_of_ble_eq_true rfl) ?_
  show G SM m_Mo_unknowing 3 (some w) S 0 [(0, .ref 0), (1, .int l1), (2, .int l2)] [] S
  refine G_iconst 0 (by decide) d_Mo_unknowing_0 ?_
  obtain ⟨l3_1, e_1, h⟩ := ob_s h
  refine G_istore_n [(3, .int l3_1), (0, .ref 0), (1, .int l1), (2, .int l2)] e_1 rfl (by decide) d_Mo_unknowing_1 ?_
  exact G_sub _ [1, 2, 3, 0] rfl (t_Mo_unknowing_2 FU S l1 l2 l3_1 _ h)
theorem d_Mo_knowing_0 : decode m_Mo_knowing.2.1 0 = .ok (.iload_n 1, 1) := by decide +kernel
theorem d_Mo_knowing_1 : decode m_Mo_knowing.2.1 1 = .ok (.iconst 1, 1) := by decide +kernel
theorem d_Mo_knowing_2 : decode m_Mo_knowing.2.1 2 = .ok (.isub, 1) := by decide +kernel
theorem d_Mo_knowing_3 : decode m_Mo_knowing.2.1 3 = .ok (.istore_n 3, 1) := by decide +kernel
theorem d_Mo_knowing_4 : decode m_Mo_knowing.2.1 4 = .ok (.iload_n 1, 1) := by decide +kernel
theorem d_Mo_knowing_5 : decode m_Mo_knowing.2.1 5 = .ok (.iconst 2, 1) := by decide +kernel
theorem d_Mo_knowing_6 : decode m_Mo_knowing.2.1 6 = .ok (.isub, 1) := by decide +kernel
theorem d_Mo_knowing_7 : decode m_Mo_knowing.2.1 7 = .ok (.istore 4, 2) := by decide +kernel
theorem d_Mo_knowing_9 : decode m_Mo_knowing.2.1 9 = .ok (.iload 4, 2) := by decide +kernel
theorem d_Mo_knowing_11 : decode m_Mo_knowing.2.1 11 = .ok (.ifCond .lt 31, 3) := by decide +kernel
theorem d_Mo_knowing_14 : decode m_Mo_knowing.2.1 14 = .ok (.bipush 10, 2) := by decide +kernel
theorem d_Mo_knowing_16 : decode m_Mo_knowing.2.1 16 = .ok (.aload_n 0, 1) := by decide +kernel
theorem d_Mo_knowing_17 : decode m_Mo_knowing.2.1 17 = .ok (.iload 4, 2) := by decide +kernel
theorem d_Mo_knowing_19 : decode m_Mo_knowing.2.1 19 = .ok (.invokevirtual 370, 3) := by decide +kernel
theorem d_Mo_knowing_22 : decode m_Mo_knowing.2.1 22 = .ok (.imul, 1) := by decide +kernel
theorem d_Mo_knowing_23 : decode m_Mo_knowing.2.1 23 = .ok (.iload_n 2, 1) := by decide +kernel
theorem d_Mo_knowing_24 : decode m_Mo_knowing.2.1 24 = .ok (.aload_n 0, 1) := by decide +kernel
theorem d_Mo_knowing_25 : decode m_Mo_knowing.2.1 25 = .ok (.iload_n 3, 1) := by decide +kernel
theorem d_Mo_knowing_26 : decode m_Mo_knowing.2.1 26 = .ok (.invokevirtual 370, 3) := by decide +kernel
theorem d_Mo_knowing_29 : decode m_Mo_knowing.2.1 29 = .ok (.imul, 1) := by decide +kernel
theorem d_Mo_knowing_30 : decode m_Mo_knowing.2.1 30 = .ok (.if_icmp .gt 6, 3) := by decide +kernel
theorem d_Mo_knowing_33 : decode m_Mo_knowing.2.1 33 = .ok (.iload 4, 2) := by decide +kernel
theorem d_Mo_knowing_35 : decode m_Mo_knowing.2.1 35 = .ok (.istore_n 3, 1) := by decide +kernel
theorem d_Mo_knowing_36 : decode m_Mo_knowing.2.1 36 = .ok (.iinc 4 (-1), 3) := by decide +kernel
theorem d_Mo_knowing_39 : decode m_Mo_knowing.2.1 39 = .ok (.goto (-30), 3) := by decide +kernel
theorem d_Mo_knowing_42 : decode m_Mo_knowing.2.1 42 = .ok (.iload_n 3, 1) := by decide +kernel
theorem d_Mo_knowing_43 : decode m_Mo_knowing.2.1 43 = .ok (.ireturn, 1) := by decide +kernel
def f_Mo_knowing_36 (k_9 : St → Int32 → Int32 → Int32 → Option (Int32)) (S : St) (l2 : Int32) (l3 : Int32) (l4 : Int32) : Option (Int32) :=
    (some (l4 + (-1))).bind fun l4_36 =>
    k_9 S l2 l3 l4_36
set_option maxHeartbeats 4000000 in
set_option maxRecDepth 20000 in
theorem t_Mo_knowing_36  {k_9 : St → Int32 → Int32 → Int32 → Option (Int32)} (hk_9 : ∀ (S : St) (l2 : Int32) (l3 : Int32) (l4 : Int32) (w : Int32), k_9 S l2 l3 l4 = some w → G SM m_Mo_knowing 2 (some w) S 9 [(0, .ref 0), (2, .int l2), (3, .int l3), (4, .int l4)] [] S) (S : St) (l2 : Int32) (l3 : Int32) (l4 : Int32) (w : Int32) (h : f_Mo_knowing_36 k_9 S l2 l3 l4 = some w) : G SM m_Mo_knowing 2 (some w) S 36 [(0, .ref 0), (2, .int l2), (3, .int l3), (4, .int l4)] [] S := by
  unfold f_Mo_knowing_36 at h
  obtain ⟨l4_36, e_36, h⟩ := ob_s h
  refine G_iinc (-1) 3 [(4, .int l4_36), (0, .ref 0), (2, .int l2), (3, .int l3)] (by decide) rfl e_36 rfl (by decide) d_Mo_knowing_36 ?_
  refine G_goto 9 (by decide) d_Mo_knowing_39 ?_
  exact G_sub _ [1, 2, 3, 0] rfl (hk_9 S l2 l3 l4_36 _ h)
def f_Mo_knowing_9 : Nat → St → Int32 → Int32 → Int32 → Option (Int32)
  | 0, _, _, _, _ => none
  | n + 1, S, l2, l3, l4 =>
    if l4 < 0 then (
    some l3)
    else (
    (f_Mo_octet S l4).bind fun v_19 =>
    (f_Mo_octet S l3).bind fun v_26 =>
    if (l2 * v_26) < (10 * v_19) then (
    f_Mo_knowing_36 (f_Mo_knowing_9 n) S l2 l3 l4)
    else (
    f_Mo_knowing_36 (f_Mo_knowing_9 n) S l2 l4 l4))
set_option maxHeartbeats 4000000 in
set_option maxRecDepth 20000 in
theorem t_Mo_knowing_9  : ∀ (n : Nat) (S : St) (l2 : Int32) (l3 : Int32) (l4 : Int32) (w : Int32), f_Mo_knowing_9 n S l2 l3 l4 = some w → G SM m_Mo_knowing 2 (some w) S 9 [(0, .ref 0), (2, .int l2), (3, .int l3), (4, .int l4)] [] S := by
  intro n
  induction n with
  | zero =>
    intro S l2 l3 l4 w h
    rw [f_Mo_knowing_9] at h
    cases h
  | succ n ih =>
    intro S l2 l3 l4 w h
    rw [f_Mo_knowing_9] at h
    refine G_iload 3 rfl d_Mo_knowing_9 ?_
    refine G_if_lt 42 (by decide) d_Mo_knowing_11 (fun c_11 => ?_) (fun c_11 => ?_)
    · replace h := ob_t h c_11
      refine G_iload_n 2 rfl d_Mo_knowing_42 ?_
      cases h
      exact G_iret rfl d_Mo_knowing_43
    · replace h := ob_f h c_11
      refine G_bipush 10 (by decide) d_Mo_knowing_14 ?_
      refine G_aload_n 0 rfl d_Mo_knowing_16 ?_
      refine G_iload 3 rfl d_Mo_knowing_17 ?_
      obtain ⟨v_19, q_19, h⟩ := ob_b h
      refine G_callV [.int l4] [.int 10] (t_Mo_octet q_19) (by decide) (by decide) mv_Mo_octet rfl ml_Mo_370 km_0 sm_0 cl_12 rfl (Nat.le_of_ble_eq_true rfl) d_Mo_knowing_19 ?_
      refine G_imul d_Mo_knowing_22 ?_
      refine G_iload_n 1 rfl d_Mo_knowing_23 ?_
      refine G_aload_n 0 rfl d_Mo_knowing_24 ?_
      refine G_iload_n 2 rfl d_Mo_knowing_25 ?_
      obtain ⟨v_26, q_26, h⟩ := ob_b h
      refine G_callV [.int l3] [.int l2, .int (10 * v_19)] (t_Mo_octet q_26) (by decide) (by decide) mv_Mo_octet rfl ml_Mo_370 km_0 sm_0 cl_12 rfl (Nat.le_of_ble_eq_true rfl) d_Mo_knowing_26 ?_
      refine G_imul d_Mo_knowing_29 ?_
      refine G_icmp_gt 36 (by decide) d_Mo_knowing_30 (fun c_30 => ?_) (fun c_30 => ?_)
      · replace h := ob_t h c_30
        exact G_sub _ [0, 1, 2, 3] rfl (t_Mo_knowing_36 ih S l2 l3 l4 _ h)
      · replace h := ob_f h c_30
        refine G_iload 3 rfl d_Mo_knowing_33 ?_
        refine G_istore_n [(3, .int l4), (0, .ref 0), (2, .int l2), (4, .int l4)] rfl rfl (by decide) d_Mo_knowing_35 ?_
        exact G_sub _ [1, 2, 0, 3] rfl (t_Mo_knowing_36 ih S l2 l4 l4 _ h)
def f_Mo_knowing (S : St) (l1 : Int32) (l2 : Int32) : Option (Int32) :=
    (some (l1 - 1)).bind fun l3_3 =>
    (some (l1 - 2)).bind fun l4_7 =>
    f_Mo_knowing_9 FU S l2 l3_3 l4_7
set_option maxHeartbeats 4000000 in
set_option maxRecDepth 20000 in
theorem t_Mo_knowing  {S : St} {l1 : Int32} {l2 : Int32} {w : Int32} (h : f_Mo_knowing S l1 l2 = some w) : Ct SM m_Mo_knowing 2 [.ref 0, .int l1, .int l2] S (some w) S := by
  unfold f_Mo_knowing at h
  refine Ct.of pn_Mo (Nat.le_of_ble_eq_true rfl) ?_
  show G SM m_Mo_knowing 2 (some w) S 0 [(0, .ref 0), (1, .int l1), (2, .int l2)] [] S
  refine G_iload_n 1 rfl d_Mo_knowing_0 ?_
  refine G_iconst 1 (by decide) d_Mo_knowing_1 ?_
  refine G_isub d_Mo_knowing_2 ?_
  obtain ⟨l3_3, e_3, h⟩ := ob_s h
  refine G_istore_n [(3, .int l3_3), (0, .ref 0), (1, .int l1), (2, .int l2)] e_3 rfl (by decide) d_Mo_knowing_3 ?_
  refine G_iload_n 2 rfl d_Mo_knowing_4 ?_
  refine G_iconst 2 (by decide) d_Mo_knowing_5 ?_
  refine G_isub d_Mo_knowing_6 ?_
  obtain ⟨l4_7, e_7, h⟩ := ob_s h
  refine G_istore [(4, .int l4_7), (3, .int l3_3), (0, .ref 0), (1, .int l1), (2, .int l2)] e_7 rfl (by decide) d_Mo_knowing_7 ?_
  exact G_sub _ [2, 4, 1, 0] rfl (t_Mo_knowing_9 FU S l2 l3_3 l4_7 _ h)
theorem d_Mo_putsOff_0 : decode m_Mo_putsOff.2.1 0 = .ok (.iload_n 1, 1) := by decide +kernel
theorem d_Mo_putsOff_1 : decode m_Mo_putsOff.2.1 1 = .ok (.iconst 1, 1) := by decide +kernel
theorem d_Mo_putsOff_2 : decode m_Mo_putsOff.2.1 2 = .ok (.bipush 16, 2) := by decide +kernel
theorem d_Mo_putsOff_4 : decode m_Mo_putsOff.2.1 4 = .ok (.invokestatic 124, 3) := by decide +kernel
theorem d_Mo_putsOff_7 : decode m_Mo_putsOff.2.1 7 = .ok (.ifCond .eq 31, 3) := by decide +kernel
theorem d_Mo_putsOff_10 : decode m_Mo_putsOff.2.1 10 = .ok (.iload_n 2, 1) := by decide +kernel
theorem d_Mo_putsOff_11 : decode m_Mo_putsOff.2.1 11 = .ok (.iconst 1, 1) := by decide +kernel
theorem d_Mo_putsOff_12 : decode m_Mo_putsOff.2.1 12 = .ok (.bipush 10, 2) := by decide +kernel
theorem d_Mo_putsOff_14 : decode m_Mo_putsOff.2.1 14 = .ok (.invokestatic 124, 3) := by decide +kernel
theorem d_Mo_putsOff_17 : decode m_Mo_putsOff.2.1 17 = .ok (.ifCond .eq 21, 3) := by decide +kernel
theorem d_Mo_putsOff_20 : decode m_Mo_putsOff.2.1 20 = .ok (.iload 4, 2) := by decide +kernel
theorem d_Mo_putsOff_22 : decode m_Mo_putsOff.2.1 22 = .ok (.iconst 0, 1) := by decide +kernel
theorem d_Mo_putsOff_23 : decode m_Mo_putsOff.2.1 23 = .ok (.iconst 1, 1) := by decide +kernel
theorem d_Mo_putsOff_24 : decode m_Mo_putsOff.2.1 24 = .ok (.invokestatic 124, 3) := by decide +kernel
theorem d_Mo_putsOff_27 : decode m_Mo_putsOff.2.1 27 = .ok (.ifCond .eq 11, 3) := by decide +kernel
theorem d_Mo_putsOff_30 : decode m_Mo_putsOff.2.1 30 = .ok (.iload_n 1, 1) := by decide +kernel
theorem d_Mo_putsOff_31 : decode m_Mo_putsOff.2.1 31 = .ok (.aload_n 0, 1) := by decide +kernel
theorem d_Mo_putsOff_32 : decode m_Mo_putsOff.2.1 32 = .ok (.getfield 135, 3) := by decide +kernel
theorem d_Mo_putsOff_35 : decode m_Mo_putsOff.2.1 35 = .ok (.if_icmp .le 5, 3) := by decide +kernel
theorem d_Mo_putsOff_38 : decode m_Mo_putsOff.2.1 38 = .ok (.iconst (-1), 1) := by decide +kernel
theorem d_Mo_putsOff_39 : decode m_Mo_putsOff.2.1 39 = .ok (.ireturn, 1) := by decide +kernel
theorem d_Mo_putsOff_40 : decode m_Mo_putsOff.2.1 40 = .ok (.aload_n 0, 1) := by decide +kernel
theorem d_Mo_putsOff_41 : decode m_Mo_putsOff.2.1 41 = .ok (.iconst 0, 1) := by decide +kernel
theorem d_Mo_putsOff_42 : decode m_Mo_putsOff.2.1 42 = .ok (.putfield 135, 3) := by decide +kernel
theorem d_Mo_putsOff_45 : decode m_Mo_putsOff.2.1 45 = .ok (.iload_n 3, 1) := by decide +kernel
theorem d_Mo_putsOff_46 : decode m_Mo_putsOff.2.1 46 = .ok (.ifCond .eq 12, 3) := by decide +kernel
theorem d_Mo_putsOff_49 : decode m_Mo_putsOff.2.1 49 = .ok (.aload_n 0, 1) := by decide +kernel
theorem d_Mo_putsOff_50 : decode m_Mo_putsOff.2.1 50 = .ok (.iload_n 1, 1) := by decide +kernel
theorem d_Mo_putsOff_51 : decode m_Mo_putsOff.2.1 51 = .ok (.iload_n 2, 1) := by decide +kernel
theorem d_Mo_putsOff_52 : decode m_Mo_putsOff.2.1 52 = .ok (.invokevirtual 391, 3) := by decide +kernel
theorem d_Mo_putsOff_55 : decode m_Mo_putsOff.2.1 55 = .ok (.goto 9, 3) := by decide +kernel
theorem d_Mo_putsOff_58 : decode m_Mo_putsOff.2.1 58 = .ok (.aload_n 0, 1) := by decide +kernel
theorem d_Mo_putsOff_59 : decode m_Mo_putsOff.2.1 59 = .ok (.iload_n 1, 1) := by decide +kernel
theorem d_Mo_putsOff_60 : decode m_Mo_putsOff.2.1 60 = .ok (.iload_n 2, 1) := by decide +kernel
theorem d_Mo_putsOff_61 : decode m_Mo_putsOff.2.1 61 = .ok (.invokevirtual 394, 3) := by decide +kernel
theorem d_Mo_putsOff_64 : decode m_Mo_putsOff.2.1 64 = .ok (.istore 5, 2) := by decide +kernel
theorem d_Mo_putsOff_66 : decode m_Mo_putsOff.2.1 66 = .ok (.iload 4, 2) := by decide +kernel
theorem d_Mo_putsOff_68 : decode m_Mo_putsOff.2.1 68 = .ok (.ifCond .ne 8, 3) := by decide +kernel
theorem d_Mo_putsOff_71 : decode m_Mo_putsOff.2.1 71 = .ok (.iload 5, 2) := by decide +kernel
theorem d_Mo_putsOff_73 : decode m_Mo_putsOff.2.1 73 = .ok (.goto 9, 3) := by decide +kernel
theorem d_Mo_putsOff_76 : decode m_Mo_putsOff.2.1 76 = .ok (.aload_n 0, 1) := by decide +kernel
theorem d_Mo_putsOff_77 : decode m_Mo_putsOff.2.1 77 = .ok (.iload 5, 2) := by decide +kernel
theorem d_Mo_putsOff_79 : decode m_Mo_putsOff.2.1 79 = .ok (.invokevirtual 370, 3) := by decide +kernel
theorem d_Mo_putsOff_82 : decode m_Mo_putsOff.2.1 82 = .ok (.ireturn, 1) := by decide +kernel
def f_Mo_putsOff_64 (S : St) (l4 : Int32) (s0 : Int32) : Option (Int32 × St) :=
    if l4 = 0 then (
    some (s0, S))
    else (
    (f_Mo_octet S s0).bind fun v_79 =>
    some (v_79, S))
set_option maxHeartbeats 4000000 in
set_option maxRecDepth 20000 in
theorem t_Mo_putsOff_64  (S : St) (l4 : Int32) (s0 : Int32) (w : Int32 × St) (h : f_Mo_putsOff_64 S l4 s0 = some w) : G SM m_Mo_putsOff 4 (some w.1) w.2 64 [(0, .ref 0), (4, .int l4)] [.int s0] S := by
  unfold f_Mo_putsOff_64 at h
  refine G_istore [(5, .int s0), (0, .ref 0), (4, .int l4)] rfl rfl (by decide) d_Mo_putsOff_64 ?_
  refine G_iload 2 rfl d_Mo_putsOff_66 ?_
  refine G_if_ne 76 (by decide) d_Mo_putsOff_68 (fun c_68 => ?_) (fun c_68 => ?_)
  · replace h := ob_f h c_68
    refine G_aload_n 1 rfl d_Mo_putsOff_76 ?_
    refine G_iload 0 rfl d_Mo_putsOff_77 ?_
    obtain ⟨v_79, q_79, h⟩ := ob_b h
    refine G_callV [.int s0] [] (t_Mo_octet q_79) (by decide) (by decide) mv_Mo_octet rfl ml_Mo_370 km_0 sm_0 cl_12 rfl (Nat.le_of_ble_eq_true rfl) d_Mo_putsOff_79 ?_
    cases h
    exact G_iret rfl d_Mo_putsOff_82
  · replace h := ob_t h c_68
    refine G_iload 0 rfl d_Mo_putsOff_71 ?_
    refine G_goto 82 (by decide) d_Mo_putsOff_73 ?_
    cases h
    exact G_iret rfl d_Mo_putsOff_82
def f_Mo_putsOff (S : St) (l1 : Int32) (l2 : Int32) (l3 : Int32) (l4 : Int32) : Option (Int32 × St) :=
    (f_Mo_in S l1 (1 : Int32) (16 : Int32)).bind fun v_4 =>
    if v_4 = 0 then (
    some ((-1), S))
    else (
    (f_Mo_in S l2 (1 : Int32) (10 : Int32)).bind fun v_14 =>
    if v_14 = 0 then (
    some ((-1), S))
    else (
    (f_Mo_in S l4 (0 : Int32) (1 : Int32)).bind fun v_24 =>
    if v_24 = 0 then (
    some ((-1), S))
    else (
    if l1 ≤ (S 0 7) then (
    (some (sF S 0 7 0)).bind fun S_42 =>
    if l3 = 0 then (
    (f_Mo_unknowing S_42 l1 l2).bind fun v_61 =>
    f_Mo_putsOff_64 S_42 l4 v_61)
    else (
    (f_Mo_knowing S_42 l1 l2).bind fun v_52 =>
    f_Mo_putsOff_64 S_42 l4 v_52))
    else (
    some ((-1), S)))))
set_option maxHeartbeats 4000000 in
set_option maxRecDepth 20000 in
theorem t_Mo_putsOff  {S : St} {l1 : Int32} {l2 : Int32} {l3 : Int32} {l4 : Int32} {w : Int32 × St} (h : f_Mo_putsOff S l1 l2 l3 l4 = some w) : Ct SM m_Mo_putsOff 4 [.ref 0, .int l1, .int l2, .int l3, .int l4] S (some w.1) w.2 := by
  unfold f_Mo_putsOff at h
  refine Ct.of pn_Mo (Nat.le_of_ble_eq_true rfl) ?_
  show G SM m_Mo_putsOff 4 (some w.1) w.2 0 [(0, .ref 0), (1, .int l1), (2, .int l2), (3, .int l3), (4, .int l4)] [] S
  refine G_iload_n 1 rfl d_Mo_putsOff_0 ?_
  refine G_iconst 1 (by decide) d_Mo_putsOff_1 ?_
  refine G_bipush 16 (by decide) d_Mo_putsOff_2 ?_
  obtain ⟨v_4, q_4, h⟩ := ob_b h
  refine G_callS [.int l1, .int 1, .int 16] [] (t_Mo_in q_4) (by decide) (by decide) mt_Mo_in rfl ml_Mo_124 rfl (Nat.le_of_ble_eq_true rfl) d_Mo_putsOff_4 ?_
  refine G_if_eq 38 (by decide) d_Mo_putsOff_7 (fun c_7 => ?_) (fun c_7 => ?_)
  · replace h := ob_t h c_7
    refine G_iconst (-1) (by decide) d_Mo_putsOff_38 ?_
    cases h
    exact G_iret rfl d_Mo_putsOff_39
  · replace h := ob_f h c_7
    refine G_iload_n 2 rfl d_Mo_putsOff_10 ?_
    refine G_iconst 1 (by decide) d_Mo_putsOff_11 ?_
    refine G_bipush 10 (by decide) d_Mo_putsOff_12 ?_
    obtain ⟨v_14, q_14, h⟩ := ob_b h
    refine G_callS [.int l2, .int 1, .int 10] [] (t_Mo_in q_14) (by decide) (by decide) mt_Mo_in rfl ml_Mo_124 rfl (Nat.le_of_ble_eq_true rfl) d_Mo_putsOff_14 ?_
    refine G_if_eq 38 (by decide) d_Mo_putsOff_17 (fun c_17 => ?_) (fun c_17 => ?_)
    · replace h := ob_t h c_17
      refine G_iconst (-1) (by decide) d_Mo_putsOff_38 ?_
      cases h
      exact G_iret rfl d_Mo_putsOff_39
    · replace h := ob_f h c_17
      refine G_iload 4 rfl d_Mo_putsOff_20 ?_
      refine G_iconst 0 (by decide) d_Mo_putsOff_22 ?_
      refine G_iconst 1 (by decide) d_Mo_putsOff_23 ?_
      obtain ⟨v_24, q_24, h⟩ := ob_b h
      refine G_callS [.int l4, .int 0, .int 1] [] (t_Mo_in q_24) (by decide) (by decide) mt_Mo_in rfl ml_Mo_124 rfl (Nat.le_of_ble_eq_true rfl) d_Mo_putsOff_24 ?_
      refine G_if_eq 38 (by decide) d_Mo_putsOff_27 (fun c_27 => ?_) (fun c_27 => ?_)
      · replace h := ob_t h c_27
        refine G_iconst (-1) (by decide) d_Mo_putsOff_38 ?_
        cases h
        exact G_iret rfl d_Mo_putsOff_39
      · replace h := ob_f h c_27
        refine G_iload_n 1 rfl d_Mo_putsOff_30 ?_
        refine G_aload_n 0 rfl d_Mo_putsOff_31 ?_
        refine G_getI fl_Mo_135 km_0 sm_0 rfl d_Mo_putsOff_32 ?_
        refine G_icmp_le 40 (by decide) d_Mo_putsOff_35 (fun c_35 => ?_) (fun c_35 => ?_)
        · replace h := ob_t h c_35
          refine G_aload_n 0 rfl d_Mo_putsOff_40 ?_
          refine G_iconst 0 (by decide) d_Mo_putsOff_41 ?_
          obtain ⟨S_42, e_42, h⟩ := ob_s h
          refine G_putI e_42 fp_Mo_135 km_0 sm_0 rfl d_Mo_putsOff_42 ?_
          refine G_iload_n 3 rfl d_Mo_putsOff_45 ?_
          refine G_if_eq 58 (by decide) d_Mo_putsOff_46 (fun c_46 => ?_) (fun c_46 => ?_)
          · replace h := ob_t h c_46
            refine G_aload_n 0 rfl d_Mo_putsOff_58 ?_
            refine G_iload_n 1 rfl d_Mo_putsOff_59 ?_
            refine G_iload_n 2 rfl d_Mo_putsOff_60 ?_
            obtain ⟨v_61, q_61, h⟩ := ob_b h
            refine G_callV [.int l1, .int l2] [] (t_Mo_unknowing q_61) (by decide) (by decide) mv_Mo_unknowing rfl ml_Mo_394 km_0 sm_0 cl_12 rfl (Nat.le_of_ble_eq_true rfl) d_Mo_putsOff_61 ?_
            exact G_sub _ [0, 4] rfl (t_Mo_putsOff_64 S_42 l4 v_61 _ h)
          · replace h := ob_f h c_46
            refine G_aload_n 0 rfl d_Mo_putsOff_49 ?_
            refine G_iload_n 1 rfl d_Mo_putsOff_50 ?_
            refine G_iload_n 2 rfl d_Mo_putsOff_51 ?_
            obtain ⟨v_52, q_52, h⟩ := ob_b h
            refine G_callV [.int l1, .int l2] [] (t_Mo_knowing q_52) (by decide) (by decide) mv_Mo_knowing rfl ml_Mo_391 km_0 sm_0 cl_12 rfl (Nat.le_of_ble_eq_true rfl) d_Mo_putsOff_52 ?_
            refine G_goto 64 (by decide) d_Mo_putsOff_55 ?_
            exact G_sub _ [0, 4] rfl (t_Mo_putsOff_64 S_42 l4 v_52 _ h)
        · replace h := ob_f h c_35
          refine G_iconst (-1) (by decide) d_Mo_putsOff_38 ?_
          cases h
          exact G_iret rfl d_Mo_putsOff_39
theorem d_Mo_cord_0 : decode m_Mo_cord.2.1 0 = .ok (.iload_n 1, 1) := by decide +kernel
theorem d_Mo_cord_1 : decode m_Mo_cord.2.1 1 = .ok (.iconst 2, 1) := by decide +kernel
theorem d_Mo_cord_2 : decode m_Mo_cord.2.1 2 = .ok (.bipush 12, 2) := by decide +kernel
theorem d_Mo_cord_4 : decode m_Mo_cord.2.1 4 = .ok (.invokestatic 124, 3) := by decide +kernel
theorem d_Mo_cord_7 : decode m_Mo_cord.2.1 7 = .ok (.ifCond .eq 21, 3) := by decide +kernel
theorem d_Mo_cord_10 : decode m_Mo_cord.2.1 10 = .ok (.iload_n 2, 1) := by decide +kernel
theorem d_Mo_cord_11 : decode m_Mo_cord.2.1 11 = .ok (.iconst 1, 1) := by decide +kernel
theorem d_Mo_cord_12 : decode m_Mo_cord.2.1 12 = .ok (.bipush 8, 2) := by decide +kernel
theorem d_Mo_cord_14 : decode m_Mo_cord.2.1 14 = .ok (.invokestatic 124, 3) := by decide +kernel
theorem d_Mo_cord_17 : decode m_Mo_cord.2.1 17 = .ok (.ifCond .eq 11, 3) := by decide +kernel
theorem d_Mo_cord_20 : decode m_Mo_cord.2.1 20 = .ok (.iload_n 1, 1) := by decide +kernel
theorem d_Mo_cord_21 : decode m_Mo_cord.2.1 21 = .ok (.aload_n 0, 1) := by decide +kernel
theorem d_Mo_cord_22 : decode m_Mo_cord.2.1 22 = .ok (.getfield 135, 3) := by decide +kernel
theorem d_Mo_cord_25 : decode m_Mo_cord.2.1 25 = .ok (.if_icmp .le 5, 3) := by decide +kernel
theorem d_Mo_cord_28 : decode m_Mo_cord.2.1 28 = .ok (.iconst (-1), 1) := by decide +kernel
theorem d_Mo_cord_29 : decode m_Mo_cord.2.1 29 = .ok (.ireturn, 1) := by decide +kernel
theorem d_Mo_cord_30 : decode m_Mo_cord.2.1 30 = .ok (.aload_n 0, 1) := by decide +kernel
theorem d_Mo_cord_31 : decode m_Mo_cord.2.1 31 = .ok (.iconst 0, 1) := by decide +kernel
theorem d_Mo_cord_32 : decode m_Mo_cord.2.1 32 = .ok (.putfield 135, 3) := by decide +kernel
theorem d_Mo_cord_35 : decode m_Mo_cord.2.1 35 = .ok (.iconst 0, 1) := by decide +kernel
theorem d_Mo_cord_36 : decode m_Mo_cord.2.1 36 = .ok (.istore_n 3, 1) := by decide +kernel
theorem d_Mo_cord_37 : decode m_Mo_cord.2.1 37 = .ok (.iconst 1, 1) := by decide +kernel
theorem d_Mo_cord_38 : decode m_Mo_cord.2.1 38 = .ok (.istore 4, 2) := by decide +kernel
theorem d_Mo_cord_40 : decode m_Mo_cord.2.1 40 = .ok (.iload 4, 2) := by decide +kernel
theorem d_Mo_cord_42 : decode m_Mo_cord.2.1 42 = .ok (.sipush 3060, 3) := by decide +kernel
theorem d_Mo_cord_45 : decode m_Mo_cord.2.1 45 = .ok (.if_icmp .gt 55, 3) := by decide +kernel
theorem d_Mo_cord_48 : decode m_Mo_cord.2.1 48 = .ok (.iconst 0, 1) := by decide +kernel
theorem d_Mo_cord_49 : decode m_Mo_cord.2.1 49 = .ok (.istore 5, 2) := by decide +kernel
theorem d_Mo_cord_51 : decode m_Mo_cord.2.1 51 = .ok (.iconst 0, 1) := by decide +kernel
theorem d_Mo_cord_52 : decode m_Mo_cord.2.1 52 = .ok (.istore 6, 2) := by decide +kernel
theorem d_Mo_cord_54 : decode m_Mo_cord.2.1 54 = .ok (.iload 6, 2) := by decide +kernel
theorem d_Mo_cord_56 : decode m_Mo_cord.2.1 56 = .ok (.iload_n 1, 1) := by decide +kernel
theorem d_Mo_cord_57 : decode m_Mo_cord.2.1 57 = .ok (.if_icmp .ge 25, 3) := by decide +kernel
theorem d_Mo_cord_60 : decode m_Mo_cord.2.1 60 = .ok (.iload 5, 2) := by decide +kernel
theorem d_Mo_cord_62 : decode m_Mo_cord.2.1 62 = .ok (.aload_n 0, 1) := by decide +kernel
theorem d_Mo_cord_63 : decode m_Mo_cord.2.1 63 = .ok (.iload 6, 2) := by decide +kernel
theorem d_Mo_cord_65 : decode m_Mo_cord.2.1 65 = .ok (.invokevirtual 370, 3) := by decide +kernel
theorem d_Mo_cord_68 : decode m_Mo_cord.2.1 68 = .ok (.iload 4, 2) := by decide +kernel
theorem d_Mo_cord_70 : decode m_Mo_cord.2.1 70 = .ok (.invokestatic 271, 3) := by decide +kernel
theorem d_Mo_cord_73 : decode m_Mo_cord.2.1 73 = .ok (.iadd, 1) := by decide +kernel
theorem d_Mo_cord_74 : decode m_Mo_cord.2.1 74 = .ok (.istore 5, 2) := by decide +kernel
theorem d_Mo_cord_76 : decode m_Mo_cord.2.1 76 = .ok (.iinc 6 1, 3) := by decide +kernel
theorem d_Mo_cord_79 : decode m_Mo_cord.2.1 79 = .ok (.goto (-25), 3) := by decide +kernel
theorem d_Mo_cord_82 : decode m_Mo_cord.2.1 82 = .ok (.iload 5, 2) := by decide +kernel
theorem d_Mo_cord_84 : decode m_Mo_cord.2.1 84 = .ok (.iload_n 2, 1) := by decide +kernel
theorem d_Mo_cord_85 : decode m_Mo_cord.2.1 85 = .ok (.iload 4, 2) := by decide +kernel
theorem d_Mo_cord_87 : decode m_Mo_cord.2.1 87 = .ok (.imul, 1) := by decide +kernel
theorem d_Mo_cord_88 : decode m_Mo_cord.2.1 88 = .ok (.if_icmp .lt 6, 3) := by decide +kernel
theorem d_Mo_cord_91 : decode m_Mo_cord.2.1 91 = .ok (.iload 4, 2) := by decide +kernel
theorem d_Mo_cord_93 : decode m_Mo_cord.2.1 93 = .ok (.istore_n 3, 1) := by decide +kernel
theorem d_Mo_cord_94 : decode m_Mo_cord.2.1 94 = .ok (.iinc 4 1, 3) := by decide +kernel
theorem d_Mo_cord_97 : decode m_Mo_cord.2.1 97 = .ok (.goto (-57), 3) := by decide +kernel
theorem d_Mo_cord_100 : decode m_Mo_cord.2.1 100 = .ok (.iload_n 3, 1) := by decide +kernel
theorem d_Mo_cord_101 : decode m_Mo_cord.2.1 101 = .ok (.ireturn, 1) := by decide +kernel
def f_Mo_cord_94 (k_40 : St → Int32 → Int32 → Int32 → Int32 → Option (Int32 × St)) (S : St) (l1 : Int32) (l2 : Int32) (l3 : Int32) (l4 : Int32) : Option (Int32 × St) :=
    (some (l4 + 1)).bind fun l4_94 =>
    k_40 S l1 l2 l3 l4_94
set_option maxHeartbeats 4000000 in
set_option maxRecDepth 20000 in
theorem t_Mo_cord_94  {k_40 : St → Int32 → Int32 → Int32 → Int32 → Option (Int32 × St)} (hk_40 : ∀ (S : St) (l1 : Int32) (l2 : Int32) (l3 : Int32) (l4 : Int32) (w : Int32 × St), k_40 S l1 l2 l3 l4 = some w → G SM m_Mo_cord 2 (some w.1) w.2 40 [(0, .ref 0), (1, .int l1), (2, .int l2), (3, .int l3), (4, .int l4)] [] S) (S : St) (l1 : Int32) (l2 : Int32) (l3 : Int32) (l4 : Int32) (w : Int32 × St) (h : f_Mo_cord_94 k_40 S l1 l2 l3 l4 = some w) : G SM m_Mo_cord 2 (some w.1) w.2 94 [(0, .ref 0), (1, .int l1), (2, .int l2), (3, .int l3), (4, .int l4)] [] S := by
  unfold f_Mo_cord_94 at h
  obtain ⟨l4_94, e_94, h⟩ := ob_s h
  refine G_iinc 1 4 [(4, .int l4_94), (0, .ref 0), (1, .int l1), (2, .int l2), (3, .int l3)] (by decide) rfl e_94 rfl (by decide) d_Mo_cord_94 ?_
  refine G_goto 40 (by decide) d_Mo_cord_97 ?_
  exact G_sub _ [1, 2, 3, 4, 0] rfl (hk_40 S l1 l2 l3 l4_94 _ h)
def f_Mo_cord_54 (k_40 : St → Int32 → Int32 → Int32 → Int32 → Option (Int32 × St)) : Nat → St → Int32 → Int32 → Int32 → Int32 → Int32 → Int32 → Option (Int32 × St)
  | 0, _, _, _, _, _, _, _ => none
  | n + 1, S, l1, l2, l3, l4, l5, l6 =>
    if l1 ≤ l6 then (
    if l5 < (l2 * l4) then (
    f_Mo_cord_94 k_40 S l1 l2 l3 l4)
    else (
    f_Mo_cord_94 k_40 S l1 l2 l4 l4))
    else (
    (f_Mo_octet S l6).bind fun v_65 =>
    (f_Mo_min S v_65 l4).bind fun v_70 =>
    (some (l5 + v_70)).bind fun l5_74 =>
    (some (l6 + 1)).bind fun l6_76 =>
    f_Mo_cord_54 k_40 n S l1 l2 l3 l4 l5_74 l6_76)
set_option maxHeartbeats 4000000 in
set_option maxRecDepth 20000 in
theorem t_Mo_cord_54  {k_40 : St → Int32 → Int32 → Int32 → Int32 → Option (Int32 × St)} (hk_40 : ∀ (S : St) (l1 : Int32) (l2 : Int32) (l3 : Int32) (l4 : Int32) (w : Int32 × St), k_40 S l1 l2 l3 l4 = some w → G SM m_Mo_cord 2 (some w.1) w.2 40 [(0, .ref 0), (1, .int l1), (2, .int l2), (3, .int l3), (4, .int l4)] [] S) : ∀ (n : Nat) (S : St) (l1 : Int32) (l2 : Int32) (l3 : Int32) (l4 : Int32) (l5 : Int32) (l6 : Int32) (w : Int32 × St), f_Mo_cord_54 k_40 n S l1 l2 l3 l4 l5 l6 = some w → G SM m_Mo_cord 2 (some w.1) w.2 54 [(0, .ref 0), (1, .int l1), (2, .int l2), (3, .int l3), (4, .int l4), (5, .int l5), (6, .int l6)] [] S := by
  intro n
  induction n with
  | zero =>
    intro S l1 l2 l3 l4 l5 l6 w h
    rw [f_Mo_cord_54] at h
    cases h
  | succ n ih =>
    intro S l1 l2 l3 l4 l5 l6 w h
    rw [f_Mo_cord_54] at h
    refine G_iload 6 rfl d_Mo_cord_54 ?_
    refine G_iload_n 1 rfl d_Mo_cord_56 ?_
    refine G_icmp_ge 82 (by decide) d_Mo_cord_57 (fun c_57 => ?_) (fun c_57 => ?_)
    · replace h := ob_t h c_57
      refine G_iload 5 rfl d_Mo_cord_82 ?_
      refine G_iload_n 2 rfl d_Mo_cord_84 ?_
      refine G_iload 4 rfl d_Mo_cord_85 ?_
      refine G_imul d_Mo_cord_87 ?_
      refine G_icmp_lt 94 (by decide) d_Mo_cord_88 (fun c_88 => ?_) (fun c_88 => ?_)
      · replace h := ob_t h c_88
        exact G_sub _ [0, 1, 2, 3, 4] rfl (t_Mo_cord_94 hk_40 S l1 l2 l3 l4 _ h)
      · replace h := ob_f h c_88
        refine G_iload 4 rfl d_Mo_cord_91 ?_
        refine G_istore_n [(3, .int l4), (0, .ref 0), (1, .int l1), (2, .int l2), (4, .int l4), (5, .int l5), (6, .int l6)] rfl rfl (by decide) d_Mo_cord_93 ?_
        exact G_sub _ [1, 2, 3, 0, 4] rfl (t_Mo_cord_94 hk_40 S l1 l2 l4 l4 _ h)
    · replace h := ob_f h c_57
      refine G_iload 5 rfl d_Mo_cord_60 ?_
      refine G_aload_n 0 rfl d_Mo_cord_62 ?_
      refine G_iload 6 rfl d_Mo_cord_63 ?_
      obtain ⟨v_65, q_65, h⟩ := ob_b h
      refine G_callV [.int l6] [.int l5] (t_Mo_octet q_65) (by decide) (by decide) mv_Mo_octet rfl ml_Mo_370 km_0 sm_0 cl_12 rfl (Nat.le_of_ble_eq_true rfl) d_Mo_cord_65 ?_
      refine G_iload 4 rfl d_Mo_cord_68 ?_
      obtain ⟨v_70, q_70, h⟩ := ob_b h
      refine G_callS [.int v_65, .int l4] [.int l5] (t_Mo_min q_70) (by decide) (by decide) mt_Mo_min rfl ml_Mo_271 rfl (Nat.le_of_ble_eq_true rfl) d_Mo_cord_70 ?_
      refine G_iadd d_Mo_cord_73 ?_
      obtain ⟨l5_74, e_74, h⟩ := ob_s h
      refine G_istore [(5, .int l5_74), (0, .ref 0), (1, .int l1), (2, .int l2), (3, .int l3), (4, .int l4), (6, .int l6)] e_74 rfl (by decide) d_Mo_cord_74 ?_
      obtain ⟨l6_76, e_76, h⟩ := ob_s h
      refine G_iinc 1 6 [(6, .int l6_76), (5, .int l5_74), (0, .ref 0), (1, .int l1), (2, .int l2), (3, .int l3), (4, .int l4)] (by decide) rfl e_76 rfl (by decide) d_Mo_cord_76 ?_
      refine G_goto 54 (by decide) d_Mo_cord_79 ?_
      exact G_sub _ [2, 3, 4, 5, 6, 1, 0] rfl (ih S l1 l2 l3 l4 l5_74 l6_76 _ h)
def f_Mo_cord_40 : Nat → St → Int32 → Int32 → Int32 → Int32 → Option (Int32 × St)
  | 0, _, _, _, _, _ => none
  | n + 1, S, l1, l2, l3, l4 =>
    if (3060 : Int32) < l4 then (
    some (l3, S))
    else (
    (some (0 : Int32)).bind fun l5_49 =>
    (some (0 : Int32)).bind fun l6_52 =>
    f_Mo_cord_54 (f_Mo_cord_40 n) FU S l1 l2 l3 l4 l5_49 l6_52)
set_option maxHeartbeats 4000000 in
set_option maxRecDepth 20000 in
theorem t_Mo_cord_40  : ∀ (n : Nat) (S : St) (l1 : Int32) (l2 : Int32) (l3 : Int32) (l4 : Int32) (w : Int32 × St), f_Mo_cord_40 n S l1 l2 l3 l4 = some w → G SM m_Mo_cord 2 (some w.1) w.2 40 [(0, .ref 0), (1, .int l1), (2, .int l2), (3, .int l3), (4, .int l4)] [] S := by
  intro n
  induction n with
  | zero =>
    intro S l1 l2 l3 l4 w h
    rw [f_Mo_cord_40] at h
    cases h
  | succ n ih =>
    intro S l1 l2 l3 l4 w h
    rw [f_Mo_cord_40] at h
    refine G_iload 4 rfl d_Mo_cord_40 ?_
    refine G_sipush 3060 (by decide) d_Mo_cord_42 ?_
    refine G_icmp_gt 100 (by decide) d_Mo_cord_45 (fun c_45 => ?_) (fun c_45 => ?_)
    · replace h := ob_t h c_45
      refine G_iload_n 3 rfl d_Mo_cord_100 ?_
      cases h
      exact G_iret rfl d_Mo_cord_101
    · replace h := ob_f h c_45
      refine G_iconst 0 (by decide) d_Mo_cord_48 ?_
      obtain ⟨l5_49, e_49, h⟩ := ob_s h
      refine G_istore [(5, .int l5_49), (0, .ref 0), (1, .int l1), (2, .int l2), (3, .int l3), (4, .int l4)] e_49 rfl (by decide) d_Mo_cord_49 ?_
      refine G_iconst 0 (by decide) d_Mo_cord_51 ?_
      obtain ⟨l6_52, e_52, h⟩ := ob_s h
      refine G_istore [(6, .int l6_52), (5, .int l5_49), (0, .ref 0), (1, .int l1), (2, .int l2), (3, .int l3), (4, .int l4)] e_52 rfl (by decide) d_Mo_cord_52 ?_
      exact G_sub _ [2, 3, 4, 5, 6, 1, 0] rfl (t_Mo_cord_54 ih FU S l1 l2 l3 l4 l5_49 l6_52 _ h)
def f_Mo_cord (S : St) (l1 : Int32) (l2 : Int32) : Option (Int32 × St) :=
    (f_Mo_in S l1 (2 : Int32) (12 : Int32)).bind fun v_4 =>
    if v_4 = 0 then (
    some ((-1), S))
    else (
    (f_Mo_in S l2 (1 : Int32) (8 : Int32)).bind fun v_14 =>
    if v_14 = 0 then (
    some ((-1), S))
    else (
    if l1 ≤ (S 0 7) then (
    (some (sF S 0 7 0)).bind fun S_32 =>
    (some (0 : Int32)).bind fun l3_36 =>
    (some (1 : Int32)).bind fun l4_38 =>
    f_Mo_cord_40 FU S_32 l1 l2 l3_36 l4_38)
    else (
    some ((-1), S))))
set_option maxHeartbeats 4000000 in
set_option maxRecDepth 20000 in
theorem t_Mo_cord  {S : St} {l1 : Int32} {l2 : Int32} {w : Int32 × St} (h : f_Mo_cord S l1 l2 = some w) : Ct SM m_Mo_cord 2 [.ref 0, .int l1, .int l2] S (some w.1) w.2 := by
  unfold f_Mo_cord at h
  refine Ct.of pn_Mo (Nat.le_of_ble_eq_true rfl) ?_
  show G SM m_Mo_cord 2 (some w.1) w.2 0 [(0, .ref 0), (1, .int l1), (2, .int l2)] [] S
  refine G_iload_n 1 rfl d_Mo_cord_0 ?_
  refine G_iconst 2 (by decide) d_Mo_cord_1 ?_
  refine G_bipush 12 (by decide) d_Mo_cord_2 ?_
  obtain ⟨v_4, q_4, h⟩ := ob_b h
  refine G_callS [.int l1, .int 2, .int 12] [] (t_Mo_in q_4) (by decide) (by decide) mt_Mo_in rfl ml_Mo_124 rfl (Nat.le_of_ble_eq_true rfl) d_Mo_cord_4 ?_
  refine G_if_eq 28 (by decide) d_Mo_cord_7 (fun c_7 => ?_) (fun c_7 => ?_)
  · replace h := ob_t h c_7
    refine G_iconst (-1) (by decide) d_Mo_cord_28 ?_
    cases h
    exact G_iret rfl d_Mo_cord_29
  · replace h := ob_f h c_7
    refine G_iload_n 2 rfl d_Mo_cord_10 ?_
    refine G_iconst 1 (by decide) d_Mo_cord_11 ?_
    refine G_bipush 8 (by decide) d_Mo_cord_12 ?_
    obtain ⟨v_14, q_14, h⟩ := ob_b h
    refine G_callS [.int l2, .int 1, .int 8] [] (t_Mo_in q_14) (by decide) (by decide) mt_Mo_in rfl ml_Mo_124 rfl (Nat.le_of_ble_eq_true rfl) d_Mo_cord_14 ?_
    refine G_if_eq 28 (by decide) d_Mo_cord_17 (fun c_17 => ?_) (fun c_17 => ?_)
    · replace h := ob_t h c_17
      refine G_iconst (-1) (by decide) d_Mo_cord_28 ?_
      cases h
      exact G_iret rfl d_Mo_cord_29
    · replace h := ob_f h c_17
      refine G_iload_n 1 rfl d_Mo_cord_20 ?_
      refine G_aload_n 0 rfl d_Mo_cord_21 ?_
      refine G_getI fl_Mo_135 km_0 sm_0 rfl d_Mo_cord_22 ?_
      refine G_icmp_le 30 (by decide) d_Mo_cord_25 (fun c_25 => ?_) (fun c_25 => ?_)
      · replace h := ob_t h c_25
        refine G_aload_n 0 rfl d_Mo_cord_30 ?_
        refine G_iconst 0 (by decide) d_Mo_cord_31 ?_
        obtain ⟨S_32, e_32, h⟩ := ob_s h
        refine G_putI e_32 fp_Mo_135 km_0 sm_0 rfl d_Mo_cord_32 ?_
        refine G_iconst 0 (by decide) d_Mo_cord_35 ?_
        obtain ⟨l3_36, e_36, h⟩ := ob_s h
        refine G_istore_n [(3, .int l3_36), (0, .ref 0), (1, .int l1), (2, .int l2)] e_36 rfl (by decide) d_Mo_cord_36 ?_
        refine G_iconst 1 (by decide) d_Mo_cord_37 ?_
        obtain ⟨l4_38, e_38, h⟩ := ob_s h
        refine G_istore [(4, .int l4_38), (3, .int l3_36), (0, .ref 0), (1, .int l1), (2, .int l2)] e_38 rfl (by decide) d_Mo_cord_38 ?_
        exact G_sub _ [2, 3, 4, 1, 0] rfl (t_Mo_cord_40 FU S_32 l1 l2 l3_36 l4_38 _ h)
      · replace h := ob_f h c_25
        refine G_iconst (-1) (by decide) d_Mo_cord_28 ?_
        cases h
        exact G_iret rfl d_Mo_cord_29
theorem d_Mo_isSeen_0 : decode m_Mo_isSeen.2.1 0 = .ok (.aload_n 0, 1) := by decide +kernel
theorem d_Mo_isSeen_1 : decode m_Mo_isSeen.2.1 1 = .ok (.iconst 2, 1) := by decide +kernel
theorem d_Mo_isSeen_2 : decode m_Mo_isSeen.2.1 2 = .ok (.iload_n 1, 1) := by decide +kernel
theorem d_Mo_isSeen_3 : decode m_Mo_isSeen.2.1 3 = .ok (.imul, 1) := by decide +kernel
theorem d_Mo_isSeen_4 : decode m_Mo_isSeen.2.1 4 = .ok (.invokevirtual 370, 3) := by decide +kernel
theorem d_Mo_isSeen_7 : decode m_Mo_isSeen.2.1 7 = .ok (.iload_n 2, 1) := by decide +kernel
theorem d_Mo_isSeen_8 : decode m_Mo_isSeen.2.1 8 = .ok (.isub, 1) := by decide +kernel
theorem d_Mo_isSeen_9 : decode m_Mo_isSeen.2.1 9 = .ok (.invokestatic 341, 3) := by decide +kernel
theorem d_Mo_isSeen_12 : decode m_Mo_isSeen.2.1 12 = .ok (.aload_n 0, 1) := by decide +kernel
theorem d_Mo_isSeen_13 : decode m_Mo_isSeen.2.1 13 = .ok (.iconst 2, 1) := by decide +kernel
theorem d_Mo_isSeen_14 : decode m_Mo_isSeen.2.1 14 = .ok (.iload_n 1, 1) := by decide +kernel
theorem d_Mo_isSeen_15 : decode m_Mo_isSeen.2.1 15 = .ok (.imul, 1) := by decide +kernel
theorem d_Mo_isSeen_16 : decode m_Mo_isSeen.2.1 16 = .ok (.iconst 1, 1) := by decide +kernel
theorem d_Mo_isSeen_17 : decode m_Mo_isSeen.2.1 17 = .ok (.iadd, 1) := by decide +kernel
theorem d_Mo_isSeen_18 : decode m_Mo_isSeen.2.1 18 = .ok (.invokevirtual 370, 3) := by decide +kernel
theorem d_Mo_isSeen_21 : decode m_Mo_isSeen.2.1 21 = .ok (.if_icmp .gt 7, 3) := by decide +kernel
theorem d_Mo_isSeen_24 : decode m_Mo_isSeen.2.1 24 = .ok (.iconst 1, 1) := by decide +kernel
theorem d_Mo_isSeen_25 : decode m_Mo_isSeen.2.1 25 = .ok (.goto 4, 3) := by decide +kernel
theorem d_Mo_isSeen_28 : decode m_Mo_isSeen.2.1 28 = .ok (.iconst 0, 1) := by decide +kernel
theorem d_Mo_isSeen_29 : decode m_Mo_isSeen.2.1 29 = .ok (.ireturn, 1) := by decide +kernel
def f_Mo_isSeen (S : St) (l1 : Int32) (l2 : Int32) : Option (Int32) :=
    (f_Mo_octet S (2 * l1)).bind fun v_4 =>
    (f_Mo_size S (v_4 - l2)).bind fun v_9 =>
    (f_Mo_octet S ((2 * l1) + 1)).bind fun v_18 =>
    if v_18 < v_9 then (
    some (0 : Int32))
    else (
    some (1 : Int32))
set_option maxHeartbeats 4000000 in
set_option maxRecDepth 20000 in
theorem t_Mo_isSeen  {S : St} {l1 : Int32} {l2 : Int32} {w : Int32} (h : f_Mo_isSeen S l1 l2 = some w) : Ct SM m_Mo_isSeen 2 [.ref 0, .int l1, .int l2] S (some w) S := by
  unfold f_Mo_isSeen at h
  refine Ct.of pn_Mo (Nat.le_of_ble_eq_true rfl) ?_
  show G SM m_Mo_isSeen 2 (some w) S 0 [(0, .ref 0), (1, .int l1), (2, .int l2)] [] S
  refine G_aload_n 0 rfl d_Mo_isSeen_0 ?_
  refine G_iconst 2 (by decide) d_Mo_isSeen_1 ?_
  refine G_iload_n 1 rfl d_Mo_isSeen_2 ?_
  refine G_imul d_Mo_isSeen_3 ?_
  obtain ⟨v_4, q_4, h⟩ := ob_b h
  refine G_callV [.int (2 * l1)] [] (t_Mo_octet q_4) (by decide) (by decide) mv_Mo_octet rfl ml_Mo_370 km_0 sm_0 cl_12 rfl (Nat.le_of_ble_eq_true rfl) d_Mo_isSeen_4 ?_
  refine G_iload_n 2 rfl d_Mo_isSeen_7 ?_
  refine G_isub d_Mo_isSeen_8 ?_
  obtain ⟨v_9, q_9, h⟩ := ob_b h
  refine G_callS [.int (v_4 - l2)] [] (t_Mo_size q_9) (by decide) (by decide) mt_Mo_size rfl ml_Mo_341 rfl (Nat.le_of_ble_eq_true rfl) d_Mo_isSeen_9 ?_
  refine G_aload_n 0 rfl d_Mo_isSeen_12 ?_
  refine G_iconst 2 (by decide) d_Mo_isSeen_13 ?_
  refine G_iload_n 1 rfl d_Mo_isSeen_14 ?_
  refine G_imul d_Mo_isSeen_15 ?_
  refine G_iconst 1 (by decide) d_Mo_isSeen_16 ?_
  refine G_iadd d_Mo_isSeen_17 ?_
  obtain ⟨v_18, q_18, h⟩ := ob_b h
  refine G_callV [.int ((2 * l1) + 1)] [.int v_9] (t_Mo_octet q_18) (by decide) (by decide) mv_Mo_octet rfl ml_Mo_370 km_0 sm_0 cl_12 rfl (Nat.le_of_ble_eq_true rfl) d_Mo_isSeen_18 ?_
  refine G_icmp_gt 28 (by decide) d_Mo_isSeen_21 (fun c_21 => ?_) (fun c_21 => ?_)
  · replace h := ob_t h c_21
    refine G_iconst 0 (by decide) d_Mo_isSeen_28 ?_
    cases h
    exact G_zret (Or.inl rfl) rfl d_Mo_isSeen_29
  · replace h := ob_f h c_21
    refine G_iconst 1 (by decide) d_Mo_isSeen_24 ?_
    refine G_goto 29 (by decide) d_Mo_isSeen_25 ?_
    cases h
    exact G_zret (Or.inr rfl) rfl d_Mo_isSeen_29
theorem d_Mo_seenAt_0 : decode m_Mo_seenAt.2.1 0 = .ok (.iconst 0, 1) := by decide +kernel
theorem d_Mo_seenAt_1 : decode m_Mo_seenAt.2.1 1 = .ok (.istore_n 3, 1) := by decide +kernel
theorem d_Mo_seenAt_2 : decode m_Mo_seenAt.2.1 2 = .ok (.iconst 0, 1) := by decide +kernel
theorem d_Mo_seenAt_3 : decode m_Mo_seenAt.2.1 3 = .ok (.istore 4, 2) := by decide +kernel
theorem d_Mo_seenAt_5 : decode m_Mo_seenAt.2.1 5 = .ok (.iload 4, 2) := by decide +kernel
theorem d_Mo_seenAt_7 : decode m_Mo_seenAt.2.1 7 = .ok (.iload_n 1, 1) := by decide +kernel
theorem d_Mo_seenAt_8 : decode m_Mo_seenAt.2.1 8 = .ok (.if_icmp .ge 23, 3) := by decide +kernel
theorem d_Mo_seenAt_11 : decode m_Mo_seenAt.2.1 11 = .ok (.aload_n 0, 1) := by decide +kernel
theorem d_Mo_seenAt_12 : decode m_Mo_seenAt.2.1 12 = .ok (.iload 4, 2) := by decide +kernel
theorem d_Mo_seenAt_14 : decode m_Mo_seenAt.2.1 14 = .ok (.iload_n 2, 1) := by decide +kernel
theorem d_Mo_seenAt_15 : decode m_Mo_seenAt.2.1 15 = .ok (.invokevirtual 397, 3) := by decide +kernel
theorem d_Mo_seenAt_18 : decode m_Mo_seenAt.2.1 18 = .ok (.ifCond .eq 7, 3) := by decide +kernel
theorem d_Mo_seenAt_21 : decode m_Mo_seenAt.2.1 21 = .ok (.iload_n 3, 1) := by decide +kernel
theorem d_Mo_seenAt_22 : decode m_Mo_seenAt.2.1 22 = .ok (.iconst 1, 1) := by decide +kernel
theorem d_Mo_seenAt_23 : decode m_Mo_seenAt.2.1 23 = .ok (.iadd, 1) := by decide +kernel
theorem d_Mo_seenAt_24 : decode m_Mo_seenAt.2.1 24 = .ok (.istore_n 3, 1) := by decide +kernel
theorem d_Mo_seenAt_25 : decode m_Mo_seenAt.2.1 25 = .ok (.iinc 4 1, 3) := by decide +kernel
theorem d_Mo_seenAt_28 : decode m_Mo_seenAt.2.1 28 = .ok (.goto (-23), 3) := by decide +kernel
theorem d_Mo_seenAt_31 : decode m_Mo_seenAt.2.1 31 = .ok (.iload_n 3, 1) := by decide +kernel
theorem d_Mo_seenAt_32 : decode m_Mo_seenAt.2.1 32 = .ok (.ireturn, 1) := by decide +kernel
def f_Mo_seenAt_25 (k_5 : St → Int32 → Int32 → Int32 → Int32 → Option (Int32)) (S : St) (l1 : Int32) (l2 : Int32) (l3 : Int32) (l4 : Int32) : Option (Int32) :=
    (some (l4 + 1)).bind fun l4_25 =>
    k_5 S l1 l2 l3 l4_25
set_option maxHeartbeats 4000000 in
set_option maxRecDepth 20000 in
theorem t_Mo_seenAt_25  {k_5 : St → Int32 → Int32 → Int32 → Int32 → Option (Int32)} (hk_5 : ∀ (S : St) (l1 : Int32) (l2 : Int32) (l3 : Int32) (l4 : Int32) (w : Int32), k_5 S l1 l2 l3 l4 = some w → G SM m_Mo_seenAt 3 (some w) S 5 [(0, .ref 0), (1, .int l1), (2, .int l2), (3, .int l3), (4, .int l4)] [] S) (S : St) (l1 : Int32) (l2 : Int32) (l3 : Int32) (l4 : Int32) (w : Int32) (h : f_Mo_seenAt_25 k_5 S l1 l2 l3 l4 = some w) : G SM m_Mo_seenAt 3 (some w) S 25 [(0, .ref 0), (1, .int l1), (2, .int l2), (3, .int l3), (4, .int l4)] [] S := by
  unfold f_Mo_seenAt_25 at h
  obtain ⟨l4_25, e_25, h⟩ := ob_s h
  refine G_iinc 1 4 [(4, .int l4_25), (0, .ref 0), (1, .int l1), (2, .int l2), (3, .int l3)] (by decide) rfl e_25 rfl (by decide) d_Mo_seenAt_25 ?_
  refine G_goto 5 (by decide) d_Mo_seenAt_28 ?_
  exact G_sub _ [1, 2, 3, 4, 0] rfl (hk_5 S l1 l2 l3 l4_25 _ h)
def f_Mo_seenAt_5 : Nat → St → Int32 → Int32 → Int32 → Int32 → Option (Int32)
  | 0, _, _, _, _, _ => none
  | n + 1, S, l1, l2, l3, l4 =>
    if l1 ≤ l4 then (
    some l3)
    else (
    (f_Mo_isSeen S l4 l2).bind fun v_15 =>
    if v_15 = 0 then (
    f_Mo_seenAt_25 (f_Mo_seenAt_5 n) S l1 l2 l3 l4)
    else (
    (some (l3 + 1)).bind fun l3_24 =>
    f_Mo_seenAt_25 (f_Mo_seenAt_5 n) S l1 l2 l3_24 l4))
set_option maxHeartbeats 4000000 in
set_option maxRecDepth 20000 in
theorem t_Mo_seenAt_5  : ∀ (n : Nat) (S : St) (l1 : Int32) (l2 : Int32) (l3 : Int32) (l4 : Int32) (w : Int32), f_Mo_seenAt_5 n S l1 l2 l3 l4 = some w → G SM m_Mo_seenAt 3 (some w) S 5 [(0, .ref 0), (1, .int l1), (2, .int l2), (3, .int l3), (4, .int l4)] [] S := by
  intro n
  induction n with
  | zero =>
    intro S l1 l2 l3 l4 w h
    rw [f_Mo_seenAt_5] at h
    cases h
  | succ n ih =>
    intro S l1 l2 l3 l4 w h
    rw [f_Mo_seenAt_5] at h
    refine G_iload 4 rfl d_Mo_seenAt_5 ?_
    refine G_iload_n 1 rfl d_Mo_seenAt_7 ?_
    refine G_icmp_ge 31 (by decide) d_Mo_seenAt_8 (fun c_8 => ?_) (fun c_8 => ?_)
    · replace h := ob_t h c_8
      refine G_iload_n 3 rfl d_Mo_seenAt_31 ?_
      cases h
      exact G_iret rfl d_Mo_seenAt_32
    · replace h := ob_f h c_8
      refine G_aload_n 0 rfl d_Mo_seenAt_11 ?_
      refine G_iload 4 rfl d_Mo_seenAt_12 ?_
      refine G_iload_n 2 rfl d_Mo_seenAt_14 ?_
      obtain ⟨v_15, q_15, h⟩ := ob_b h
      refine G_callV [.int l4, .int l2] [] (t_Mo_isSeen q_15) (by decide) (by decide) mv_Mo_isSeen rfl ml_Mo_397 km_0 sm_0 cl_12 rfl (Nat.le_of_ble_eq_true rfl) d_Mo_seenAt_15 ?_
      refine G_if_eq 25 (by decide) d_Mo_seenAt_18 (fun c_18 => ?_) (fun c_18 => ?_)
      · replace h := ob_t h c_18
        exact G_sub _ [0, 1, 2, 3, 4] rfl (t_Mo_seenAt_25 ih S l1 l2 l3 l4 _ h)
      · replace h := ob_f h c_18
        refine G_iload_n 3 rfl d_Mo_seenAt_21 ?_
        refine G_iconst 1 (by decide) d_Mo_seenAt_22 ?_
        refine G_iadd d_Mo_seenAt_23 ?_
        obtain ⟨l3_24, e_24, h⟩ := ob_s h
        refine G_istore_n [(3, .int l3_24), (0, .ref 0), (1, .int l1), (2, .int l2), (4, .int l4)] e_24 rfl (by decide) d_Mo_seenAt_24 ?_
        exact G_sub _ [1, 2, 3, 0, 4] rfl (t_Mo_seenAt_25 ih S l1 l2 l3_24 l4 _ h)
def f_Mo_seenAt (S : St) (l1 : Int32) (l2 : Int32) : Option (Int32) :=
    (some (0 : Int32)).bind fun l3_1 =>
    (some (0 : Int32)).bind fun l4_3 =>
    f_Mo_seenAt_5 FU S l1 l2 l3_1 l4_3
set_option maxHeartbeats 4000000 in
set_option maxRecDepth 20000 in
theorem t_Mo_seenAt  {S : St} {l1 : Int32} {l2 : Int32} {w : Int32} (h : f_Mo_seenAt S l1 l2 = some w) : Ct SM m_Mo_seenAt 3 [.ref 0, .int l1, .int l2] S (some w) S := by
  unfold f_Mo_seenAt at h
  refine Ct.of pn_Mo (Nat.le_of_ble_eq_true rfl) ?_
  show G SM m_Mo_seenAt 3 (some w) S 0 [(0, .ref 0), (1, .int l1), (2, .int l2)] [] S
  refine G_iconst 0 (by decide) d_Mo_seenAt_0 ?_
  obtain ⟨l3_1, e_1, h⟩ := ob_s h
  refine G_istore_n [(3, .int l3_1), (0, .ref 0), (1, .int l1), (2, .int l2)] e_1 rfl (by decide) d_Mo_seenAt_1 ?_
  refine G_iconst 0 (by decide) d_Mo_seenAt_2 ?_
  obtain ⟨l4_3, e_3, h⟩ := ob_s h
  refine G_istore [(4, .int l4_3), (3, .int l3_1), (0, .ref 0), (1, .int l1), (2, .int l2)] e_3 rfl (by decide) d_Mo_seenAt_3 ?_
  exact G_sub _ [2, 3, 4, 1, 0] rfl (t_Mo_seenAt_5 FU S l1 l2 l3_1 l4_3 _ h)
theorem d_Mo_seen_0 : decode m_Mo_seen.2.1 0 = .ok (.iload_n 1, 1) := by decide +kernel
theorem d_Mo_seen_1 : decode m_Mo_seen.2.1 1 = .ok (.iconst 1, 1) := by decide +kernel
theorem d_Mo_seen_2 : decode m_Mo_seen.2.1 2 = .ok (.bipush 12, 2) := by decide +kernel
theorem d_Mo_seen_4 : decode m_Mo_seen.2.1 4 = .ok (.invokestatic 124, 3) := by decide +kernel
theorem d_Mo_seen_7 : decode m_Mo_seen.2.1 7 = .ok (.ifCond .eq 32, 3) := by decide +kernel
theorem d_Mo_seen_10 : decode m_Mo_seen.2.1 10 = .ok (.iload_n 2, 1) := by decide +kernel
theorem d_Mo_seen_11 : decode m_Mo_seen.2.1 11 = .ok (.iconst 1, 1) := by decide +kernel
theorem d_Mo_seen_12 : decode m_Mo_seen.2.1 12 = .ok (.bipush 12, 2) := by decide +kernel
theorem d_Mo_seen_14 : decode m_Mo_seen.2.1 14 = .ok (.invokestatic 124, 3) := by decide +kernel
theorem d_Mo_seen_17 : decode m_Mo_seen.2.1 17 = .ok (.ifCond .eq 22, 3) := by decide +kernel
theorem d_Mo_seen_20 : decode m_Mo_seen.2.1 20 = .ok (.iload_n 3, 1) := by decide +kernel
theorem d_Mo_seen_21 : decode m_Mo_seen.2.1 21 = .ok (.iconst 0, 1) := by decide +kernel
theorem d_Mo_seen_22 : decode m_Mo_seen.2.1 22 = .ok (.iconst 1, 1) := by decide +kernel
theorem d_Mo_seen_23 : decode m_Mo_seen.2.1 23 = .ok (.invokestatic 124, 3) := by decide +kernel
theorem d_Mo_seen_26 : decode m_Mo_seen.2.1 26 = .ok (.ifCond .eq 13, 3) := by decide +kernel
theorem d_Mo_seen_29 : decode m_Mo_seen.2.1 29 = .ok (.iconst 2, 1) := by decide +kernel
theorem d_Mo_seen_30 : decode m_Mo_seen.2.1 30 = .ok (.iload_n 1, 1) := by decide +kernel
theorem d_Mo_seen_31 : decode m_Mo_seen.2.1 31 = .ok (.imul, 1) := by decide +kernel
theorem d_Mo_seen_32 : decode m_Mo_seen.2.1 32 = .ok (.aload_n 0, 1) := by decide +kernel
theorem d_Mo_seen_33 : decode m_Mo_seen.2.1 33 = .ok (.getfield 135, 3) := by decide +kernel
theorem d_Mo_seen_36 : decode m_Mo_seen.2.1 36 = .ok (.if_icmp .le 5, 3) := by decide +kernel
theorem d_Mo_seen_39 : decode m_Mo_seen.2.1 39 = .ok (.iconst (-1), 1) := by decide +kernel
theorem d_Mo_seen_40 : decode m_Mo_seen.2.1 40 = .ok (.ireturn, 1) := by decide +kernel
theorem d_Mo_seen_41 : decode m_Mo_seen.2.1 41 = .ok (.aload_n 0, 1) := by decide +kernel
theorem d_Mo_seen_42 : decode m_Mo_seen.2.1 42 = .ok (.iconst 0, 1) := by decide +kernel
theorem d_Mo_seen_43 : decode m_Mo_seen.2.1 43 = .ok (.putfield 135, 3) := by decide +kernel
theorem d_Mo_seen_46 : decode m_Mo_seen.2.1 46 = .ok (.iconst 0, 1) := by decide +kernel
theorem d_Mo_seen_47 : decode m_Mo_seen.2.1 47 = .ok (.istore 4, 2) := by decide +kernel
theorem d_Mo_seen_49 : decode m_Mo_seen.2.1 49 = .ok (.iconst 0, 1) := by decide +kernel
theorem d_Mo_seen_50 : decode m_Mo_seen.2.1 50 = .ok (.istore 5, 2) := by decide +kernel
theorem d_Mo_seen_52 : decode m_Mo_seen.2.1 52 = .ok (.iconst 0, 1) := by decide +kernel
theorem d_Mo_seen_53 : decode m_Mo_seen.2.1 53 = .ok (.istore 6, 2) := by decide +kernel
theorem d_Mo_seen_55 : decode m_Mo_seen.2.1 55 = .ok (.iconst 0, 1) := by decide +kernel
theorem d_Mo_seen_56 : decode m_Mo_seen.2.1 56 = .ok (.istore 7, 2) := by decide +kernel
theorem d_Mo_seen_58 : decode m_Mo_seen.2.1 58 = .ok (.iload 7, 2) := by decide +kernel
theorem d_Mo_seen_60 : decode m_Mo_seen.2.1 60 = .ok (.sipush 256, 3) := by decide +kernel
theorem d_Mo_seen_63 : decode m_Mo_seen.2.1 63 = .ok (.if_icmp .ge 62, 3) := by decide +kernel
theorem d_Mo_seen_66 : decode m_Mo_seen.2.1 66 = .ok (.aload_n 0, 1) := by decide +kernel
theorem d_Mo_seen_67 : decode m_Mo_seen.2.1 67 = .ok (.iload_n 1, 1) := by decide +kernel
theorem d_Mo_seen_68 : decode m_Mo_seen.2.1 68 = .ok (.iload 7, 2) := by decide +kernel
theorem d_Mo_seen_70 : decode m_Mo_seen.2.1 70 = .ok (.invokevirtual 400, 3) := by decide +kernel
theorem d_Mo_seen_73 : decode m_Mo_seen.2.1 73 = .ok (.iload_n 2, 1) := by decide +kernel
theorem d_Mo_seen_74 : decode m_Mo_seen.2.1 74 = .ok (.if_icmp .lt 7, 3) := by decide +kernel
theorem d_Mo_seen_77 : decode m_Mo_seen.2.1 77 = .ok (.iconst 1, 1) := by decide +kernel
theorem d_Mo_seen_78 : decode m_Mo_seen.2.1 78 = .ok (.goto 4, 3) := by decide +kernel
theorem d_Mo_seen_81 : decode m_Mo_seen.2.1 81 = .ok (.iconst 0, 1) := by decide +kernel
theorem d_Mo_seen_82 : decode m_Mo_seen.2.1 82 = .ok (.istore 8, 2) := by decide +kernel
theorem d_Mo_seen_84 : decode m_Mo_seen.2.1 84 = .ok (.iload 8, 2) := by decide +kernel
theorem d_Mo_seen_86 : decode m_Mo_seen.2.1 86 = .ok (.ifCond .eq 10, 3) := by decide +kernel
theorem d_Mo_seen_89 : decode m_Mo_seen.2.1 89 = .ok (.iload 6, 2) := by decide +kernel
theorem d_Mo_seen_91 : decode m_Mo_seen.2.1 91 = .ok (.iconst 1, 1) := by decide +kernel
theorem d_Mo_seen_92 : decode m_Mo_seen.2.1 92 = .ok (.iadd, 1) := by decide +kernel
theorem d_Mo_seen_93 : decode m_Mo_seen.2.1 93 = .ok (.goto 4, 3) := by decide +kernel
theorem d_Mo_seen_96 : decode m_Mo_seen.2.1 96 = .ok (.iconst 0, 1) := by decide +kernel
theorem d_Mo_seen_97 : decode m_Mo_seen.2.1 97 = .ok (.istore 6, 2) := by decide +kernel
theorem d_Mo_seen_99 : decode m_Mo_seen.2.1 99 = .ok (.iload 8, 2) := by decide +kernel
theorem d_Mo_seen_101 : decode m_Mo_seen.2.1 101 = .ok (.ifCond .eq 9, 3) := by decide +kernel
theorem d_Mo_seen_104 : decode m_Mo_seen.2.1 104 = .ok (.iload 4, 2) := by decide +kernel
theorem d_Mo_seen_106 : decode m_Mo_seen.2.1 106 = .ok (.iconst 1, 1) := by decide +kernel
theorem d_Mo_seen_107 : decode m_Mo_seen.2.1 107 = .ok (.iadd, 1) := by decide +kernel
theorem d_Mo_seen_108 : decode m_Mo_seen.2.1 108 = .ok (.istore 4, 2) := by decide +kernel
theorem d_Mo_seen_110 : decode m_Mo_seen.2.1 110 = .ok (.iload 5, 2) := by decide +kernel
theorem d_Mo_seen_112 : decode m_Mo_seen.2.1 112 = .ok (.iload 6, 2) := by decide +kernel
theorem d_Mo_seen_114 : decode m_Mo_seen.2.1 114 = .ok (.invokestatic 265, 3) := by decide +kernel
theorem d_Mo_seen_117 : decode m_Mo_seen.2.1 117 = .ok (.istore 5, 2) := by decide +kernel
theorem d_Mo_seen_119 : decode m_Mo_seen.2.1 119 = .ok (.iinc 7 1, 3) := by decide +kernel
theorem d_Mo_seen_122 : decode m_Mo_seen.2.1 122 = .ok (.goto (-64), 3) := by decide +kernel
theorem d_Mo_seen_125 : decode m_Mo_seen.2.1 125 = .ok (.iload_n 3, 1) := by decide +kernel
theorem d_Mo_seen_126 : decode m_Mo_seen.2.1 126 = .ok (.ifCond .ne 8, 3) := by decide +kernel
theorem d_Mo_seen_129 : decode m_Mo_seen.2.1 129 = .ok (.iload 4, 2) := by decide +kernel
theorem d_Mo_seen_131 : decode m_Mo_seen.2.1 131 = .ok (.goto 5, 3) := by decide +kernel
theorem d_Mo_seen_134 : decode m_Mo_seen.2.1 134 = .ok (.iload 5, 2) := by decide +kernel
theorem d_Mo_seen_136 : decode m_Mo_seen.2.1 136 = .ok (.ireturn, 1) := by decide +kernel
def f_Mo_seen_110 (k_58 : St → Int32 → Int32 → Int32 → Int32 → Int32 → Int32 → Int32 → Option (Int32 × St)) (S : St) (l1 : Int32) (l2 : Int32) (l3 : Int32) (l4 : Int32) (l5 : Int32) (l6 : Int32) (l7 : Int32) : Option (Int32 × St) :=
    (f_Mo_max S l5 l6).bind fun v_114 =>
    (some (l7 + 1)).bind fun l7_119 =>
    k_58 S l1 l2 l3 l4 v_114 l6 l7_119
set_option maxHeartbeats 4000000 in
set_option maxRecDepth 20000 in
theorem t_Mo_seen_110  {k_58 : St → Int32 → Int32 → Int32 → Int32 → Int32 → Int32 → Int32 → Option (Int32 × St)} (hk_58 : ∀ (S : St) (l1 : Int32) (l2 : Int32) (l3 : Int32) (l4 : Int32) (l5 : Int32) (l6 : Int32) (l7 : Int32) (w : Int32 × St), k_58 S l1 l2 l3 l4 l5 l6 l7 = some w → G SM m_Mo_seen 4 (some w.1) w.2 58 [(0, .ref 0), (1, .int l1), (2, .int l2), (3, .int l3), (4, .int l4), (5, .int l5), (6, .int l6), (7, .int l7)] [] S) (S : St) (l1 : Int32) (l2 : Int32) (l3 : Int32) (l4 : Int32) (l5 : Int32) (l6 : Int32) (l7 : Int32) (w : Int32 × St) (h : f_Mo_seen_110 k_58 S l1 l2 l3 l4 l5 l6 l7 = some w) : G SM m_Mo_seen 4 (some w.1) w.2 110 [(0, .ref 0), (1, .int l1), (2, .int l2), (3, .int l3), (4, .int l4), (5, .int l5), (6, .int l6), (7, .int l7)] [] S := by
  unfold f_Mo_seen_110 at h
  refine G_iload 5 rfl d_Mo_seen_110 ?_
  refine G_iload 6 rfl d_Mo_seen_112 ?_
  obtain ⟨v_114, q_114, h⟩ := ob_b h
  refine G_callS [.int l5, .int l6] [] (t_Mo_max q_114) (by decide) (by decide) mt_Mo_max rfl ml_Mo_265 rfl (Nat.le_of_ble_eq_true rfl) d_Mo_seen_114 ?_
  refine G_istore [(5, .int v_114), (0, .ref 0), (1, .int l1), (2, .int l2), (3, .int l3), (4, .int l4), (6, .int l6), (7, .int l7)] rfl rfl (by decide) d_Mo_seen_117 ?_
  obtain ⟨l7_119, e_119, h⟩ := ob_s h
  refine G_iinc 1 7 [(7, .int l7_119), (5, .int v_114), (0, .ref 0), (1, .int l1), (2, .int l2), (3, .int l3), (4, .int l4), (6, .int l6)] (by decide) rfl e_119 rfl (by decide) d_Mo_seen_119 ?_
  refine G_goto 58 (by decide) d_Mo_seen_122 ?_
  exact G_sub _ [2, 3, 4, 5, 6, 1, 7, 0] rfl (hk_58 S l1 l2 l3 l4 v_114 l6 l7_119 _ h)
def f_Mo_seen_97 (k_58 : St → Int32 → Int32 → Int32 → Int32 → Int32 → Int32 → Int32 → Option (Int32 × St)) (S : St) (l1 : Int32) (l2 : Int32) (l3 : Int32) (l4 : Int32) (l5 : Int32) (l7 : Int32) (l8 : Int32) (s0 : Int32) : Option (Int32 × St) :=
    if l8 = 0 then (
    f_Mo_seen_110 k_58 S l1 l2 l3 l4 l5 s0 l7)
    else (
    (some (l4 + 1)).bind fun l4_108 =>
    f_Mo_seen_110 k_58 S l1 l2 l3 l4_108 l5 s0 l7)
set_option maxHeartbeats 4000000 in
set_option maxRecDepth 20000 in
theorem t_Mo_seen_97  {k_58 : St → Int32 → Int32 → Int32 → Int32 → Int32 → Int32 → Int32 → Option (Int32 × St)} (hk_58 : ∀ (S : St) (l1 : Int32) (l2 : Int32) (l3 : Int32) (l4 : Int32) (l5 : Int32) (l6 : Int32) (l7 : Int32) (w : Int32 × St), k_58 S l1 l2 l3 l4 l5 l6 l7 = some w → G SM m_Mo_seen 4 (some w.1) w.2 58 [(0, .ref 0), (1, .int l1), (2, .int l2), (3, .int l3), (4, .int l4), (5, .int l5), (6, .int l6), (7, .int l7)] [] S) (S : St) (l1 : Int32) (l2 : Int32) (l3 : Int32) (l4 : Int32) (l5 : Int32) (l7 : Int32) (l8 : Int32) (s0 : Int32) (w : Int32 × St) (h : f_Mo_seen_97 k_58 S l1 l2 l3 l4 l5 l7 l8 s0 = some w) : G SM m_Mo_seen 4 (some w.1) w.2 97 [(0, .ref 0), (1, .int l1), (2, .int l2), (3, .int l3), (4, .int l4), (5, .int l5), (7, .int l7), (8, .int l8)] [.int s0] S := by
  unfold f_Mo_seen_97 at h
  refine G_istore [(6, .int s0), (0, .ref 0), (1, .int l1), (2, .int l2), (3, .int l3), (4, .int l4), (5, .int l5), (7, .int l7), (8, .int l8)] rfl rfl (by decide) d_Mo_seen_97 ?_
  refine G_iload 8 rfl d_Mo_seen_99 ?_
  refine G_if_eq 110 (by decide) d_Mo_seen_101 (fun c_101 => ?_) (fun c_101 => ?_)
  · replace h := ob_t h c_101
    exact G_sub _ [1, 2, 3, 4, 5, 6, 0, 7] rfl (t_Mo_seen_110 hk_58 S l1 l2 l3 l4 l5 s0 l7 _ h)
  · replace h := ob_f h c_101
    refine G_iload 5 rfl d_Mo_seen_104 ?_
    refine G_iconst 1 (by decide) d_Mo_seen_106 ?_
    refine G_iadd d_Mo_seen_107 ?_
    obtain ⟨l4_108, e_108, h⟩ := ob_s h
    refine G_istore [(4, .int l4_108), (6, .int s0), (0, .ref 0), (1, .int l1), (2, .int l2), (3, .int l3), (5, .int l5), (7, .int l7), (8, .int l8)] e_108 rfl (by decide) d_Mo_seen_108 ?_
    exact G_sub _ [2, 3, 4, 5, 0, 6, 1, 7] rfl (t_Mo_seen_110 hk_58 S l1 l2 l3 l4_108 l5 s0 l7 _ h)
def f_Mo_seen_82 (k_58 : St → Int32 → Int32 → Int32 → Int32 → Int32 → Int32 → Int32 → Option (Int32 × St)) (S : St) (l1 : Int32) (l2 : Int32) (l3 : Int32) (l4 : Int32) (l5 : Int32) (l6 : Int32) (l7 : Int32) (s0 : Int32) : Option (Int32 × St) :=
    if s0 = 0 then (
    f_Mo_seen_97 k_58 S l1 l2 l3 l4 l5 l7 s0 (0 : Int32))
    else (
    f_Mo_seen_97 k_58 S l1 l2 l3 l4 l5 l7 s0 (l6 + 1))
set_option maxHeartbeats 4000000 in
set_option maxRecDepth 20000 in
theorem t_Mo_seen_82  {k_58 : St → Int32 → Int32 → Int32 → Int32 → Int32 → Int32 → Int32 → Option (Int32 × St)} (hk_58 : ∀ (S : St) (l1 : Int32) (l2 : Int32) (l3 : Int32) (l4 : Int32) (l5 : Int32) (l6 : Int32) (l7 : Int32) (w : Int32 × St), k_58 S l1 l2 l3 l4 l5 l6 l7 = some w → G SM m_Mo_seen 4 (some w.1) w.2 58 [(0, .ref 0), (1, .int l1), (2, .int l2), (3, .int l3), (4, .int l4), (5, .int l5), (6, .int l6), (7, .int l7)] [] S) (S : St) (l1 : Int32) (l2 : Int32) (l3 : Int32) (l4 : Int32) (l5 : Int32) (l6 : Int32) (l7 : Int32) (s0 : Int32) (w : Int32 × St) (h : f_Mo_seen_82 k_58 S l1 l2 l3 l4 l5 l6 l7 s0 = some w) : G SM m_Mo_seen 4 (some w.1) w.2 82 [(0, .ref 0), (1, .int l1), (2, .int l2), (3, .int l3), (4, .int l4), (5, .int l5), (6, .int l6), (7, .int l7)] [.int s0] S := by
  unfold f_Mo_seen_82 at h
  refine G_istore [(8, .int s0), (0, .ref 0), (1, .int l1), (2, .int l2), (3, .int l3), (4, .int l4), (5, .int l5), (6, .int l6), (7, .int l7)] rfl rfl (by decide) d_Mo_seen_82 ?_
  refine G_iload 0 rfl d_Mo_seen_84 ?_
  refine G_if_eq 96 (by decide) d_Mo_seen_86 (fun c_86 => ?_) (fun c_86 => ?_)
  · replace h := ob_t h c_86
    refine G_iconst 0 (by decide) d_Mo_seen_96 ?_
    exact G_sub _ [1, 2, 3, 4, 5, 6, 8, 0] rfl (t_Mo_seen_97 hk_58 S l1 l2 l3 l4 l5 l7 s0 (0 : Int32) _ h)
  · replace h := ob_f h c_86
    refine G_iload 7 rfl d_Mo_seen_89 ?_
    refine G_iconst 1 (by decide) d_Mo_seen_91 ?_
    refine G_iadd d_Mo_seen_92 ?_
    refine G_goto 97 (by decide) d_Mo_seen_93 ?_
    exact G_sub _ [1, 2, 3, 4, 5, 6, 8, 0] rfl (t_Mo_seen_97 hk_58 S l1 l2 l3 l4 l5 l7 s0 (l6 + 1) _ h)
def f_Mo_seen_58 : Nat → St → Int32 → Int32 → Int32 → Int32 → Int32 → Int32 → Int32 → Option (Int32 × St)
  | 0, _, _, _, _, _, _, _, _ => none
  | n + 1, S, l1, l2, l3, l4, l5, l6, l7 =>
    if (256 : Int32) ≤ l7 then (
    if l3 = 0 then (
    some (l4, S))
    else (
    some (l5, S)))
    else (
    (f_Mo_seenAt S l1 l7).bind fun v_70 =>
    if v_70 < l2 then (
    f_Mo_seen_82 (f_Mo_seen_58 n) S l1 l2 l3 l4 l5 l6 l7 (0 : Int32))
    else (
    f_Mo_seen_82 (f_Mo_seen_58 n) S l1 l2 l3 l4 l5 l6 l7 (1 : Int32)))
set_option maxHeartbeats 4000000 in
set_option maxRecDepth 20000 in
theorem t_Mo_seen_58  : ∀ (n : Nat) (S : St) (l1 : Int32) (l2 : Int32) (l3 : Int32) (l4 : Int32) (l5 : Int32) (l6 : Int32) (l7 : Int32) (w : Int32 × St), f_Mo_seen_58 n S l1 l2 l3 l4 l5 l6 l7 = some w → G SM m_Mo_seen 4 (some w.1) w.2 58 [(0, .ref 0), (1, .int l1), (2, .int l2), (3, .int l3), (4, .int l4), (5, .int l5), (6, .int l6), (7, .int l7)] [] S := by
  intro n
  induction n with
  | zero =>
    intro S l1 l2 l3 l4 l5 l6 l7 w h
    rw [f_Mo_seen_58] at h
    cases h
  | succ n ih =>
    intro S l1 l2 l3 l4 l5 l6 l7 w h
    rw [f_Mo_seen_58] at h
    refine G_iload 7 rfl d_Mo_seen_58 ?_
    refine G_sipush 256 (by decide) d_Mo_seen_60 ?_
    refine G_icmp_ge 125 (by decide) d_Mo_seen_63 (fun c_63 => ?_) (fun c_63 => ?_)
    · replace h := ob_t h c_63
      refine G_iload_n 3 rfl d_Mo_seen_125 ?_
      refine G_if_ne 134 (by decide) d_Mo_seen_126 (fun c_126 => ?_) (fun c_126 => ?_)
      · replace h := ob_f h c_126
        refine G_iload 5 rfl d_Mo_seen_134 ?_
        cases h
        exact G_iret rfl d_Mo_seen_136
      · replace h := ob_t h c_126
        refine G_iload 4 rfl d_Mo_seen_129 ?_
        refine G_goto 136 (by decide) d_Mo_seen_131 ?_
        cases h
        exact G_iret rfl d_Mo_seen_136
    · replace h := ob_f h c_63
      refine G_aload_n 0 rfl d_Mo_seen_66 ?_
      refine G_iload_n 1 rfl d_Mo_seen_67 ?_
      refine G_iload 7 rfl d_Mo_seen_68 ?_
      obtain ⟨v_70, q_70, h⟩ := ob_b h
      refine G_callV [.int l1, .int l7] [] (t_Mo_seenAt q_70) (by decide) (by decide) mv_Mo_seenAt rfl ml_Mo_400 km_0 sm_0 cl_12 rfl (Nat.le_of_ble_eq_true rfl) d_Mo_seen_70 ?_
      refine G_iload_n 2 rfl d_Mo_seen_73 ?_
      refine G_icmp_lt 81 (by decide) d_Mo_seen_74 (fun c_74 => ?_) (fun c_74 => ?_)
      · replace h := ob_t h c_74
        refine G_iconst 0 (by decide) d_Mo_seen_81 ?_
        exact G_sub _ [0, 1, 2, 3, 4, 5, 6, 7] rfl (t_Mo_seen_82 ih S l1 l2 l3 l4 l5 l6 l7 (0 : Int32) _ h)
      · replace h := ob_f h c_74
        refine G_iconst 1 (by decide) d_Mo_seen_77 ?_
        refine G_goto 82 (by decide) d_Mo_seen_78 ?_
        exact G_sub _ [0, 1, 2, 3, 4, 5, 6, 7] rfl (t_Mo_seen_82 ih S l1 l2 l3 l4 l5 l6 l7 (1 : Int32) _ h)
def f_Mo_seen (S : St) (l1 : Int32) (l2 : Int32) (l3 : Int32) : Option (Int32 × St) :=
    (f_Mo_in S l1 (1 : Int32) (12 : Int32)).bind fun v_4 =>
    if v_4 = 0 then (
    some ((-1), S))
    else (
    (f_Mo_in S l2 (1 : Int32) (12 : Int32)).bind fun v_14 =>
    if v_14 = 0 then (
    some ((-1), S))
    else (
    (f_Mo_in S l3 (0 : Int32) (1 : Int32)).bind fun v_23 =>
    if v_23 = 0 then (
    some ((-1), S))
    else (
    if (2 * l1) ≤ (S 0 7) then (
    (some (sF S 0 7 0)).bind fun S_43 =>
    (some (0 : Int32)).bind fun l4_47 =>
    (some (0 : Int32)).bind fun l5_50 =>
    (some (0 : Int32)).bind fun l6_53 =>
    (some (0 : Int32)).bind fun l7_56 =>
    f_Mo_seen_58 FU S_43 l1 l2 l3 l4_47 l5_50 l6_53 l7_56)
    else (
    some ((-1), S)))))
set_option maxHeartbeats 4000000 in
set_option maxRecDepth 20000 in
theorem t_Mo_seen  {S : St} {l1 : Int32} {l2 : Int32} {l3 : Int32} {w : Int32 × St} (h : f_Mo_seen S l1 l2 l3 = some w) : Ct SM m_Mo_seen 4 [.ref 0, .int l1, .int l2, .int l3] S (some w.1) w.2 := by
  unfold f_Mo_seen at h
  refine Ct.of pn_Mo (Nat.le_of_ble_eq_true rfl) ?_
  show G SM m_Mo_seen 4 (some w.1) w.2 0 [(0, .ref 0), (1, .int l1), (2, .int l2), (3, .int l3)] [] S
  refine G_iload_n 1 rfl d_Mo_seen_0 ?_
  refine G_iconst 1 (by decide) d_Mo_seen_1 ?_
  refine G_bipush 12 (by decide) d_Mo_seen_2 ?_
  obtain ⟨v_4, q_4, h⟩ := ob_b h
  refine G_callS [.int l1, .int 1, .int 12] [] (t_Mo_in q_4) (by decide) (by decide) mt_Mo_in rfl ml_Mo_124 rfl (Nat.le_of_ble_eq_true rfl) d_Mo_seen_4 ?_
  refine G_if_eq 39 (by decide) d_Mo_seen_7 (fun c_7 => ?_) (fun c_7 => ?_)
  · replace h := ob_t h c_7
    refine G_iconst (-1) (by decide) d_Mo_seen_39 ?_
    cases h
    exact G_iret rfl d_Mo_seen_40
  · replace h := ob_f h c_7
    refine G_iload_n 2 rfl d_Mo_seen_10 ?_
    refine G_iconst 1 (by decide) d_Mo_seen_11 ?_
    refine G_bipush 12 (by decide) d_Mo_seen_12 ?_
    obtain ⟨v_14, q_14, h⟩ := ob_b h
    refine G_callS [.int l2, .int 1, .int 12] [] (t_Mo_in q_14) (by decide) (by decide) mt_Mo_in rfl ml_Mo_124 rfl (Nat.le_of_ble_eq_true rfl) d_Mo_seen_14 ?_
    refine G_if_eq 39 (by decide) d_Mo_seen_17 (fun c_17 => ?_) (fun c_17 => ?_)
    · replace h := ob_t h c_17
      refine G_iconst (-1) (by decide) d_Mo_seen_39 ?_
      cases h
      exact G_iret rfl d_Mo_seen_40
    · replace h := ob_f h c_17
      refine G_iload_n 3 rfl d_Mo_seen_20 ?_
      refine G_iconst 0 (by decide) d_Mo_seen_21 ?_
      refine G_iconst 1 (by decide) d_Mo_seen_22 ?_
      obtain ⟨v_23, q_23, h⟩ := ob_b h
      refine G_callS [.int l3, .int 0, .int 1] [] (t_Mo_in q_23) (by decide) (by decide) mt_Mo_in rfl ml_Mo_124 rfl (Nat.le_of_ble_eq_true rfl) d_Mo_seen_23 ?_
      refine G_if_eq 39 (by decide) d_Mo_seen_26 (fun c_26 => ?_) (fun c_26 => ?_)
      · replace h := ob_t h c_26
        refine G_iconst (-1) (by decide) d_Mo_seen_39 ?_
        cases h
        exact G_iret rfl d_Mo_seen_40
      · replace h := ob_f h c_26
        refine G_iconst 2 (by decide) d_Mo_seen_29 ?_
        refine G_iload_n 1 rfl d_Mo_seen_30 ?_
        refine G_imul d_Mo_seen_31 ?_
        refine G_aload_n 0 rfl d_Mo_seen_32 ?_
        refine G_getI fl_Mo_135 km_0 sm_0 rfl d_Mo_seen_33 ?_
        refine G_icmp_le 41 (by decide) d_Mo_seen_36 (fun c_36 => ?_) (fun c_36 => ?_)
        · replace h := ob_t h c_36
          refine G_aload_n 0 rfl d_Mo_seen_41 ?_
          refine G_iconst 0 (by decide) d_Mo_seen_42 ?_
          obtain ⟨S_43, e_43, h⟩ := ob_s h
          refine G_putI e_43 fp_Mo_135 km_0 sm_0 rfl d_Mo_seen_43 ?_
          refine G_iconst 0 (by decide) d_Mo_seen_46 ?_
          obtain ⟨l4_47, e_47, h⟩ := ob_s h
          refine G_istore [(4, .int l4_47), (0, .ref 0), (1, .int l1), (2, .int l2), (3, .int l3)] e_47 rfl (by decide) d_Mo_seen_47 ?_
          refine G_iconst 0 (by decide) d_Mo_seen_49 ?_
          obtain ⟨l5_50, e_50, h⟩ := ob_s h
          refine G_istore [(5, .int l5_50), (4, .int l4_47), (0, .ref 0), (1, .int l1), (2, .int l2), (3, .int l3)] e_50 rfl (by decide) d_Mo_seen_50 ?_
          refine G_iconst 0 (by decide) d_Mo_seen_52 ?_
          obtain ⟨l6_53, e_53, h⟩ := ob_s h
          refine G_istore [(6, .int l6_53), (5, .int l5_50), (4, .int l4_47), (0, .ref 0), (1, .int l1), (2, .int l2), (3, .int l3)] e_53 rfl (by decide) d_Mo_seen_53 ?_
          refine G_iconst 0 (by decide) d_Mo_seen_55 ?_
          obtain ⟨l7_56, e_56, h⟩ := ob_s h
          refine G_istore [(7, .int l7_56), (6, .int l6_53), (5, .int l5_50), (4, .int l4_47), (0, .ref 0), (1, .int l1), (2, .int l2), (3, .int l3)] e_56 rfl (by decide) d_Mo_seen_56 ?_
          exact G_sub _ [4, 5, 6, 7, 3, 2, 1, 0] rfl (t_Mo_seen_58 FU S_43 l1 l2 l3 l4_47 l5_50 l6_53 l7_56 _ h)
        · replace h := ob_f h c_36
          refine G_iconst (-1) (by decide) d_Mo_seen_39 ?_
          cases h
          exact G_iret rfl d_Mo_seen_40
theorem d_Mo_brightOf_0 : decode m_Mo_brightOf.2.1 0 = .ok (.iconst 0, 1) := by decide +kernel
theorem d_Mo_brightOf_1 : decode m_Mo_brightOf.2.1 1 = .ok (.istore_n 2, 1) := by decide +kernel
theorem d_Mo_brightOf_2 : decode m_Mo_brightOf.2.1 2 = .ok (.iconst 0, 1) := by decide +kernel
theorem d_Mo_brightOf_3 : decode m_Mo_brightOf.2.1 3 = .ok (.istore_n 3, 1) := by decide +kernel
theorem d_Mo_brightOf_4 : decode m_Mo_brightOf.2.1 4 = .ok (.iload_n 3, 1) := by decide +kernel
theorem d_Mo_brightOf_5 : decode m_Mo_brightOf.2.1 5 = .ok (.sipush 256, 3) := by decide +kernel
theorem d_Mo_brightOf_8 : decode m_Mo_brightOf.2.1 8 = .ok (.if_icmp .ge 24, 3) := by decide +kernel
theorem d_Mo_brightOf_11 : decode m_Mo_brightOf.2.1 11 = .ok (.aload_n 0, 1) := by decide +kernel
theorem d_Mo_brightOf_12 : decode m_Mo_brightOf.2.1 12 = .ok (.getfield 117, 3) := by decide +kernel
theorem d_Mo_brightOf_15 : decode m_Mo_brightOf.2.1 15 = .ok (.iload_n 3, 1) := by decide +kernel
theorem d_Mo_brightOf_16 : decode m_Mo_brightOf.2.1 16 = .ok (.iaload, 1) := by decide +kernel
theorem d_Mo_brightOf_17 : decode m_Mo_brightOf.2.1 17 = .ok (.iload_n 1, 1) := by decide +kernel
theorem d_Mo_brightOf_18 : decode m_Mo_brightOf.2.1 18 = .ok (.iand, 1) := by decide +kernel
theorem d_Mo_brightOf_19 : decode m_Mo_brightOf.2.1 19 = .ok (.ifCond .eq 7, 3) := by decide +kernel
theorem d_Mo_brightOf_22 : decode m_Mo_brightOf.2.1 22 = .ok (.iload_n 2, 1) := by decide +kernel
theorem d_Mo_brightOf_23 : decode m_Mo_brightOf.2.1 23 = .ok (.iconst 1, 1) := by decide +kernel
theorem d_Mo_brightOf_24 : decode m_Mo_brightOf.2.1 24 = .ok (.iadd, 1) := by decide +kernel
theorem d_Mo_brightOf_25 : decode m_Mo_brightOf.2.1 25 = .ok (.istore_n 2, 1) := by decide +kernel
theorem d_Mo_brightOf_26 : decode m_Mo_brightOf.2.1 26 = .ok (.iinc 3 1, 3) := by decide +kernel
theorem d_Mo_brightOf_29 : decode m_Mo_brightOf.2.1 29 = .ok (.goto (-25), 3) := by decide +kernel
theorem d_Mo_brightOf_32 : decode m_Mo_brightOf.2.1 32 = .ok (.iload_n 2, 1) := by decide +kernel
theorem d_Mo_brightOf_33 : decode m_Mo_brightOf.2.1 33 = .ok (.ireturn, 1) := by decide +kernel
def f_Mo_brightOf_26 (k_4 : St → Int32 → Int32 → Int32 → Option (Int32)) (S : St) (l1 : Int32) (l2 : Int32) (l3 : Int32) : Option (Int32) :=
    (some (l3 + 1)).bind fun l3_26 =>
    k_4 S l1 l2 l3_26
set_option maxHeartbeats 4000000 in
set_option maxRecDepth 20000 in
theorem t_Mo_brightOf_26  {k_4 : St → Int32 → Int32 → Int32 → Option (Int32)} (hk_4 : ∀ (S : St) (l1 : Int32) (l2 : Int32) (l3 : Int32) (w : Int32), k_4 S l1 l2 l3 = some w → G SM m_Mo_brightOf 1 (some w) S 4 [(0, .ref 0), (1, .int l1), (2, .int l2), (3, .int l3)] [] S) (S : St) (l1 : Int32) (l2 : Int32) (l3 : Int32) (w : Int32) (h : f_Mo_brightOf_26 k_4 S l1 l2 l3 = some w) : G SM m_Mo_brightOf 1 (some w) S 26 [(0, .ref 0), (1, .int l1), (2, .int l2), (3, .int l3)] [] S := by
  unfold f_Mo_brightOf_26 at h
  obtain ⟨l3_26, e_26, h⟩ := ob_s h
  refine G_iinc 1 3 [(3, .int l3_26), (0, .ref 0), (1, .int l1), (2, .int l2)] (by decide) rfl e_26 rfl (by decide) d_Mo_brightOf_26 ?_
  refine G_goto 4 (by decide) d_Mo_brightOf_29 ?_
  exact G_sub _ [1, 2, 3, 0] rfl (hk_4 S l1 l2 l3_26 _ h)
def f_Mo_brightOf_4 : Nat → St → Int32 → Int32 → Int32 → Option (Int32)
  | 0, _, _, _, _ => none
  | n + 1, S, l1, l2, l3 =>
    if (256 : Int32) ≤ l3 then (
    some l2)
    else (
    if ig l3 256 then (
    if ((S 36 l3.toNatClampNeg) &&& l1) = 0 then (
    f_Mo_brightOf_26 (f_Mo_brightOf_4 n) S l1 l2 l3)
    else (
    (some (l2 + 1)).bind fun l2_25 =>
    f_Mo_brightOf_26 (f_Mo_brightOf_4 n) S l1 l2_25 l3)) else none)
set_option maxHeartbeats 4000000 in
set_option maxRecDepth 20000 in
theorem t_Mo_brightOf_4  : ∀ (n : Nat) (S : St) (l1 : Int32) (l2 : Int32) (l3 : Int32) (w : Int32), f_Mo_brightOf_4 n S l1 l2 l3 = some w → G SM m_Mo_brightOf 1 (some w) S 4 [(0, .ref 0), (1, .int l1), (2, .int l2), (3, .int l3)] [] S := by
  intro n
  induction n with
  | zero =>
    intro S l1 l2 l3 w h
    rw [f_Mo_brightOf_4] at h
    cases h
  | succ n ih =>
    intro S l1 l2 l3 w h
    rw [f_Mo_brightOf_4] at h
    refine G_iload_n 3 rfl d_Mo_brightOf_4 ?_
    refine G_sipush 256 (by decide) d_Mo_brightOf_5 ?_
    refine G_icmp_ge 32 (by decide) d_Mo_brightOf_8 (fun c_8 => ?_) (fun c_8 => ?_)
    · replace h := ob_t h c_8
      refine G_iload_n 2 rfl d_Mo_brightOf_32 ?_
      cases h
      exact G_iret rfl d_Mo_brightOf_33
    · replace h := ob_f h c_8
      refine G_aload_n 0 rfl d_Mo_brightOf_11 ?_
      refine G_getR fl_Mo_117 km_0 sm_0 rfl (by decide) d_Mo_brightOf_12 ?_
      refine G_iload_n 3 rfl d_Mo_brightOf_15 ?_
      obtain ⟨g_16, h⟩ := ob_g h
      refine G_iaload km_36 sm_36 g_16 d_Mo_brightOf_16 ?_
      refine G_iload_n 1 rfl d_Mo_brightOf_17 ?_
      refine G_iand d_Mo_brightOf_18 ?_
      refine G_if_eq 26 (by decide) d_Mo_brightOf_19 (fun c_19 => ?_) (fun c_19 => ?_)
      · replace h := ob_t h c_19
        exact G_sub _ [0, 1, 2, 3] rfl (t_Mo_brightOf_26 ih S l1 l2 l3 _ h)
      · replace h := ob_f h c_19
        refine G_iload_n 2 rfl d_Mo_brightOf_22 ?_
        refine G_iconst 1 (by decide) d_Mo_brightOf_23 ?_
        refine G_iadd d_Mo_brightOf_24 ?_
        obtain ⟨l2_25, e_25, h⟩ := ob_s h
        refine G_istore_n [(2, .int l2_25), (0, .ref 0), (1, .int l1), (3, .int l3)] e_25 rfl (by decide) d_Mo_brightOf_25 ?_
        exact G_sub _ [1, 2, 0, 3] rfl (t_Mo_brightOf_26 ih S l1 l2_25 l3 _ h)
def f_Mo_brightOf (S : St) (l1 : Int32) : Option (Int32) :=
    (some (0 : Int32)).bind fun l2_1 =>
    (some (0 : Int32)).bind fun l3_3 =>
    f_Mo_brightOf_4 FU S l1 l2_1 l3_3
set_option maxHeartbeats 4000000 in
set_option maxRecDepth 20000 in
theorem t_Mo_brightOf  {S : St} {l1 : Int32} {w : Int32} (h : f_Mo_brightOf S l1 = some w) : Ct SM m_Mo_brightOf 1 [.ref 0, .int l1] S (some w) S := by
  unfold f_Mo_brightOf at h
  refine Ct.of pn_Mo (Nat.le_of_ble_eq_true rfl) ?_
  show G SM m_Mo_brightOf 1 (some w) S 0 [(0, .ref 0), (1, .int l1)] [] S
  refine G_iconst 0 (by decide) d_Mo_brightOf_0 ?_
  obtain ⟨l2_1, e_1, h⟩ := ob_s h
  refine G_istore_n [(2, .int l2_1), (0, .ref 0), (1, .int l1)] e_1 rfl (by decide) d_Mo_brightOf_1 ?_
  refine G_iconst 0 (by decide) d_Mo_brightOf_2 ?_
  obtain ⟨l3_3, e_3, h⟩ := ob_s h
  refine G_istore_n [(3, .int l3_3), (2, .int l2_1), (0, .ref 0), (1, .int l1)] e_3 rfl (by decide) d_Mo_brightOf_3 ?_
  exact G_sub _ [2, 3, 1, 0] rfl (t_Mo_brightOf_4 FU S l1 l2_1 l3_3 _ h)
theorem d_Mo_brightest_0 : decode m_Mo_brightest.2.1 0 = .ok (.iload_n 1, 1) := by decide +kernel
theorem d_Mo_brightest_1 : decode m_Mo_brightest.2.1 1 = .ok (.iconst 1, 1) := by decide +kernel
theorem d_Mo_brightest_2 : decode m_Mo_brightest.2.1 2 = .ok (.bipush 12, 2) := by decide +kernel
theorem d_Mo_brightest_4 : decode m_Mo_brightest.2.1 4 = .ok (.invokestatic 124, 3) := by decide +kernel
theorem d_Mo_brightest_7 : decode m_Mo_brightest.2.1 7 = .ok (.ifCond .eq 31, 3) := by decide +kernel
theorem d_Mo_brightest_10 : decode m_Mo_brightest.2.1 10 = .ok (.iload_n 2, 1) := by decide +kernel
theorem d_Mo_brightest_11 : decode m_Mo_brightest.2.1 11 = .ok (.iconst 1, 1) := by decide +kernel
theorem d_Mo_brightest_12 : decode m_Mo_brightest.2.1 12 = .ok (.iload_n 1, 1) := by decide +kernel
theorem d_Mo_brightest_13 : decode m_Mo_brightest.2.1 13 = .ok (.invokestatic 124, 3) := by decide +kernel
theorem d_Mo_brightest_16 : decode m_Mo_brightest.2.1 16 = .ok (.ifCond .eq 22, 3) := by decide +kernel
theorem d_Mo_brightest_19 : decode m_Mo_brightest.2.1 19 = .ok (.iload_n 3, 1) := by decide +kernel
theorem d_Mo_brightest_20 : decode m_Mo_brightest.2.1 20 = .ok (.iconst 0, 1) := by decide +kernel
theorem d_Mo_brightest_21 : decode m_Mo_brightest.2.1 21 = .ok (.iconst 1, 1) := by decide +kernel
theorem d_Mo_brightest_22 : decode m_Mo_brightest.2.1 22 = .ok (.invokestatic 124, 3) := by decide +kernel
theorem d_Mo_brightest_25 : decode m_Mo_brightest.2.1 25 = .ok (.ifCond .eq 13, 3) := by decide +kernel
theorem d_Mo_brightest_28 : decode m_Mo_brightest.2.1 28 = .ok (.iconst 2, 1) := by decide +kernel
theorem d_Mo_brightest_29 : decode m_Mo_brightest.2.1 29 = .ok (.iload_n 1, 1) := by decide +kernel
theorem d_Mo_brightest_30 : decode m_Mo_brightest.2.1 30 = .ok (.imul, 1) := by decide +kernel
theorem d_Mo_brightest_31 : decode m_Mo_brightest.2.1 31 = .ok (.aload_n 0, 1) := by decide +kernel
theorem d_Mo_brightest_32 : decode m_Mo_brightest.2.1 32 = .ok (.getfield 135, 3) := by decide +kernel
theorem d_Mo_brightest_35 : decode m_Mo_brightest.2.1 35 = .ok (.if_icmp .le 5, 3) := by decide +kernel
theorem d_Mo_brightest_38 : decode m_Mo_brightest.2.1 38 = .ok (.iconst (-1), 1) := by decide +kernel
theorem d_Mo_brightest_39 : decode m_Mo_brightest.2.1 39 = .ok (.ireturn, 1) := by decide +kernel
theorem d_Mo_brightest_40 : decode m_Mo_brightest.2.1 40 = .ok (.aload_n 0, 1) := by decide +kernel
theorem d_Mo_brightest_41 : decode m_Mo_brightest.2.1 41 = .ok (.iconst 0, 1) := by decide +kernel
theorem d_Mo_brightest_42 : decode m_Mo_brightest.2.1 42 = .ok (.putfield 135, 3) := by decide +kernel
theorem d_Mo_brightest_45 : decode m_Mo_brightest.2.1 45 = .ok (.iconst 0, 1) := by decide +kernel
theorem d_Mo_brightest_46 : decode m_Mo_brightest.2.1 46 = .ok (.istore 4, 2) := by decide +kernel
theorem d_Mo_brightest_48 : decode m_Mo_brightest.2.1 48 = .ok (.iload 4, 2) := by decide +kernel
theorem d_Mo_brightest_50 : decode m_Mo_brightest.2.1 50 = .ok (.sipush 256, 3) := by decide +kernel
theorem d_Mo_brightest_53 : decode m_Mo_brightest.2.1 53 = .ok (.if_icmp .ge 62, 3) := by decide +kernel
theorem d_Mo_brightest_56 : decode m_Mo_brightest.2.1 56 = .ok (.aload_n 0, 1) := by decide +kernel
theorem d_Mo_brightest_57 : decode m_Mo_brightest.2.1 57 = .ok (.getfield 117, 3) := by decide +kernel
theorem d_Mo_brightest_60 : decode m_Mo_brightest.2.1 60 = .ok (.iload 4, 2) := by decide +kernel
theorem d_Mo_brightest_62 : decode m_Mo_brightest.2.1 62 = .ok (.iconst 0, 1) := by decide +kernel
theorem d_Mo_brightest_63 : decode m_Mo_brightest.2.1 63 = .ok (.iastore, 1) := by decide +kernel
theorem d_Mo_brightest_64 : decode m_Mo_brightest.2.1 64 = .ok (.iconst 0, 1) := by decide +kernel
theorem d_Mo_brightest_65 : decode m_Mo_brightest.2.1 65 = .ok (.istore 5, 2) := by decide +kernel
theorem d_Mo_brightest_67 : decode m_Mo_brightest.2.1 67 = .ok (.iload 5, 2) := by decide +kernel
theorem d_Mo_brightest_69 : decode m_Mo_brightest.2.1 69 = .ok (.iload_n 1, 1) := by decide +kernel
theorem d_Mo_brightest_70 : decode m_Mo_brightest.2.1 70 = .ok (.if_icmp .ge 39, 3) := by decide +kernel
theorem d_Mo_brightest_73 : decode m_Mo_brightest.2.1 73 = .ok (.aload_n 0, 1) := by decide +kernel
theorem d_Mo_brightest_74 : decode m_Mo_brightest.2.1 74 = .ok (.iload 5, 2) := by decide +kernel
theorem d_Mo_brightest_76 : decode m_Mo_brightest.2.1 76 = .ok (.iload 4, 2) := by decide +kernel
theorem d_Mo_brightest_78 : decode m_Mo_brightest.2.1 78 = .ok (.invokevirtual 397, 3) := by decide +kernel
theorem d_Mo_brightest_81 : decode m_Mo_brightest.2.1 81 = .ok (.ifCond .eq 22, 3) := by decide +kernel
theorem d_Mo_brightest_84 : decode m_Mo_brightest.2.1 84 = .ok (.aload_n 0, 1) := by decide +kernel
theorem d_Mo_brightest_85 : decode m_Mo_brightest.2.1 85 = .ok (.getfield 117, 3) := by decide +kernel
theorem d_Mo_brightest_88 : decode m_Mo_brightest.2.1 88 = .ok (.iload 4, 2) := by decide +kernel
theorem d_Mo_brightest_90 : decode m_Mo_brightest.2.1 90 = .ok (.aload_n 0, 1) := by decide +kernel
theorem d_Mo_brightest_91 : decode m_Mo_brightest.2.1 91 = .ok (.getfield 117, 3) := by decide +kernel
theorem d_Mo_brightest_94 : decode m_Mo_brightest.2.1 94 = .ok (.iload 4, 2) := by decide +kernel
theorem d_Mo_brightest_96 : decode m_Mo_brightest.2.1 96 = .ok (.iaload, 1) := by decide +kernel
theorem d_Mo_brightest_97 : decode m_Mo_brightest.2.1 97 = .ok (.iconst 1, 1) := by decide +kernel
theorem d_Mo_brightest_98 : decode m_Mo_brightest.2.1 98 = .ok (.iload 5, 2) := by decide +kernel
theorem d_Mo_brightest_100 : decode m_Mo_brightest.2.1 100 = .ok (.ishl, 1) := by decide +kernel
theorem d_Mo_brightest_101 : decode m_Mo_brightest.2.1 101 = .ok (.ior, 1) := by decide +kernel
theorem d_Mo_brightest_102 : decode m_Mo_brightest.2.1 102 = .ok (.iastore, 1) := by decide +kernel
theorem d_Mo_brightest_103 : decode m_Mo_brightest.2.1 103 = .ok (.iinc 5 1, 3) := by decide +kernel
theorem d_Mo_brightest_106 : decode m_Mo_brightest.2.1 106 = .ok (.goto (-39), 3) := by decide +kernel
theorem d_Mo_brightest_109 : decode m_Mo_brightest.2.1 109 = .ok (.iinc 4 1, 3) := by decide +kernel
theorem d_Mo_brightest_112 : decode m_Mo_brightest.2.1 112 = .ok (.goto (-64), 3) := by decide +kernel
theorem d_Mo_brightest_115 : decode m_Mo_brightest.2.1 115 = .ok (.iconst (-1), 1) := by decide +kernel
theorem d_Mo_brightest_116 : decode m_Mo_brightest.2.1 116 = .ok (.istore 4, 2) := by decide +kernel
theorem d_Mo_brightest_118 : decode m_Mo_brightest.2.1 118 = .ok (.iconst (-1), 1) := by decide +kernel
theorem d_Mo_brightest_119 : decode m_Mo_brightest.2.1 119 = .ok (.istore 5, 2) := by decide +kernel
theorem d_Mo_brightest_121 : decode m_Mo_brightest.2.1 121 = .ok (.iconst 0, 1) := by decide +kernel
theorem d_Mo_brightest_122 : decode m_Mo_brightest.2.1 122 = .ok (.istore 6, 2) := by decide +kernel
theorem d_Mo_brightest_124 : decode m_Mo_brightest.2.1 124 = .ok (.iload 6, 2) := by decide +kernel
theorem d_Mo_brightest_126 : decode m_Mo_brightest.2.1 126 = .ok (.iconst 1, 1) := by decide +kernel
theorem d_Mo_brightest_127 : decode m_Mo_brightest.2.1 127 = .ok (.iload_n 1, 1) := by decide +kernel
theorem d_Mo_brightest_128 : decode m_Mo_brightest.2.1 128 = .ok (.ishl, 1) := by decide +kernel
theorem d_Mo_brightest_129 : decode m_Mo_brightest.2.1 129 = .ok (.if_icmp .ge 44, 3) := by decide +kernel
theorem d_Mo_brightest_132 : decode m_Mo_brightest.2.1 132 = .ok (.iload 6, 2) := by decide +kernel
theorem d_Mo_brightest_134 : decode m_Mo_brightest.2.1 134 = .ok (.invokestatic 367, 3) := by decide +kernel
theorem d_Mo_brightest_137 : decode m_Mo_brightest.2.1 137 = .ok (.iload_n 2, 1) := by decide +kernel
theorem d_Mo_brightest_138 : decode m_Mo_brightest.2.1 138 = .ok (.if_icmp .ne 29, 3) := by decide +kernel
theorem d_Mo_brightest_141 : decode m_Mo_brightest.2.1 141 = .ok (.aload_n 0, 1) := by decide +kernel
theorem d_Mo_brightest_142 : decode m_Mo_brightest.2.1 142 = .ok (.iload 6, 2) := by decide +kernel
theorem d_Mo_brightest_144 : decode m_Mo_brightest.2.1 144 = .ok (.invokevirtual 403, 3) := by decide +kernel
theorem d_Mo_brightest_147 : decode m_Mo_brightest.2.1 147 = .ok (.iload 4, 2) := by decide +kernel
theorem d_Mo_brightest_149 : decode m_Mo_brightest.2.1 149 = .ok (.if_icmp .gt 6, 3) := by decide +kernel
theorem d_Mo_brightest_152 : decode m_Mo_brightest.2.1 152 = .ok (.goto 15, 3) := by decide +kernel
theorem d_Mo_brightest_155 : decode m_Mo_brightest.2.1 155 = .ok (.aload_n 0, 1) := by decide +kernel
theorem d_Mo_brightest_156 : decode m_Mo_brightest.2.1 156 = .ok (.iload 6, 2) := by decide +kernel
theorem d_Mo_brightest_158 : decode m_Mo_brightest.2.1 158 = .ok (.invokevirtual 403, 3) := by decide +kernel
theorem d_Mo_brightest_161 : decode m_Mo_brightest.2.1 161 = .ok (.istore 4, 2) := by decide +kernel
theorem d_Mo_brightest_163 : decode m_Mo_brightest.2.1 163 = .ok (.iload 6, 2) := by decide +kernel
theorem d_Mo_brightest_165 : decode m_Mo_brightest.2.1 165 = .ok (.istore 5, 2) := by decide +kernel
theorem d_Mo_brightest_167 : decode m_Mo_brightest.2.1 167 = .ok (.iinc 6 1, 3) := by decide +kernel
theorem d_Mo_brightest_170 : decode m_Mo_brightest.2.1 170 = .ok (.goto (-46), 3) := by decide +kernel
theorem d_Mo_brightest_173 : decode m_Mo_brightest.2.1 173 = .ok (.iload_n 3, 1) := by decide +kernel
theorem d_Mo_brightest_174 : decode m_Mo_brightest.2.1 174 = .ok (.ifCond .ne 8, 3) := by decide +kernel
theorem d_Mo_brightest_177 : decode m_Mo_brightest.2.1 177 = .ok (.iload 4, 2) := by decide +kernel
theorem d_Mo_brightest_179 : decode m_Mo_brightest.2.1 179 = .ok (.goto 5, 3) := by decide +kernel
theorem d_Mo_brightest_182 : decode m_Mo_brightest.2.1 182 = .ok (.iload 5, 2) := by decide +kernel
theorem d_Mo_brightest_184 : decode m_Mo_brightest.2.1 184 = .ok (.ireturn, 1) := by decide +kernel
def f_Mo_brightest_103 (k_48 : St → Int32 → Int32 → Int32 → Int32 → Option (Int32 × St)) (k_67 : St → Int32 → Int32 → Int32 → Int32 → Int32 → Option (Int32 × St)) (S : St) (l1 : Int32) (l2 : Int32) (l3 : Int32) (l4 : Int32) (l5 : Int32) : Option (Int32 × St) :=
    (some (l5 + 1)).bind fun l5_103 =>
    k_67 S l1 l2 l3 l4 l5_103
set_option maxHeartbeats 4000000 in
set_option maxRecDepth 20000 in
theorem t_Mo_brightest_103  {k_48 : St → Int32 → Int32 → Int32 → Int32 → Option (Int32 × St)} {k_67 : St → Int32 → Int32 → Int32 → Int32 → Int32 → Option (Int32 × St)} (hk_48 : ∀ (S : St) (l1 : Int32) (l2 : Int32) (l3 : Int32) (l4 : Int32) (w : Int32 × St), k_48 S l1 l2 l3 l4 = some w → G SM m_Mo_brightest 3 (some w.1) w.2 48 [(0, .ref 0), (1, .int l1), (2, .int l2), (3, .int l3), (4, .int l4)] [] S) (hk_67 : ∀ (S : St) (l1 : Int32) (l2 : Int32) (l3 : Int32) (l4 : Int32) (l5 : Int32) (w : Int32 × St), k_67 S l1 l2 l3 l4 l5 = some w → G SM m_Mo_brightest 3 (some w.1) w.2 67 [(0, .ref 0), (1, .int l1), (2, .int l2), (3, .int l3), (4, .int l4), (5, .int l5)] [] S) (S : St) (l1 : Int32) (l2 : Int32) (l3 : Int32) (l4 : Int32) (l5 : Int32) (w : Int32 × St) (h : f_Mo_brightest_103 k_48 k_67 S l1 l2 l3 l4 l5 = some w) : G SM m_Mo_brightest 3 (some w.1) w.2 103 [(0, .ref 0), (1, .int l1), (2, .int l2), (3, .int l3), (4, .int l4), (5, .int l5)] [] S := by
  unfold f_Mo_brightest_103 at h
  obtain ⟨l5_103, e_103, h⟩ := ob_s h
  refine G_iinc 1 5 [(5, .int l5_103), (0, .ref 0), (1, .int l1), (2, .int l2), (3, .int l3), (4, .int l4)] (by decide) rfl e_103 rfl (by decide) d_Mo_brightest_103 ?_
  refine G_goto 67 (by decide) d_Mo_brightest_106 ?_
  exact G_sub _ [1, 2, 3, 4, 5, 0] rfl (hk_67 S l1 l2 l3 l4 l5_103 _ h)
def f_Mo_brightest_67 (k_48 : St → Int32 → Int32 → Int32 → Int32 → Option (Int32 × St)) : Nat → St → Int32 → Int32 → Int32 → Int32 → Int32 → Option (Int32 × St)
  | 0, _, _, _, _, _, _ => none
  | n + 1, S, l1, l2, l3, l4, l5 =>
    if l1 ≤ l5 then (
    (some (l4 + 1)).bind fun l4_109 =>
    k_48 S l1 l2 l3 l4_109)
    else (
    (f_Mo_isSeen S l5 l4).bind fun v_78 =>
    if v_78 = 0 then (
    f_Mo_brightest_103 k_48 (f_Mo_brightest_67 k_48 n) S l1 l2 l3 l4 l5)
    else (
    if ig l4 256 then (
    if ig l4 256 then (
    (some (sF S 36 l4.toNatClampNeg ((S 36 l4.toNatClampNeg) ||| (jshl 1 l5)))).bind fun S_102 =>
    f_Mo_brightest_103 k_48 (f_Mo_brightest_67 k_48 n) S_102 l1 l2 l3 l4 l5) else none) else none))
set_option maxHeartbeats 4000000 in
set_option maxRecDepth 20000 in
theorem t_Mo_brightest_67  {k_48 : St → Int32 → Int32 → Int32 → Int32 → Option (Int32 × St)} (hk_48 : ∀ (S : St) (l1 : Int32) (l2 : Int32) (l3 : Int32) (l4 : Int32) (w : Int32 × St), k_48 S l1 l2 l3 l4 = some w → G SM m_Mo_brightest 3 (some w.1) w.2 48 [(0, .ref 0), (1, .int l1), (2, .int l2), (3, .int l3), (4, .int l4)] [] S) : ∀ (n : Nat) (S : St) (l1 : Int32) (l2 : Int32) (l3 : Int32) (l4 : Int32) (l5 : Int32) (w : Int32 × St), f_Mo_brightest_67 k_48 n S l1 l2 l3 l4 l5 = some w → G SM m_Mo_brightest 3 (some w.1) w.2 67 [(0, .ref 0), (1, .int l1), (2, .int l2), (3, .int l3), (4, .int l4), (5, .int l5)] [] S := by
  intro n
  induction n with
  | zero =>
    intro S l1 l2 l3 l4 l5 w h
    rw [f_Mo_brightest_67] at h
    cases h
  | succ n ih =>
    intro S l1 l2 l3 l4 l5 w h
    rw [f_Mo_brightest_67] at h
    refine G_iload 5 rfl d_Mo_brightest_67 ?_
    refine G_iload_n 1 rfl d_Mo_brightest_69 ?_
    refine G_icmp_ge 109 (by decide) d_Mo_brightest_70 (fun c_70 => ?_) (fun c_70 => ?_)
    · replace h := ob_t h c_70
      obtain ⟨l4_109, e_109, h⟩ := ob_s h
      refine G_iinc 1 4 [(4, .int l4_109), (0, .ref 0), (1, .int l1), (2, .int l2), (3, .int l3), (5, .int l5)] (by decide) rfl e_109 rfl (by decide) d_Mo_brightest_109 ?_
      refine G_goto 48 (by decide) d_Mo_brightest_112 ?_
      exact G_sub _ [1, 2, 3, 4, 0] rfl (hk_48 S l1 l2 l3 l4_109 _ h)
    · replace h := ob_f h c_70
      refine G_aload_n 0 rfl d_Mo_brightest_73 ?_
      refine G_iload 5 rfl d_Mo_brightest_74 ?_
      refine G_iload 4 rfl d_Mo_brightest_76 ?_
      obtain ⟨v_78, q_78, h⟩ := ob_b h
      refine G_callV [.int l5, .int l4] [] (t_Mo_isSeen q_78) (by decide) (by decide) mv_Mo_isSeen rfl ml_Mo_397 km_0 sm_0 cl_12 rfl (Nat.le_of_ble_eq_true rfl) d_Mo_brightest_78 ?_
      refine G_if_eq 103 (by decide) d_Mo_brightest_81 (fun c_81 => ?_) (fun c_81 => ?_)
      · replace h := ob_t h c_81
        exact G_sub _ [0, 1, 2, 3, 4, 5] rfl (t_Mo_brightest_103 hk_48 ih S l1 l2 l3 l4 l5 _ h)
      · replace h := ob_f h c_81
        refine G_aload_n 0 rfl d_Mo_brightest_84 ?_
        refine G_getR fl_Mo_117 km_0 sm_0 rfl (by decide) d_Mo_brightest_85 ?_
        refine G_iload 4 rfl d_Mo_brightest_88 ?_
        refine G_aload_n 0 rfl d_Mo_brightest_90 ?_
        refine G_getR fl_Mo_117 km_0 sm_0 rfl (by decide) d_Mo_brightest_91 ?_
        refine G_iload 4 rfl d_Mo_brightest_94 ?_
        obtain ⟨g_96, h⟩ := ob_g h
        refine G_iaload km_36 sm_36 g_96 d_Mo_brightest_96 ?_
        refine G_iconst 1 (by decide) d_Mo_brightest_97 ?_
        refine G_iload 5 rfl d_Mo_brightest_98 ?_
        refine G_ishl d_Mo_brightest_100 ?_
        refine G_ior d_Mo_brightest_101 ?_
        obtain ⟨g_102, h⟩ := ob_g h
        obtain ⟨S_102, e_102, h⟩ := ob_s h
        refine G_iastore e_102 km_36 sm_36 g_102 d_Mo_brightest_102 ?_
        exact G_sub _ [0, 1, 2, 3, 4, 5] rfl (t_Mo_brightest_103 hk_48 ih S_102 l1 l2 l3 l4 l5 _ h)
def f_Mo_brightest_167 (k_124 : St → Int32 → Int32 → Int32 → Int32 → Int32 → Int32 → Option (Int32 × St)) (S : St) (l1 : Int32) (l2 : Int32) (l3 : Int32) (l4 : Int32) (l5 : Int32) (l6 : Int32) : Option (Int32 × St) :=
    (some (l6 + 1)).bind fun l6_167 =>
    k_124 S l1 l2 l3 l4 l5 l6_167
set_option maxHeartbeats 4000000 in
set_option maxRecDepth 20000 in
theorem t_Mo_brightest_167  {k_124 : St → Int32 → Int32 → Int32 → Int32 → Int32 → Int32 → Option (Int32 × St)} (hk_124 : ∀ (S : St) (l1 : Int32) (l2 : Int32) (l3 : Int32) (l4 : Int32) (l5 : Int32) (l6 : Int32) (w : Int32 × St), k_124 S l1 l2 l3 l4 l5 l6 = some w → G SM m_Mo_brightest 3 (some w.1) w.2 124 [(0, .ref 0), (1, .int l1), (2, .int l2), (3, .int l3), (4, .int l4), (5, .int l5), (6, .int l6)] [] S) (S : St) (l1 : Int32) (l2 : Int32) (l3 : Int32) (l4 : Int32) (l5 : Int32) (l6 : Int32) (w : Int32 × St) (h : f_Mo_brightest_167 k_124 S l1 l2 l3 l4 l5 l6 = some w) : G SM m_Mo_brightest 3 (some w.1) w.2 167 [(0, .ref 0), (1, .int l1), (2, .int l2), (3, .int l3), (4, .int l4), (5, .int l5), (6, .int l6)] [] S := by
  unfold f_Mo_brightest_167 at h
  obtain ⟨l6_167, e_167, h⟩ := ob_s h
  refine G_iinc 1 6 [(6, .int l6_167), (0, .ref 0), (1, .int l1), (2, .int l2), (3, .int l3), (4, .int l4), (5, .int l5)] (by decide) rfl e_167 rfl (by decide) d_Mo_brightest_167 ?_
  refine G_goto 124 (by decide) d_Mo_brightest_170 ?_
  exact G_sub _ [1, 2, 3, 4, 5, 6, 0] rfl (hk_124 S l1 l2 l3 l4 l5 l6_167 _ h)
def f_Mo_brightest_124 : Nat → St → Int32 → Int32 → Int32 → Int32 → Int32 → Int32 → Option (Int32 × St)
  | 0, _, _, _, _, _, _, _ => none
  | n + 1, S, l1, l2, l3, l4, l5, l6 =>
    if (jshl 1 l1) ≤ l6 then (
    if l3 = 0 then (
    some (l4, S))
    else (
    some (l5, S)))
    else (
    (f_Mo_bits S l6).bind fun v_134 =>
    if v_134 = l2 then (
    (f_Mo_brightOf S l6).bind fun v_144 =>
    if l4 < v_144 then (
    (f_Mo_brightOf S l6).bind fun v_158 =>
    f_Mo_brightest_167 (f_Mo_brightest_124 n) S l1 l2 l3 v_158 l6 l6)
    else (
    f_Mo_brightest_167 (f_Mo_brightest_124 n) S l1 l2 l3 l4 l5 l6))
    else (
    f_Mo_brightest_167 (f_Mo_brightest_124 n) S l1 l2 l3 l4 l5 l6))
set_option maxHeartbeats 4000000 in
set_option maxRecDepth 20000 in
theorem t_Mo_brightest_124  : ∀ (n : Nat) (S : St) (l1 : Int32) (l2 : Int32) (l3 : Int32) (l4 : Int32) (l5 : Int32) (l6 : Int32) (w : Int32 × St), f_Mo_brightest_124 n S l1 l2 l3 l4 l5 l6 = some w → G SM m_Mo_brightest 3 (some w.1) w.2 124 [(0, .ref 0), (1, .int l1), (2, .int l2), (3, .int l3), (4, .int l4), (5, .int l5), (6, .int l6)] [] S := by
  intro n
  induction n with
  | zero =>
    intro S l1 l2 l3 l4 l5 l6 w h
    rw [f_Mo_brightest_124] at h
    cases h
  | succ n ih =>
    intro S l1 l2 l3 l4 l5 l6 w h
    rw [f_Mo_brightest_124] at h
    refine G_iload 6 rfl d_Mo_brightest_124 ?_
    refine G_iconst 1 (by decide) d_Mo_brightest_126 ?_
    refine G_iload_n 1 rfl d_Mo_brightest_127 ?_
    refine G_ishl d_Mo_brightest_128 ?_
    refine G_icmp_ge 173 (by decide) d_Mo_brightest_129 (fun c_129 => ?_) (fun c_129 => ?_)
    · replace h := ob_t h c_129
      refine G_iload_n 3 rfl d_Mo_brightest_173 ?_
      refine G_if_ne 182 (by decide) d_Mo_brightest_174 (fun c_174 => ?_) (fun c_174 => ?_)
      · replace h := ob_f h c_174
        refine G_iload 5 rfl d_Mo_brightest_182 ?_
        cases h
        exact G_iret rfl d_Mo_brightest_184
      · replace h := ob_t h c_174
        refine G_iload 4 rfl d_Mo_brightest_177 ?_
        refine G_goto 184 (by decide) d_Mo_brightest_179 ?_
        cases h
        exact G_iret rfl d_Mo_brightest_184
    · replace h := ob_f h c_129
      refine G_iload 6 rfl d_Mo_brightest_132 ?_
      obtain ⟨v_134, q_134, h⟩ := ob_b h
      refine G_callS [.int l6] [] (t_Mo_bits q_134) (by decide) (by decide) mt_Mo_bits rfl ml_Mo_367 rfl (Nat.le_of_ble_eq_true rfl) d_Mo_brightest_134 ?_
      refine G_iload_n 2 rfl d_Mo_brightest_137 ?_
      refine G_icmp_ne 167 (by decide) d_Mo_brightest_138 (fun c_138 => ?_) (fun c_138 => ?_)
      · replace h := ob_f h c_138
        exact G_sub _ [0, 1, 2, 3, 4, 5, 6] rfl (t_Mo_brightest_167 ih S l1 l2 l3 l4 l5 l6 _ h)
      · replace h := ob_t h c_138
        refine G_aload_n 0 rfl d_Mo_brightest_141 ?_
        refine G_iload 6 rfl d_Mo_brightest_142 ?_
        obtain ⟨v_144, q_144, h⟩ := ob_b h
        refine G_callV [.int l6] [] (t_Mo_brightOf q_144) (by decide) (by decide) mv_Mo_brightOf rfl ml_Mo_403 km_0 sm_0 cl_12 rfl (Nat.le_of_ble_eq_true rfl) d_Mo_brightest_144 ?_
        refine G_iload 4 rfl d_Mo_brightest_147 ?_
        refine G_icmp_gt 155 (by decide) d_Mo_brightest_149 (fun c_149 => ?_) (fun c_149 => ?_)
        · replace h := ob_t h c_149
          refine G_aload_n 0 rfl d_Mo_brightest_155 ?_
          refine G_iload 6 rfl d_Mo_brightest_156 ?_
          obtain ⟨v_158, q_158, h⟩ := ob_b h
          refine G_callV [.int l6] [] (t_Mo_brightOf q_158) (by decide) (by decide) mv_Mo_brightOf rfl ml_Mo_403 km_0 sm_0 cl_12 rfl (Nat.le_of_ble_eq_true rfl) d_Mo_brightest_158 ?_
          refine G_istore [(4, .int v_158), (0, .ref 0), (1, .int l1), (2, .int l2), (3, .int l3), (5, .int l5), (6, .int l6)] rfl rfl (by decide) d_Mo_brightest_161 ?_
          refine G_iload 6 rfl d_Mo_brightest_163 ?_
          refine G_istore [(5, .int l6), (4, .int v_158), (0, .ref 0), (1, .int l1), (2, .int l2), (3, .int l3), (6, .int l6)] rfl rfl (by decide) d_Mo_brightest_165 ?_
          exact G_sub _ [2, 3, 4, 5, 1, 0, 6] rfl (t_Mo_brightest_167 ih S l1 l2 l3 v_158 l6 l6 _ h)
        · replace h := ob_f h c_149
          refine G_goto 167 (by decide) d_Mo_brightest_152 ?_
          exact G_sub _ [0, 1, 2, 3, 4, 5, 6] rfl (t_Mo_brightest_167 ih S l1 l2 l3 l4 l5 l6 _ h)
def f_Mo_brightest_48 : Nat → St → Int32 → Int32 → Int32 → Int32 → Option (Int32 × St)
  | 0, _, _, _, _, _ => none
  | n + 1, S, l1, l2, l3, l4 =>
    if (256 : Int32) ≤ l4 then (
    (some ((-1) : Int32)).bind fun l4_116 =>
    (some ((-1) : Int32)).bind fun l5_119 =>
    (some (0 : Int32)).bind fun l6_122 =>
    f_Mo_brightest_124 FU S l1 l2 l3 l4_116 l5_119 l6_122)
    else (
    if ig l4 256 then (
    (some (sF S 36 l4.toNatClampNeg 0)).bind fun S_63 =>
    (some (0 : Int32)).bind fun l5_65 =>
    f_Mo_brightest_67 (f_Mo_brightest_48 n) FU S_63 l1 l2 l3 l4 l5_65) else none)
set_option maxHeartbeats 4000000 in
set_option maxRecDepth 20000 in
theorem t_Mo_brightest_48  : ∀ (n : Nat) (S : St) (l1 : Int32) (l2 : Int32) (l3 : Int32) (l4 : Int32) (w : Int32 × St), f_Mo_brightest_48 n S l1 l2 l3 l4 = some w → G SM m_Mo_brightest 3 (some w.1) w.2 48 [(0, .ref 0), (1, .int l1), (2, .int l2), (3, .int l3), (4, .int l4)] [] S := by
  intro n
  induction n with
  | zero =>
    intro S l1 l2 l3 l4 w h
    rw [f_Mo_brightest_48] at h
    cases h
  | succ n ih =>
    intro S l1 l2 l3 l4 w h
    rw [f_Mo_brightest_48] at h
    refine G_iload 4 rfl d_Mo_brightest_48 ?_
    refine G_sipush 256 (by decide) d_Mo_brightest_50 ?_
    refine G_icmp_ge 115 (by decide) d_Mo_brightest_53 (fun c_53 => ?_) (fun c_53 => ?_)
    · replace h := ob_t h c_53
      refine G_iconst (-1) (by decide) d_Mo_brightest_115 ?_
      obtain ⟨l4_116, e_116, h⟩ := ob_s h
      refine G_istore [(4, .int l4_116), (0, .ref 0), (1, .int l1), (2, .int l2), (3, .int l3)] e_116 rfl (by decide) d_Mo_brightest_116 ?_
      refine G_iconst (-1) (by decide) d_Mo_brightest_118 ?_
      obtain ⟨l5_119, e_119, h⟩ := ob_s h
      refine G_istore [(5, .int l5_119), (4, .int l4_116), (0, .ref 0), (1, .int l1), (2, .int l2), (3, .int l3)] e_119 rfl (by decide) d_Mo_brightest_119 ?_
      refine G_iconst 0 (by decide) d_Mo_brightest_121 ?_
      obtain ⟨l6_122, e_122, h⟩ := ob_s h
      refine G_istore [(6, .int l6_122), (5, .int l5_119), (4, .int l4_116), (0, .ref 0), (1, .int l1), (2, .int l2), (3, .int l3)] e_122 rfl (by decide) d_Mo_brightest_122 ?_
      exact G_sub _ [3, 4, 5, 6, 2, 1, 0] rfl (t_Mo_brightest_124 FU S l1 l2 l3 l4_116 l5_119 l6_122 _ h)
    · replace h := ob_f h c_53
      refine G_aload_n 0 rfl d_Mo_brightest_56 ?_
      refine G_getR fl_Mo_117 km_0 sm_0 rfl (by decide) d_Mo_brightest_57 ?_
      refine G_iload 4 rfl d_Mo_brightest_60 ?_
      refine G_iconst 0 (by decide) d_Mo_brightest_62 ?_
      obtain ⟨g_63, h⟩ := ob_g h
      obtain ⟨S_63, e_63, h⟩ := ob_s h
      refine G_iastore e_63 km_36 sm_36 g_63 d_Mo_brightest_63 ?_
      refine G_iconst 0 (by decide) d_Mo_brightest_64 ?_
      obtain ⟨l5_65, e_65, h⟩ := ob_s h
      refine G_istore [(5, .int l5_65), (0, .ref 0), (1, .int l1), (2, .int l2), (3, .int l3), (4, .int l4)] e_65 rfl (by decide) d_Mo_brightest_65 ?_
      exact G_sub _ [1, 2, 3, 4, 5, 0] rfl (t_Mo_brightest_67 ih FU S_63 l1 l2 l3 l4 l5_65 _ h)
def f_Mo_brightest (S : St) (l1 : Int32) (l2 : Int32) (l3 : Int32) : Option (Int32 × St) :=
    (f_Mo_in S l1 (1 : Int32) (12 : Int32)).bind fun v_4 =>
    if v_4 = 0 then (
    some ((-1), S))
    else (
    (f_Mo_in S l2 (1 : Int32) l1).bind fun v_13 =>
    if v_13 = 0 then (
    some ((-1), S))
    else (
    (f_Mo_in S l3 (0 : Int32) (1 : Int32)).bind fun v_22 =>
    if v_22 = 0 then (
    some ((-1), S))
    else (
    if (2 * l1) ≤ (S 0 7) then (
    (some (sF S 0 7 0)).bind fun S_42 =>
    (some (0 : Int32)).bind fun l4_46 =>
    f_Mo_brightest_48 FU S_42 l1 l2 l3 l4_46)
    else (
    some ((-1), S)))))
set_option maxHeartbeats 4000000 in
set_option maxRecDepth 20000 in
theorem t_Mo_brightest  {S : St} {l1 : Int32} {l2 : Int32} {l3 : Int32} {w : Int32 × St} (h : f_Mo_brightest S l1 l2 l3 = some w) : Ct SM m_Mo_brightest 3 [.ref 0, .int l1, .int l2, .int l3] S (some w.1) w.2 := by
  unfold f_Mo_brightest at h
  refine Ct.of pn_Mo (Nat.le_of_ble_eq_true rfl) ?_
  show G SM m_Mo_brightest 3 (some w.1) w.2 0 [(0, .ref 0), (1, .int l1), (2, .int l2), (3, .int l3)] [] S
  refine G_iload_n 1 rfl d_Mo_brightest_0 ?_
  refine G_iconst 1 (by decide) d_Mo_brightest_1 ?_
  refine G_bipush 12 (by decide) d_Mo_brightest_2 ?_
  obtain ⟨v_4, q_4, h⟩ := ob_b h
  refine G_callS [.int l1, .int 1, .int 12] [] (t_Mo_in q_4) (by decide) (by decide) mt_Mo_in rfl ml_Mo_124 rfl (Nat.le_of_ble_eq_true rfl) d_Mo_brightest_4 ?_
  refine G_if_eq 38 (by decide) d_Mo_brightest_7 (fun c_7 => ?_) (fun c_7 => ?_)
  · replace h := ob_t h c_7
    refine G_iconst (-1) (by decide) d_Mo_brightest_38 ?_
    cases h
    exact G_iret rfl d_Mo_brightest_39
  · replace h := ob_f h c_7
    refine G_iload_n 2 rfl d_Mo_brightest_10 ?_
    refine G_iconst 1 (by decide) d_Mo_brightest_11 ?_
    refine G_iload_n 1 rfl d_Mo_brightest_12 ?_
    obtain ⟨v_13, q_13, h⟩ := ob_b h
    refine G_callS [.int l2, .int 1, .int l1] [] (t_Mo_in q_13) (by decide) (by decide) mt_Mo_in rfl ml_Mo_124 rfl (Nat.le_of_ble_eq_true rfl) d_Mo_brightest_13 ?_
    refine G_if_eq 38 (by decide) d_Mo_brightest_16 (fun c_16 => ?_) (fun c_16 => ?_)
    · replace h := ob_t h c_16
      refine G_iconst (-1) (by decide) d_Mo_brightest_38 ?_
      cases h
      exact G_iret rfl d_Mo_brightest_39
    · replace h := ob_f h c_16
      refine G_iload_n 3 rfl d_Mo_brightest_19 ?_
      refine G_iconst 0 (by decide) d_Mo_brightest_20 ?_
      refine G_iconst 1 (by decide) d_Mo_brightest_21 ?_
      obtain ⟨v_22, q_22, h⟩ := ob_b h
      refine G_callS [.int l3, .int 0, .int 1] [] (t_Mo_in q_22) (by decide) (by decide) mt_Mo_in rfl ml_Mo_124 rfl (Nat.le_of_ble_eq_true rfl) d_Mo_brightest_22 ?_
      refine G_if_eq 38 (by decide) d_Mo_brightest_25 (fun c_25 => ?_) (fun c_25 => ?_)
      · replace h := ob_t h c_25
        refine G_iconst (-1) (by decide) d_Mo_brightest_38 ?_
        cases h
        exact G_iret rfl d_Mo_brightest_39
      · replace h := ob_f h c_25
        refine G_iconst 2 (by decide) d_Mo_brightest_28 ?_
        refine G_iload_n 1 rfl d_Mo_brightest_29 ?_
        refine G_imul d_Mo_brightest_30 ?_
        refine G_aload_n 0 rfl d_Mo_brightest_31 ?_
        refine G_getI fl_Mo_135 km_0 sm_0 rfl d_Mo_brightest_32 ?_
        refine G_icmp_le 40 (by decide) d_Mo_brightest_35 (fun c_35 => ?_) (fun c_35 => ?_)
        · replace h := ob_t h c_35
          refine G_aload_n 0 rfl d_Mo_brightest_40 ?_
          refine G_iconst 0 (by decide) d_Mo_brightest_41 ?_
          obtain ⟨S_42, e_42, h⟩ := ob_s h
          refine G_putI e_42 fp_Mo_135 km_0 sm_0 rfl d_Mo_brightest_42 ?_
          refine G_iconst 0 (by decide) d_Mo_brightest_45 ?_
          obtain ⟨l4_46, e_46, h⟩ := ob_s h
          refine G_istore [(4, .int l4_46), (0, .ref 0), (1, .int l1), (2, .int l2), (3, .int l3)] e_46 rfl (by decide) d_Mo_brightest_46 ?_
          exact G_sub _ [1, 2, 3, 4, 0] rfl (t_Mo_brightest_48 FU S_42 l1 l2 l3 l4_46 _ h)
        · replace h := ob_f h c_35
          refine G_iconst (-1) (by decide) d_Mo_brightest_38 ?_
          cases h
          exact G_iret rfl d_Mo_brightest_39
