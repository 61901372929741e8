theorem d_Law_copyFrom_0 : decode m_Law_copyFrom.2.1 0 = .ok (.aload_n 1, 1) := by decide +kernel
theorem d_Law_copyFrom_1 : decode m_Law_copyFrom.2.1 1 = .ok (.getfield 11, 3) := by decide +kernel
theorem d_Law_copyFrom_4 : decode m_Law_copyFrom.2.1 4 = .ok (.iconst 0, 1) := by decide +kernel
theorem d_Law_copyFrom_5 : decode m_Law_copyFrom.2.1 5 = .ok (.aload_n 0, 1) := by decide +kernel
theorem d_Law_copyFrom_6 : decode m_Law_copyFrom.2.1 6 = .ok (.getfield 11, 3) := by decide +kernel
theorem d_Law_copyFrom_9 : decode m_Law_copyFrom.2.1 9 = .ok (.iconst 0, 1) := by decide +kernel
theorem d_Law_copyFrom_10 : decode m_Law_copyFrom.2.1 10 = .ok (.sipush 240, 3) := by decide +kernel
theorem d_Law_copyFrom_13 : decode m_Law_copyFrom.2.1 13 = .ok (.invokestatic 41, 3) := by decide +kernel
theorem d_Law_copyFrom_16 : decode m_Law_copyFrom.2.1 16 = .ok (.aload_n 1, 1) := by decide +kernel
theorem d_Law_copyFrom_17 : decode m_Law_copyFrom.2.1 17 = .ok (.getfield 15, 3) := by decide +kernel
theorem d_Law_copyFrom_20 : decode m_Law_copyFrom.2.1 20 = .ok (.iconst 0, 1) := by decide +kernel
theorem d_Law_copyFrom_21 : decode m_Law_copyFrom.2.1 21 = .ok (.aload_n 0, 1) := by decide +kernel
theorem d_Law_copyFrom_22 : decode m_Law_copyFrom.2.1 22 = .ok (.getfield 15, 3) := by decide +kernel
theorem d_Law_copyFrom_25 : decode m_Law_copyFrom.2.1 25 = .ok (.iconst 0, 1) := by decide +kernel
theorem d_Law_copyFrom_26 : decode m_Law_copyFrom.2.1 26 = .ok (.sipush 240, 3) := by decide +kernel
theorem d_Law_copyFrom_29 : decode m_Law_copyFrom.2.1 29 = .ok (.invokestatic 41, 3) := by decide +kernel
theorem d_Law_copyFrom_32 : decode m_Law_copyFrom.2.1 32 = .ok (.aload_n 1, 1) := by decide +kernel
theorem d_Law_copyFrom_33 : decode m_Law_copyFrom.2.1 33 = .ok (.getfield 18, 3) := by decide +kernel
theorem d_Law_copyFrom_36 : decode m_Law_copyFrom.2.1 36 = .ok (.iconst 0, 1) := by decide +kernel
theorem d_Law_copyFrom_37 : decode m_Law_copyFrom.2.1 37 = .ok (.aload_n 0, 1) := by decide +kernel
theorem d_Law_copyFrom_38 : decode m_Law_copyFrom.2.1 38 = .ok (.getfield 18, 3) := by decide +kernel
theorem d_Law_copyFrom_41 : decode m_Law_copyFrom.2.1 41 = .ok (.iconst 0, 1) := by decide +kernel
theorem d_Law_copyFrom_42 : decode m_Law_copyFrom.2.1 42 = .ok (.bipush 16, 2) := by decide +kernel
theorem d_Law_copyFrom_44 : decode m_Law_copyFrom.2.1 44 = .ok (.invokestatic 41, 3) := by decide +kernel
theorem d_Law_copyFrom_47 : decode m_Law_copyFrom.2.1 47 = .ok (.aload_n 1, 1) := by decide +kernel
theorem d_Law_copyFrom_48 : decode m_Law_copyFrom.2.1 48 = .ok (.getfield 21, 3) := by decide +kernel
theorem d_Law_copyFrom_51 : decode m_Law_copyFrom.2.1 51 = .ok (.iconst 0, 1) := by decide +kernel
theorem d_Law_copyFrom_52 : decode m_Law_copyFrom.2.1 52 = .ok (.aload_n 0, 1) := by decide +kernel
theorem d_Law_copyFrom_53 : decode m_Law_copyFrom.2.1 53 = .ok (.getfield 21, 3) := by decide +kernel
theorem d_Law_copyFrom_56 : decode m_Law_copyFrom.2.1 56 = .ok (.iconst 0, 1) := by decide +kernel
theorem d_Law_copyFrom_57 : decode m_Law_copyFrom.2.1 57 = .ok (.bipush 16, 2) := by decide +kernel
theorem d_Law_copyFrom_59 : decode m_Law_copyFrom.2.1 59 = .ok (.invokestatic 41, 3) := by decide +kernel
theorem d_Law_copyFrom_62 : decode m_Law_copyFrom.2.1 62 = .ok (.aload_n 1, 1) := by decide +kernel
theorem d_Law_copyFrom_63 : decode m_Law_copyFrom.2.1 63 = .ok (.getfield 24, 3) := by decide +kernel
theorem d_Law_copyFrom_66 : decode m_Law_copyFrom.2.1 66 = .ok (.iconst 0, 1) := by decide +kernel
theorem d_Law_copyFrom_67 : decode m_Law_copyFrom.2.1 67 = .ok (.aload_n 0, 1) := by decide +kernel
theorem d_Law_copyFrom_68 : decode m_Law_copyFrom.2.1 68 = .ok (.getfield 24, 3) := by decide +kernel
theorem d_Law_copyFrom_71 : decode m_Law_copyFrom.2.1 71 = .ok (.iconst 0, 1) := by decide +kernel
theorem d_Law_copyFrom_72 : decode m_Law_copyFrom.2.1 72 = .ok (.bipush 16, 2) := by decide +kernel
theorem d_Law_copyFrom_74 : decode m_Law_copyFrom.2.1 74 = .ok (.invokestatic 41, 3) := by decide +kernel
theorem d_Law_copyFrom_77 : decode m_Law_copyFrom.2.1 77 = .ok (.aload_n 1, 1) := by decide +kernel
theorem d_Law_copyFrom_78 : decode m_Law_copyFrom.2.1 78 = .ok (.getfield 27, 3) := by decide +kernel
theorem d_Law_copyFrom_81 : decode m_Law_copyFrom.2.1 81 = .ok (.iconst 0, 1) := by decide +kernel
theorem d_Law_copyFrom_82 : decode m_Law_copyFrom.2.1 82 = .ok (.aload_n 0, 1) := by decide +kernel
theorem d_Law_copyFrom_83 : decode m_Law_copyFrom.2.1 83 = .ok (.getfield 27, 3) := by decide +kernel
theorem d_Law_copyFrom_86 : decode m_Law_copyFrom.2.1 86 = .ok (.iconst 0, 1) := by decide +kernel
theorem d_Law_copyFrom_87 : decode m_Law_copyFrom.2.1 87 = .ok (.bipush 16, 2) := by decide +kernel
theorem d_Law_copyFrom_89 : decode m_Law_copyFrom.2.1 89 = .ok (.invokestatic 41, 3) := by decide +kernel
theorem d_Law_copyFrom_92 : decode m_Law_copyFrom.2.1 92 = .ok (.aload_n 0, 1) := by decide +kernel
theorem d_Law_copyFrom_93 : decode m_Law_copyFrom.2.1 93 = .ok (.aload_n 1, 1) := by decide +kernel
theorem d_Law_copyFrom_94 : decode m_Law_copyFrom.2.1 94 = .ok (.getfield 30, 3) := by decide +kernel
theorem d_Law_copyFrom_97 : decode m_Law_copyFrom.2.1 97 = .ok (.putfield 30, 3) := by decide +kernel
theorem d_Law_copyFrom_100 : decode m_Law_copyFrom.2.1 100 = .ok (.aload_n 0, 1) := by decide +kernel
theorem d_Law_copyFrom_101 : decode m_Law_copyFrom.2.1 101 = .ok (.aload_n 1, 1) := by decide +kernel
theorem d_Law_copyFrom_102 : decode m_Law_copyFrom.2.1 102 = .ok (.getfield 34, 3) := by decide +kernel
theorem d_Law_copyFrom_105 : decode m_Law_copyFrom.2.1 105 = .ok (.putfield 34, 3) := by decide +kernel
theorem d_Law_copyFrom_108 : decode m_Law_copyFrom.2.1 108 = .ok (.return_, 1) := by decide +kernel
def f_Law_copyFrom (S : St) : Option (St) :=
    (some (sC S 33 26 (0 : Int32).toNatClampNeg (0 : Int32).toNatClampNeg (240 : Int32).toNatClampNeg)).bind fun S_13 =>
    (some (sC S_13 34 27 (0 : Int32).toNatClampNeg (0 : Int32).toNatClampNeg (240 : Int32).toNatClampNeg)).bind fun S_29 =>
    (some (sC S_29 35 28 (0 : Int32).toNatClampNeg (0 : Int32).toNatClampNeg (16 : Int32).toNatClampNeg)).bind fun S_44 =>
    (some (sC S_44 36 29 (0 : Int32).toNatClampNeg (0 : Int32).toNatClampNeg (16 : Int32).toNatClampNeg)).bind fun S_59 =>
    (some (sC S_59 37 30 (0 : Int32).toNatClampNeg (0 : Int32).toNatClampNeg (16 : Int32).toNatClampNeg)).bind fun S_74 =>
    (some (sC S_74 38 31 (0 : Int32).toNatClampNeg (0 : Int32).toNatClampNeg (16 : Int32).toNatClampNeg)).bind fun S_89 =>
    (some (sF S_89 25 7 (S_89 32 7))).bind fun S_97 =>
    (some (sF S_97 25 8 (S_97 32 8))).bind fun S_105 =>
    some S_105
set_option maxHeartbeats 4000000 in
set_option maxRecDepth 20000 in
theorem t_Law_copyFrom  {S : St} {w : St} (h : f_Law_copyFrom S = some w) : Ct SX m_Law_copyFrom 1 [.ref 25, .ref 32] S none w := by
  unfold f_Law_copyFrom at h
  refine Ct.of pn_Law (Nat.le_of_ble_eq_true rfl) ?_
  show G SX m_Law_copyFrom 1 none w 0 [(0, .ref 25), (1, .ref 32)] [] S
  refine G_aload_n 1 rfl d_Law_copyFrom_0 ?_
  refine G_getR fl_Law_11 kx_32 sx_32 rfl (by decide) d_Law_copyFrom_1 ?_
  refine G_iconst 0 (by decide) d_Law_copyFrom_4 ?_
  refine G_aload_n 0 rfl d_Law_copyFrom_5 ?_
  refine G_getR fl_Law_11 kx_25 sx_25 rfl (by decide) d_Law_copyFrom_6 ?_
  refine G_iconst 0 (by decide) d_Law_copyFrom_9 ?_
  refine G_sipush 240 (by decide) d_Law_copyFrom_10 ?_
  obtain ⟨S_13, e_13, h⟩ := ob_s h
  refine G_copy e_13 ac_Law_41 (by decide) kx_33 kx_26 sx_33 sx_26 (by decide) (by decide) (by decide) (by decide) (by decide) (Nat.le_of_ble_eq_true rfl) d_Law_copyFrom_13 ?_
  refine G_aload_n 1 rfl d_Law_copyFrom_16 ?_
  refine G_getR fl_Law_15 kx_32 sx_32 rfl (by decide) d_Law_copyFrom_17 ?_
  refine G_iconst 0 (by decide) d_Law_copyFrom_20 ?_
  refine G_aload_n 0 rfl d_Law_copyFrom_21 ?_
  refine G_getR fl_Law_15 kx_25 sx_25 rfl (by decide) d_Law_copyFrom_22 ?_
  refine G_iconst 0 (by decide) d_Law_copyFrom_25 ?_
  refine G_sipush 240 (by decide) d_Law_copyFrom_26 ?_
  obtain ⟨S_29, e_29, h⟩ := ob_s h
  refine G_copy e_29 ac_Law_41 (by decide) kx_34 kx_27 sx_34 sx_27 (by decide) (by decide) (by decide) (by decide) (by decide) (Nat.le_of_ble_eq_true rfl) d_Law_copyFrom_29 ?_
  refine G_aload_n 1 rfl d_Law_copyFrom_32 ?_
  refine G_getR fl_Law_18 kx_32 sx_32 rfl (by decide) d_Law_copyFrom_33 ?_
  refine G_iconst 0 (by decide) d_Law_copyFrom_36 ?_
  refine G_aload_n 0 rfl d_Law_copyFrom_37 ?_
  refine G_getR fl_Law_18 kx_25 sx_25 rfl (by decide) d_Law_copyFrom_38 ?_
  refine G_iconst 0 (by decide) d_Law_copyFrom_41 ?_
  refine G_bipush 16 (by decide) d_Law_copyFrom_42 ?_
  obtain ⟨S_44, e_44, h⟩ := ob_s h
  refine G_copy e_44 ac_Law_41 (by decide) kx_35 kx_28 sx_35 sx_28 (by decide) (by decide) (by decide) (by decide) (by decide) (Nat.le_of_ble_eq_true rfl) d_Law_copyFrom_44 ?_
  refine G_aload_n 1 rfl d_Law_copyFrom_47 ?_
  refine G_getR fl_Law_21 kx_32 sx_32 rfl (by decide) d_Law_copyFrom_48 ?_
  refine G_iconst 0 (by decide) d_Law_copyFrom_51 ?_
  refine G_aload_n 0 rfl d_Law_copyFrom_52 ?_
  refine G_getR fl_Law_21 kx_25 sx_25 rfl (by decide) d_Law_copyFrom_53 ?_
  refine G_iconst 0 (by decide) d_Law_copyFrom_56 ?_
  refine G_bipush 16 (by decide) d_Law_copyFrom_57 ?_
  obtain ⟨S_59, e_59, h⟩ := ob_s h
  refine G_copy e_59 ac_Law_41 (by decide) kx_36 kx_29 sx_36 sx_29 (by decide) (by decide) (by decide) (by decide) (by decide) (Nat.le_of_ble_eq_true rfl) d_Law_copyFrom_59 ?_
  refine G_aload_n 1 rfl d_Law_copyFrom_62 ?_
  refine G_getR fl_Law_24 kx_32 sx_32 rfl (by decide) d_Law_copyFrom_63 ?_
  refine G_iconst 0 (by decide) d_Law_copyFrom_66 ?_
  refine G_aload_n 0 rfl d_Law_copyFrom_67 ?_
  refine G_getR fl_Law_24 kx_25 sx_25 rfl (by decide) d_Law_copyFrom_68 ?_
  refine G_iconst 0 (by decide) d_Law_copyFrom_71 ?_
  refine G_bipush 16 (by decide) d_Law_copyFrom_72 ?_
  obtain ⟨S_74, e_74, h⟩ := ob_s h
  refine G_copy e_74 ac_Law_41 (by decide) kx_37 kx_30 sx_37 sx_30 (by decide) (by decide) (by decide) (by decide) (by decide) (Nat.le_of_ble_eq_true rfl) d_Law_copyFrom_74 ?_
  refine G_aload_n 1 rfl d_Law_copyFrom_77 ?_
  refine G_getR fl_Law_27 kx_32 sx_32 rfl (by decide) d_Law_copyFrom_78 ?_
  refine G_iconst 0 (by decide) d_Law_copyFrom_81 ?_
  refine G_aload_n 0 rfl d_Law_copyFrom_82 ?_
  refine G_getR fl_Law_27 kx_25 sx_25 rfl (by decide) d_Law_copyFrom_83 ?_
  refine G_iconst 0 (by decide) d_Law_copyFrom_86 ?_
  refine G_bipush 16 (by decide) d_Law_copyFrom_87 ?_
  obtain ⟨S_89, e_89, h⟩ := ob_s h
  refine G_copy e_89 ac_Law_41 (by decide) kx_38 kx_31 sx_38 sx_31 (by decide) (by decide) (by decide) (by decide) (by decide) (Nat.le_of_ble_eq_true rfl) d_Law_copyFrom_89 ?_
  refine G_aload_n 0 rfl d_Law_copyFrom_92 ?_
  refine G_aload_n 1 rfl d_Law_copyFrom_93 ?_
  refine G_getI fl_Law_30 kx_32 sx_32 rfl d_Law_copyFrom_94 ?_
  obtain ⟨S_97, e_97, h⟩ := ob_s h
  refine G_putI e_97 fp_Law_30 kx_25 sx_25 rfl d_Law_copyFrom_97 ?_
  refine G_aload_n 0 rfl d_Law_copyFrom_100 ?_
  refine G_aload_n 1 rfl d_Law_copyFrom_101 ?_
  refine G_getI fl_Law_34 kx_32 sx_32 rfl d_Law_copyFrom_102 ?_
  obtain ⟨S_105, e_105, h⟩ := ob_s h
  refine G_putI e_105 fp_Law_34 kx_25 sx_25 rfl d_Law_copyFrom_105 ?_
  cases h
  exact G_vret rfl d_Law_copyFrom_108
theorem d_Law_opens_0 : decode m_Law_opens.2.1 0 = .ok (.iload_n 1, 1) := by decide +kernel
theorem d_Law_opens_1 : decode m_Law_opens.2.1 1 = .ok (.bipush 6, 2) := by decide +kernel
theorem d_Law_opens_3 : decode m_Law_opens.2.1 3 = .ok (.if_icmp .lt 20, 3) := by decide +kernel
theorem d_Law_opens_6 : decode m_Law_opens.2.1 6 = .ok (.aload_n 0, 1) := by decide +kernel
theorem d_Law_opens_7 : decode m_Law_opens.2.1 7 = .ok (.getfield 37, 3) := by decide +kernel
theorem d_Law_opens_10 : decode m_Law_opens.2.1 10 = .ok (.iconst 5, 1) := by decide +kernel
theorem d_Law_opens_11 : decode m_Law_opens.2.1 11 = .ok (.aload_n 0, 1) := by decide +kernel
theorem d_Law_opens_12 : decode m_Law_opens.2.1 12 = .ok (.getfield 37, 3) := by decide +kernel
theorem d_Law_opens_15 : decode m_Law_opens.2.1 15 = .ok (.getfield 56, 3) := by decide +kernel
theorem d_Law_opens_18 : decode m_Law_opens.2.1 18 = .ok (.invokevirtual 59, 3) := by decide +kernel
theorem d_Law_opens_21 : decode m_Law_opens.2.1 21 = .ok (.iconst 0, 1) := by decide +kernel
theorem d_Law_opens_22 : decode m_Law_opens.2.1 22 = .ok (.ireturn, 1) := by decide +kernel
theorem d_Law_opens_23 : decode m_Law_opens.2.1 23 = .ok (.aload_n 0, 1) := by decide +kernel
theorem d_Law_opens_24 : decode m_Law_opens.2.1 24 = .ok (.getfield 37, 3) := by decide +kernel
theorem d_Law_opens_27 : decode m_Law_opens.2.1 27 = .ok (.dup, 1) := by decide +kernel
theorem d_Law_opens_28 : decode m_Law_opens.2.1 28 = .ok (.getfield 56, 3) := by decide +kernel
theorem d_Law_opens_31 : decode m_Law_opens.2.1 31 = .ok (.iconst 1, 1) := by decide +kernel
theorem d_Law_opens_32 : decode m_Law_opens.2.1 32 = .ok (.iadd, 1) := by decide +kernel
theorem d_Law_opens_33 : decode m_Law_opens.2.1 33 = .ok (.putfield 56, 3) := by decide +kernel
theorem d_Law_opens_36 : decode m_Law_opens.2.1 36 = .ok (.iconst 1, 1) := by decide +kernel
theorem d_Law_opens_37 : decode m_Law_opens.2.1 37 = .ok (.ireturn, 1) := by decide +kernel
def f_Law_opens (S : St) (l1 : Int32) : Option (Int32 × St) :=
    if l1 < 6 then (
    (some (sF S 3 1 ((S 3 1) + 1))).bind fun S_33 =>
    some (1, S_33))
    else (
    (f_Reading_fail S (5 : Int32) (S 3 1)).bind fun w_18 =>
    some (0, w_18))
set_option maxHeartbeats 4000000 in
set_option maxRecDepth 20000 in
theorem t_Law_opens  {S : St} {l1 : Int32} {w : Int32 × St} (h : f_Law_opens S l1 = some w) : Ct SX m_Law_opens 2 [.ref 32, .int l1] S (some w.1) w.2 := by
  unfold f_Law_opens at h
  refine Ct.of pn_Law (Nat.le_of_ble_eq_true rfl) ?_
  show G SX m_Law_opens 2 (some w.1) w.2 0 [(0, .ref 32), (1, .int l1)] [] S
  refine G_iload_n 1 rfl d_Law_opens_0 ?_
  refine G_bipush 6 (by decide) d_Law_opens_1 ?_
  refine G_icmp_lt 23 (by decide) d_Law_opens_3 (fun c_3 => ?_) (fun c_3 => ?_)
  · replace h := ob_t h c_3
    refine G_aload_n 0 rfl d_Law_opens_23 ?_
    refine G_getR fl_Law_37 kx_32 sx_32 rfl (by decide) d_Law_opens_24 ?_
    refine G_dup rfl d_Law_opens_27 ?_
    refine G_getI fl_Law_56 kx_3 sx_3 rfl d_Law_opens_28 ?_
    refine G_iconst 1 (by decide) d_Law_opens_31 ?_
    refine G_iadd d_Law_opens_32 ?_
    obtain ⟨S_33, e_33, h⟩ := ob_s h
    refine G_putI e_33 fp_Law_56 kx_3 sx_3 rfl d_Law_opens_33 ?_
    refine G_iconst 1 (by decide) d_Law_opens_36 ?_
    cases h
    exact G_zret (Or.inr rfl) rfl d_Law_opens_37
  · replace h := ob_f h c_3
    refine G_aload_n 0 rfl d_Law_opens_6 ?_
    refine G_getR fl_Law_37 kx_32 sx_32 rfl (by decide) d_Law_opens_7 ?_
    refine G_iconst 5 (by decide) d_Law_opens_10 ?_
    refine G_aload_n 0 rfl d_Law_opens_11 ?_
    refine G_getR fl_Law_37 kx_32 sx_32 rfl (by decide) d_Law_opens_12 ?_
    refine G_getI fl_Law_56 kx_3 sx_3 rfl d_Law_opens_15 ?_
    obtain ⟨w_18, q_18, h⟩ := ob_b h
    refine G_callV [.int 5, .int (S 3 1)] [] (t_Reading_fail q_18) (by decide) (by decide) mv_Reading_fail rfl ml_Law_59 kx_3 sx_3 cl_4 rfl (Nat.le_of_ble_eq_true rfl) d_Law_opens_18 ?_
    refine G_iconst 0 (by decide) d_Law_opens_21 ?_
    cases h
    exact G_zret (Or.inl rfl) rfl d_Law_opens_22
theorem d_Law_isFact_0 : decode m_Law_isFact.2.1 0 = .ok (.iload_n 0, 1) := by decide +kernel
theorem d_Law_isFact_1 : decode m_Law_isFact.2.1 1 = .ok (.tableswitch 77 105 119 #[75, 77, 75, 75, 75, 75, 75, 75, 77, 77, 77, 75, 77, 77, 75], 75) := by decide +kernel
theorem d_Law_isFact_76 : decode m_Law_isFact.2.1 76 = .ok (.iconst 1, 1) := by decide +kernel
theorem d_Law_isFact_77 : decode m_Law_isFact.2.1 77 = .ok (.ireturn, 1) := by decide +kernel
theorem d_Law_isFact_78 : decode m_Law_isFact.2.1 78 = .ok (.iconst 0, 1) := by decide +kernel
theorem d_Law_isFact_79 : decode m_Law_isFact.2.1 79 = .ok (.ireturn, 1) := by decide +kernel
def f_Law_isFact (S : St) (l0 : Int32) : Option (Int32) :=
    if l0 = 105 then (
    some (1 : Int32))
    else if l0 = 107 then (
    some (1 : Int32))
    else if l0 = 108 then (
    some (1 : Int32))
    else if l0 = 109 then (
    some (1 : Int32))
    else if l0 = 110 then (
    some (1 : Int32))
    else if l0 = 111 then (
    some (1 : Int32))
    else if l0 = 112 then (
    some (1 : Int32))
    else if l0 = 116 then (
    some (1 : Int32))
    else if l0 = 119 then (
    some (1 : Int32))
    else (
    some (0 : Int32))
set_option maxHeartbeats 4000000 in
set_option maxRecDepth 20000 in
theorem t_Law_isFact  {S : St} {l0 : Int32} {w : Int32} (h : f_Law_isFact S l0 = some w) : Ct SX m_Law_isFact 1 [.int l0] S (some w) S := by
  unfold f_Law_isFact at h
  refine Ct.of pn_Law (Nat.le_of_ble_eq_true rfl) ?_
  show G SX m_Law_isFact 1 (some w) S 0 [(0, .int l0)] [] S
  refine G_iload_n 0 rfl d_Law_isFact_0 ?_
  by_cases c_1_0 : l0 = 105
  · replace h := ob_t h c_1_0
    refine G_tin (105) (by rw [c_1_0]; decide) 76 (by decide) (by decide) rfl (by decide) d_Law_isFact_1 ?_
    refine G_iconst 1 (by decide) d_Law_isFact_76 ?_
    cases h
    exact G_zret (Or.inr rfl) rfl d_Law_isFact_77
  replace h := ob_f h c_1_0
  by_cases c_1_1 : l0 = 107
  · replace h := ob_t h c_1_1
    refine G_tin (107) (by rw [c_1_1]; decide) 76 (by decide) (by decide) rfl (by decide) d_Law_isFact_1 ?_
    refine G_iconst 1 (by decide) d_Law_isFact_76 ?_
    cases h
    exact G_zret (Or.inr rfl) rfl d_Law_isFact_77
  replace h := ob_f h c_1_1
  by_cases c_1_2 : l0 = 108
  · replace h := ob_t h c_1_2
    refine G_tin (108) (by rw [c_1_2]; decide) 76 (by decide) (by decide) rfl (by decide) d_Law_isFact_1 ?_
    refine G_iconst 1 (by decide) d_Law_isFact_76 ?_
    cases h
    exact G_zret (Or.inr rfl) rfl d_Law_isFact_77
  replace h := ob_f h c_1_2
  by_cases c_1_3 : l0 = 109
  · replace h := ob_t h c_1_3
    refine G_tin (109) (by rw [c_1_3]; decide) 76 (by decide) (by decide) rfl (by decide) d_Law_isFact_1 ?_
    refine G_iconst 1 (by decide) d_Law_isFact_76 ?_
    cases h
    exact G_zret (Or.inr rfl) rfl d_Law_isFact_77
  replace h := ob_f h c_1_3
  by_cases c_1_4 : l0 = 110
  · replace h := ob_t h c_1_4
    refine G_tin (110) (by rw [c_1_4]; decide) 76 (by decide) (by decide) rfl (by decide) d_Law_isFact_1 ?_
    refine G_iconst 1 (by decide) d_Law_isFact_76 ?_
    cases h
    exact G_zret (Or.inr rfl) rfl d_Law_isFact_77
  replace h := ob_f h c_1_4
  by_cases c_1_5 : l0 = 111
  · replace h := ob_t h c_1_5
    refine G_tin (111) (by rw [c_1_5]; decide) 76 (by decide) (by decide) rfl (by decide) d_Law_isFact_1 ?_
    refine G_iconst 1 (by decide) d_Law_isFact_76 ?_
    cases h
    exact G_zret (Or.inr rfl) rfl d_Law_isFact_77
  replace h := ob_f h c_1_5
  by_cases c_1_6 : l0 = 112
  · replace h := ob_t h c_1_6
    refine G_tin (112) (by rw [c_1_6]; decide) 76 (by decide) (by decide) rfl (by decide) d_Law_isFact_1 ?_
    refine G_iconst 1 (by decide) d_Law_isFact_76 ?_
    cases h
    exact G_zret (Or.inr rfl) rfl d_Law_isFact_77
  replace h := ob_f h c_1_6
  by_cases c_1_7 : l0 = 116
  · replace h := ob_t h c_1_7
    refine G_tin (116) (by rw [c_1_7]; decide) 76 (by decide) (by decide) rfl (by decide) d_Law_isFact_1 ?_
    refine G_iconst 1 (by decide) d_Law_isFact_76 ?_
    cases h
    exact G_zret (Or.inr rfl) rfl d_Law_isFact_77
  replace h := ob_f h c_1_7
  by_cases c_1_8 : l0 = 119
  · replace h := ob_t h c_1_8
    refine G_tin (119) (by rw [c_1_8]; decide) 76 (by decide) (by decide) rfl (by decide) d_Law_isFact_1 ?_
    refine G_iconst 1 (by decide) d_Law_isFact_76 ?_
    cases h
    exact G_zret (Or.inr rfl) rfl d_Law_isFact_77
  replace h := ob_f h c_1_8
  by_cases c_1_h106 : l0 = 106
  · refine G_tin (106) (by rw [c_1_h106]; decide) 78 (by decide) (by decide) rfl (by decide) d_Law_isFact_1 ?_
    refine G_iconst 0 (by decide) d_Law_isFact_78 ?_
    cases h
    exact G_zret (Or.inl rfl) rfl d_Law_isFact_79
  by_cases c_1_h113 : l0 = 113
  · refine G_tin (113) (by rw [c_1_h113]; decide) 78 (by decide) (by decide) rfl (by decide) d_Law_isFact_1 ?_
    refine G_iconst 0 (by decide) d_Law_isFact_78 ?_
    cases h
    exact G_zret (Or.inl rfl) rfl d_Law_isFact_79
  by_cases c_1_h114 : l0 = 114
  · refine G_tin (114) (by rw [c_1_h114]; decide) 78 (by decide) (by decide) rfl (by decide) d_Law_isFact_1 ?_
    refine G_iconst 0 (by decide) d_Law_isFact_78 ?_
    cases h
    exact G_zret (Or.inl rfl) rfl d_Law_isFact_79
  by_cases c_1_h115 : l0 = 115
  · refine G_tin (115) (by rw [c_1_h115]; decide) 78 (by decide) (by decide) rfl (by decide) d_Law_isFact_1 ?_
    refine G_iconst 0 (by decide) d_Law_isFact_78 ?_
    cases h
    exact G_zret (Or.inl rfl) rfl d_Law_isFact_79
  by_cases c_1_h117 : l0 = 117
  · refine G_tin (117) (by rw [c_1_h117]; decide) 78 (by decide) (by decide) rfl (by decide) d_Law_isFact_1 ?_
    refine G_iconst 0 (by decide) d_Law_isFact_78 ?_
    cases h
    exact G_zret (Or.inl rfl) rfl d_Law_isFact_79
  by_cases c_1_h118 : l0 = 118
  · refine G_tin (118) (by rw [c_1_h118]; decide) 78 (by decide) (by decide) rfl (by decide) d_Law_isFact_1 ?_
    refine G_iconst 0 (by decide) d_Law_isFact_78 ?_
    cases h
    exact G_zret (Or.inl rfl) rfl d_Law_isFact_79
  have n_1_0 := lv_neT c_1_0 (a := 105) (by decide)
  have n_1_1 := lv_neT c_1_1 (a := 107) (by decide)
  have n_1_2 := lv_neT c_1_2 (a := 108) (by decide)
  have n_1_3 := lv_neT c_1_3 (a := 109) (by decide)
  have n_1_4 := lv_neT c_1_4 (a := 110) (by decide)
  have n_1_5 := lv_neT c_1_5 (a := 111) (by decide)
  have n_1_6 := lv_neT c_1_6 (a := 112) (by decide)
  have n_1_7 := lv_neT c_1_7 (a := 116) (by decide)
  have n_1_8 := lv_neT c_1_8 (a := 119) (by decide)
  have n_1_h106 := lv_neT c_1_h106 (a := 106) (by decide)
  have n_1_h113 := lv_neT c_1_h113 (a := 113) (by decide)
  have n_1_h114 := lv_neT c_1_h114 (a := 114) (by decide)
  have n_1_h115 := lv_neT c_1_h115 (a := 115) (by decide)
  have n_1_h117 := lv_neT c_1_h117 (a := 117) (by decide)
  have n_1_h118 := lv_neT c_1_h118 (a := 118) (by decide)
  refine G_tout (by omega) 78 (by decide) d_Law_isFact_1 ?_
  refine G_iconst 0 (by decide) d_Law_isFact_78 ?_
  cases h
  exact G_zret (Or.inl rfl) rfl d_Law_isFact_79
theorem d_Law_add_0 : decode m_Law_add.2.1 0 = .ok (.aload_n 0, 1) := by decide +kernel
theorem d_Law_add_1 : decode m_Law_add.2.1 1 = .ok (.getfield 30, 3) := by decide +kernel
theorem d_Law_add_4 : decode m_Law_add.2.1 4 = .ok (.sipush 240, 3) := by decide +kernel
theorem d_Law_add_7 : decode m_Law_add.2.1 7 = .ok (.if_icmp .lt 5, 3) := by decide +kernel
theorem d_Law_add_10 : decode m_Law_add.2.1 10 = .ok (.iconst (-1), 1) := by decide +kernel
theorem d_Law_add_11 : decode m_Law_add.2.1 11 = .ok (.ireturn, 1) := by decide +kernel
theorem d_Law_add_12 : decode m_Law_add.2.1 12 = .ok (.aload_n 0, 1) := by decide +kernel
theorem d_Law_add_13 : decode m_Law_add.2.1 13 = .ok (.getfield 11, 3) := by decide +kernel
theorem d_Law_add_16 : decode m_Law_add.2.1 16 = .ok (.aload_n 0, 1) := by decide +kernel
theorem d_Law_add_17 : decode m_Law_add.2.1 17 = .ok (.getfield 30, 3) := by decide +kernel
theorem d_Law_add_20 : decode m_Law_add.2.1 20 = .ok (.iload_n 1, 1) := by decide +kernel
theorem d_Law_add_21 : decode m_Law_add.2.1 21 = .ok (.iastore, 1) := by decide +kernel
theorem d_Law_add_22 : decode m_Law_add.2.1 22 = .ok (.aload_n 0, 1) := by decide +kernel
theorem d_Law_add_23 : decode m_Law_add.2.1 23 = .ok (.getfield 15, 3) := by decide +kernel
theorem d_Law_add_26 : decode m_Law_add.2.1 26 = .ok (.aload_n 0, 1) := by decide +kernel
theorem d_Law_add_27 : decode m_Law_add.2.1 27 = .ok (.getfield 30, 3) := by decide +kernel
theorem d_Law_add_30 : decode m_Law_add.2.1 30 = .ok (.iload_n 2, 1) := by decide +kernel
theorem d_Law_add_31 : decode m_Law_add.2.1 31 = .ok (.iastore, 1) := by decide +kernel
theorem d_Law_add_32 : decode m_Law_add.2.1 32 = .ok (.aload_n 0, 1) := by decide +kernel
theorem d_Law_add_33 : decode m_Law_add.2.1 33 = .ok (.dup, 1) := by decide +kernel
theorem d_Law_add_34 : decode m_Law_add.2.1 34 = .ok (.getfield 30, 3) := by decide +kernel
theorem d_Law_add_37 : decode m_Law_add.2.1 37 = .ok (.iconst 1, 1) := by decide +kernel
theorem d_Law_add_38 : decode m_Law_add.2.1 38 = .ok (.iadd, 1) := by decide +kernel
theorem d_Law_add_39 : decode m_Law_add.2.1 39 = .ok (.putfield 30, 3) := by decide +kernel
theorem d_Law_add_42 : decode m_Law_add.2.1 42 = .ok (.aload_n 0, 1) := by decide +kernel
theorem d_Law_add_43 : decode m_Law_add.2.1 43 = .ok (.getfield 30, 3) := by decide +kernel
theorem d_Law_add_46 : decode m_Law_add.2.1 46 = .ok (.iconst 1, 1) := by decide +kernel
theorem d_Law_add_47 : decode m_Law_add.2.1 47 = .ok (.isub, 1) := by decide +kernel
theorem d_Law_add_48 : decode m_Law_add.2.1 48 = .ok (.ireturn, 1) := by decide +kernel
def f_Law_add (S : St) (l1 : Int32) (l2 : Int32) : Option (Int32 × St) :=
    if (S 32 7) < 240 then (
    if ig (S 32 7) 240 then (
    (some (sF S 33 (S 32 7).toNatClampNeg l1)).bind fun S_21 =>
    if ig (S_21 32 7) 240 then (
    (some (sF S_21 34 (S_21 32 7).toNatClampNeg l2)).bind fun S_31 =>
    (some (sF S_31 32 7 ((S_31 32 7) + 1))).bind fun S_39 =>
    some (((S_39 32 7) - 1), S_39)) else none) else none)
    else (
    some ((-1), S))
set_option maxHeartbeats 4000000 in
set_option maxRecDepth 20000 in
theorem t_Law_add  {S : St} {l1 : Int32} {l2 : Int32} {w : Int32 × St} (h : f_Law_add S l1 l2 = some w) : Ct SX m_Law_add 1 [.ref 32, .int l1, .int l2] S (some w.1) w.2 := by
  unfold f_Law_add at h
  refine Ct.of pn_Law (Nat.le_of_ble_eq_true rfl) ?_
  show G SX m_Law_add 1 (some w.1) w.2 0 [(0, .ref 32), (1, .int l1), (2, .int l2)] [] S
  refine G_aload_n 0 rfl d_Law_add_0 ?_
  refine G_getI fl_Law_30 kx_32 sx_32 rfl d_Law_add_1 ?_
  refine G_sipush 240 (by decide) d_Law_add_4 ?_
  refine G_icmp_lt 12 (by decide) d_Law_add_7 (fun c_7 => ?_) (fun c_7 => ?_)
  · replace h := ob_t h c_7
    refine G_aload_n 0 rfl d_Law_add_12 ?_
    refine G_getR fl_Law_11 kx_32 sx_32 rfl (by decide) d_Law_add_13 ?_
    refine G_aload_n 0 rfl d_Law_add_16 ?_
    refine G_getI fl_Law_30 kx_32 sx_32 rfl d_Law_add_17 ?_
    refine G_iload_n 1 rfl d_Law_add_20 ?_
    obtain ⟨g_21, h⟩ := ob_g h
    obtain ⟨S_21, e_21, h⟩ := ob_s h
    refine G_iastore e_21 kx_33 sx_33 g_21 d_Law_add_21 ?_
    refine G_aload_n 0 rfl d_Law_add_22 ?_
    refine G_getR fl_Law_15 kx_32 sx_32 rfl (by decide) d_Law_add_23 ?_
    refine G_aload_n 0 rfl d_Law_add_26 ?_
    refine G_getI fl_Law_30 kx_32 sx_32 rfl d_Law_add_27 ?_
    refine G_iload_n 2 rfl d_Law_add_30 ?_
    obtain ⟨g_31, h⟩ := ob_g h
    obtain ⟨S_31, e_31, h⟩ := ob_s h
    refine G_iastore e_31 kx_34 sx_34 g_31 d_Law_add_31 ?_
    refine G_aload_n 0 rfl d_Law_add_32 ?_
    refine G_dup rfl d_Law_add_33 ?_
    refine G_getI fl_Law_30 kx_32 sx_32 rfl d_Law_add_34 ?_
    refine G_iconst 1 (by decide) d_Law_add_37 ?_
    refine G_iadd d_Law_add_38 ?_
    obtain ⟨S_39, e_39, h⟩ := ob_s h
    refine G_putI e_39 fp_Law_30 kx_32 sx_32 rfl d_Law_add_39 ?_
    refine G_aload_n 0 rfl d_Law_add_42 ?_
    refine G_getI fl_Law_30 kx_32 sx_32 rfl d_Law_add_43 ?_
    refine G_iconst 1 (by decide) d_Law_add_46 ?_
    refine G_isub d_Law_add_47 ?_
    cases h
    exact G_iret rfl d_Law_add_48
  · replace h := ob_f h c_7
    refine G_iconst (-1) (by decide) d_Law_add_10 ?_
    cases h
    exact G_iret rfl d_Law_add_11
theorem d_Law_land_0 : decode m_Law_land.2.1 0 = .ok (.iload_n 1, 1) := by decide +kernel
theorem d_Law_land_1 : decode m_Law_land.2.1 1 = .ok (.ifCond .lt 21, 3) := by decide +kernel
theorem d_Law_land_4 : decode m_Law_land.2.1 4 = .ok (.iload_n 1, 1) := by decide +kernel
theorem d_Law_land_5 : decode m_Law_land.2.1 5 = .ok (.aload_n 0, 1) := by decide +kernel
theorem d_Law_land_6 : decode m_Law_land.2.1 6 = .ok (.getfield 30, 3) := by decide +kernel
theorem d_Law_land_9 : decode m_Law_land.2.1 9 = .ok (.if_icmp .ge 13, 3) := by decide +kernel
theorem d_Law_land_12 : decode m_Law_land.2.1 12 = .ok (.aload_n 0, 1) := by decide +kernel
theorem d_Law_land_13 : decode m_Law_land.2.1 13 = .ok (.getfield 15, 3) := by decide +kernel
theorem d_Law_land_16 : decode m_Law_land.2.1 16 = .ok (.iload_n 1, 1) := by decide +kernel
theorem d_Law_land_17 : decode m_Law_land.2.1 17 = .ok (.aload_n 0, 1) := by decide +kernel
theorem d_Law_land_18 : decode m_Law_land.2.1 18 = .ok (.getfield 30, 3) := by decide +kernel
theorem d_Law_land_21 : decode m_Law_land.2.1 21 = .ok (.iastore, 1) := by decide +kernel
theorem d_Law_land_22 : decode m_Law_land.2.1 22 = .ok (.return_, 1) := by decide +kernel
def f_Law_land (S : St) (l1 : Int32) : Option (St) :=
    if l1 < 0 then (
    some S)
    else (
    if (S 32 7) ≤ l1 then (
    some S)
    else (
    if ig l1 240 then (
    (some (sF S 34 l1.toNatClampNeg (S 32 7))).bind fun S_21 =>
    some S_21) else none))
set_option maxHeartbeats 4000000 in
set_option maxRecDepth 20000 in
theorem t_Law_land  {S : St} {l1 : Int32} {w : St} (h : f_Law_land S l1 = some w) : Ct SX m_Law_land 1 [.ref 32, .int l1] S none w := by
  unfold f_Law_land at h
  refine Ct.of pn_Law (Nat.le_of_ble_eq_true rfl) ?_
  show G SX m_Law_land 1 none w 0 [(0, .ref 32), (1, .int l1)] [] S
  refine G_iload_n 1 rfl d_Law_land_0 ?_
  refine G_if_lt 22 (by decide) d_Law_land_1 (fun c_1 => ?_) (fun c_1 => ?_)
  · replace h := ob_t h c_1
    cases h
    exact G_vret rfl d_Law_land_22
  · replace h := ob_f h c_1
    refine G_iload_n 1 rfl d_Law_land_4 ?_
    refine G_aload_n 0 rfl d_Law_land_5 ?_
    refine G_getI fl_Law_30 kx_32 sx_32 rfl d_Law_land_6 ?_
    refine G_icmp_ge 22 (by decide) d_Law_land_9 (fun c_9 => ?_) (fun c_9 => ?_)
    · replace h := ob_t h c_9
      cases h
      exact G_vret rfl d_Law_land_22
    · replace h := ob_f h c_9
      refine G_aload_n 0 rfl d_Law_land_12 ?_
      refine G_getR fl_Law_15 kx_32 sx_32 rfl (by decide) d_Law_land_13 ?_
      refine G_iload_n 1 rfl d_Law_land_16 ?_
      refine G_aload_n 0 rfl d_Law_land_17 ?_
      refine G_getI fl_Law_30 kx_32 sx_32 rfl d_Law_land_18 ?_
      obtain ⟨g_21, h⟩ := ob_g h
      obtain ⟨S_21, e_21, h⟩ := ob_s h
      refine G_iastore e_21 kx_34 sx_34 g_21 d_Law_land_21 ?_
      cases h
      exact G_vret rfl d_Law_land_22
theorem d_Law_readFactor_0 : decode m_Law_readFactor.2.1 0 = .ok (.aload_n 0, 1) := by decide +kernel
theorem d_Law_readFactor_1 : decode m_Law_readFactor.2.1 1 = .ok (.getfield 37, 3) := by decide +kernel
theorem d_Law_readFactor_4 : decode m_Law_readFactor.2.1 4 = .ok (.invokevirtual 52, 3) := by decide +kernel
theorem d_Law_readFactor_7 : decode m_Law_readFactor.2.1 7 = .ok (.istore_n 2, 1) := by decide +kernel
theorem d_Law_readFactor_8 : decode m_Law_readFactor.2.1 8 = .ok (.aload_n 0, 1) := by decide +kernel
theorem d_Law_readFactor_9 : decode m_Law_readFactor.2.1 9 = .ok (.getfield 37, 3) := by decide +kernel
theorem d_Law_readFactor_12 : decode m_Law_readFactor.2.1 12 = .ok (.getfield 81, 3) := by decide +kernel
theorem d_Law_readFactor_15 : decode m_Law_readFactor.2.1 15 = .ok (.ifCond .eq 4, 3) := by decide +kernel
theorem d_Law_readFactor_18 : decode m_Law_readFactor.2.1 18 = .ok (.return_, 1) := by decide +kernel
theorem d_Law_readFactor_19 : decode m_Law_readFactor.2.1 19 = .ok (.iload_n 2, 1) := by decide +kernel
theorem d_Law_readFactor_20 : decode m_Law_readFactor.2.1 20 = .ok (.bipush 91, 2) := by decide +kernel
theorem d_Law_readFactor_22 : decode m_Law_readFactor.2.1 22 = .ok (.if_icmp .ne 30, 3) := by decide +kernel
theorem d_Law_readFactor_25 : decode m_Law_readFactor.2.1 25 = .ok (.aload_n 0, 1) := by decide +kernel
theorem d_Law_readFactor_26 : decode m_Law_readFactor.2.1 26 = .ok (.iload_n 1, 1) := by decide +kernel
theorem d_Law_readFactor_27 : decode m_Law_readFactor.2.1 27 = .ok (.invokevirtual 94, 3) := by decide +kernel
theorem d_Law_readFactor_30 : decode m_Law_readFactor.2.1 30 = .ok (.ifCond .eq 91, 3) := by decide +kernel
theorem d_Law_readFactor_33 : decode m_Law_readFactor.2.1 33 = .ok (.aload_n 0, 1) := by decide +kernel
theorem d_Law_readFactor_34 : decode m_Law_readFactor.2.1 34 = .ok (.iload_n 1, 1) := by decide +kernel
theorem d_Law_readFactor_35 : decode m_Law_readFactor.2.1 35 = .ok (.iconst 1, 1) := by decide +kernel
theorem d_Law_readFactor_36 : decode m_Law_readFactor.2.1 36 = .ok (.iadd, 1) := by decide +kernel
theorem d_Law_readFactor_37 : decode m_Law_readFactor.2.1 37 = .ok (.invokevirtual 67, 3) := by decide +kernel
theorem d_Law_readFactor_40 : decode m_Law_readFactor.2.1 40 = .ok (.aload_n 0, 1) := by decide +kernel
theorem d_Law_readFactor_41 : decode m_Law_readFactor.2.1 41 = .ok (.getfield 37, 3) := by decide +kernel
theorem d_Law_readFactor_44 : decode m_Law_readFactor.2.1 44 = .ok (.bipush 93, 2) := by decide +kernel
theorem d_Law_readFactor_46 : decode m_Law_readFactor.2.1 46 = .ok (.invokevirtual 71, 3) := by decide +kernel
theorem d_Law_readFactor_49 : decode m_Law_readFactor.2.1 49 = .ok (.goto 72, 3) := by decide +kernel
theorem d_Law_readFactor_52 : decode m_Law_readFactor.2.1 52 = .ok (.iload_n 2, 1) := by decide +kernel
theorem d_Law_readFactor_53 : decode m_Law_readFactor.2.1 53 = .ok (.invokestatic 100, 3) := by decide +kernel
theorem d_Law_readFactor_56 : decode m_Law_readFactor.2.1 56 = .ok (.ifCond .eq 20, 3) := by decide +kernel
theorem d_Law_readFactor_59 : decode m_Law_readFactor.2.1 59 = .ok (.aload_n 0, 1) := by decide +kernel
theorem d_Law_readFactor_60 : decode m_Law_readFactor.2.1 60 = .ok (.iconst 0, 1) := by decide +kernel
theorem d_Law_readFactor_61 : decode m_Law_readFactor.2.1 61 = .ok (.aload_n 0, 1) := by decide +kernel
theorem d_Law_readFactor_62 : decode m_Law_readFactor.2.1 62 = .ok (.getfield 37, 3) := by decide +kernel
theorem d_Law_readFactor_65 : decode m_Law_readFactor.2.1 65 = .ok (.iconst 5, 1) := by decide +kernel
theorem d_Law_readFactor_66 : decode m_Law_readFactor.2.1 66 = .ok (.invokevirtual 103, 3) := by decide +kernel
theorem d_Law_readFactor_69 : decode m_Law_readFactor.2.1 69 = .ok (.invokevirtual 63, 3) := by decide +kernel
theorem d_Law_readFactor_72 : decode m_Law_readFactor.2.1 72 = .ok (.pop, 1) := by decide +kernel
theorem d_Law_readFactor_73 : decode m_Law_readFactor.2.1 73 = .ok (.goto 48, 3) := by decide +kernel
theorem d_Law_readFactor_76 : decode m_Law_readFactor.2.1 76 = .ok (.iload_n 2, 1) := by decide +kernel
theorem d_Law_readFactor_77 : decode m_Law_readFactor.2.1 77 = .ok (.invokestatic 107, 3) := by decide +kernel
theorem d_Law_readFactor_80 : decode m_Law_readFactor.2.1 80 = .ok (.ifCond .eq 26, 3) := by decide +kernel
theorem d_Law_readFactor_83 : decode m_Law_readFactor.2.1 83 = .ok (.aload_n 0, 1) := by decide +kernel
theorem d_Law_readFactor_84 : decode m_Law_readFactor.2.1 84 = .ok (.getfield 37, 3) := by decide +kernel
theorem d_Law_readFactor_87 : decode m_Law_readFactor.2.1 87 = .ok (.dup, 1) := by decide +kernel
theorem d_Law_readFactor_88 : decode m_Law_readFactor.2.1 88 = .ok (.getfield 56, 3) := by decide +kernel
theorem d_Law_readFactor_91 : decode m_Law_readFactor.2.1 91 = .ok (.iconst 1, 1) := by decide +kernel
theorem d_Law_readFactor_92 : decode m_Law_readFactor.2.1 92 = .ok (.iadd, 1) := by decide +kernel
theorem d_Law_readFactor_93 : decode m_Law_readFactor.2.1 93 = .ok (.putfield 56, 3) := by decide +kernel
theorem d_Law_readFactor_96 : decode m_Law_readFactor.2.1 96 = .ok (.aload_n 0, 1) := by decide +kernel
theorem d_Law_readFactor_97 : decode m_Law_readFactor.2.1 97 = .ok (.iconst 1, 1) := by decide +kernel
theorem d_Law_readFactor_98 : decode m_Law_readFactor.2.1 98 = .ok (.iload_n 2, 1) := by decide +kernel
theorem d_Law_readFactor_99 : decode m_Law_readFactor.2.1 99 = .ok (.invokevirtual 63, 3) := by decide +kernel
theorem d_Law_readFactor_102 : decode m_Law_readFactor.2.1 102 = .ok (.pop, 1) := by decide +kernel
theorem d_Law_readFactor_103 : decode m_Law_readFactor.2.1 103 = .ok (.goto 18, 3) := by decide +kernel
theorem d_Law_readFactor_106 : decode m_Law_readFactor.2.1 106 = .ok (.aload_n 0, 1) := by decide +kernel
theorem d_Law_readFactor_107 : decode m_Law_readFactor.2.1 107 = .ok (.getfield 37, 3) := by decide +kernel
theorem d_Law_readFactor_110 : decode m_Law_readFactor.2.1 110 = .ok (.iconst 1, 1) := by decide +kernel
theorem d_Law_readFactor_111 : decode m_Law_readFactor.2.1 111 = .ok (.aload_n 0, 1) := by decide +kernel
theorem d_Law_readFactor_112 : decode m_Law_readFactor.2.1 112 = .ok (.getfield 37, 3) := by decide +kernel
theorem d_Law_readFactor_115 : decode m_Law_readFactor.2.1 115 = .ok (.getfield 56, 3) := by decide +kernel
theorem d_Law_readFactor_118 : decode m_Law_readFactor.2.1 118 = .ok (.invokevirtual 59, 3) := by decide +kernel
theorem d_Law_readFactor_121 : decode m_Law_readFactor.2.1 121 = .ok (.return_, 1) := by decide +kernel
def f_Law_readFactor (k_Law_readValue : St → Int32 → Option (St)) (S : St) (l1 : Int32) : Option (St) :=
    (f_Reading_sign S).bind fun v_4 =>
    if (S 3 2) = 0 then (
    if v_4 = 91 then (
    (f_Law_opens S l1).bind fun w_27 =>
    if w_27.1 = 0 then (
    some w_27.2)
    else (
    (k_Law_readValue w_27.2 (l1 + 1)).bind fun w_37 =>
    (f_Reading_needs w_37 (93 : Int32)).bind fun w_46 =>
    some w_46))
    else (
    (f_Reading_isDigit S v_4).bind fun v_53 =>
    if v_53 = 0 then (
    (f_Law_isFact S v_4).bind fun v_77 =>
    if v_77 = 0 then (
    (f_Reading_fail S (1 : Int32) (S 3 1)).bind fun w_118 =>
    some w_118)
    else (
    (some (sF S 3 1 ((S 3 1) + 1))).bind fun S_93 =>
    (f_Law_add S_93 (1 : Int32) v_4).bind fun w_99 =>
    some w_99.2))
    else (
    (f_Reading_number S (5 : Int32)).bind fun w_66 =>
    (f_Law_add w_66.2 (0 : Int32) w_66.1).bind fun w_69 =>
    some w_69.2)))
    else (
    some S)
set_option maxHeartbeats 4000000 in
set_option maxRecDepth 20000 in
theorem t_Law_readFactor {hh : Nat} {hh_Law_readValue : Nat}  {k_Law_readValue : St → Int32 → Option (St)} (hk_Law_readValue : ∀ (S : St) (l1 : Int32) (w : St), k_Law_readValue S l1 = some w → Ct SX m_Law_readValue hh_Law_readValue [.ref 32, .int l1] S none w) (le_Law_readValue : hh_Law_readValue ≤ hh) {S : St} {l1 : Int32} {w : St} (h : f_Law_readFactor k_Law_readValue S l1 = some w) : Ct SX m_Law_readFactor (hh + 4) [.ref 32, .int l1] S none w := by
  unfold f_Law_readFactor at h
  refine Ct.of pn_Law (Nat.le_of_ble_eq_true rfl) ?_
  show G SX m_Law_readFactor (hh + 4) none w 0 [(0, .ref 32), (1, .int l1)] [] S
  refine G_aload_n 0 rfl d_Law_readFactor_0 ?_
  refine G_getR fl_Law_37 kx_32 sx_32 rfl (by decide) d_Law_readFactor_1 ?_
  obtain ⟨v_4, q_4, h⟩ := ob_b h
  refine G_callV [] [] (t_Reading_sign q_4) (by omega) (by decide) mv_Reading_sign rfl ml_Law_52 kx_3 sx_3 cl_4 rfl (Nat.le_of_ble_eq_true rfl) d_Law_readFactor_4 ?_
  refine G_istore_n [(2, .int v_4), (0, .ref 32), (1, .int l1)] rfl rfl (by decide) d_Law_readFactor_7 ?_
  refine G_aload_n 1 rfl d_Law_readFactor_8 ?_
  refine G_getR fl_Law_37 kx_32 sx_32 rfl (by decide) d_Law_readFactor_9 ?_
  refine G_getI fl_Law_81 kx_3 sx_3 rfl d_Law_readFactor_12 ?_
  refine G_if_eq 19 (by decide) d_Law_readFactor_15 (fun c_15 => ?_) (fun c_15 => ?_)
  · replace h := ob_t h c_15
    refine G_iload_n 0 rfl d_Law_readFactor_19 ?_
    refine G_bipush 91 (by decide) d_Law_readFactor_20 ?_
    refine G_icmp_ne 52 (by decide) d_Law_readFactor_22 (fun c_22 => ?_) (fun c_22 => ?_)
    · replace h := ob_f h c_22
      refine G_iload_n 0 rfl d_Law_readFactor_52 ?_
      obtain ⟨v_53, q_53, h⟩ := ob_b h
      refine G_callS [.int v_4] [] (t_Reading_isDigit q_53) (by omega) (by decide) mt_Reading_isDigit rfl ml_Law_100 rfl (Nat.le_of_ble_eq_true rfl) d_Law_readFactor_53 ?_
      refine G_if_eq 76 (by decide) d_Law_readFactor_56 (fun c_56 => ?_) (fun c_56 => ?_)
      · replace h := ob_t h c_56
        refine G_iload_n 0 rfl d_Law_readFactor_76 ?_
        obtain ⟨v_77, q_77, h⟩ := ob_b h
        refine G_callS [.int v_4] [] (t_Law_isFact q_77) (by omega) (by decide) mt_Law_isFact rfl ml_Law_107 rfl (Nat.le_of_ble_eq_true rfl) d_Law_readFactor_77 ?_
        refine G_if_eq 106 (by decide) d_Law_readFactor_80 (fun c_80 => ?_) (fun c_80 => ?_)
        · replace h := ob_t h c_80
          refine G_aload_n 1 rfl d_Law_readFactor_106 ?_
          refine G_getR fl_Law_37 kx_32 sx_32 rfl (by decide) d_Law_readFactor_107 ?_
          refine G_iconst 1 (by decide) d_Law_readFactor_110 ?_
          refine G_aload_n 1 rfl d_Law_readFactor_111 ?_
          refine G_getR fl_Law_37 kx_32 sx_32 rfl (by decide) d_Law_readFactor_112 ?_
          refine G_getI fl_Law_56 kx_3 sx_3 rfl d_Law_readFactor_115 ?_
          obtain ⟨w_118, q_118, h⟩ := ob_b h
          refine G_callV [.int 1, .int (S 3 1)] [] (t_Reading_fail q_118) (by omega) (by decide) mv_Reading_fail rfl ml_Law_59 kx_3 sx_3 cl_4 rfl (Nat.le_of_ble_eq_true rfl) d_Law_readFactor_118 ?_
          cases h
          exact G_vret rfl d_Law_readFactor_121
        · replace h := ob_f h c_80
          refine G_aload_n 1 rfl d_Law_readFactor_83 ?_
          refine G_getR fl_Law_37 kx_32 sx_32 rfl (by decide) d_Law_readFactor_84 ?_
          refine G_dup rfl d_Law_readFactor_87 ?_
          refine G_getI fl_Law_56 kx_3 sx_3 rfl d_Law_readFactor_88 ?_
          refine G_iconst 1 (by decide) d_Law_readFactor_91 ?_
          refine G_iadd d_Law_readFactor_92 ?_
          obtain ⟨S_93, e_93, h⟩ := ob_s h
          refine G_putI e_93 fp_Law_56 kx_3 sx_3 rfl d_Law_readFactor_93 ?_
          refine G_aload_n 1 rfl d_Law_readFactor_96 ?_
          refine G_iconst 1 (by decide) d_Law_readFactor_97 ?_
          refine G_iload_n 0 rfl d_Law_readFactor_98 ?_
          obtain ⟨w_99, q_99, h⟩ := ob_b h
          refine G_callV [.int 1, .int v_4] [] (t_Law_add q_99) (by omega) (by decide) mv_Law_add rfl ml_Law_63 kx_32 sx_32 cl_1 rfl (Nat.le_of_ble_eq_true rfl) d_Law_readFactor_99 ?_
          refine G_pop rfl d_Law_readFactor_102 ?_
          refine G_goto 121 (by decide) d_Law_readFactor_103 ?_
          cases h
          exact G_vret rfl d_Law_readFactor_121
      · replace h := ob_f h c_56
        refine G_aload_n 1 rfl d_Law_readFactor_59 ?_
        refine G_iconst 0 (by decide) d_Law_readFactor_60 ?_
        refine G_aload_n 1 rfl d_Law_readFactor_61 ?_
        refine G_getR fl_Law_37 kx_32 sx_32 rfl (by decide) d_Law_readFactor_62 ?_
        refine G_iconst 5 (by decide) d_Law_readFactor_65 ?_
        obtain ⟨w_66, q_66, h⟩ := ob_b h
        refine G_callV [.int 5] [.int 0, .ref 32] (t_Reading_number q_66) (by omega) (by decide) mv_Reading_number rfl ml_Law_103 kx_3 sx_3 cl_4 rfl (Nat.le_of_ble_eq_true rfl) d_Law_readFactor_66 ?_
        obtain ⟨w_69, q_69, h⟩ := ob_b h
        refine G_callV [.int 0, .int w_66.1] [] (t_Law_add q_69) (by omega) (by decide) mv_Law_add rfl ml_Law_63 kx_32 sx_32 cl_1 rfl (Nat.le_of_ble_eq_true rfl) d_Law_readFactor_69 ?_
        refine G_pop rfl d_Law_readFactor_72 ?_
        refine G_goto 121 (by decide) d_Law_readFactor_73 ?_
        cases h
        exact G_vret rfl d_Law_readFactor_121
    · replace h := ob_t h c_22
      refine G_aload_n 1 rfl d_Law_readFactor_25 ?_
      refine G_iload_n 2 rfl d_Law_readFactor_26 ?_
      obtain ⟨w_27, q_27, h⟩ := ob_b h
      refine G_callV [.int l1] [] (t_Law_opens q_27) (by omega) (by decide) mv_Law_opens rfl ml_Law_94 kx_32 sx_32 cl_1 rfl (Nat.le_of_ble_eq_true rfl) d_Law_readFactor_27 ?_
      refine G_if_eq 121 (by decide) d_Law_readFactor_30 (fun c_30 => ?_) (fun c_30 => ?_)
      · replace h := ob_t h c_30
        cases h
        exact G_vret rfl d_Law_readFactor_121
      · replace h := ob_f h c_30
        refine G_aload_n 1 rfl d_Law_readFactor_33 ?_
        refine G_iload_n 2 rfl d_Law_readFactor_34 ?_
        refine G_iconst 1 (by decide) d_Law_readFactor_35 ?_
        refine G_iadd d_Law_readFactor_36 ?_
        obtain ⟨w_37, q_37, h⟩ := ob_b h
        refine G_callV [.int (l1 + 1)] [] (hk_Law_readValue _ _ _ q_37) (by omega) (by decide) mv_Law_readValue rfl ml_Law_67 kx_32 sx_32 cl_1 rfl (Nat.le_of_ble_eq_true rfl) d_Law_readFactor_37 ?_
        refine G_aload_n 1 rfl d_Law_readFactor_40 ?_
        refine G_getR fl_Law_37 kx_32 sx_32 rfl (by decide) d_Law_readFactor_41 ?_
        refine G_bipush 93 (by decide) d_Law_readFactor_44 ?_
        obtain ⟨w_46, q_46, h⟩ := ob_b h
        refine G_callV [.int 93] [] (t_Reading_needs q_46) (by omega) (by decide) mv_Reading_needs rfl ml_Law_71 kx_3 sx_3 cl_4 rfl (Nat.le_of_ble_eq_true rfl) d_Law_readFactor_46 ?_
        refine G_goto 121 (by decide) d_Law_readFactor_49 ?_
        cases h
        exact G_vret rfl d_Law_readFactor_121
  · replace h := ob_f h c_15
    cases h
    exact G_vret rfl d_Law_readFactor_18
theorem d_Law_readValue_0 : decode m_Law_readValue.2.1 0 = .ok (.iconst 0, 1) := by decide +kernel
theorem d_Law_readValue_1 : decode m_Law_readValue.2.1 1 = .ok (.istore_n 2, 1) := by decide +kernel
theorem d_Law_readValue_2 : decode m_Law_readValue.2.1 2 = .ok (.iconst 0, 1) := by decide +kernel
theorem d_Law_readValue_3 : decode m_Law_readValue.2.1 3 = .ok (.istore_n 3, 1) := by decide +kernel
theorem d_Law_readValue_4 : decode m_Law_readValue.2.1 4 = .ok (.iconst 1, 1) := by decide +kernel
theorem d_Law_readValue_5 : decode m_Law_readValue.2.1 5 = .ok (.istore 4, 2) := by decide +kernel
theorem d_Law_readValue_7 : decode m_Law_readValue.2.1 7 = .ok (.iconst 0, 1) := by decide +kernel
theorem d_Law_readValue_8 : decode m_Law_readValue.2.1 8 = .ok (.istore 5, 2) := by decide +kernel
theorem d_Law_readValue_10 : decode m_Law_readValue.2.1 10 = .ok (.iload 5, 2) := by decide +kernel
theorem d_Law_readValue_12 : decode m_Law_readValue.2.1 12 = .ok (.sipush 240, 3) := by decide +kernel
theorem d_Law_readValue_15 : decode m_Law_readValue.2.1 15 = .ok (.if_icmp .ge 157, 3) := by decide +kernel
theorem d_Law_readValue_18 : decode m_Law_readValue.2.1 18 = .ok (.iload 4, 2) := by decide +kernel
theorem d_Law_readValue_20 : decode m_Law_readValue.2.1 20 = .ok (.ifCond .eq 152, 3) := by decide +kernel
theorem d_Law_readValue_23 : decode m_Law_readValue.2.1 23 = .ok (.aload_n 0, 1) := by decide +kernel
theorem d_Law_readValue_24 : decode m_Law_readValue.2.1 24 = .ok (.iload_n 1, 1) := by decide +kernel
theorem d_Law_readValue_25 : decode m_Law_readValue.2.1 25 = .ok (.invokevirtual 97, 3) := by decide +kernel
theorem d_Law_readValue_28 : decode m_Law_readValue.2.1 28 = .ok (.iload_n 3, 1) := by decide +kernel
theorem d_Law_readValue_29 : decode m_Law_readValue.2.1 29 = .ok (.ifCond .eq 10, 3) := by decide +kernel
theorem d_Law_readValue_32 : decode m_Law_readValue.2.1 32 = .ok (.aload_n 0, 1) := by decide +kernel
theorem d_Law_readValue_33 : decode m_Law_readValue.2.1 33 = .ok (.iload_n 3, 1) := by decide +kernel
theorem d_Law_readValue_34 : decode m_Law_readValue.2.1 34 = .ok (.iconst 0, 1) := by decide +kernel
theorem d_Law_readValue_35 : decode m_Law_readValue.2.1 35 = .ok (.invokevirtual 63, 3) := by decide +kernel
theorem d_Law_readValue_38 : decode m_Law_readValue.2.1 38 = .ok (.pop, 1) := by decide +kernel
theorem d_Law_readValue_39 : decode m_Law_readValue.2.1 39 = .ok (.aload_n 0, 1) := by decide +kernel
theorem d_Law_readValue_40 : decode m_Law_readValue.2.1 40 = .ok (.getfield 37, 3) := by decide +kernel
theorem d_Law_readValue_43 : decode m_Law_readValue.2.1 43 = .ok (.invokevirtual 52, 3) := by decide +kernel
theorem d_Law_readValue_46 : decode m_Law_readValue.2.1 46 = .ok (.istore 6, 2) := by decide +kernel
theorem d_Law_readValue_48 : decode m_Law_readValue.2.1 48 = .ok (.iload 6, 2) := by decide +kernel
theorem d_Law_readValue_50 : decode m_Law_readValue.2.1 50 = .ok (.bipush 42, 2) := by decide +kernel
theorem d_Law_readValue_52 : decode m_Law_readValue.2.1 52 = .ok (.if_icmp .eq 17, 3) := by decide +kernel
theorem d_Law_readValue_55 : decode m_Law_readValue.2.1 55 = .ok (.iload 6, 2) := by decide +kernel
theorem d_Law_readValue_57 : decode m_Law_readValue.2.1 57 = .ok (.bipush 47, 2) := by decide +kernel
theorem d_Law_readValue_59 : decode m_Law_readValue.2.1 59 = .ok (.if_icmp .eq 10, 3) := by decide +kernel
theorem d_Law_readValue_62 : decode m_Law_readValue.2.1 62 = .ok (.iload 6, 2) := by decide +kernel
theorem d_Law_readValue_64 : decode m_Law_readValue.2.1 64 = .ok (.bipush 37, 2) := by decide +kernel
theorem d_Law_readValue_66 : decode m_Law_readValue.2.1 66 = .ok (.if_icmp .ne 7, 3) := by decide +kernel
theorem d_Law_readValue_69 : decode m_Law_readValue.2.1 69 = .ok (.iconst 1, 1) := by decide +kernel
theorem d_Law_readValue_70 : decode m_Law_readValue.2.1 70 = .ok (.goto 4, 3) := by decide +kernel
theorem d_Law_readValue_73 : decode m_Law_readValue.2.1 73 = .ok (.iconst 0, 1) := by decide +kernel
theorem d_Law_readValue_74 : decode m_Law_readValue.2.1 74 = .ok (.istore 7, 2) := by decide +kernel
theorem d_Law_readValue_76 : decode m_Law_readValue.2.1 76 = .ok (.iload 6, 2) := by decide +kernel
theorem d_Law_readValue_78 : decode m_Law_readValue.2.1 78 = .ok (.bipush 43, 2) := by decide +kernel
theorem d_Law_readValue_80 : decode m_Law_readValue.2.1 80 = .ok (.if_icmp .eq 10, 3) := by decide +kernel
theorem d_Law_readValue_83 : decode m_Law_readValue.2.1 83 = .ok (.iload 6, 2) := by decide +kernel
theorem d_Law_readValue_85 : decode m_Law_readValue.2.1 85 = .ok (.bipush 45, 2) := by decide +kernel
theorem d_Law_readValue_87 : decode m_Law_readValue.2.1 87 = .ok (.if_icmp .ne 7, 3) := by decide +kernel
theorem d_Law_readValue_90 : decode m_Law_readValue.2.1 90 = .ok (.iconst 1, 1) := by decide +kernel
theorem d_Law_readValue_91 : decode m_Law_readValue.2.1 91 = .ok (.goto 4, 3) := by decide +kernel
theorem d_Law_readValue_94 : decode m_Law_readValue.2.1 94 = .ok (.iconst 0, 1) := by decide +kernel
theorem d_Law_readValue_95 : decode m_Law_readValue.2.1 95 = .ok (.istore 8, 2) := by decide +kernel
theorem d_Law_readValue_97 : decode m_Law_readValue.2.1 97 = .ok (.iload 7, 2) := by decide +kernel
theorem d_Law_readValue_99 : decode m_Law_readValue.2.1 99 = .ok (.ifCond .eq 8, 3) := by decide +kernel
theorem d_Law_readValue_102 : decode m_Law_readValue.2.1 102 = .ok (.iload 6, 2) := by decide +kernel
theorem d_Law_readValue_104 : decode m_Law_readValue.2.1 104 = .ok (.goto 4, 3) := by decide +kernel
theorem d_Law_readValue_107 : decode m_Law_readValue.2.1 107 = .ok (.iconst 0, 1) := by decide +kernel
theorem d_Law_readValue_108 : decode m_Law_readValue.2.1 108 = .ok (.istore_n 3, 1) := by decide +kernel
theorem d_Law_readValue_109 : decode m_Law_readValue.2.1 109 = .ok (.iload 7, 2) := by decide +kernel
theorem d_Law_readValue_111 : decode m_Law_readValue.2.1 111 = .ok (.ifCond .ne 26, 3) := by decide +kernel
theorem d_Law_readValue_114 : decode m_Law_readValue.2.1 114 = .ok (.iload_n 2, 1) := by decide +kernel
theorem d_Law_readValue_115 : decode m_Law_readValue.2.1 115 = .ok (.ifCond .eq 10, 3) := by decide +kernel
theorem d_Law_readValue_118 : decode m_Law_readValue.2.1 118 = .ok (.aload_n 0, 1) := by decide +kernel
theorem d_Law_readValue_119 : decode m_Law_readValue.2.1 119 = .ok (.iload_n 2, 1) := by decide +kernel
theorem d_Law_readValue_120 : decode m_Law_readValue.2.1 120 = .ok (.iconst 0, 1) := by decide +kernel
theorem d_Law_readValue_121 : decode m_Law_readValue.2.1 121 = .ok (.invokevirtual 63, 3) := by decide +kernel
theorem d_Law_readValue_124 : decode m_Law_readValue.2.1 124 = .ok (.pop, 1) := by decide +kernel
theorem d_Law_readValue_125 : decode m_Law_readValue.2.1 125 = .ok (.iload 8, 2) := by decide +kernel
theorem d_Law_readValue_127 : decode m_Law_readValue.2.1 127 = .ok (.ifCond .eq 8, 3) := by decide +kernel
theorem d_Law_readValue_130 : decode m_Law_readValue.2.1 130 = .ok (.iload 6, 2) := by decide +kernel
theorem d_Law_readValue_132 : decode m_Law_readValue.2.1 132 = .ok (.goto 4, 3) := by decide +kernel
theorem d_Law_readValue_135 : decode m_Law_readValue.2.1 135 = .ok (.iconst 0, 1) := by decide +kernel
theorem d_Law_readValue_136 : decode m_Law_readValue.2.1 136 = .ok (.istore_n 2, 1) := by decide +kernel
theorem d_Law_readValue_137 : decode m_Law_readValue.2.1 137 = .ok (.iload 7, 2) := by decide +kernel
theorem d_Law_readValue_139 : decode m_Law_readValue.2.1 139 = .ok (.ifCond .ne 8, 3) := by decide +kernel
theorem d_Law_readValue_142 : decode m_Law_readValue.2.1 142 = .ok (.iload 8, 2) := by decide +kernel
theorem d_Law_readValue_144 : decode m_Law_readValue.2.1 144 = .ok (.ifCond .eq 19, 3) := by decide +kernel
theorem d_Law_readValue_147 : decode m_Law_readValue.2.1 147 = .ok (.aload_n 0, 1) := by decide +kernel
theorem d_Law_readValue_148 : decode m_Law_readValue.2.1 148 = .ok (.getfield 37, 3) := by decide +kernel
theorem d_Law_readValue_151 : decode m_Law_readValue.2.1 151 = .ok (.iload 6, 2) := by decide +kernel
theorem d_Law_readValue_153 : decode m_Law_readValue.2.1 153 = .ok (.invokevirtual 90, 3) := by decide +kernel
theorem d_Law_readValue_156 : decode m_Law_readValue.2.1 156 = .ok (.ifCond .eq 7, 3) := by decide +kernel
theorem d_Law_readValue_159 : decode m_Law_readValue.2.1 159 = .ok (.iconst 1, 1) := by decide +kernel
theorem d_Law_readValue_160 : decode m_Law_readValue.2.1 160 = .ok (.goto 4, 3) := by decide +kernel
theorem d_Law_readValue_163 : decode m_Law_readValue.2.1 163 = .ok (.iconst 0, 1) := by decide +kernel
theorem d_Law_readValue_164 : decode m_Law_readValue.2.1 164 = .ok (.istore 4, 2) := by decide +kernel
theorem d_Law_readValue_166 : decode m_Law_readValue.2.1 166 = .ok (.iinc 5 1, 3) := by decide +kernel
theorem d_Law_readValue_169 : decode m_Law_readValue.2.1 169 = .ok (.goto (-159), 3) := by decide +kernel
theorem d_Law_readValue_172 : decode m_Law_readValue.2.1 172 = .ok (.return_, 1) := by decide +kernel
def f_Law_readValue_164 (k_Law_readFactor : St → Int32 → Option (St)) (k_10 : St → Int32 → Int32 → Int32 → Int32 → Int32 → Option (St)) (S : St) (l1 : Int32) (l2 : Int32) (l3 : Int32) (l5 : Int32) (s0 : Int32) : Option (St) :=
    (some (l5 + 1)).bind fun l5_166 =>
    k_10 S l1 l2 l3 s0 l5_166
set_option maxHeartbeats 4000000 in
set_option maxRecDepth 20000 in
theorem t_Law_readValue_164 {hh : Nat} {hh_Law_readFactor : Nat}  {k_Law_readFactor : St → Int32 → Option (St)} (hk_Law_readFactor : ∀ (S : St) (l1 : Int32) (w : St), k_Law_readFactor S l1 = some w → Ct SX m_Law_readFactor hh_Law_readFactor [.ref 32, .int l1] S none w) (le_Law_readFactor : hh_Law_readFactor ≤ hh) {k_10 : St → Int32 → Int32 → Int32 → Int32 → Int32 → Option (St)} (hk_10 : ∀ (S : St) (l1 : Int32) (l2 : Int32) (l3 : Int32) (l4 : Int32) (l5 : Int32) (w : St), k_10 S l1 l2 l3 l4 l5 = some w → G SX m_Law_readValue (hh + 4) none w 10 [(0, .ref 32), (1, .int l1), (2, .int l2), (3, .int l3), (4, .int l4), (5, .int l5)] [] S) (S : St) (l1 : Int32) (l2 : Int32) (l3 : Int32) (l5 : Int32) (s0 : Int32) (w : St) (h : f_Law_readValue_164 k_Law_readFactor k_10 S l1 l2 l3 l5 s0 = some w) : G SX m_Law_readValue (hh + 4) none w 164 [(0, .ref 32), (1, .int l1), (2, .int l2), (3, .int l3), (5, .int l5)] [.int s0] S := by
  unfold f_Law_readValue_164 at h
  refine G_istore [(4, .int s0), (0, .ref 32), (1, .int l1), (2, .int l2), (3, .int l3), (5, .int l5)] rfl rfl (by decide) d_Law_readValue_164 ?_
  obtain ⟨l5_166, e_166, h⟩ := ob_s h
  refine G_iinc 1 5 [(5, .int l5_166), (4, .int s0), (0, .ref 32), (1, .int l1), (2, .int l2), (3, .int l3)] (by decide) rfl e_166 rfl (by decide) d_Law_readValue_166 ?_
  refine G_goto 10 (by decide) d_Law_readValue_169 ?_
  exact G_sub _ [2, 3, 4, 5, 1, 0] rfl (hk_10 S l1 l2 l3 s0 l5_166 _ h)
def f_Law_readValue_163 (k_Law_readFactor : St → Int32 → Option (St)) (k_10 : St → Int32 → Int32 → Int32 → Int32 → Int32 → Option (St)) (S : St) (l1 : Int32) (l2 : Int32) (l3 : Int32) (l5 : Int32) : Option (St) :=
    f_Law_readValue_164 k_Law_readFactor k_10 S l1 l2 l3 l5 (0 : Int32)
set_option maxHeartbeats 4000000 in
set_option maxRecDepth 20000 in
theorem t_Law_readValue_163 {hh : Nat} {hh_Law_readFactor : Nat}  {k_Law_readFactor : St → Int32 → Option (St)} (hk_Law_readFactor : ∀ (S : St) (l1 : Int32) (w : St), k_Law_readFactor S l1 = some w → Ct SX m_Law_readFactor hh_Law_readFactor [.ref 32, .int l1] S none w) (le_Law_readFactor : hh_Law_readFactor ≤ hh) {k_10 : St → Int32 → Int32 → Int32 → Int32 → Int32 → Option (St)} (hk_10 : ∀ (S : St) (l1 : Int32) (l2 : Int32) (l3 : Int32) (l4 : Int32) (l5 : Int32) (w : St), k_10 S l1 l2 l3 l4 l5 = some w → G SX m_Law_readValue (hh + 4) none w 10 [(0, .ref 32), (1, .int l1), (2, .int l2), (3, .int l3), (4, .int l4), (5, .int l5)] [] S) (S : St) (l1 : Int32) (l2 : Int32) (l3 : Int32) (l5 : Int32) (w : St) (h : f_Law_readValue_163 k_Law_readFactor k_10 S l1 l2 l3 l5 = some w) : G SX m_Law_readValue (hh + 4) none w 163 [(0, .ref 32), (1, .int l1), (2, .int l2), (3, .int l3), (5, .int l5)] [] S := by
  unfold f_Law_readValue_163 at h
  refine G_iconst 0 (by decide) d_Law_readValue_163 ?_
  exact G_sub _ [0, 1, 2, 3, 4] rfl (t_Law_readValue_164 hk_Law_readFactor le_Law_readFactor hk_10 S l1 l2 l3 l5 (0 : Int32) _ h)
def f_Law_readValue_147 (k_Law_readFactor : St → Int32 → Option (St)) (k_10 : St → Int32 → Int32 → Int32 → Int32 → Int32 → Option (St)) (S : St) (l1 : Int32) (l2 : Int32) (l3 : Int32) (l5 : Int32) (l6 : Int32) : Option (St) :=
    (f_Reading_takes S l6).bind fun w_153 =>
    if w_153.1 = 0 then (
    f_Law_readValue_163 k_Law_readFactor k_10 w_153.2 l1 l2 l3 l5)
    else (
    f_Law_readValue_164 k_Law_readFactor k_10 w_153.2 l1 l2 l3 l5 (1 : Int32))
set_option maxHeartbeats 4000000 in
set_option maxRecDepth 20000 in
theorem t_Law_readValue_147 {hh : Nat} {hh_Law_readFactor : Nat}  {k_Law_readFactor : St → Int32 → Option (St)} (hk_Law_readFactor : ∀ (S : St) (l1 : Int32) (w : St), k_Law_readFactor S l1 = some w → Ct SX m_Law_readFactor hh_Law_readFactor [.ref 32, .int l1] S none w) (le_Law_readFactor : hh_Law_readFactor ≤ hh) {k_10 : St → Int32 → Int32 → Int32 → Int32 → Int32 → Option (St)} (hk_10 : ∀ (S : St) (l1 : Int32) (l2 : Int32) (l3 : Int32) (l4 : Int32) (l5 : Int32) (w : St), k_10 S l1 l2 l3 l4 l5 = some w → G SX m_Law_readValue (hh + 4) none w 10 [(0, .ref 32), (1, .int l1), (2, .int l2), (3, .int l3), (4, .int l4), (5, .int l5)] [] S) (S : St) (l1 : Int32) (l2 : Int32) (l3 : Int32) (l5 : Int32) (l6 : Int32) (w : St) (h : f_Law_readValue_147 k_Law_readFactor k_10 S l1 l2 l3 l5 l6 = some w) : G SX m_Law_readValue (hh + 4) none w 147 [(0, .ref 32), (1, .int l1), (2, .int l2), (3, .int l3), (5, .int l5), (6, .int l6)] [] S := by
  unfold f_Law_readValue_147 at h
  refine G_aload_n 0 rfl d_Law_readValue_147 ?_
  refine G_getR fl_Law_37 kx_32 sx_32 rfl (by decide) d_Law_readValue_148 ?_
  refine G_iload 5 rfl d_Law_readValue_151 ?_
  obtain ⟨w_153, q_153, h⟩ := ob_b h
  refine G_callV [.int l6] [] (t_Reading_takes q_153) (by omega) (by decide) mv_Reading_takes rfl ml_Law_90 kx_3 sx_3 cl_4 rfl (Nat.le_of_ble_eq_true rfl) d_Law_readValue_153 ?_
  refine G_if_eq 163 (by decide) d_Law_readValue_156 (fun c_156 => ?_) (fun c_156 => ?_)
  · replace h := ob_t h c_156
    exact G_sub _ [0, 1, 2, 3, 4] rfl (t_Law_readValue_163 hk_Law_readFactor le_Law_readFactor hk_10 w_153.2 l1 l2 l3 l5 _ h)
  · replace h := ob_f h c_156
    refine G_iconst 1 (by decide) d_Law_readValue_159 ?_
    refine G_goto 164 (by decide) d_Law_readValue_160 ?_
    exact G_sub _ [0, 1, 2, 3, 4] rfl (t_Law_readValue_164 hk_Law_readFactor le_Law_readFactor hk_10 w_153.2 l1 l2 l3 l5 (1 : Int32) _ h)
def f_Law_readValue_137 (k_Law_readFactor : St → Int32 → Option (St)) (k_10 : St → Int32 → Int32 → Int32 → Int32 → Int32 → Option (St)) (S : St) (l1 : Int32) (l2 : Int32) (l3 : Int32) (l5 : Int32) (l6 : Int32) (l7 : Int32) (l8 : Int32) : Option (St) :=
    if l7 = 0 then (
    if l8 = 0 then (
    f_Law_readValue_163 k_Law_readFactor k_10 S l1 l2 l3 l5)
    else (
    f_Law_readValue_147 k_Law_readFactor k_10 S l1 l2 l3 l5 l6))
    else (
    f_Law_readValue_147 k_Law_readFactor k_10 S l1 l2 l3 l5 l6)
set_option maxHeartbeats 4000000 in
set_option maxRecDepth 20000 in
theorem t_Law_readValue_137 {hh : Nat} {hh_Law_readFactor : Nat}  {k_Law_readFactor : St → Int32 → Option (St)} (hk_Law_readFactor : ∀ (S : St) (l1 : Int32) (w : St), k_Law_readFactor S l1 = some w → Ct SX m_Law_readFactor hh_Law_readFactor [.ref 32, .int l1] S none w) (le_Law_readFactor : hh_Law_readFactor ≤ hh) {k_10 : St → Int32 → Int32 → Int32 → Int32 → Int32 → Option (St)} (hk_10 : ∀ (S : St) (l1 : Int32) (l2 : Int32) (l3 : Int32) (l4 : Int32) (l5 : Int32) (w : St), k_10 S l1 l2 l3 l4 l5 = some w → G SX m_Law_readValue (hh + 4) none w 10 [(0, .ref 32), (1, .int l1), (2, .int l2), (3, .int l3), (4, .int l4), (5, .int l5)] [] S) (S : St) (l1 : Int32) (l2 : Int32) (l3 : Int32) (l5 : Int32) (l6 : Int32) (l7 : Int32) (l8 : Int32) (w : St) (h : f_Law_readValue_137 k_Law_readFactor k_10 S l1 l2 l3 l5 l6 l7 l8 = some w) : G SX m_Law_readValue (hh + 4) none w 137 [(0, .ref 32), (1, .int l1), (2, .int l2), (3, .int l3), (5, .int l5), (6, .int l6), (7, .int l7), (8, .int l8)] [] S := by
  unfold f_Law_readValue_137 at h
  refine G_iload 6 rfl d_Law_readValue_137 ?_
  refine G_if_ne 147 (by decide) d_Law_readValue_139 (fun c_139 => ?_) (fun c_139 => ?_)
  · replace h := ob_f h c_139
    exact G_sub _ [0, 1, 2, 3, 4, 5] rfl (t_Law_readValue_147 hk_Law_readFactor le_Law_readFactor hk_10 S l1 l2 l3 l5 l6 _ h)
  · replace h := ob_t h c_139
    refine G_iload 7 rfl d_Law_readValue_142 ?_
    refine G_if_eq 163 (by decide) d_Law_readValue_144 (fun c_144 => ?_) (fun c_144 => ?_)
    · replace h := ob_t h c_144
      exact G_sub _ [0, 1, 2, 3, 4] rfl (t_Law_readValue_163 hk_Law_readFactor le_Law_readFactor hk_10 S l1 l2 l3 l5 _ h)
    · replace h := ob_f h c_144
      exact G_sub _ [0, 1, 2, 3, 4, 5] rfl (t_Law_readValue_147 hk_Law_readFactor le_Law_readFactor hk_10 S l1 l2 l3 l5 l6 _ h)
def f_Law_readValue_136 (k_Law_readFactor : St → Int32 → Option (St)) (k_10 : St → Int32 → Int32 → Int32 → Int32 → Int32 → Option (St)) (S : St) (l1 : Int32) (l3 : Int32) (l5 : Int32) (l6 : Int32) (l7 : Int32) (l8 : Int32) (s0 : Int32) : Option (St) :=
    f_Law_readValue_137 k_Law_readFactor k_10 S l1 s0 l3 l5 l6 l7 l8
set_option maxHeartbeats 4000000 in
set_option maxRecDepth 20000 in
theorem t_Law_readValue_136 {hh : Nat} {hh_Law_readFactor : Nat}  {k_Law_readFactor : St → Int32 → Option (St)} (hk_Law_readFactor : ∀ (S : St) (l1 : Int32) (w : St), k_Law_readFactor S l1 = some w → Ct SX m_Law_readFactor hh_Law_readFactor [.ref 32, .int l1] S none w) (le_Law_readFactor : hh_Law_readFactor ≤ hh) {k_10 : St → Int32 → Int32 → Int32 → Int32 → Int32 → Option (St)} (hk_10 : ∀ (S : St) (l1 : Int32) (l2 : Int32) (l3 : Int32) (l4 : Int32) (l5 : Int32) (w : St), k_10 S l1 l2 l3 l4 l5 = some w → G SX m_Law_readValue (hh + 4) none w 10 [(0, .ref 32), (1, .int l1), (2, .int l2), (3, .int l3), (4, .int l4), (5, .int l5)] [] S) (S : St) (l1 : Int32) (l3 : Int32) (l5 : Int32) (l6 : Int32) (l7 : Int32) (l8 : Int32) (s0 : Int32) (w : St) (h : f_Law_readValue_136 k_Law_readFactor k_10 S l1 l3 l5 l6 l7 l8 s0 = some w) : G SX m_Law_readValue (hh + 4) none w 136 [(0, .ref 32), (1, .int l1), (3, .int l3), (5, .int l5), (6, .int l6), (7, .int l7), (8, .int l8)] [.int s0] S := by
  unfold f_Law_readValue_136 at h
  refine G_istore_n [(2, .int s0), (0, .ref 32), (1, .int l1), (3, .int l3), (5, .int l5), (6, .int l6), (7, .int l7), (8, .int l8)] rfl rfl (by decide) d_Law_readValue_136 ?_
  exact G_sub _ [1, 2, 0, 3, 4, 5, 6, 7] rfl (t_Law_readValue_137 hk_Law_readFactor le_Law_readFactor hk_10 S l1 s0 l3 l5 l6 l7 l8 _ h)
def f_Law_readValue_125 (k_Law_readFactor : St → Int32 → Option (St)) (k_10 : St → Int32 → Int32 → Int32 → Int32 → Int32 → Option (St)) (S : St) (l1 : Int32) (l3 : Int32) (l5 : Int32) (l6 : Int32) (l7 : Int32) (l8 : Int32) : Option (St) :=
    if l8 = 0 then (
    f_Law_readValue_136 k_Law_readFactor k_10 S l1 l3 l5 l6 l7 l8 (0 : Int32))
    else (
    f_Law_readValue_136 k_Law_readFactor k_10 S l1 l3 l5 l6 l7 l8 l6)
set_option maxHeartbeats 4000000 in
set_option maxRecDepth 20000 in
theorem t_Law_readValue_125 {hh : Nat} {hh_Law_readFactor : Nat}  {k_Law_readFactor : St → Int32 → Option (St)} (hk_Law_readFactor : ∀ (S : St) (l1 : Int32) (w : St), k_Law_readFactor S l1 = some w → Ct SX m_Law_readFactor hh_Law_readFactor [.ref 32, .int l1] S none w) (le_Law_readFactor : hh_Law_readFactor ≤ hh) {k_10 : St → Int32 → Int32 → Int32 → Int32 → Int32 → Option (St)} (hk_10 : ∀ (S : St) (l1 : Int32) (l2 : Int32) (l3 : Int32) (l4 : Int32) (l5 : Int32) (w : St), k_10 S l1 l2 l3 l4 l5 = some w → G SX m_Law_readValue (hh + 4) none w 10 [(0, .ref 32), (1, .int l1), (2, .int l2), (3, .int l3), (4, .int l4), (5, .int l5)] [] S) (S : St) (l1 : Int32) (l3 : Int32) (l5 : Int32) (l6 : Int32) (l7 : Int32) (l8 : Int32) (w : St) (h : f_Law_readValue_125 k_Law_readFactor k_10 S l1 l3 l5 l6 l7 l8 = some w) : G SX m_Law_readValue (hh + 4) none w 125 [(0, .ref 32), (1, .int l1), (3, .int l3), (5, .int l5), (6, .int l6), (7, .int l7), (8, .int l8)] [] S := by
  unfold f_Law_readValue_125 at h
  refine G_iload 6 rfl d_Law_readValue_125 ?_
  refine G_if_eq 135 (by decide) d_Law_readValue_127 (fun c_127 => ?_) (fun c_127 => ?_)
  · replace h := ob_t h c_127
    refine G_iconst 0 (by decide) d_Law_readValue_135 ?_
    exact G_sub _ [0, 1, 2, 3, 4, 5, 6] rfl (t_Law_readValue_136 hk_Law_readFactor le_Law_readFactor hk_10 S l1 l3 l5 l6 l7 l8 (0 : Int32) _ h)
  · replace h := ob_f h c_127
    refine G_iload 4 rfl d_Law_readValue_130 ?_
    refine G_goto 136 (by decide) d_Law_readValue_132 ?_
    exact G_sub _ [0, 1, 2, 3, 4, 5, 6] rfl (t_Law_readValue_136 hk_Law_readFactor le_Law_readFactor hk_10 S l1 l3 l5 l6 l7 l8 l6 _ h)
def f_Law_readValue_108 (k_Law_readFactor : St → Int32 → Option (St)) (k_10 : St → Int32 → Int32 → Int32 → Int32 → Int32 → Option (St)) (S : St) (l1 : Int32) (l2 : Int32) (l5 : Int32) (l6 : Int32) (l7 : Int32) (l8 : Int32) (s0 : Int32) : Option (St) :=
    if l7 = 0 then (
    if l2 = 0 then (
    f_Law_readValue_125 k_Law_readFactor k_10 S l1 s0 l5 l6 l7 l8)
    else (
    (f_Law_add S l2 (0 : Int32)).bind fun w_121 =>
    f_Law_readValue_125 k_Law_readFactor k_10 w_121.2 l1 s0 l5 l6 l7 l8))
    else (
    f_Law_readValue_137 k_Law_readFactor k_10 S l1 l2 s0 l5 l6 l7 l8)
set_option maxHeartbeats 4000000 in
set_option maxRecDepth 20000 in
theorem t_Law_readValue_108 {hh : Nat} {hh_Law_readFactor : Nat}  {k_Law_readFactor : St → Int32 → Option (St)} (hk_Law_readFactor : ∀ (S : St) (l1 : Int32) (w : St), k_Law_readFactor S l1 = some w → Ct SX m_Law_readFactor hh_Law_readFactor [.ref 32, .int l1] S none w) (le_Law_readFactor : hh_Law_readFactor ≤ hh) {k_10 : St → Int32 → Int32 → Int32 → Int32 → Int32 → Option (St)} (hk_10 : ∀ (S : St) (l1 : Int32) (l2 : Int32) (l3 : Int32) (l4 : Int32) (l5 : Int32) (w : St), k_10 S l1 l2 l3 l4 l5 = some w → G SX m_Law_readValue (hh + 4) none w 10 [(0, .ref 32), (1, .int l1), (2, .int l2), (3, .int l3), (4, .int l4), (5, .int l5)] [] S) (S : St) (l1 : Int32) (l2 : Int32) (l5 : Int32) (l6 : Int32) (l7 : Int32) (l8 : Int32) (s0 : Int32) (w : St) (h : f_Law_readValue_108 k_Law_readFactor k_10 S l1 l2 l5 l6 l7 l8 s0 = some w) : G SX m_Law_readValue (hh + 4) none w 108 [(0, .ref 32), (1, .int l1), (2, .int l2), (5, .int l5), (6, .int l6), (7, .int l7), (8, .int l8)] [.int s0] S := by
  unfold f_Law_readValue_108 at h
  refine G_istore_n [(3, .int s0), (0, .ref 32), (1, .int l1), (2, .int l2), (5, .int l5), (6, .int l6), (7, .int l7), (8, .int l8)] rfl rfl (by decide) d_Law_readValue_108 ?_
  refine G_iload 6 rfl d_Law_readValue_109 ?_
  refine G_if_ne 137 (by decide) d_Law_readValue_111 (fun c_111 => ?_) (fun c_111 => ?_)
  · replace h := ob_f h c_111
    exact G_sub _ [1, 2, 3, 0, 4, 5, 6, 7] rfl (t_Law_readValue_137 hk_Law_readFactor le_Law_readFactor hk_10 S l1 l2 s0 l5 l6 l7 l8 _ h)
  · replace h := ob_t h c_111
    refine G_iload_n 3 rfl d_Law_readValue_114 ?_
    refine G_if_eq 125 (by decide) d_Law_readValue_115 (fun c_115 => ?_) (fun c_115 => ?_)
    · replace h := ob_t h c_115
      exact G_sub _ [1, 2, 0, 4, 5, 6, 7] rfl (t_Law_readValue_125 hk_Law_readFactor le_Law_readFactor hk_10 S l1 s0 l5 l6 l7 l8 _ h)
    · replace h := ob_f h c_115
      refine G_aload_n 1 rfl d_Law_readValue_118 ?_
      refine G_iload_n 3 rfl d_Law_readValue_119 ?_
      refine G_iconst 0 (by decide) d_Law_readValue_120 ?_
      obtain ⟨w_121, q_121, h⟩ := ob_b h
      refine G_callV [.int l2, .int 0] [] (t_Law_add q_121) (by omega) (by decide) mv_Law_add rfl ml_Law_63 kx_32 sx_32 cl_1 rfl (Nat.le_of_ble_eq_true rfl) d_Law_readValue_121 ?_
      refine G_pop rfl d_Law_readValue_124 ?_
      exact G_sub _ [1, 2, 0, 4, 5, 6, 7] rfl (t_Law_readValue_125 hk_Law_readFactor le_Law_readFactor hk_10 w_121.2 l1 s0 l5 l6 l7 l8 _ h)
def f_Law_readValue_95 (k_Law_readFactor : St → Int32 → Option (St)) (k_10 : St → Int32 → Int32 → Int32 → Int32 → Int32 → Option (St)) (S : St) (l1 : Int32) (l2 : Int32) (l5 : Int32) (l6 : Int32) (l7 : Int32) (s0 : Int32) : Option (St) :=
    if l7 = 0 then (
    f_Law_readValue_108 k_Law_readFactor k_10 S l1 l2 l5 l6 l7 s0 (0 : Int32))
    else (
    f_Law_readValue_108 k_Law_readFactor k_10 S l1 l2 l5 l6 l7 s0 l6)
set_option maxHeartbeats 4000000 in
set_option maxRecDepth 20000 in
theorem t_Law_readValue_95 {hh : Nat} {hh_Law_readFactor : Nat}  {k_Law_readFactor : St → Int32 → Option (St)} (hk_Law_readFactor : ∀ (S : St) (l1 : Int32) (w : St), k_Law_readFactor S l1 = some w → Ct SX m_Law_readFactor hh_Law_readFactor [.ref 32, .int l1] S none w) (le_Law_readFactor : hh_Law_readFactor ≤ hh) {k_10 : St → Int32 → Int32 → Int32 → Int32 → Int32 → Option (St)} (hk_10 : ∀ (S : St) (l1 : Int32) (l2 : Int32) (l3 : Int32) (l4 : Int32) (l5 : Int32) (w : St), k_10 S l1 l2 l3 l4 l5 = some w → G SX m_Law_readValue (hh + 4) none w 10 [(0, .ref 32), (1, .int l1), (2, .int l2), (3, .int l3), (4, .int l4), (5, .int l5)] [] S) (S : St) (l1 : Int32) (l2 : Int32) (l5 : Int32) (l6 : Int32) (l7 : Int32) (s0 : Int32) (w : St) (h : f_Law_readValue_95 k_Law_readFactor k_10 S l1 l2 l5 l6 l7 s0 = some w) : G SX m_Law_readValue (hh + 4) none w 95 [(0, .ref 32), (1, .int l1), (2, .int l2), (5, .int l5), (6, .int l6), (7, .int l7)] [.int s0] S := by
  unfold f_Law_readValue_95 at h
  refine G_istore [(8, .int s0), (0, .ref 32), (1, .int l1), (2, .int l2), (5, .int l5), (6, .int l6), (7, .int l7)] rfl rfl (by decide) d_Law_readValue_95 ?_
  refine G_iload 6 rfl d_Law_readValue_97 ?_
  refine G_if_eq 107 (by decide) d_Law_readValue_99 (fun c_99 => ?_) (fun c_99 => ?_)
  · replace h := ob_t h c_99
    refine G_iconst 0 (by decide) d_Law_readValue_107 ?_
    exact G_sub _ [1, 2, 3, 4, 5, 6, 0] rfl (t_Law_readValue_108 hk_Law_readFactor le_Law_readFactor hk_10 S l1 l2 l5 l6 l7 s0 (0 : Int32) _ h)
  · replace h := ob_f h c_99
    refine G_iload 5 rfl d_Law_readValue_102 ?_
    refine G_goto 108 (by decide) d_Law_readValue_104 ?_
    exact G_sub _ [1, 2, 3, 4, 5, 6, 0] rfl (t_Law_readValue_108 hk_Law_readFactor le_Law_readFactor hk_10 S l1 l2 l5 l6 l7 s0 l6 _ h)
def f_Law_readValue_90 (k_Law_readFactor : St → Int32 → Option (St)) (k_10 : St → Int32 → Int32 → Int32 → Int32 → Int32 → Option (St)) (S : St) (l1 : Int32) (l2 : Int32) (l5 : Int32) (l6 : Int32) (l7 : Int32) : Option (St) :=
    f_Law_readValue_95 k_Law_readFactor k_10 S l1 l2 l5 l6 l7 (1 : Int32)
set_option maxHeartbeats 4000000 in
set_option maxRecDepth 20000 in
theorem t_Law_readValue_90 {hh : Nat} {hh_Law_readFactor : Nat}  {k_Law_readFactor : St → Int32 → Option (St)} (hk_Law_readFactor : ∀ (S : St) (l1 : Int32) (w : St), k_Law_readFactor S l1 = some w → Ct SX m_Law_readFactor hh_Law_readFactor [.ref 32, .int l1] S none w) (le_Law_readFactor : hh_Law_readFactor ≤ hh) {k_10 : St → Int32 → Int32 → Int32 → Int32 → Int32 → Option (St)} (hk_10 : ∀ (S : St) (l1 : Int32) (l2 : Int32) (l3 : Int32) (l4 : Int32) (l5 : Int32) (w : St), k_10 S l1 l2 l3 l4 l5 = some w → G SX m_Law_readValue (hh + 4) none w 10 [(0, .ref 32), (1, .int l1), (2, .int l2), (3, .int l3), (4, .int l4), (5, .int l5)] [] S) (S : St) (l1 : Int32) (l2 : Int32) (l5 : Int32) (l6 : Int32) (l7 : Int32) (w : St) (h : f_Law_readValue_90 k_Law_readFactor k_10 S l1 l2 l5 l6 l7 = some w) : G SX m_Law_readValue (hh + 4) none w 90 [(0, .ref 32), (1, .int l1), (2, .int l2), (5, .int l5), (6, .int l6), (7, .int l7)] [] S := by
  unfold f_Law_readValue_90 at h
  refine G_iconst 1 (by decide) d_Law_readValue_90 ?_
  refine G_goto 95 (by decide) d_Law_readValue_91 ?_
  exact G_sub _ [0, 1, 2, 3, 4, 5] rfl (t_Law_readValue_95 hk_Law_readFactor le_Law_readFactor hk_10 S l1 l2 l5 l6 l7 (1 : Int32) _ h)
def f_Law_readValue_74 (k_Law_readFactor : St → Int32 → Option (St)) (k_10 : St → Int32 → Int32 → Int32 → Int32 → Int32 → Option (St)) (S : St) (l1 : Int32) (l2 : Int32) (l5 : Int32) (l6 : Int32) (s0 : Int32) : Option (St) :=
    if l6 = 43 then (
    f_Law_readValue_90 k_Law_readFactor k_10 S l1 l2 l5 l6 s0)
    else (
    if l6 = 45 then (
    f_Law_readValue_90 k_Law_readFactor k_10 S l1 l2 l5 l6 s0)
    else (
    f_Law_readValue_95 k_Law_readFactor k_10 S l1 l2 l5 l6 s0 (0 : Int32)))
set_option maxHeartbeats 4000000 in
set_option maxRecDepth 20000 in
theorem t_Law_readValue_74 {hh : Nat} {hh_Law_readFactor : Nat}  {k_Law_readFactor : St → Int32 → Option (St)} (hk_Law_readFactor : ∀ (S : St) (l1 : Int32) (w : St), k_Law_readFactor S l1 = some w → Ct SX m_Law_readFactor hh_Law_readFactor [.ref 32, .int l1] S none w) (le_Law_readFactor : hh_Law_readFactor ≤ hh) {k_10 : St → Int32 → Int32 → Int32 → Int32 → Int32 → Option (St)} (hk_10 : ∀ (S : St) (l1 : Int32) (l2 : Int32) (l3 : Int32) (l4 : Int32) (l5 : Int32) (w : St), k_10 S l1 l2 l3 l4 l5 = some w → G SX m_Law_readValue (hh + 4) none w 10 [(0, .ref 32), (1, .int l1), (2, .int l2), (3, .int l3), (4, .int l4), (5, .int l5)] [] S) (S : St) (l1 : Int32) (l2 : Int32) (l5 : Int32) (l6 : Int32) (s0 : Int32) (w : St) (h : f_Law_readValue_74 k_Law_readFactor k_10 S l1 l2 l5 l6 s0 = some w) : G SX m_Law_readValue (hh + 4) none w 74 [(0, .ref 32), (1, .int l1), (2, .int l2), (5, .int l5), (6, .int l6)] [.int s0] S := by
  unfold f_Law_readValue_74 at h
  refine G_istore [(7, .int s0), (0, .ref 32), (1, .int l1), (2, .int l2), (5, .int l5), (6, .int l6)] rfl rfl (by decide) d_Law_readValue_74 ?_
  refine G_iload 5 rfl d_Law_readValue_76 ?_
  refine G_bipush 43 (by decide) d_Law_readValue_78 ?_
  refine G_icmp_eq 90 (by decide) d_Law_readValue_80 (fun c_80 => ?_) (fun c_80 => ?_)
  · replace h := ob_t h c_80
    exact G_sub _ [1, 2, 3, 4, 5, 0] rfl (t_Law_readValue_90 hk_Law_readFactor le_Law_readFactor hk_10 S l1 l2 l5 l6 s0 _ h)
  · replace h := ob_f h c_80
    refine G_iload 5 rfl d_Law_readValue_83 ?_
    refine G_bipush 45 (by decide) d_Law_readValue_85 ?_
    refine G_icmp_ne 94 (by decide) d_Law_readValue_87 (fun c_87 => ?_) (fun c_87 => ?_)
    · replace h := ob_f h c_87
      refine G_iconst 0 (by decide) d_Law_readValue_94 ?_
      exact G_sub _ [1, 2, 3, 4, 5, 0] rfl (t_Law_readValue_95 hk_Law_readFactor le_Law_readFactor hk_10 S l1 l2 l5 l6 s0 (0 : Int32) _ h)
    · replace h := ob_t h c_87
      exact G_sub _ [1, 2, 3, 4, 5, 0] rfl (t_Law_readValue_90 hk_Law_readFactor le_Law_readFactor hk_10 S l1 l2 l5 l6 s0 _ h)
def f_Law_readValue_69 (k_Law_readFactor : St → Int32 → Option (St)) (k_10 : St → Int32 → Int32 → Int32 → Int32 → Int32 → Option (St)) (S : St) (l1 : Int32) (l2 : Int32) (l5 : Int32) (l6 : Int32) : Option (St) :=
    f_Law_readValue_74 k_Law_readFactor k_10 S l1 l2 l5 l6 (1 : Int32)
set_option maxHeartbeats 4000000 in
set_option maxRecDepth 20000 in
theorem t_Law_readValue_69 {hh : Nat} {hh_Law_readFactor : Nat}  {k_Law_readFactor : St → Int32 → Option (St)} (hk_Law_readFactor : ∀ (S : St) (l1 : Int32) (w : St), k_Law_readFactor S l1 = some w → Ct SX m_Law_readFactor hh_Law_readFactor [.ref 32, .int l1] S none w) (le_Law_readFactor : hh_Law_readFactor ≤ hh) {k_10 : St → Int32 → Int32 → Int32 → Int32 → Int32 → Option (St)} (hk_10 : ∀ (S : St) (l1 : Int32) (l2 : Int32) (l3 : Int32) (l4 : Int32) (l5 : Int32) (w : St), k_10 S l1 l2 l3 l4 l5 = some w → G SX m_Law_readValue (hh + 4) none w 10 [(0, .ref 32), (1, .int l1), (2, .int l2), (3, .int l3), (4, .int l4), (5, .int l5)] [] S) (S : St) (l1 : Int32) (l2 : Int32) (l5 : Int32) (l6 : Int32) (w : St) (h : f_Law_readValue_69 k_Law_readFactor k_10 S l1 l2 l5 l6 = some w) : G SX m_Law_readValue (hh + 4) none w 69 [(0, .ref 32), (1, .int l1), (2, .int l2), (5, .int l5), (6, .int l6)] [] S := by
  unfold f_Law_readValue_69 at h
  refine G_iconst 1 (by decide) d_Law_readValue_69 ?_
  refine G_goto 74 (by decide) d_Law_readValue_70 ?_
  exact G_sub _ [0, 1, 2, 3, 4] rfl (t_Law_readValue_74 hk_Law_readFactor le_Law_readFactor hk_10 S l1 l2 l5 l6 (1 : Int32) _ h)
def f_Law_readValue_39 (k_Law_readFactor : St → Int32 → Option (St)) (k_10 : St → Int32 → Int32 → Int32 → Int32 → Int32 → Option (St)) (S : St) (l1 : Int32) (l2 : Int32) (l5 : Int32) : Option (St) :=
    (f_Reading_sign S).bind fun v_43 =>
    if v_43 = 42 then (
    f_Law_readValue_69 k_Law_readFactor k_10 S l1 l2 l5 v_43)
    else (
    if v_43 = 47 then (
    f_Law_readValue_69 k_Law_readFactor k_10 S l1 l2 l5 v_43)
    else (
    if v_43 = 37 then (
    f_Law_readValue_69 k_Law_readFactor k_10 S l1 l2 l5 v_43)
    else (
    f_Law_readValue_74 k_Law_readFactor k_10 S l1 l2 l5 v_43 (0 : Int32))))
set_option maxHeartbeats 4000000 in
set_option maxRecDepth 20000 in
theorem t_Law_readValue_39 {hh : Nat} {hh_Law_readFactor : Nat}  {k_Law_readFactor : St → Int32 → Option (St)} (hk_Law_readFactor : ∀ (S : St) (l1 : Int32) (w : St), k_Law_readFactor S l1 = some w → Ct SX m_Law_readFactor hh_Law_readFactor [.ref 32, .int l1] S none w) (le_Law_readFactor : hh_Law_readFactor ≤ hh) {k_10 : St → Int32 → Int32 → Int32 → Int32 → Int32 → Option (St)} (hk_10 : ∀ (S : St) (l1 : Int32) (l2 : Int32) (l3 : Int32) (l4 : Int32) (l5 : Int32) (w : St), k_10 S l1 l2 l3 l4 l5 = some w → G SX m_Law_readValue (hh + 4) none w 10 [(0, .ref 32), (1, .int l1), (2, .int l2), (3, .int l3), (4, .int l4), (5, .int l5)] [] S) (S : St) (l1 : Int32) (l2 : Int32) (l5 : Int32) (w : St) (h : f_Law_readValue_39 k_Law_readFactor k_10 S l1 l2 l5 = some w) : G SX m_Law_readValue (hh + 4) none w 39 [(0, .ref 32), (1, .int l1), (2, .int l2), (5, .int l5)] [] S := by
  unfold f_Law_readValue_39 at h
  refine G_aload_n 0 rfl d_Law_readValue_39 ?_
  refine G_getR fl_Law_37 kx_32 sx_32 rfl (by decide) d_Law_readValue_40 ?_
  obtain ⟨v_43, q_43, h⟩ := ob_b h
  refine G_callV [] [] (t_Reading_sign q_43) (by omega) (by decide) mv_Reading_sign rfl ml_Law_52 kx_3 sx_3 cl_4 rfl (Nat.le_of_ble_eq_true rfl) d_Law_readValue_43 ?_
  refine G_istore [(6, .int v_43), (0, .ref 32), (1, .int l1), (2, .int l2), (5, .int l5)] rfl rfl (by decide) d_Law_readValue_46 ?_
  refine G_iload 0 rfl d_Law_readValue_48 ?_
  refine G_bipush 42 (by decide) d_Law_readValue_50 ?_
  refine G_icmp_eq 69 (by decide) d_Law_readValue_52 (fun c_52 => ?_) (fun c_52 => ?_)
  · replace h := ob_t h c_52
    exact G_sub _ [1, 2, 3, 4, 0] rfl (t_Law_readValue_69 hk_Law_readFactor le_Law_readFactor hk_10 S l1 l2 l5 v_43 _ h)
  · replace h := ob_f h c_52
    refine G_iload 0 rfl d_Law_readValue_55 ?_
    refine G_bipush 47 (by decide) d_Law_readValue_57 ?_
    refine G_icmp_eq 69 (by decide) d_Law_readValue_59 (fun c_59 => ?_) (fun c_59 => ?_)
    · replace h := ob_t h c_59
      exact G_sub _ [1, 2, 3, 4, 0] rfl (t_Law_readValue_69 hk_Law_readFactor le_Law_readFactor hk_10 S l1 l2 l5 v_43 _ h)
    · replace h := ob_f h c_59
      refine G_iload 0 rfl d_Law_readValue_62 ?_
      refine G_bipush 37 (by decide) d_Law_readValue_64 ?_
      refine G_icmp_ne 73 (by decide) d_Law_readValue_66 (fun c_66 => ?_) (fun c_66 => ?_)
      · replace h := ob_f h c_66
        refine G_iconst 0 (by decide) d_Law_readValue_73 ?_
        exact G_sub _ [1, 2, 3, 4, 0] rfl (t_Law_readValue_74 hk_Law_readFactor le_Law_readFactor hk_10 S l1 l2 l5 v_43 (0 : Int32) _ h)
      · replace h := ob_t h c_66
        exact G_sub _ [1, 2, 3, 4, 0] rfl (t_Law_readValue_69 hk_Law_readFactor le_Law_readFactor hk_10 S l1 l2 l5 v_43 _ h)
def f_Law_readValue_10 (k_Law_readFactor : St → Int32 → Option (St)) : Nat → St → Int32 → Int32 → Int32 → Int32 → Int32 → Option (St)
  | 0, _, _, _, _, _, _ => none
  | n + 1, S, l1, l2, l3, l4, l5 =>
    if (240 : Int32) ≤ l5 then (
    some S)
    else (
    if l4 = 0 then (
    some S)
    else (
    (k_Law_readFactor S l1).bind fun w_25 =>
    if l3 = 0 then (
    f_Law_readValue_39 k_Law_readFactor (f_Law_readValue_10 k_Law_readFactor n) w_25 l1 l2 l5)
    else (
    (f_Law_add w_25 l3 (0 : Int32)).bind fun w_35 =>
    f_Law_readValue_39 k_Law_readFactor (f_Law_readValue_10 k_Law_readFactor n) w_35.2 l1 l2 l5)))
set_option maxHeartbeats 4000000 in
set_option maxRecDepth 20000 in
theorem t_Law_readValue_10 {hh : Nat} {hh_Law_readFactor : Nat}  {k_Law_readFactor : St → Int32 → Option (St)} (hk_Law_readFactor : ∀ (S : St) (l1 : Int32) (w : St), k_Law_readFactor S l1 = some w → Ct SX m_Law_readFactor hh_Law_readFactor [.ref 32, .int l1] S none w) (le_Law_readFactor : hh_Law_readFactor ≤ hh) : ∀ (n : Nat) (S : St) (l1 : Int32) (l2 : Int32) (l3 : Int32) (l4 : Int32) (l5 : Int32) (w : St), f_Law_readValue_10 k_Law_readFactor n S l1 l2 l3 l4 l5 = some w → G SX m_Law_readValue (hh + 4) none w 10 [(0, .ref 32), (1, .int l1), (2, .int l2), (3, .int l3), (4, .int l4), (5, .int l5)] [] S := by
  intro n
  induction n with
  | zero =>
    intro S l1 l2 l3 l4 l5 w h
    rw [f_Law_readValue_10] at h
    cases h
  | succ n ih =>
    intro S l1 l2 l3 l4 l5 w h
    rw [f_Law_readValue_10] at h
    refine G_iload 5 rfl d_Law_readValue_10 ?_
    refine G_sipush 240 (by decide) d_Law_readValue_12 ?_
    refine G_icmp_ge 172 (by decide) d_Law_readValue_15 (fun c_15 => ?_) (fun c_15 => ?_)
    · replace h := ob_t h c_15
      cases h
      exact G_vret rfl d_Law_readValue_172
    · replace h := ob_f h c_15
      refine G_iload 4 rfl d_Law_readValue_18 ?_
      refine G_if_eq 172 (by decide) d_Law_readValue_20 (fun c_20 => ?_) (fun c_20 => ?_)
      · replace h := ob_t h c_20
        cases h
        exact G_vret rfl d_Law_readValue_172
      · replace h := ob_f h c_20
        refine G_aload_n 0 rfl d_Law_readValue_23 ?_
        refine G_iload_n 1 rfl d_Law_readValue_24 ?_
        obtain ⟨w_25, q_25, h⟩ := ob_b h
        refine G_callV [.int l1] [] (hk_Law_readFactor _ _ _ q_25) (by omega) (by decide) mv_Law_readFactor rfl ml_Law_97 kx_32 sx_32 cl_1 rfl (Nat.le_of_ble_eq_true rfl) d_Law_readValue_25 ?_
        refine G_iload_n 3 rfl d_Law_readValue_28 ?_
        refine G_if_eq 39 (by decide) d_Law_readValue_29 (fun c_29 => ?_) (fun c_29 => ?_)
        · replace h := ob_t h c_29
          exact G_sub _ [0, 1, 2, 5] rfl (t_Law_readValue_39 hk_Law_readFactor le_Law_readFactor ih w_25 l1 l2 l5 _ h)
        · replace h := ob_f h c_29
          refine G_aload_n 0 rfl d_Law_readValue_32 ?_
          refine G_iload_n 3 rfl d_Law_readValue_33 ?_
          refine G_iconst 0 (by decide) d_Law_readValue_34 ?_
          obtain ⟨w_35, q_35, h⟩ := ob_b h
          refine G_callV [.int l3, .int 0] [] (t_Law_add q_35) (by omega) (by decide) mv_Law_add rfl ml_Law_63 kx_32 sx_32 cl_1 rfl (Nat.le_of_ble_eq_true rfl) d_Law_readValue_35 ?_
          refine G_pop rfl d_Law_readValue_38 ?_
          exact G_sub _ [0, 1, 2, 5] rfl (t_Law_readValue_39 hk_Law_readFactor le_Law_readFactor ih w_35.2 l1 l2 l5 _ h)
def f_Law_readValue (k_Law_readFactor : St → Int32 → Option (St)) (S : St) (l1 : Int32) : Option (St) :=
    (some (0 : Int32)).bind fun l2_1 =>
    (some (0 : Int32)).bind fun l3_3 =>
    (some (1 : Int32)).bind fun l4_5 =>
    (some (0 : Int32)).bind fun l5_8 =>
    f_Law_readValue_10 k_Law_readFactor FU S l1 l2_1 l3_3 l4_5 l5_8
set_option maxHeartbeats 4000000 in
set_option maxRecDepth 20000 in
theorem t_Law_readValue {hh : Nat} {hh_Law_readFactor : Nat}  {k_Law_readFactor : St → Int32 → Option (St)} (hk_Law_readFactor : ∀ (S : St) (l1 : Int32) (w : St), k_Law_readFactor S l1 = some w → Ct SX m_Law_readFactor hh_Law_readFactor [.ref 32, .int l1] S none w) (le_Law_readFactor : hh_Law_readFactor ≤ hh) {S : St} {l1 : Int32} {w : St} (h : f_Law_readValue k_Law_readFactor S l1 = some w) : Ct SX m_Law_readValue (hh + 4) [.ref 32, .int l1] S none w := by
  unfold f_Law_readValue at h
  refine Ct.of pn_Law (Nat.le_of_ble_eq_true rfl) ?_
  show G SX m_Law_readValue (hh + 4) none w 0 [(0, .ref 32), (1, .int l1)] [] S
  refine G_iconst 0 (by decide) d_Law_readValue_0 ?_
  obtain ⟨l2_1, e_1, h⟩ := ob_s h
  refine G_istore_n [(2, .int l2_1), (0, .ref 32), (1, .int l1)] e_1 rfl (by decide) d_Law_readValue_1 ?_
  refine G_iconst 0 (by decide) d_Law_readValue_2 ?_
  obtain ⟨l3_3, e_3, h⟩ := ob_s h
  refine G_istore_n [(3, .int l3_3), (2, .int l2_1), (0, .ref 32), (1, .int l1)] e_3 rfl (by decide) d_Law_readValue_3 ?_
  refine G_iconst 1 (by decide) d_Law_readValue_4 ?_
  obtain ⟨l4_5, e_5, h⟩ := ob_s h
  refine G_istore [(4, .int l4_5), (3, .int l3_3), (2, .int l2_1), (0, .ref 32), (1, .int l1)] e_5 rfl (by decide) d_Law_readValue_5 ?_
  refine G_iconst 0 (by decide) d_Law_readValue_7 ?_
  obtain ⟨l5_8, e_8, h⟩ := ob_s h
  refine G_istore [(5, .int l5_8), (4, .int l4_5), (3, .int l3_3), (2, .int l2_1), (0, .ref 32), (1, .int l1)] e_8 rfl (by decide) d_Law_readValue_8 ?_
  exact G_sub _ [4, 5, 3, 2, 1, 0] rfl (t_Law_readValue_10 hk_Law_readFactor le_Law_readFactor FU S l1 l2_1 l3_3 l4_5 l5_8 _ h)
def FRV : Nat → St → Int32 → Option St
  | 0 => fun _ _ => none
  | d + 1 => f_Law_readValue (f_Law_readFactor (FRV d))
theorem T_RV : ∀ (d : Nat) (S : St) (l1 : Int32) (w : St), FRV d S l1 = some w → Ct SX m_Law_readValue (8 * d) [.ref 32, .int l1] S none w := by
  intro d
  induction d with
  | zero => intro S l1 w h; cases h
  | succ d ih =>
    intro S l1 w h
    exact t_Law_readValue (hh := 8 * d + 4) (hh_Law_readFactor := 8 * d + 4) (k_Law_readFactor := f_Law_readFactor (FRV d)) (fun S l1 w h => t_Law_readFactor (hh := 8 * d) (hh_Law_readValue := 8 * d) (k_Law_readValue := FRV d) ih (Nat.le_refl _) h) (Nat.le_refl _) h
def F_Law_readValue : St → Int32 → Option St := FRV 8
theorem T_Law_readValue {S : St} {l1 : Int32} {w : St} (h : F_Law_readValue S l1 = some w) : Ct SX m_Law_readValue 64 [.ref 32, .int l1] S none w := T_RV 8 S l1 w h
theorem d_Law_readTest_0 : decode m_Law_readTest.2.1 0 = .ok (.aload_n 0, 1) := by decide +kernel
theorem d_Law_readTest_1 : decode m_Law_readTest.2.1 1 = .ok (.getfield 37, 3) := by decide +kernel
theorem d_Law_readTest_4 : decode m_Law_readTest.2.1 4 = .ok (.invokevirtual 52, 3) := by decide +kernel
theorem d_Law_readTest_7 : decode m_Law_readTest.2.1 7 = .ok (.istore_n 2, 1) := by decide +kernel
theorem d_Law_readTest_8 : decode m_Law_readTest.2.1 8 = .ok (.aload_n 0, 1) := by decide +kernel
theorem d_Law_readTest_9 : decode m_Law_readTest.2.1 9 = .ok (.getfield 37, 3) := by decide +kernel
theorem d_Law_readTest_12 : decode m_Law_readTest.2.1 12 = .ok (.getfield 81, 3) := by decide +kernel
theorem d_Law_readTest_15 : decode m_Law_readTest.2.1 15 = .ok (.ifCond .eq 4, 3) := by decide +kernel
theorem d_Law_readTest_18 : decode m_Law_readTest.2.1 18 = .ok (.return_, 1) := by decide +kernel
theorem d_Law_readTest_19 : decode m_Law_readTest.2.1 19 = .ok (.iload_n 2, 1) := by decide +kernel
theorem d_Law_readTest_20 : decode m_Law_readTest.2.1 20 = .ok (.bipush 33, 2) := by decide +kernel
theorem d_Law_readTest_22 : decode m_Law_readTest.2.1 22 = .ok (.if_icmp .ne 28, 3) := by decide +kernel
theorem d_Law_readTest_25 : decode m_Law_readTest.2.1 25 = .ok (.aload_n 0, 1) := by decide +kernel
theorem d_Law_readTest_26 : decode m_Law_readTest.2.1 26 = .ok (.iload_n 1, 1) := by decide +kernel
theorem d_Law_readTest_27 : decode m_Law_readTest.2.1 27 = .ok (.invokevirtual 94, 3) := by decide +kernel
theorem d_Law_readTest_30 : decode m_Law_readTest.2.1 30 = .ok (.ifCond .eq 110, 3) := by decide +kernel
theorem d_Law_readTest_33 : decode m_Law_readTest.2.1 33 = .ok (.aload_n 0, 1) := by decide +kernel
theorem d_Law_readTest_34 : decode m_Law_readTest.2.1 34 = .ok (.iload_n 1, 1) := by decide +kernel
theorem d_Law_readTest_35 : decode m_Law_readTest.2.1 35 = .ok (.iconst 1, 1) := by decide +kernel
theorem d_Law_readTest_36 : decode m_Law_readTest.2.1 36 = .ok (.iadd, 1) := by decide +kernel
theorem d_Law_readTest_37 : decode m_Law_readTest.2.1 37 = .ok (.invokevirtual 84, 3) := by decide +kernel
theorem d_Law_readTest_40 : decode m_Law_readTest.2.1 40 = .ok (.aload_n 0, 1) := by decide +kernel
theorem d_Law_readTest_41 : decode m_Law_readTest.2.1 41 = .ok (.iconst 2, 1) := by decide +kernel
theorem d_Law_readTest_42 : decode m_Law_readTest.2.1 42 = .ok (.iconst 0, 1) := by decide +kernel
theorem d_Law_readTest_43 : decode m_Law_readTest.2.1 43 = .ok (.invokevirtual 63, 3) := by decide +kernel
theorem d_Law_readTest_46 : decode m_Law_readTest.2.1 46 = .ok (.pop, 1) := by decide +kernel
theorem d_Law_readTest_47 : decode m_Law_readTest.2.1 47 = .ok (.goto 93, 3) := by decide +kernel
theorem d_Law_readTest_50 : decode m_Law_readTest.2.1 50 = .ok (.iload_n 2, 1) := by decide +kernel
theorem d_Law_readTest_51 : decode m_Law_readTest.2.1 51 = .ok (.bipush 40, 2) := by decide +kernel
theorem d_Law_readTest_53 : decode m_Law_readTest.2.1 53 = .ok (.if_icmp .ne 30, 3) := by decide +kernel
theorem d_Law_readTest_56 : decode m_Law_readTest.2.1 56 = .ok (.aload_n 0, 1) := by decide +kernel
theorem d_Law_readTest_57 : decode m_Law_readTest.2.1 57 = .ok (.iload_n 1, 1) := by decide +kernel
theorem d_Law_readTest_58 : decode m_Law_readTest.2.1 58 = .ok (.invokevirtual 94, 3) := by decide +kernel
theorem d_Law_readTest_61 : decode m_Law_readTest.2.1 61 = .ok (.ifCond .eq 79, 3) := by decide +kernel
theorem d_Law_readTest_64 : decode m_Law_readTest.2.1 64 = .ok (.aload_n 0, 1) := by decide +kernel
theorem d_Law_readTest_65 : decode m_Law_readTest.2.1 65 = .ok (.iload_n 1, 1) := by decide +kernel
theorem d_Law_readTest_66 : decode m_Law_readTest.2.1 66 = .ok (.iconst 1, 1) := by decide +kernel
theorem d_Law_readTest_67 : decode m_Law_readTest.2.1 67 = .ok (.iadd, 1) := by decide +kernel
theorem d_Law_readTest_68 : decode m_Law_readTest.2.1 68 = .ok (.invokevirtual 74, 3) := by decide +kernel
theorem d_Law_readTest_71 : decode m_Law_readTest.2.1 71 = .ok (.aload_n 0, 1) := by decide +kernel
theorem d_Law_readTest_72 : decode m_Law_readTest.2.1 72 = .ok (.getfield 37, 3) := by decide +kernel
theorem d_Law_readTest_75 : decode m_Law_readTest.2.1 75 = .ok (.bipush 41, 2) := by decide +kernel
theorem d_Law_readTest_77 : decode m_Law_readTest.2.1 77 = .ok (.invokevirtual 71, 3) := by decide +kernel
theorem d_Law_readTest_80 : decode m_Law_readTest.2.1 80 = .ok (.goto 60, 3) := by decide +kernel
theorem d_Law_readTest_83 : decode m_Law_readTest.2.1 83 = .ok (.aload_n 0, 1) := by decide +kernel
theorem d_Law_readTest_84 : decode m_Law_readTest.2.1 84 = .ok (.iload_n 1, 1) := by decide +kernel
theorem d_Law_readTest_85 : decode m_Law_readTest.2.1 85 = .ok (.invokevirtual 67, 3) := by decide +kernel
theorem d_Law_readTest_88 : decode m_Law_readTest.2.1 88 = .ok (.aload_n 0, 1) := by decide +kernel
theorem d_Law_readTest_89 : decode m_Law_readTest.2.1 89 = .ok (.getfield 37, 3) := by decide +kernel
theorem d_Law_readTest_92 : decode m_Law_readTest.2.1 92 = .ok (.invokevirtual 52, 3) := by decide +kernel
theorem d_Law_readTest_95 : decode m_Law_readTest.2.1 95 = .ok (.istore_n 3, 1) := by decide +kernel
theorem d_Law_readTest_96 : decode m_Law_readTest.2.1 96 = .ok (.iload_n 3, 1) := by decide +kernel
theorem d_Law_readTest_97 : decode m_Law_readTest.2.1 97 = .ok (.bipush 60, 2) := by decide +kernel
theorem d_Law_readTest_99 : decode m_Law_readTest.2.1 99 = .ok (.if_icmp .eq 9, 3) := by decide +kernel
theorem d_Law_readTest_102 : decode m_Law_readTest.2.1 102 = .ok (.iload_n 3, 1) := by decide +kernel
theorem d_Law_readTest_103 : decode m_Law_readTest.2.1 103 = .ok (.bipush 62, 2) := by decide +kernel
theorem d_Law_readTest_105 : decode m_Law_readTest.2.1 105 = .ok (.if_icmp .ne 14, 3) := by decide +kernel
theorem d_Law_readTest_108 : decode m_Law_readTest.2.1 108 = .ok (.aload_n 0, 1) := by decide +kernel
theorem d_Law_readTest_109 : decode m_Law_readTest.2.1 109 = .ok (.getfield 37, 3) := by decide +kernel
theorem d_Law_readTest_112 : decode m_Law_readTest.2.1 112 = .ok (.iload_n 3, 1) := by decide +kernel
theorem d_Law_readTest_113 : decode m_Law_readTest.2.1 113 = .ok (.invokevirtual 71, 3) := by decide +kernel
theorem d_Law_readTest_116 : decode m_Law_readTest.2.1 116 = .ok (.goto 12, 3) := by decide +kernel
theorem d_Law_readTest_119 : decode m_Law_readTest.2.1 119 = .ok (.aload_n 0, 1) := by decide +kernel
theorem d_Law_readTest_120 : decode m_Law_readTest.2.1 120 = .ok (.getfield 37, 3) := by decide +kernel
theorem d_Law_readTest_123 : decode m_Law_readTest.2.1 123 = .ok (.bipush 61, 2) := by decide +kernel
theorem d_Law_readTest_125 : decode m_Law_readTest.2.1 125 = .ok (.invokevirtual 71, 3) := by decide +kernel
theorem d_Law_readTest_128 : decode m_Law_readTest.2.1 128 = .ok (.aload_n 0, 1) := by decide +kernel
theorem d_Law_readTest_129 : decode m_Law_readTest.2.1 129 = .ok (.iload_n 1, 1) := by decide +kernel
theorem d_Law_readTest_130 : decode m_Law_readTest.2.1 130 = .ok (.invokevirtual 67, 3) := by decide +kernel
theorem d_Law_readTest_133 : decode m_Law_readTest.2.1 133 = .ok (.aload_n 0, 1) := by decide +kernel
theorem d_Law_readTest_134 : decode m_Law_readTest.2.1 134 = .ok (.iload_n 3, 1) := by decide +kernel
theorem d_Law_readTest_135 : decode m_Law_readTest.2.1 135 = .ok (.iconst 0, 1) := by decide +kernel
theorem d_Law_readTest_136 : decode m_Law_readTest.2.1 136 = .ok (.invokevirtual 63, 3) := by decide +kernel
theorem d_Law_readTest_139 : decode m_Law_readTest.2.1 139 = .ok (.pop, 1) := by decide +kernel
theorem d_Law_readTest_140 : decode m_Law_readTest.2.1 140 = .ok (.return_, 1) := by decide +kernel
def f_Law_readTest_128 (k_Law_readTest : St → Int32 → Option (St)) (k_Law_readCondition : St → Int32 → Option (St)) (k_Law_readValue : St → Int32 → Option (St)) (S : St) (l1 : Int32) (l3 : Int32) : Option (St) :=
    (k_Law_readValue S l1).bind fun w_130 =>
    (f_Law_add w_130 l3 (0 : Int32)).bind fun w_136 =>
    some w_136.2
set_option maxHeartbeats 4000000 in
set_option maxRecDepth 20000 in
theorem t_Law_readTest_128 {hh : Nat} {hh_Law_readTest : Nat} {hh_Law_readCondition : Nat} {hh_Law_readValue : Nat}  {k_Law_readTest : St → Int32 → Option (St)} {k_Law_readCondition : St → Int32 → Option (St)} {k_Law_readValue : St → Int32 → Option (St)} (hk_Law_readTest : ∀ (S : St) (l1 : Int32) (w : St), k_Law_readTest S l1 = some w → Ct SX m_Law_readTest hh_Law_readTest [.ref 32, .int l1] S none w) (hk_Law_readCondition : ∀ (S : St) (l1 : Int32) (w : St), k_Law_readCondition S l1 = some w → Ct SX m_Law_readCondition hh_Law_readCondition [.ref 32, .int l1] S none w) (hk_Law_readValue : ∀ (S : St) (l1 : Int32) (w : St), k_Law_readValue S l1 = some w → Ct SX m_Law_readValue hh_Law_readValue [.ref 32, .int l1] S none w) (le_Law_readTest : hh_Law_readTest ≤ hh) (le_Law_readCondition : hh_Law_readCondition ≤ hh) (le_Law_readValue : hh_Law_readValue ≤ hh) (S : St) (l1 : Int32) (l3 : Int32) (w : St) (h : f_Law_readTest_128 k_Law_readTest k_Law_readCondition k_Law_readValue S l1 l3 = some w) : G SX m_Law_readTest (hh + 4) none w 128 [(0, .ref 32), (1, .int l1), (3, .int l3)] [] S := by
  unfold f_Law_readTest_128 at h
  refine G_aload_n 0 rfl d_Law_readTest_128 ?_
  refine G_iload_n 1 rfl d_Law_readTest_129 ?_
  obtain ⟨w_130, q_130, h⟩ := ob_b h
  refine G_callV [.int l1] [] (hk_Law_readValue _ _ _ q_130) (by omega) (by decide) mv_Law_readValue rfl ml_Law_67 kx_32 sx_32 cl_1 rfl (Nat.le_of_ble_eq_true rfl) d_Law_readTest_130 ?_
  refine G_aload_n 0 rfl d_Law_readTest_133 ?_
  refine G_iload_n 2 rfl d_Law_readTest_134 ?_
  refine G_iconst 0 (by decide) d_Law_readTest_135 ?_
  obtain ⟨w_136, q_136, h⟩ := ob_b h
  refine G_callV [.int l3, .int 0] [] (t_Law_add q_136) (by omega) (by decide) mv_Law_add rfl ml_Law_63 kx_32 sx_32 cl_1 rfl (Nat.le_of_ble_eq_true rfl) d_Law_readTest_136 ?_
  refine G_pop rfl d_Law_readTest_139 ?_
  cases h
  exact G_vret rfl d_Law_readTest_140
def f_Law_readTest_108 (k_Law_readTest : St → Int32 → Option (St)) (k_Law_readCondition : St → Int32 → Option (St)) (k_Law_readValue : St → Int32 → Option (St)) (S : St) (l1 : Int32) (l3 : Int32) : Option (St) :=
    (f_Reading_needs S l3).bind fun w_113 =>
    f_Law_readTest_128 k_Law_readTest k_Law_readCondition k_Law_readValue w_113 l1 l3
set_option maxHeartbeats 4000000 in
set_option maxRecDepth 20000 in
theorem t_Law_readTest_108 {hh : Nat} {hh_Law_readTest : Nat} {hh_Law_readCondition : Nat} {hh_Law_readValue : Nat}  {k_Law_readTest : St → Int32 → Option (St)} {k_Law_readCondition : St → Int32 → Option (St)} {k_Law_readValue : St → Int32 → Option (St)} (hk_Law_readTest : ∀ (S : St) (l1 : Int32) (w : St), k_Law_readTest S l1 = some w → Ct SX m_Law_readTest hh_Law_readTest [.ref 32, .int l1] S none w) (hk_Law_readCondition : ∀ (S : St) (l1 : Int32) (w : St), k_Law_readCondition S l1 = some w → Ct SX m_Law_readCondition hh_Law_readCondition [.ref 32, .int l1] S none w) (hk_Law_readValue : ∀ (S : St) (l1 : Int32) (w : St), k_Law_readValue S l1 = some w → Ct SX m_Law_readValue hh_Law_readValue [.ref 32, .int l1] S none w) (le_Law_readTest : hh_Law_readTest ≤ hh) (le_Law_readCondition : hh_Law_readCondition ≤ hh) (le_Law_readValue : hh_Law_readValue ≤ hh) (S : St) (l1 : Int32) (l3 : Int32) (w : St) (h : f_Law_readTest_108 k_Law_readTest k_Law_readCondition k_Law_readValue S l1 l3 = some w) : G SX m_Law_readTest (hh + 4) none w 108 [(0, .ref 32), (1, .int l1), (3, .int l3)] [] S := by
  unfold f_Law_readTest_108 at h
  refine G_aload_n 0 rfl d_Law_readTest_108 ?_
  refine G_getR fl_Law_37 kx_32 sx_32 rfl (by decide) d_Law_readTest_109 ?_
  refine G_iload_n 2 rfl d_Law_readTest_112 ?_
  obtain ⟨w_113, q_113, h⟩ := ob_b h
  refine G_callV [.int l3] [] (t_Reading_needs q_113) (by omega) (by decide) mv_Reading_needs rfl ml_Law_71 kx_3 sx_3 cl_4 rfl (Nat.le_of_ble_eq_true rfl) d_Law_readTest_113 ?_
  refine G_goto 128 (by decide) d_Law_readTest_116 ?_
  exact G_sub _ [0, 1, 2] rfl (t_Law_readTest_128 hk_Law_readTest hk_Law_readCondition hk_Law_readValue le_Law_readTest le_Law_readCondition le_Law_readValue w_113 l1 l3 _ h)
def f_Law_readTest (k_Law_readTest : St → Int32 → Option (St)) (k_Law_readCondition : St → Int32 → Option (St)) (k_Law_readValue : St → Int32 → Option (St)) (S : St) (l1 : Int32) : Option (St) :=
    (f_Reading_sign S).bind fun v_4 =>
    if (S 3 2) = 0 then (
    if v_4 = 33 then (
    (f_Law_opens S l1).bind fun w_27 =>
    if w_27.1 = 0 then (
    some w_27.2)
    else (
    (k_Law_readTest w_27.2 (l1 + 1)).bind fun w_37 =>
    (f_Law_add w_37 (2 : Int32) (0 : Int32)).bind fun w_43 =>
    some w_43.2))
    else (
    if v_4 = 40 then (
    (f_Law_opens S l1).bind fun w_58 =>
    if w_58.1 = 0 then (
    some w_58.2)
    else (
    (k_Law_readCondition w_58.2 (l1 + 1)).bind fun w_68 =>
    (f_Reading_needs w_68 (41 : Int32)).bind fun w_77 =>
    some w_77))
    else (
    (k_Law_readValue S l1).bind fun w_85 =>
    (f_Reading_sign w_85).bind fun v_92 =>
    if v_92 = 60 then (
    f_Law_readTest_108 k_Law_readTest k_Law_readCondition k_Law_readValue w_85 l1 v_92)
    else (
    if v_92 = 62 then (
    f_Law_readTest_108 k_Law_readTest k_Law_readCondition k_Law_readValue w_85 l1 v_92)
    else (
    (f_Reading_needs w_85 (61 : Int32)).bind fun w_125 =>
    f_Law_readTest_128 k_Law_readTest k_Law_readCondition k_Law_readValue w_125 l1 v_92)))))
    else (
    some S)
set_option maxHeartbeats 4000000 in
set_option maxRecDepth 20000 in
theorem t_Law_readTest {hh : Nat} {hh_Law_readTest : Nat} {hh_Law_readCondition : Nat} {hh_Law_readValue : Nat}  {k_Law_readTest : St → Int32 → Option (St)} {k_Law_readCondition : St → Int32 → Option (St)} {k_Law_readValue : St → Int32 → Option (St)} (hk_Law_readTest : ∀ (S : St) (l1 : Int32) (w : St), k_Law_readTest S l1 = some w → Ct SX m_Law_readTest hh_Law_readTest [.ref 32, .int l1] S none w) (hk_Law_readCondition : ∀ (S : St) (l1 : Int32) (w : St), k_Law_readCondition S l1 = some w → Ct SX m_Law_readCondition hh_Law_readCondition [.ref 32, .int l1] S none w) (hk_Law_readValue : ∀ (S : St) (l1 : Int32) (w : St), k_Law_readValue S l1 = some w → Ct SX m_Law_readValue hh_Law_readValue [.ref 32, .int l1] S none w) (le_Law_readTest : hh_Law_readTest ≤ hh) (le_Law_readCondition : hh_Law_readCondition ≤ hh) (le_Law_readValue : hh_Law_readValue ≤ hh) {S : St} {l1 : Int32} {w : St} (h : f_Law_readTest k_Law_readTest k_Law_readCondition k_Law_readValue S l1 = some w) : Ct SX m_Law_readTest (hh + 4) [.ref 32, .int l1] S none w := by
  unfold f_Law_readTest at h
  refine Ct.of pn_Law (Nat.le_of_ble_eq_true rfl) ?_
  show G SX m_Law_readTest (hh + 4) none w 0 [(0, .ref 32), (1, .int l1)] [] S
  refine G_aload_n 0 rfl d_Law_readTest_0 ?_
  refine G_getR fl_Law_37 kx_32 sx_32 rfl (by decide) d_Law_readTest_1 ?_
  obtain ⟨v_4, q_4, h⟩ := ob_b h
  refine G_callV [] [] (t_Reading_sign q_4) (by omega) (by decide) mv_Reading_sign rfl ml_Law_52 kx_3 sx_3 cl_4 rfl (Nat.le_of_ble_eq_true rfl) d_Law_readTest_4 ?_
  refine G_istore_n [(2, .int v_4), (0, .ref 32), (1, .int l1)] rfl rfl (by decide) d_Law_readTest_7 ?_
  refine G_aload_n 1 rfl d_Law_readTest_8 ?_
  refine G_getR fl_Law_37 kx_32 sx_32 rfl (by decide) d_Law_readTest_9 ?_
  refine G_getI fl_Law_81 kx_3 sx_3 rfl d_Law_readTest_12 ?_
  refine G_if_eq 19 (by decide) d_Law_readTest_15 (fun c_15 => ?_) (fun c_15 => ?_)
  · replace h := ob_t h c_15
    refine G_iload_n 0 rfl d_Law_readTest_19 ?_
    refine G_bipush 33 (by decide) d_Law_readTest_20 ?_
    refine G_icmp_ne 50 (by decide) d_Law_readTest_22 (fun c_22 => ?_) (fun c_22 => ?_)
    · replace h := ob_f h c_22
      refine G_iload_n 0 rfl d_Law_readTest_50 ?_
      refine G_bipush 40 (by decide) d_Law_readTest_51 ?_
      refine G_icmp_ne 83 (by decide) d_Law_readTest_53 (fun c_53 => ?_) (fun c_53 => ?_)
      · replace h := ob_f h c_53
        refine G_aload_n 1 rfl d_Law_readTest_83 ?_
        refine G_iload_n 2 rfl d_Law_readTest_84 ?_
        obtain ⟨w_85, q_85, h⟩ := ob_b h
        refine G_callV [.int l1] [] (hk_Law_readValue _ _ _ q_85) (by omega) (by decide) mv_Law_readValue rfl ml_Law_67 kx_32 sx_32 cl_1 rfl (Nat.le_of_ble_eq_true rfl) d_Law_readTest_85 ?_
        refine G_aload_n 1 rfl d_Law_readTest_88 ?_
        refine G_getR fl_Law_37 kx_32 sx_32 rfl (by decide) d_Law_readTest_89 ?_
        obtain ⟨v_92, q_92, h⟩ := ob_b h
        refine G_callV [] [] (t_Reading_sign q_92) (by omega) (by decide) mv_Reading_sign rfl ml_Law_52 kx_3 sx_3 cl_4 rfl (Nat.le_of_ble_eq_true rfl) d_Law_readTest_92 ?_
        refine G_istore_n [(3, .int v_92), (2, .int v_4), (0, .ref 32), (1, .int l1)] rfl rfl (by decide) d_Law_readTest_95 ?_
        refine G_iload_n 0 rfl d_Law_readTest_96 ?_
        refine G_bipush 60 (by decide) d_Law_readTest_97 ?_
        refine G_icmp_eq 108 (by decide) d_Law_readTest_99 (fun c_99 => ?_) (fun c_99 => ?_)
        · replace h := ob_t h c_99
          exact G_sub _ [2, 3, 0] rfl (t_Law_readTest_108 hk_Law_readTest hk_Law_readCondition hk_Law_readValue le_Law_readTest le_Law_readCondition le_Law_readValue w_85 l1 v_92 _ h)
        · replace h := ob_f h c_99
          refine G_iload_n 0 rfl d_Law_readTest_102 ?_
          refine G_bipush 62 (by decide) d_Law_readTest_103 ?_
          refine G_icmp_ne 119 (by decide) d_Law_readTest_105 (fun c_105 => ?_) (fun c_105 => ?_)
          · replace h := ob_f h c_105
            refine G_aload_n 2 rfl d_Law_readTest_119 ?_
            refine G_getR fl_Law_37 kx_32 sx_32 rfl (by decide) d_Law_readTest_120 ?_
            refine G_bipush 61 (by decide) d_Law_readTest_123 ?_
            obtain ⟨w_125, q_125, h⟩ := ob_b h
            refine G_callV [.int 61] [] (t_Reading_needs q_125) (by omega) (by decide) mv_Reading_needs rfl ml_Law_71 kx_3 sx_3 cl_4 rfl (Nat.le_of_ble_eq_true rfl) d_Law_readTest_125 ?_
            exact G_sub _ [2, 3, 0] rfl (t_Law_readTest_128 hk_Law_readTest hk_Law_readCondition hk_Law_readValue le_Law_readTest le_Law_readCondition le_Law_readValue w_125 l1 v_92 _ h)
          · replace h := ob_t h c_105
            exact G_sub _ [2, 3, 0] rfl (t_Law_readTest_108 hk_Law_readTest hk_Law_readCondition hk_Law_readValue le_Law_readTest le_Law_readCondition le_Law_readValue w_85 l1 v_92 _ h)
      · replace h := ob_t h c_53
        refine G_aload_n 1 rfl d_Law_readTest_56 ?_
        refine G_iload_n 2 rfl d_Law_readTest_57 ?_
        obtain ⟨w_58, q_58, h⟩ := ob_b h
        refine G_callV [.int l1] [] (t_Law_opens q_58) (by omega) (by decide) mv_Law_opens rfl ml_Law_94 kx_32 sx_32 cl_1 rfl (Nat.le_of_ble_eq_true rfl) d_Law_readTest_58 ?_
        refine G_if_eq 140 (by decide) d_Law_readTest_61 (fun c_61 => ?_) (fun c_61 => ?_)
        · replace h := ob_t h c_61
          cases h
          exact G_vret rfl d_Law_readTest_140
        · replace h := ob_f h c_61
          refine G_aload_n 1 rfl d_Law_readTest_64 ?_
          refine G_iload_n 2 rfl d_Law_readTest_65 ?_
          refine G_iconst 1 (by decide) d_Law_readTest_66 ?_
          refine G_iadd d_Law_readTest_67 ?_
          obtain ⟨w_68, q_68, h⟩ := ob_b h
          refine G_callV [.int (l1 + 1)] [] (hk_Law_readCondition _ _ _ q_68) (by omega) (by decide) mv_Law_readCondition rfl ml_Law_74 kx_32 sx_32 cl_1 rfl (Nat.le_of_ble_eq_true rfl) d_Law_readTest_68 ?_
          refine G_aload_n 1 rfl d_Law_readTest_71 ?_
          refine G_getR fl_Law_37 kx_32 sx_32 rfl (by decide) d_Law_readTest_72 ?_
          refine G_bipush 41 (by decide) d_Law_readTest_75 ?_
          obtain ⟨w_77, q_77, h⟩ := ob_b h
          refine G_callV [.int 41] [] (t_Reading_needs q_77) (by omega) (by decide) mv_Reading_needs rfl ml_Law_71 kx_3 sx_3 cl_4 rfl (Nat.le_of_ble_eq_true rfl) d_Law_readTest_77 ?_
          refine G_goto 140 (by decide) d_Law_readTest_80 ?_
          cases h
          exact G_vret rfl d_Law_readTest_140
    · replace h := ob_t h c_22
      refine G_aload_n 1 rfl d_Law_readTest_25 ?_
      refine G_iload_n 2 rfl d_Law_readTest_26 ?_
      obtain ⟨w_27, q_27, h⟩ := ob_b h
      refine G_callV [.int l1] [] (t_Law_opens q_27) (by omega) (by decide) mv_Law_opens rfl ml_Law_94 kx_32 sx_32 cl_1 rfl (Nat.le_of_ble_eq_true rfl) d_Law_readTest_27 ?_
      refine G_if_eq 140 (by decide) d_Law_readTest_30 (fun c_30 => ?_) (fun c_30 => ?_)
      · replace h := ob_t h c_30
        cases h
        exact G_vret rfl d_Law_readTest_140
      · replace h := ob_f h c_30
        refine G_aload_n 1 rfl d_Law_readTest_33 ?_
        refine G_iload_n 2 rfl d_Law_readTest_34 ?_
        refine G_iconst 1 (by decide) d_Law_readTest_35 ?_
        refine G_iadd d_Law_readTest_36 ?_
        obtain ⟨w_37, q_37, h⟩ := ob_b h
        refine G_callV [.int (l1 + 1)] [] (hk_Law_readTest _ _ _ q_37) (by omega) (by decide) mv_Law_readTest rfl ml_Law_84 kx_32 sx_32 cl_1 rfl (Nat.le_of_ble_eq_true rfl) d_Law_readTest_37 ?_
        refine G_aload_n 1 rfl d_Law_readTest_40 ?_
        refine G_iconst 2 (by decide) d_Law_readTest_41 ?_
        refine G_iconst 0 (by decide) d_Law_readTest_42 ?_
        obtain ⟨w_43, q_43, h⟩ := ob_b h
        refine G_callV [.int 2, .int 0] [] (t_Law_add q_43) (by omega) (by decide) mv_Law_add rfl ml_Law_63 kx_32 sx_32 cl_1 rfl (Nat.le_of_ble_eq_true rfl) d_Law_readTest_43 ?_
        refine G_pop rfl d_Law_readTest_46 ?_
        refine G_goto 140 (by decide) d_Law_readTest_47 ?_
        cases h
        exact G_vret rfl d_Law_readTest_140
  · replace h := ob_f h c_15
    cases h
    exact G_vret rfl d_Law_readTest_18
theorem d_Law_readCondition_0 : decode m_Law_readCondition.2.1 0 = .ok (.iconst (-1), 1) := by decide +kernel
theorem d_Law_readCondition_1 : decode m_Law_readCondition.2.1 1 = .ok (.istore_n 2, 1) := by decide +kernel
theorem d_Law_readCondition_2 : decode m_Law_readCondition.2.1 2 = .ok (.iconst (-1), 1) := by decide +kernel
theorem d_Law_readCondition_3 : decode m_Law_readCondition.2.1 3 = .ok (.istore_n 3, 1) := by decide +kernel
theorem d_Law_readCondition_4 : decode m_Law_readCondition.2.1 4 = .ok (.iconst 1, 1) := by decide +kernel
theorem d_Law_readCondition_5 : decode m_Law_readCondition.2.1 5 = .ok (.istore 4, 2) := by decide +kernel
theorem d_Law_readCondition_7 : decode m_Law_readCondition.2.1 7 = .ok (.iconst 0, 1) := by decide +kernel
theorem d_Law_readCondition_8 : decode m_Law_readCondition.2.1 8 = .ok (.istore 5, 2) := by decide +kernel
theorem d_Law_readCondition_10 : decode m_Law_readCondition.2.1 10 = .ok (.iload 5, 2) := by decide +kernel
theorem d_Law_readCondition_12 : decode m_Law_readCondition.2.1 12 = .ok (.sipush 240, 3) := by decide +kernel
theorem d_Law_readCondition_15 : decode m_Law_readCondition.2.1 15 = .ok (.if_icmp .ge 83, 3) := by decide +kernel
theorem d_Law_readCondition_18 : decode m_Law_readCondition.2.1 18 = .ok (.iload 4, 2) := by decide +kernel
theorem d_Law_readCondition_20 : decode m_Law_readCondition.2.1 20 = .ok (.ifCond .eq 78, 3) := by decide +kernel
theorem d_Law_readCondition_23 : decode m_Law_readCondition.2.1 23 = .ok (.aload_n 0, 1) := by decide +kernel
theorem d_Law_readCondition_24 : decode m_Law_readCondition.2.1 24 = .ok (.iload_n 1, 1) := by decide +kernel
theorem d_Law_readCondition_25 : decode m_Law_readCondition.2.1 25 = .ok (.invokevirtual 84, 3) := by decide +kernel
theorem d_Law_readCondition_28 : decode m_Law_readCondition.2.1 28 = .ok (.aload_n 0, 1) := by decide +kernel
theorem d_Law_readCondition_29 : decode m_Law_readCondition.2.1 29 = .ok (.iload_n 3, 1) := by decide +kernel
theorem d_Law_readCondition_30 : decode m_Law_readCondition.2.1 30 = .ok (.invokevirtual 87, 3) := by decide +kernel
theorem d_Law_readCondition_33 : decode m_Law_readCondition.2.1 33 = .ok (.iconst (-1), 1) := by decide +kernel
theorem d_Law_readCondition_34 : decode m_Law_readCondition.2.1 34 = .ok (.istore_n 3, 1) := by decide +kernel
theorem d_Law_readCondition_35 : decode m_Law_readCondition.2.1 35 = .ok (.iconst 0, 1) := by decide +kernel
theorem d_Law_readCondition_36 : decode m_Law_readCondition.2.1 36 = .ok (.istore 4, 2) := by decide +kernel
theorem d_Law_readCondition_38 : decode m_Law_readCondition.2.1 38 = .ok (.aload_n 0, 1) := by decide +kernel
theorem d_Law_readCondition_39 : decode m_Law_readCondition.2.1 39 = .ok (.getfield 37, 3) := by decide +kernel
theorem d_Law_readCondition_42 : decode m_Law_readCondition.2.1 42 = .ok (.bipush 38, 2) := by decide +kernel
theorem d_Law_readCondition_44 : decode m_Law_readCondition.2.1 44 = .ok (.invokevirtual 90, 3) := by decide +kernel
theorem d_Law_readCondition_47 : decode m_Law_readCondition.2.1 47 = .ok (.ifCond .eq 16, 3) := by decide +kernel
theorem d_Law_readCondition_50 : decode m_Law_readCondition.2.1 50 = .ok (.aload_n 0, 1) := by decide +kernel
theorem d_Law_readCondition_51 : decode m_Law_readCondition.2.1 51 = .ok (.iconst 4, 1) := by decide +kernel
theorem d_Law_readCondition_52 : decode m_Law_readCondition.2.1 52 = .ok (.iconst 0, 1) := by decide +kernel
theorem d_Law_readCondition_53 : decode m_Law_readCondition.2.1 53 = .ok (.invokevirtual 63, 3) := by decide +kernel
theorem d_Law_readCondition_56 : decode m_Law_readCondition.2.1 56 = .ok (.istore_n 3, 1) := by decide +kernel
theorem d_Law_readCondition_57 : decode m_Law_readCondition.2.1 57 = .ok (.iconst 1, 1) := by decide +kernel
theorem d_Law_readCondition_58 : decode m_Law_readCondition.2.1 58 = .ok (.istore 4, 2) := by decide +kernel
theorem d_Law_readCondition_60 : decode m_Law_readCondition.2.1 60 = .ok (.goto 32, 3) := by decide +kernel
theorem d_Law_readCondition_63 : decode m_Law_readCondition.2.1 63 = .ok (.aload_n 0, 1) := by decide +kernel
theorem d_Law_readCondition_64 : decode m_Law_readCondition.2.1 64 = .ok (.iload_n 2, 1) := by decide +kernel
theorem d_Law_readCondition_65 : decode m_Law_readCondition.2.1 65 = .ok (.invokevirtual 87, 3) := by decide +kernel
theorem d_Law_readCondition_68 : decode m_Law_readCondition.2.1 68 = .ok (.iconst (-1), 1) := by decide +kernel
theorem d_Law_readCondition_69 : decode m_Law_readCondition.2.1 69 = .ok (.istore_n 2, 1) := by decide +kernel
theorem d_Law_readCondition_70 : decode m_Law_readCondition.2.1 70 = .ok (.aload_n 0, 1) := by decide +kernel
theorem d_Law_readCondition_71 : decode m_Law_readCondition.2.1 71 = .ok (.getfield 37, 3) := by decide +kernel
theorem d_Law_readCondition_74 : decode m_Law_readCondition.2.1 74 = .ok (.bipush 124, 2) := by decide +kernel
theorem d_Law_readCondition_76 : decode m_Law_readCondition.2.1 76 = .ok (.invokevirtual 90, 3) := by decide +kernel
theorem d_Law_readCondition_79 : decode m_Law_readCondition.2.1 79 = .ok (.ifCond .eq 13, 3) := by decide +kernel
theorem d_Law_readCondition_82 : decode m_Law_readCondition.2.1 82 = .ok (.aload_n 0, 1) := by decide +kernel
theorem d_Law_readCondition_83 : decode m_Law_readCondition.2.1 83 = .ok (.iconst 3, 1) := by decide +kernel
theorem d_Law_readCondition_84 : decode m_Law_readCondition.2.1 84 = .ok (.iconst 0, 1) := by decide +kernel
theorem d_Law_readCondition_85 : decode m_Law_readCondition.2.1 85 = .ok (.invokevirtual 63, 3) := by decide +kernel
theorem d_Law_readCondition_88 : decode m_Law_readCondition.2.1 88 = .ok (.istore_n 2, 1) := by decide +kernel
theorem d_Law_readCondition_89 : decode m_Law_readCondition.2.1 89 = .ok (.iconst 1, 1) := by decide +kernel
theorem d_Law_readCondition_90 : decode m_Law_readCondition.2.1 90 = .ok (.istore 4, 2) := by decide +kernel
theorem d_Law_readCondition_92 : decode m_Law_readCondition.2.1 92 = .ok (.iinc 5 1, 3) := by decide +kernel
theorem d_Law_readCondition_95 : decode m_Law_readCondition.2.1 95 = .ok (.goto (-85), 3) := by decide +kernel
theorem d_Law_readCondition_98 : decode m_Law_readCondition.2.1 98 = .ok (.return_, 1) := by decide +kernel
def f_Law_readCondition_92 (k_Law_readTest : St → Int32 → Option (St)) (k_10 : St → Int32 → Int32 → Int32 → Int32 → Int32 → Option (St)) (S : St) (l1 : Int32) (l2 : Int32) (l3 : Int32) (l4 : Int32) (l5 : Int32) : Option (St) :=
    (some (l5 + 1)).bind fun l5_92 =>
    k_10 S l1 l2 l3 l4 l5_92
set_option maxHeartbeats 4000000 in
set_option maxRecDepth 20000 in
theorem t_Law_readCondition_92 {hh : Nat} {hh_Law_readTest : Nat}  {k_Law_readTest : St → Int32 → Option (St)} (hk_Law_readTest : ∀ (S : St) (l1 : Int32) (w : St), k_Law_readTest S l1 = some w → Ct SX m_Law_readTest hh_Law_readTest [.ref 32, .int l1] S none w) (le_Law_readTest : hh_Law_readTest ≤ hh) {k_10 : St → Int32 → Int32 → Int32 → Int32 → Int32 → Option (St)} (hk_10 : ∀ (S : St) (l1 : Int32) (l2 : Int32) (l3 : Int32) (l4 : Int32) (l5 : Int32) (w : St), k_10 S l1 l2 l3 l4 l5 = some w → G SX m_Law_readCondition (hh + 4) none w 10 [(0, .ref 32), (1, .int l1), (2, .int l2), (3, .int l3), (4, .int l4), (5, .int l5)] [] S) (S : St) (l1 : Int32) (l2 : Int32) (l3 : Int32) (l4 : Int32) (l5 : Int32) (w : St) (h : f_Law_readCondition_92 k_Law_readTest k_10 S l1 l2 l3 l4 l5 = some w) : G SX m_Law_readCondition (hh + 4) none w 92 [(0, .ref 32), (1, .int l1), (2, .int l2), (3, .int l3), (4, .int l4), (5, .int l5)] [] S := by
  unfold f_Law_readCondition_92 at h
  obtain ⟨l5_92, e_92, h⟩ := ob_s h
  refine G_iinc 1 5 [(5, .int l5_92), (0, .ref 32), (1, .int l1), (2, .int l2), (3, .int l3), (4, .int l4)] (by decide) rfl e_92 rfl (by decide) d_Law_readCondition_92 ?_
  refine G_goto 10 (by decide) d_Law_readCondition_95 ?_
  exact G_sub _ [1, 2, 3, 4, 5, 0] rfl (hk_10 S l1 l2 l3 l4 l5_92 _ h)
def f_Law_readCondition_10 (k_Law_readTest : St → Int32 → Option (St)) : Nat → St → Int32 → Int32 → Int32 → Int32 → Int32 → Option (St)
  | 0, _, _, _, _, _, _ => none
  | n + 1, S, l1, l2, l3, l4, l5 =>
    if (240 : Int32) ≤ l5 then (
    some S)
    else (
    if l4 = 0 then (
    some S)
    else (
    (k_Law_readTest S l1).bind fun w_25 =>
    (f_Law_land w_25 l3).bind fun w_30 =>
    (some ((-1) : Int32)).bind fun l3_34 =>
    (some (0 : Int32)).bind fun l4_36 =>
    (f_Reading_takes w_30 (38 : Int32)).bind fun w_44 =>
    if w_44.1 = 0 then (
    (f_Law_land w_44.2 l2).bind fun w_65 =>
    (some ((-1) : Int32)).bind fun l2_69 =>
    (f_Reading_takes w_65 (124 : Int32)).bind fun w_76 =>
    if w_76.1 = 0 then (
    f_Law_readCondition_92 k_Law_readTest (f_Law_readCondition_10 k_Law_readTest n) w_76.2 l1 l2_69 l3_34 l4_36 l5)
    else (
    (f_Law_add w_76.2 (3 : Int32) (0 : Int32)).bind fun w_85 =>
    (some w_85.1).bind fun l2_88 =>
    (some (1 : Int32)).bind fun l4_90 =>
    f_Law_readCondition_92 k_Law_readTest (f_Law_readCondition_10 k_Law_readTest n) w_85.2 l1 l2_88 l3_34 l4_90 l5))
    else (
    (f_Law_add w_44.2 (4 : Int32) (0 : Int32)).bind fun w_53 =>
    (some w_53.1).bind fun l3_56 =>
    (some (1 : Int32)).bind fun l4_58 =>
    f_Law_readCondition_92 k_Law_readTest (f_Law_readCondition_10 k_Law_readTest n) w_53.2 l1 l2 l3_56 l4_58 l5)))
set_option maxHeartbeats 4000000 in
set_option maxRecDepth 20000 in
theorem t_Law_readCondition_10 {hh : Nat} {hh_Law_readTest : Nat}  {k_Law_readTest : St → Int32 → Option (St)} (hk_Law_readTest : ∀ (S : St) (l1 : Int32) (w : St), k_Law_readTest S l1 = some w → Ct SX m_Law_readTest hh_Law_readTest [.ref 32, .int l1] S none w) (le_Law_readTest : hh_Law_readTest ≤ hh) : ∀ (n : Nat) (S : St) (l1 : Int32) (l2 : Int32) (l3 : Int32) (l4 : Int32) (l5 : Int32) (w : St), f_Law_readCondition_10 k_Law_readTest n S l1 l2 l3 l4 l5 = some w → G SX m_Law_readCondition (hh + 4) none w 10 [(0, .ref 32), (1, .int l1), (2, .int l2), (3, .int l3), (4, .int l4), (5, .int l5)] [] S := by
  intro n
  induction n with
  | zero =>
    intro S l1 l2 l3 l4 l5 w h
    rw [f_Law_readCondition_10] at h
    cases h
  | succ n ih =>
    intro S l1 l2 l3 l4 l5 w h
    rw [f_Law_readCondition_10] at h
    refine G_iload 5 rfl d_Law_readCondition_10 ?_
    refine G_sipush 240 (by decide) d_Law_readCondition_12 ?_
    refine G_icmp_ge 98 (by decide) d_Law_readCondition_15 (fun c_15 => ?_) (fun c_15 => ?_)
    · replace h := ob_t h c_15
      cases h
      exact G_vret rfl d_Law_readCondition_98
    · replace h := ob_f h c_15
      refine G_iload 4 rfl d_Law_readCondition_18 ?_
      refine G_if_eq 98 (by decide) d_Law_readCondition_20 (fun c_20 => ?_) (fun c_20 => ?_)
      · replace h := ob_t h c_20
        cases h
        exact G_vret rfl d_Law_readCondition_98
      · replace h := ob_f h c_20
        refine G_aload_n 0 rfl d_Law_readCondition_23 ?_
        refine G_iload_n 1 rfl d_Law_readCondition_24 ?_
        obtain ⟨w_25, q_25, h⟩ := ob_b h
        refine G_callV [.int l1] [] (hk_Law_readTest _ _ _ q_25) (by omega) (by decide) mv_Law_readTest rfl ml_Law_84 kx_32 sx_32 cl_1 rfl (Nat.le_of_ble_eq_true rfl) d_Law_readCondition_25 ?_
        refine G_aload_n 0 rfl d_Law_readCondition_28 ?_
        refine G_iload_n 3 rfl d_Law_readCondition_29 ?_
        obtain ⟨w_30, q_30, h⟩ := ob_b h
        refine G_callV [.int l3] [] (t_Law_land q_30) (by omega) (by decide) mv_Law_land rfl ml_Law_87 kx_32 sx_32 cl_1 rfl (Nat.le_of_ble_eq_true rfl) d_Law_readCondition_30 ?_
        refine G_iconst (-1) (by decide) d_Law_readCondition_33 ?_
        obtain ⟨l3_34, e_34, h⟩ := ob_s h
        refine G_istore_n [(3, .int l3_34), (0, .ref 32), (1, .int l1), (2, .int l2), (4, .int l4), (5, .int l5)] e_34 rfl (by decide) d_Law_readCondition_34 ?_
        refine G_iconst 0 (by decide) d_Law_readCondition_35 ?_
        obtain ⟨l4_36, e_36, h⟩ := ob_s h
        refine G_istore [(4, .int l4_36), (3, .int l3_34), (0, .ref 32), (1, .int l1), (2, .int l2), (5, .int l5)] e_36 rfl (by decide) d_Law_readCondition_36 ?_
        refine G_aload_n 2 rfl d_Law_readCondition_38 ?_
        refine G_getR fl_Law_37 kx_32 sx_32 rfl (by decide) d_Law_readCondition_39 ?_
        refine G_bipush 38 (by decide) d_Law_readCondition_42 ?_
        obtain ⟨w_44, q_44, h⟩ := ob_b h
        refine G_callV [.int 38] [] (t_Reading_takes q_44) (by omega) (by decide) mv_Reading_takes rfl ml_Law_90 kx_3 sx_3 cl_4 rfl (Nat.le_of_ble_eq_true rfl) d_Law_readCondition_44 ?_
        refine G_if_eq 63 (by decide) d_Law_readCondition_47 (fun c_47 => ?_) (fun c_47 => ?_)
        · replace h := ob_t h c_47
          refine G_aload_n 2 rfl d_Law_readCondition_63 ?_
          refine G_iload_n 4 rfl d_Law_readCondition_64 ?_
          obtain ⟨w_65, q_65, h⟩ := ob_b h
          refine G_callV [.int l2] [] (t_Law_land q_65) (by omega) (by decide) mv_Law_land rfl ml_Law_87 kx_32 sx_32 cl_1 rfl (Nat.le_of_ble_eq_true rfl) d_Law_readCondition_65 ?_
          refine G_iconst (-1) (by decide) d_Law_readCondition_68 ?_
          obtain ⟨l2_69, e_69, h⟩ := ob_s h
          refine G_istore_n [(2, .int l2_69), (4, .int l4_36), (3, .int l3_34), (0, .ref 32), (1, .int l1), (5, .int l5)] e_69 rfl (by decide) d_Law_readCondition_69 ?_
          refine G_aload_n 3 rfl d_Law_readCondition_70 ?_
          refine G_getR fl_Law_37 kx_32 sx_32 rfl (by decide) d_Law_readCondition_71 ?_
          refine G_bipush 124 (by decide) d_Law_readCondition_74 ?_
          obtain ⟨w_76, q_76, h⟩ := ob_b h
          refine G_callV [.int 124] [] (t_Reading_takes q_76) (by omega) (by decide) mv_Reading_takes rfl ml_Law_90 kx_3 sx_3 cl_4 rfl (Nat.le_of_ble_eq_true rfl) d_Law_readCondition_76 ?_
          refine G_if_eq 92 (by decide) d_Law_readCondition_79 (fun c_79 => ?_) (fun c_79 => ?_)
          · replace h := ob_t h c_79
            exact G_sub _ [3, 4, 0, 2, 1, 5] rfl (t_Law_readCondition_92 hk_Law_readTest le_Law_readTest ih w_76.2 l1 l2_69 l3_34 l4_36 l5 _ h)
          · replace h := ob_f h c_79
            refine G_aload_n 3 rfl d_Law_readCondition_82 ?_
            refine G_iconst 3 (by decide) d_Law_readCondition_83 ?_
            refine G_iconst 0 (by decide) d_Law_readCondition_84 ?_
            obtain ⟨w_85, q_85, h⟩ := ob_b h
            refine G_callV [.int 3, .int 0] [] (t_Law_add q_85) (by omega) (by decide) mv_Law_add rfl ml_Law_63 kx_32 sx_32 cl_1 rfl (Nat.le_of_ble_eq_true rfl) d_Law_readCondition_85 ?_
            obtain ⟨l2_88, e_88, h⟩ := ob_s h
            refine G_istore_n [(2, .int l2_88), (4, .int l4_36), (3, .int l3_34), (0, .ref 32), (1, .int l1), (5, .int l5)] e_88 rfl (by decide) d_Law_readCondition_88 ?_
            refine G_iconst 1 (by decide) d_Law_readCondition_89 ?_
            obtain ⟨l4_90, e_90, h⟩ := ob_s h
            refine G_istore [(4, .int l4_90), (2, .int l2_88), (3, .int l3_34), (0, .ref 32), (1, .int l1), (5, .int l5)] e_90 rfl (by decide) d_Law_readCondition_90 ?_
            exact G_sub _ [3, 4, 1, 2, 0, 5] rfl (t_Law_readCondition_92 hk_Law_readTest le_Law_readTest ih w_85.2 l1 l2_88 l3_34 l4_90 l5 _ h)
        · replace h := ob_f h c_47
          refine G_aload_n 2 rfl d_Law_readCondition_50 ?_
          refine G_iconst 4 (by decide) d_Law_readCondition_51 ?_
          refine G_iconst 0 (by decide) d_Law_readCondition_52 ?_
          obtain ⟨w_53, q_53, h⟩ := ob_b h
          refine G_callV [.int 4, .int 0] [] (t_Law_add q_53) (by omega) (by decide) mv_Law_add rfl ml_Law_63 kx_32 sx_32 cl_1 rfl (Nat.le_of_ble_eq_true rfl) d_Law_readCondition_53 ?_
          obtain ⟨l3_56, e_56, h⟩ := ob_s h
          refine G_istore_n [(3, .int l3_56), (4, .int l4_36), (0, .ref 32), (1, .int l1), (2, .int l2), (5, .int l5)] e_56 rfl (by decide) d_Law_readCondition_56 ?_
          refine G_iconst 1 (by decide) d_Law_readCondition_57 ?_
          obtain ⟨l4_58, e_58, h⟩ := ob_s h
          refine G_istore [(4, .int l4_58), (3, .int l3_56), (0, .ref 32), (1, .int l1), (2, .int l2), (5, .int l5)] e_58 rfl (by decide) d_Law_readCondition_58 ?_
          refine G_goto 92 (by decide) d_Law_readCondition_60 ?_
          exact G_sub _ [2, 3, 4, 1, 0, 5] rfl (t_Law_readCondition_92 hk_Law_readTest le_Law_readTest ih w_53.2 l1 l2 l3_56 l4_58 l5 _ h)
def f_Law_readCondition (k_Law_readTest : St → Int32 → Option (St)) (S : St) (l1 : Int32) : Option (St) :=
    (some ((-1) : Int32)).bind fun l2_1 =>
    (some ((-1) : Int32)).bind fun l3_3 =>
    (some (1 : Int32)).bind fun l4_5 =>
    (some (0 : Int32)).bind fun l5_8 =>
    f_Law_readCondition_10 k_Law_readTest FU S l1 l2_1 l3_3 l4_5 l5_8
set_option maxHeartbeats 4000000 in
set_option maxRecDepth 20000 in
theorem t_Law_readCondition {hh : Nat} {hh_Law_readTest : Nat}  {k_Law_readTest : St → Int32 → Option (St)} (hk_Law_readTest : ∀ (S : St) (l1 : Int32) (w : St), k_Law_readTest S l1 = some w → Ct SX m_Law_readTest hh_Law_readTest [.ref 32, .int l1] S none w) (le_Law_readTest : hh_Law_readTest ≤ hh) {S : St} {l1 : Int32} {w : St} (h : f_Law_readCondition k_Law_readTest S l1 = some w) : Ct SX m_Law_readCondition (hh + 4) [.ref 32, .int l1] S none w := by
  unfold f_Law_readCondition at h
  refine Ct.of pn_Law (Nat.le_of_ble_eq_true rfl) ?_
  show G SX m_Law_readCondition (hh + 4) none w 0 [(0, .ref 32), (1, .int l1)] [] S
  refine G_iconst (-1) (by decide) d_Law_readCondition_0 ?_
  obtain ⟨l2_1, e_1, h⟩ := ob_s h
  refine G_istore_n [(2, .int l2_1), (0, .ref 32), (1, .int l1)] e_1 rfl (by decide) d_Law_readCondition_1 ?_
  refine G_iconst (-1) (by decide) d_Law_readCondition_2 ?_
  obtain ⟨l3_3, e_3, h⟩ := ob_s h
  refine G_istore_n [(3, .int l3_3), (2, .int l2_1), (0, .ref 32), (1, .int l1)] e_3 rfl (by decide) d_Law_readCondition_3 ?_
  refine G_iconst 1 (by decide) d_Law_readCondition_4 ?_
  obtain ⟨l4_5, e_5, h⟩ := ob_s h
  refine G_istore [(4, .int l4_5), (3, .int l3_3), (2, .int l2_1), (0, .ref 32), (1, .int l1)] e_5 rfl (by decide) d_Law_readCondition_5 ?_
  refine G_iconst 0 (by decide) d_Law_readCondition_7 ?_
  obtain ⟨l5_8, e_8, h⟩ := ob_s h
  refine G_istore [(5, .int l5_8), (4, .int l4_5), (3, .int l3_3), (2, .int l2_1), (0, .ref 32), (1, .int l1)] e_8 rfl (by decide) d_Law_readCondition_8 ?_
  exact G_sub _ [4, 5, 3, 2, 1, 0] rfl (t_Law_readCondition_10 hk_Law_readTest le_Law_readTest FU S l1 l2_1 l3_3 l4_5 l5_8 _ h)
def FRT : Nat → St → Int32 → Option St
  | 0 => fun _ _ => none
  | d + 1 => f_Law_readTest (FRT d) (f_Law_readCondition (FRT d)) F_Law_readValue
theorem T_RT : ∀ (d : Nat) (S : St) (l1 : Int32) (w : St), FRT d S l1 = some w → Ct SX m_Law_readTest (64 + 8 * d) [.ref 32, .int l1] S none w := by
  intro d
  induction d with
  | zero => intro S l1 w h; cases h
  | succ d ih =>
    intro S l1 w h
    exact t_Law_readTest (hh := 64 + 8 * d + 4) (hh_Law_readTest := 64 + 8 * d) (hh_Law_readCondition := 64 + 8 * d + 4) (hh_Law_readValue := 64) (k_Law_readTest := FRT d) (k_Law_readCondition := f_Law_readCondition (FRT d)) (k_Law_readValue := F_Law_readValue) ih (fun S l1 w h => t_Law_readCondition (hh := 64 + 8 * d) (hh_Law_readTest := 64 + 8 * d) (k_Law_readTest := FRT d) ih (Nat.le_refl _) h) (fun S l1 w h => T_Law_readValue h) (by omega) (by omega) (by omega) h
def F_Law_readCondition : St → Int32 → Option St := f_Law_readCondition (FRT 9)
theorem T_Law_readCondition {S : St} {l1 : Int32} {w : St} (h : F_Law_readCondition S l1 = some w) : Ct SX m_Law_readCondition 140 [.ref 32, .int l1] S none w := t_Law_readCondition (hh := 136) (hh_Law_readTest := 136) (k_Law_readTest := FRT 9) (T_RT 9) (Nat.le_refl _) h
theorem d_Law_read_0 : decode m_Law_read.2.1 0 = .ok (.aload_n 0, 1) := by decide +kernel
theorem d_Law_read_1 : decode m_Law_read.2.1 1 = .ok (.getfield 37, 3) := by decide +kernel
theorem d_Law_read_4 : decode m_Law_read.2.1 4 = .ok (.invokevirtual 47, 3) := by decide +kernel
theorem d_Law_read_7 : decode m_Law_read.2.1 7 = .ok (.aload_n 0, 1) := by decide +kernel
theorem d_Law_read_8 : decode m_Law_read.2.1 8 = .ok (.iconst 0, 1) := by decide +kernel
theorem d_Law_read_9 : decode m_Law_read.2.1 9 = .ok (.putfield 30, 3) := by decide +kernel
theorem d_Law_read_12 : decode m_Law_read.2.1 12 = .ok (.aload_n 0, 1) := by decide +kernel
theorem d_Law_read_13 : decode m_Law_read.2.1 13 = .ok (.iconst 0, 1) := by decide +kernel
theorem d_Law_read_14 : decode m_Law_read.2.1 14 = .ok (.putfield 34, 3) := by decide +kernel
theorem d_Law_read_17 : decode m_Law_read.2.1 17 = .ok (.iconst 1, 1) := by decide +kernel
theorem d_Law_read_18 : decode m_Law_read.2.1 18 = .ok (.istore_n 1, 1) := by decide +kernel
theorem d_Law_read_19 : decode m_Law_read.2.1 19 = .ok (.iconst 0, 1) := by decide +kernel
theorem d_Law_read_20 : decode m_Law_read.2.1 20 = .ok (.istore_n 2, 1) := by decide +kernel
theorem d_Law_read_21 : decode m_Law_read.2.1 21 = .ok (.iload_n 2, 1) := by decide +kernel
theorem d_Law_read_22 : decode m_Law_read.2.1 22 = .ok (.bipush 16, 2) := by decide +kernel
theorem d_Law_read_24 : decode m_Law_read.2.1 24 = .ok (.if_icmp .gt 190, 3) := by decide +kernel
theorem d_Law_read_27 : decode m_Law_read.2.1 27 = .ok (.iload_n 1, 1) := by decide +kernel
theorem d_Law_read_28 : decode m_Law_read.2.1 28 = .ok (.ifCond .eq 186, 3) := by decide +kernel
theorem d_Law_read_31 : decode m_Law_read.2.1 31 = .ok (.aload_n 0, 1) := by decide +kernel
theorem d_Law_read_32 : decode m_Law_read.2.1 32 = .ok (.getfield 37, 3) := by decide +kernel
theorem d_Law_read_35 : decode m_Law_read.2.1 35 = .ok (.invokevirtual 52, 3) := by decide +kernel
theorem d_Law_read_38 : decode m_Law_read.2.1 38 = .ok (.istore_n 3, 1) := by decide +kernel
theorem d_Law_read_39 : decode m_Law_read.2.1 39 = .ok (.iload_n 3, 1) := by decide +kernel
theorem d_Law_read_40 : decode m_Law_read.2.1 40 = .ok (.bipush 100, 2) := by decide +kernel
theorem d_Law_read_42 : decode m_Law_read.2.1 42 = .ok (.if_icmp .eq 33, 3) := by decide +kernel
theorem d_Law_read_45 : decode m_Law_read.2.1 45 = .ok (.iload_n 3, 1) := by decide +kernel
theorem d_Law_read_46 : decode m_Law_read.2.1 46 = .ok (.bipush 98, 2) := by decide +kernel
theorem d_Law_read_48 : decode m_Law_read.2.1 48 = .ok (.if_icmp .eq 27, 3) := by decide +kernel
theorem d_Law_read_51 : decode m_Law_read.2.1 51 = .ok (.iload_n 3, 1) := by decide +kernel
theorem d_Law_read_52 : decode m_Law_read.2.1 52 = .ok (.bipush 120, 2) := by decide +kernel
theorem d_Law_read_54 : decode m_Law_read.2.1 54 = .ok (.if_icmp .eq 21, 3) := by decide +kernel
theorem d_Law_read_57 : decode m_Law_read.2.1 57 = .ok (.aload_n 0, 1) := by decide +kernel
theorem d_Law_read_58 : decode m_Law_read.2.1 58 = .ok (.getfield 37, 3) := by decide +kernel
theorem d_Law_read_61 : decode m_Law_read.2.1 61 = .ok (.iconst 1, 1) := by decide +kernel
theorem d_Law_read_62 : decode m_Law_read.2.1 62 = .ok (.aload_n 0, 1) := by decide +kernel
theorem d_Law_read_63 : decode m_Law_read.2.1 63 = .ok (.getfield 37, 3) := by decide +kernel
theorem d_Law_read_66 : decode m_Law_read.2.1 66 = .ok (.getfield 56, 3) := by decide +kernel
theorem d_Law_read_69 : decode m_Law_read.2.1 69 = .ok (.invokevirtual 59, 3) := by decide +kernel
theorem d_Law_read_72 : decode m_Law_read.2.1 72 = .ok (.goto 128, 3) := by decide +kernel
theorem d_Law_read_75 : decode m_Law_read.2.1 75 = .ok (.iload_n 2, 1) := by decide +kernel
theorem d_Law_read_76 : decode m_Law_read.2.1 76 = .ok (.bipush 16, 2) := by decide +kernel
theorem d_Law_read_78 : decode m_Law_read.2.1 78 = .ok (.if_icmp .lt 21, 3) := by decide +kernel
theorem d_Law_read_81 : decode m_Law_read.2.1 81 = .ok (.aload_n 0, 1) := by decide +kernel
theorem d_Law_read_82 : decode m_Law_read.2.1 82 = .ok (.getfield 37, 3) := by decide +kernel
theorem d_Law_read_85 : decode m_Law_read.2.1 85 = .ok (.iconst 4, 1) := by decide +kernel
theorem d_Law_read_86 : decode m_Law_read.2.1 86 = .ok (.aload_n 0, 1) := by decide +kernel
theorem d_Law_read_87 : decode m_Law_read.2.1 87 = .ok (.getfield 37, 3) := by decide +kernel
theorem d_Law_read_90 : decode m_Law_read.2.1 90 = .ok (.getfield 56, 3) := by decide +kernel
theorem d_Law_read_93 : decode m_Law_read.2.1 93 = .ok (.invokevirtual 59, 3) := by decide +kernel
theorem d_Law_read_96 : decode m_Law_read.2.1 96 = .ok (.goto 104, 3) := by decide +kernel
theorem d_Law_read_99 : decode m_Law_read.2.1 99 = .ok (.aload_n 0, 1) := by decide +kernel
theorem d_Law_read_100 : decode m_Law_read.2.1 100 = .ok (.getfield 37, 3) := by decide +kernel
theorem d_Law_read_103 : decode m_Law_read.2.1 103 = .ok (.dup, 1) := by decide +kernel
theorem d_Law_read_104 : decode m_Law_read.2.1 104 = .ok (.getfield 56, 3) := by decide +kernel
theorem d_Law_read_107 : decode m_Law_read.2.1 107 = .ok (.iconst 1, 1) := by decide +kernel
theorem d_Law_read_108 : decode m_Law_read.2.1 108 = .ok (.iadd, 1) := by decide +kernel
theorem d_Law_read_109 : decode m_Law_read.2.1 109 = .ok (.putfield 56, 3) := by decide +kernel
theorem d_Law_read_112 : decode m_Law_read.2.1 112 = .ok (.aload_n 0, 1) := by decide +kernel
theorem d_Law_read_113 : decode m_Law_read.2.1 113 = .ok (.getfield 18, 3) := by decide +kernel
theorem d_Law_read_116 : decode m_Law_read.2.1 116 = .ok (.iload_n 2, 1) := by decide +kernel
theorem d_Law_read_117 : decode m_Law_read.2.1 117 = .ok (.iload_n 3, 1) := by decide +kernel
theorem d_Law_read_118 : decode m_Law_read.2.1 118 = .ok (.iastore, 1) := by decide +kernel
theorem d_Law_read_119 : decode m_Law_read.2.1 119 = .ok (.aload_n 0, 1) := by decide +kernel
theorem d_Law_read_120 : decode m_Law_read.2.1 120 = .ok (.getfield 21, 3) := by decide +kernel
theorem d_Law_read_123 : decode m_Law_read.2.1 123 = .ok (.iload_n 2, 1) := by decide +kernel
theorem d_Law_read_124 : decode m_Law_read.2.1 124 = .ok (.aload_n 0, 1) := by decide +kernel
theorem d_Law_read_125 : decode m_Law_read.2.1 125 = .ok (.getfield 30, 3) := by decide +kernel
theorem d_Law_read_128 : decode m_Law_read.2.1 128 = .ok (.iastore, 1) := by decide +kernel
theorem d_Law_read_129 : decode m_Law_read.2.1 129 = .ok (.iload_n 3, 1) := by decide +kernel
theorem d_Law_read_130 : decode m_Law_read.2.1 130 = .ok (.bipush 120, 2) := by decide +kernel
theorem d_Law_read_132 : decode m_Law_read.2.1 132 = .ok (.if_icmp .ne 13, 3) := by decide +kernel
theorem d_Law_read_135 : decode m_Law_read.2.1 135 = .ok (.aload_n 0, 1) := by decide +kernel
theorem d_Law_read_136 : decode m_Law_read.2.1 136 = .ok (.iconst 0, 1) := by decide +kernel
theorem d_Law_read_137 : decode m_Law_read.2.1 137 = .ok (.iconst 1, 1) := by decide +kernel
theorem d_Law_read_138 : decode m_Law_read.2.1 138 = .ok (.invokevirtual 63, 3) := by decide +kernel
theorem d_Law_read_141 : decode m_Law_read.2.1 141 = .ok (.pop, 1) := by decide +kernel
theorem d_Law_read_142 : decode m_Law_read.2.1 142 = .ok (.goto 8, 3) := by decide +kernel
theorem d_Law_read_145 : decode m_Law_read.2.1 145 = .ok (.aload_n 0, 1) := by decide +kernel
theorem d_Law_read_146 : decode m_Law_read.2.1 146 = .ok (.iconst 0, 1) := by decide +kernel
theorem d_Law_read_147 : decode m_Law_read.2.1 147 = .ok (.invokevirtual 67, 3) := by decide +kernel
theorem d_Law_read_150 : decode m_Law_read.2.1 150 = .ok (.aload_n 0, 1) := by decide +kernel
theorem d_Law_read_151 : decode m_Law_read.2.1 151 = .ok (.getfield 24, 3) := by decide +kernel
theorem d_Law_read_154 : decode m_Law_read.2.1 154 = .ok (.iload_n 2, 1) := by decide +kernel
theorem d_Law_read_155 : decode m_Law_read.2.1 155 = .ok (.aload_n 0, 1) := by decide +kernel
theorem d_Law_read_156 : decode m_Law_read.2.1 156 = .ok (.getfield 30, 3) := by decide +kernel
theorem d_Law_read_159 : decode m_Law_read.2.1 159 = .ok (.iastore, 1) := by decide +kernel
theorem d_Law_read_160 : decode m_Law_read.2.1 160 = .ok (.aload_n 0, 1) := by decide +kernel
theorem d_Law_read_161 : decode m_Law_read.2.1 161 = .ok (.getfield 37, 3) := by decide +kernel
theorem d_Law_read_164 : decode m_Law_read.2.1 164 = .ok (.bipush 40, 2) := by decide +kernel
theorem d_Law_read_166 : decode m_Law_read.2.1 166 = .ok (.invokevirtual 71, 3) := by decide +kernel
theorem d_Law_read_169 : decode m_Law_read.2.1 169 = .ok (.aload_n 0, 1) := by decide +kernel
theorem d_Law_read_170 : decode m_Law_read.2.1 170 = .ok (.iconst 1, 1) := by decide +kernel
theorem d_Law_read_171 : decode m_Law_read.2.1 171 = .ok (.invokevirtual 74, 3) := by decide +kernel
theorem d_Law_read_174 : decode m_Law_read.2.1 174 = .ok (.aload_n 0, 1) := by decide +kernel
theorem d_Law_read_175 : decode m_Law_read.2.1 175 = .ok (.getfield 37, 3) := by decide +kernel
theorem d_Law_read_178 : decode m_Law_read.2.1 178 = .ok (.bipush 41, 2) := by decide +kernel
theorem d_Law_read_180 : decode m_Law_read.2.1 180 = .ok (.invokevirtual 71, 3) := by decide +kernel
theorem d_Law_read_183 : decode m_Law_read.2.1 183 = .ok (.aload_n 0, 1) := by decide +kernel
theorem d_Law_read_184 : decode m_Law_read.2.1 184 = .ok (.getfield 27, 3) := by decide +kernel
theorem d_Law_read_187 : decode m_Law_read.2.1 187 = .ok (.iload_n 2, 1) := by decide +kernel
theorem d_Law_read_188 : decode m_Law_read.2.1 188 = .ok (.aload_n 0, 1) := by decide +kernel
theorem d_Law_read_189 : decode m_Law_read.2.1 189 = .ok (.getfield 30, 3) := by decide +kernel
theorem d_Law_read_192 : decode m_Law_read.2.1 192 = .ok (.iastore, 1) := by decide +kernel
theorem d_Law_read_193 : decode m_Law_read.2.1 193 = .ok (.aload_n 0, 1) := by decide +kernel
theorem d_Law_read_194 : decode m_Law_read.2.1 194 = .ok (.iload_n 2, 1) := by decide +kernel
theorem d_Law_read_195 : decode m_Law_read.2.1 195 = .ok (.iconst 1, 1) := by decide +kernel
theorem d_Law_read_196 : decode m_Law_read.2.1 196 = .ok (.iadd, 1) := by decide +kernel
theorem d_Law_read_197 : decode m_Law_read.2.1 197 = .ok (.putfield 34, 3) := by decide +kernel
theorem d_Law_read_200 : decode m_Law_read.2.1 200 = .ok (.aload_n 0, 1) := by decide +kernel
theorem d_Law_read_201 : decode m_Law_read.2.1 201 = .ok (.getfield 37, 3) := by decide +kernel
theorem d_Law_read_204 : decode m_Law_read.2.1 204 = .ok (.invokevirtual 77, 3) := by decide +kernel
theorem d_Law_read_207 : decode m_Law_read.2.1 207 = .ok (.istore_n 1, 1) := by decide +kernel
theorem d_Law_read_208 : decode m_Law_read.2.1 208 = .ok (.iinc 2 1, 3) := by decide +kernel
theorem d_Law_read_211 : decode m_Law_read.2.1 211 = .ok (.goto (-190), 3) := by decide +kernel
theorem d_Law_read_214 : decode m_Law_read.2.1 214 = .ok (.aload_n 0, 1) := by decide +kernel
theorem d_Law_read_215 : decode m_Law_read.2.1 215 = .ok (.getfield 37, 3) := by decide +kernel
theorem d_Law_read_218 : decode m_Law_read.2.1 218 = .ok (.getfield 81, 3) := by decide +kernel
theorem d_Law_read_221 : decode m_Law_read.2.1 221 = .ok (.ireturn, 1) := by decide +kernel
def f_Law_read_200 (k_21 : St → Int32 → Int32 → Option (Int32 × St)) (S : St) (l2 : Int32) : Option (Int32 × St) :=
    (f_Reading_goesOn S).bind fun w_204 =>
    (some w_204.1).bind fun l1_207 =>
    (some (l2 + 1)).bind fun l2_208 =>
    k_21 w_204.2 l1_207 l2_208
set_option maxHeartbeats 4000000 in
set_option maxRecDepth 20000 in
theorem t_Law_read_200  {k_21 : St → Int32 → Int32 → Option (Int32 × St)} (hk_21 : ∀ (S : St) (l1 : Int32) (l2 : Int32) (w : Int32 × St), k_21 S l1 l2 = some w → G SX m_Law_read 141 (some w.1) w.2 21 [(0, .ref 32), (1, .int l1), (2, .int l2)] [] S) (S : St) (l2 : Int32) (w : Int32 × St) (h : f_Law_read_200 k_21 S l2 = some w) : G SX m_Law_read 141 (some w.1) w.2 200 [(0, .ref 32), (2, .int l2)] [] S := by
  unfold f_Law_read_200 at h
  refine G_aload_n 0 rfl d_Law_read_200 ?_
  refine G_getR fl_Law_37 kx_32 sx_32 rfl (by decide) d_Law_read_201 ?_
  obtain ⟨w_204, q_204, h⟩ := ob_b h
  refine G_callV [] [] (t_Reading_goesOn q_204) (by decide) (by decide) mv_Reading_goesOn rfl ml_Law_77 kx_3 sx_3 cl_4 rfl (Nat.le_of_ble_eq_true rfl) d_Law_read_204 ?_
  obtain ⟨l1_207, e_207, h⟩ := ob_s h
  refine G_istore_n [(1, .int l1_207), (0, .ref 32), (2, .int l2)] e_207 rfl (by decide) d_Law_read_207 ?_
  obtain ⟨l2_208, e_208, h⟩ := ob_s h
  refine G_iinc 1 2 [(2, .int l2_208), (1, .int l1_207), (0, .ref 32)] (by decide) rfl e_208 rfl (by decide) d_Law_read_208 ?_
  refine G_goto 21 (by decide) d_Law_read_211 ?_
  exact G_sub _ [2, 1, 0] rfl (hk_21 w_204.2 l1_207 l2_208 _ h)
def f_Law_read_150 (k_21 : St → Int32 → Int32 → Option (Int32 × St)) (S : St) (l2 : Int32) : Option (Int32 × St) :=
    if ig l2 16 then (
    (some (sF S 37 l2.toNatClampNeg (S 32 7))).bind fun S_159 =>
    (f_Reading_needs S_159 (40 : Int32)).bind fun w_166 =>
    (F_Law_readCondition w_166 (1 : Int32)).bind fun w_171 =>
    (f_Reading_needs w_171 (41 : Int32)).bind fun w_180 =>
    if ig l2 16 then (
    (some (sF w_180 38 l2.toNatClampNeg (w_180 32 7))).bind fun S_192 =>
    (some (sF S_192 32 8 (l2 + 1))).bind fun S_197 =>
    f_Law_read_200 k_21 S_197 l2) else none) else none
set_option maxHeartbeats 4000000 in
set_option maxRecDepth 20000 in
theorem t_Law_read_150  {k_21 : St → Int32 → Int32 → Option (Int32 × St)} (hk_21 : ∀ (S : St) (l1 : Int32) (l2 : Int32) (w : Int32 × St), k_21 S l1 l2 = some w → G SX m_Law_read 141 (some w.1) w.2 21 [(0, .ref 32), (1, .int l1), (2, .int l2)] [] S) (S : St) (l2 : Int32) (w : Int32 × St) (h : f_Law_read_150 k_21 S l2 = some w) : G SX m_Law_read 141 (some w.1) w.2 150 [(0, .ref 32), (2, .int l2)] [] S := by
  unfold f_Law_read_150 at h
  refine G_aload_n 0 rfl d_Law_read_150 ?_
  refine G_getR fl_Law_24 kx_32 sx_32 rfl (by decide) d_Law_read_151 ?_
  refine G_iload_n 1 rfl d_Law_read_154 ?_
  refine G_aload_n 0 rfl d_Law_read_155 ?_
  refine G_getI fl_Law_30 kx_32 sx_32 rfl d_Law_read_156 ?_
  obtain ⟨g_159, h⟩ := ob_g h
  obtain ⟨S_159, e_159, h⟩ := ob_s h
  refine G_iastore e_159 kx_37 sx_37 g_159 d_Law_read_159 ?_
  refine G_aload_n 0 rfl d_Law_read_160 ?_
  refine G_getR fl_Law_37 kx_32 sx_32 rfl (by decide) d_Law_read_161 ?_
  refine G_bipush 40 (by decide) d_Law_read_164 ?_
  obtain ⟨w_166, q_166, h⟩ := ob_b h
  refine G_callV [.int 40] [] (t_Reading_needs q_166) (by decide) (by decide) mv_Reading_needs rfl ml_Law_71 kx_3 sx_3 cl_4 rfl (Nat.le_of_ble_eq_true rfl) d_Law_read_166 ?_
  refine G_aload_n 0 rfl d_Law_read_169 ?_
  refine G_iconst 1 (by decide) d_Law_read_170 ?_
  obtain ⟨w_171, q_171, h⟩ := ob_b h
  refine G_callV [.int 1] [] (T_Law_readCondition q_171) (by decide) (by decide) mv_Law_readCondition rfl ml_Law_74 kx_32 sx_32 cl_1 rfl (Nat.le_of_ble_eq_true rfl) d_Law_read_171 ?_
  refine G_aload_n 0 rfl d_Law_read_174 ?_
  refine G_getR fl_Law_37 kx_32 sx_32 rfl (by decide) d_Law_read_175 ?_
  refine G_bipush 41 (by decide) d_Law_read_178 ?_
  obtain ⟨w_180, q_180, h⟩ := ob_b h
  refine G_callV [.int 41] [] (t_Reading_needs q_180) (by decide) (by decide) mv_Reading_needs rfl ml_Law_71 kx_3 sx_3 cl_4 rfl (Nat.le_of_ble_eq_true rfl) d_Law_read_180 ?_
  refine G_aload_n 0 rfl d_Law_read_183 ?_
  refine G_getR fl_Law_27 kx_32 sx_32 rfl (by decide) d_Law_read_184 ?_
  refine G_iload_n 1 rfl d_Law_read_187 ?_
  refine G_aload_n 0 rfl d_Law_read_188 ?_
  refine G_getI fl_Law_30 kx_32 sx_32 rfl d_Law_read_189 ?_
  obtain ⟨g_192, h⟩ := ob_g h
  obtain ⟨S_192, e_192, h⟩ := ob_s h
  refine G_iastore e_192 kx_38 sx_38 g_192 d_Law_read_192 ?_
  refine G_aload_n 0 rfl d_Law_read_193 ?_
  refine G_iload_n 1 rfl d_Law_read_194 ?_
  refine G_iconst 1 (by decide) d_Law_read_195 ?_
  refine G_iadd d_Law_read_196 ?_
  obtain ⟨S_197, e_197, h⟩ := ob_s h
  refine G_putI e_197 fp_Law_34 kx_32 sx_32 rfl d_Law_read_197 ?_
  exact G_sub _ [0, 1] rfl (t_Law_read_200 hk_21 S_197 l2 _ h)
def f_Law_read_75 (k_21 : St → Int32 → Int32 → Option (Int32 × St)) (S : St) (l2 : Int32) (l3 : Int32) : Option (Int32 × St) :=
    if l2 < 16 then (
    (some (sF S 3 1 ((S 3 1) + 1))).bind fun S_109 =>
    if ig l2 16 then (
    (some (sF S_109 35 l2.toNatClampNeg l3)).bind fun S_118 =>
    if ig l2 16 then (
    (some (sF S_118 36 l2.toNatClampNeg (S_118 32 7))).bind fun S_128 =>
    if l3 = 120 then (
    (f_Law_add S_128 (0 : Int32) (1 : Int32)).bind fun w_138 =>
    f_Law_read_150 k_21 w_138.2 l2)
    else (
    (F_Law_readValue S_128 (0 : Int32)).bind fun w_147 =>
    f_Law_read_150 k_21 w_147 l2)) else none) else none)
    else (
    (f_Reading_fail S (4 : Int32) (S 3 1)).bind fun w_93 =>
    f_Law_read_200 k_21 w_93 l2)
set_option maxHeartbeats 4000000 in
set_option maxRecDepth 20000 in
theorem t_Law_read_75  {k_21 : St → Int32 → Int32 → Option (Int32 × St)} (hk_21 : ∀ (S : St) (l1 : Int32) (l2 : Int32) (w : Int32 × St), k_21 S l1 l2 = some w → G SX m_Law_read 141 (some w.1) w.2 21 [(0, .ref 32), (1, .int l1), (2, .int l2)] [] S) (S : St) (l2 : Int32) (l3 : Int32) (w : Int32 × St) (h : f_Law_read_75 k_21 S l2 l3 = some w) : G SX m_Law_read 141 (some w.1) w.2 75 [(0, .ref 32), (2, .int l2), (3, .int l3)] [] S := by
  unfold f_Law_read_75 at h
  refine G_iload_n 1 rfl d_Law_read_75 ?_
  refine G_bipush 16 (by decide) d_Law_read_76 ?_
  refine G_icmp_lt 99 (by decide) d_Law_read_78 (fun c_78 => ?_) (fun c_78 => ?_)
  · replace h := ob_t h c_78
    refine G_aload_n 0 rfl d_Law_read_99 ?_
    refine G_getR fl_Law_37 kx_32 sx_32 rfl (by decide) d_Law_read_100 ?_
    refine G_dup rfl d_Law_read_103 ?_
    refine G_getI fl_Law_56 kx_3 sx_3 rfl d_Law_read_104 ?_
    refine G_iconst 1 (by decide) d_Law_read_107 ?_
    refine G_iadd d_Law_read_108 ?_
    obtain ⟨S_109, e_109, h⟩ := ob_s h
    refine G_putI e_109 fp_Law_56 kx_3 sx_3 rfl d_Law_read_109 ?_
    refine G_aload_n 0 rfl d_Law_read_112 ?_
    refine G_getR fl_Law_18 kx_32 sx_32 rfl (by decide) d_Law_read_113 ?_
    refine G_iload_n 1 rfl d_Law_read_116 ?_
    refine G_iload_n 2 rfl d_Law_read_117 ?_
    obtain ⟨g_118, h⟩ := ob_g h
    obtain ⟨S_118, e_118, h⟩ := ob_s h
    refine G_iastore e_118 kx_35 sx_35 g_118 d_Law_read_118 ?_
    refine G_aload_n 0 rfl d_Law_read_119 ?_
    refine G_getR fl_Law_21 kx_32 sx_32 rfl (by decide) d_Law_read_120 ?_
    refine G_iload_n 1 rfl d_Law_read_123 ?_
    refine G_aload_n 0 rfl d_Law_read_124 ?_
    refine G_getI fl_Law_30 kx_32 sx_32 rfl d_Law_read_125 ?_
    obtain ⟨g_128, h⟩ := ob_g h
    obtain ⟨S_128, e_128, h⟩ := ob_s h
    refine G_iastore e_128 kx_36 sx_36 g_128 d_Law_read_128 ?_
    refine G_iload_n 2 rfl d_Law_read_129 ?_
    refine G_bipush 120 (by decide) d_Law_read_130 ?_
    refine G_icmp_ne 145 (by decide) d_Law_read_132 (fun c_132 => ?_) (fun c_132 => ?_)
    · replace h := ob_f h c_132
      refine G_aload_n 0 rfl d_Law_read_145 ?_
      refine G_iconst 0 (by decide) d_Law_read_146 ?_
      obtain ⟨w_147, q_147, h⟩ := ob_b h
      refine G_callV [.int 0] [] (T_Law_readValue q_147) (by decide) (by decide) mv_Law_readValue rfl ml_Law_67 kx_32 sx_32 cl_1 rfl (Nat.le_of_ble_eq_true rfl) d_Law_read_147 ?_
      exact G_sub _ [0, 1] rfl (t_Law_read_150 hk_21 w_147 l2 _ h)
    · replace h := ob_t h c_132
      refine G_aload_n 0 rfl d_Law_read_135 ?_
      refine G_iconst 0 (by decide) d_Law_read_136 ?_
      refine G_iconst 1 (by decide) d_Law_read_137 ?_
      obtain ⟨w_138, q_138, h⟩ := ob_b h
      refine G_callV [.int 0, .int 1] [] (t_Law_add q_138) (by decide) (by decide) mv_Law_add rfl ml_Law_63 kx_32 sx_32 cl_1 rfl (Nat.le_of_ble_eq_true rfl) d_Law_read_138 ?_
      refine G_pop rfl d_Law_read_141 ?_
      refine G_goto 150 (by decide) d_Law_read_142 ?_
      exact G_sub _ [0, 1] rfl (t_Law_read_150 hk_21 w_138.2 l2 _ h)
  · replace h := ob_f h c_78
    refine G_aload_n 0 rfl d_Law_read_81 ?_
    refine G_getR fl_Law_37 kx_32 sx_32 rfl (by decide) d_Law_read_82 ?_
    refine G_iconst 4 (by decide) d_Law_read_85 ?_
    refine G_aload_n 0 rfl d_Law_read_86 ?_
    refine G_getR fl_Law_37 kx_32 sx_32 rfl (by decide) d_Law_read_87 ?_
    refine G_getI fl_Law_56 kx_3 sx_3 rfl d_Law_read_90 ?_
    obtain ⟨w_93, q_93, h⟩ := ob_b h
    refine G_callV [.int 4, .int (S 3 1)] [] (t_Reading_fail q_93) (by decide) (by decide) mv_Reading_fail rfl ml_Law_59 kx_3 sx_3 cl_4 rfl (Nat.le_of_ble_eq_true rfl) d_Law_read_93 ?_
    refine G_goto 200 (by decide) d_Law_read_96 ?_
    exact G_sub _ [0, 1] rfl (t_Law_read_200 hk_21 w_93 l2 _ h)
def f_Law_read_21 : Nat → St → Int32 → Int32 → Option (Int32 × St)
  | 0, _, _, _ => none
  | n + 1, S, l1, l2 =>
    if (16 : Int32) < l2 then (
    some ((S 3 2), S))
    else (
    if l1 = 0 then (
    some ((S 3 2), S))
    else (
    (f_Reading_sign S).bind fun v_35 =>
    if v_35 = 100 then (
    f_Law_read_75 (f_Law_read_21 n) S l2 v_35)
    else (
    if v_35 = 98 then (
    f_Law_read_75 (f_Law_read_21 n) S l2 v_35)
    else (
    if v_35 = 120 then (
    f_Law_read_75 (f_Law_read_21 n) S l2 v_35)
    else (
    (f_Reading_fail S (1 : Int32) (S 3 1)).bind fun w_69 =>
    f_Law_read_200 (f_Law_read_21 n) w_69 l2)))))
set_option maxHeartbeats 4000000 in
set_option maxRecDepth 20000 in
theorem t_Law_read_21  : ∀ (n : Nat) (S : St) (l1 : Int32) (l2 : Int32) (w : Int32 × St), f_Law_read_21 n S l1 l2 = some w → G SX m_Law_read 141 (some w.1) w.2 21 [(0, .ref 32), (1, .int l1), (2, .int l2)] [] S := by
  intro n
  induction n with
  | zero =>
    intro S l1 l2 w h
    rw [f_Law_read_21] at h
    cases h
  | succ n ih =>
    intro S l1 l2 w h
    rw [f_Law_read_21] at h
    refine G_iload_n 2 rfl d_Law_read_21 ?_
    refine G_bipush 16 (by decide) d_Law_read_22 ?_
    refine G_icmp_gt 214 (by decide) d_Law_read_24 (fun c_24 => ?_) (fun c_24 => ?_)
    · replace h := ob_t h c_24
      refine G_aload_n 0 rfl d_Law_read_214 ?_
      refine G_getR fl_Law_37 kx_32 sx_32 rfl (by decide) d_Law_read_215 ?_
      refine G_getI fl_Law_81 kx_3 sx_3 rfl d_Law_read_218 ?_
      cases h
      exact G_iret rfl d_Law_read_221
    · replace h := ob_f h c_24
      refine G_iload_n 1 rfl d_Law_read_27 ?_
      refine G_if_eq 214 (by decide) d_Law_read_28 (fun c_28 => ?_) (fun c_28 => ?_)
      · replace h := ob_t h c_28
        refine G_aload_n 0 rfl d_Law_read_214 ?_
        refine G_getR fl_Law_37 kx_32 sx_32 rfl (by decide) d_Law_read_215 ?_
        refine G_getI fl_Law_81 kx_3 sx_3 rfl d_Law_read_218 ?_
        cases h
        exact G_iret rfl d_Law_read_221
      · replace h := ob_f h c_28
        refine G_aload_n 0 rfl d_Law_read_31 ?_
        refine G_getR fl_Law_37 kx_32 sx_32 rfl (by decide) d_Law_read_32 ?_
        obtain ⟨v_35, q_35, h⟩ := ob_b h
        refine G_callV [] [] (t_Reading_sign q_35) (by decide) (by decide) mv_Reading_sign rfl ml_Law_52 kx_3 sx_3 cl_4 rfl (Nat.le_of_ble_eq_true rfl) d_Law_read_35 ?_
        refine G_istore_n [(3, .int v_35), (0, .ref 32), (1, .int l1), (2, .int l2)] rfl rfl (by decide) d_Law_read_38 ?_
        refine G_iload_n 0 rfl d_Law_read_39 ?_
        refine G_bipush 100 (by decide) d_Law_read_40 ?_
        refine G_icmp_eq 75 (by decide) d_Law_read_42 (fun c_42 => ?_) (fun c_42 => ?_)
        · replace h := ob_t h c_42
          exact G_sub _ [1, 3, 0] rfl (t_Law_read_75 ih S l2 v_35 _ h)
        · replace h := ob_f h c_42
          refine G_iload_n 0 rfl d_Law_read_45 ?_
          refine G_bipush 98 (by decide) d_Law_read_46 ?_
          refine G_icmp_eq 75 (by decide) d_Law_read_48 (fun c_48 => ?_) (fun c_48 => ?_)
          · replace h := ob_t h c_48
            exact G_sub _ [1, 3, 0] rfl (t_Law_read_75 ih S l2 v_35 _ h)
          · replace h := ob_f h c_48
            refine G_iload_n 0 rfl d_Law_read_51 ?_
            refine G_bipush 120 (by decide) d_Law_read_52 ?_
            refine G_icmp_eq 75 (by decide) d_Law_read_54 (fun c_54 => ?_) (fun c_54 => ?_)
            · replace h := ob_t h c_54
              exact G_sub _ [1, 3, 0] rfl (t_Law_read_75 ih S l2 v_35 _ h)
            · replace h := ob_f h c_54
              refine G_aload_n 1 rfl d_Law_read_57 ?_
              refine G_getR fl_Law_37 kx_32 sx_32 rfl (by decide) d_Law_read_58 ?_
              refine G_iconst 1 (by decide) d_Law_read_61 ?_
              refine G_aload_n 1 rfl d_Law_read_62 ?_
              refine G_getR fl_Law_37 kx_32 sx_32 rfl (by decide) d_Law_read_63 ?_
              refine G_getI fl_Law_56 kx_3 sx_3 rfl d_Law_read_66 ?_
              obtain ⟨w_69, q_69, h⟩ := ob_b h
              refine G_callV [.int 1, .int (S 3 1)] [] (t_Reading_fail q_69) (by decide) (by decide) mv_Reading_fail rfl ml_Law_59 kx_3 sx_3 cl_4 rfl (Nat.le_of_ble_eq_true rfl) d_Law_read_69 ?_
              refine G_goto 200 (by decide) d_Law_read_72 ?_
              exact G_sub _ [1, 3] rfl (t_Law_read_200 ih w_69 l2 _ h)
def f_Law_read (S : St) : Option (Int32 × St) :=
    (f_Reading_begin S).bind fun w_4 =>
    (some (sF w_4 32 7 0)).bind fun S_9 =>
    (some (sF S_9 32 8 0)).bind fun S_14 =>
    (some (1 : Int32)).bind fun l1_18 =>
    (some (0 : Int32)).bind fun l2_20 =>
    f_Law_read_21 FU S_14 l1_18 l2_20
set_option maxHeartbeats 4000000 in
set_option maxRecDepth 20000 in
theorem t_Law_read  {S : St} {w : Int32 × St} (h : f_Law_read S = some w) : Ct SX m_Law_read 141 [.ref 32] S (some w.1) w.2 := by
  unfold f_Law_read at h
  refine Ct.of pn_Law (Nat.le_of_ble_eq_true rfl) ?_
  show G SX m_Law_read 141 (some w.1) w.2 0 [(0, .ref 32)] [] S
  refine G_aload_n 0 rfl d_Law_read_0 ?_
  refine G_getR fl_Law_37 kx_32 sx_32 rfl (by decide) d_Law_read_1 ?_
  obtain ⟨w_4, q_4, h⟩ := ob_b h
  refine G_callV [] [] (t_Reading_begin q_4) (by decide) (by decide) mv_Reading_begin rfl ml_Law_47 kx_3 sx_3 cl_4 rfl (Nat.le_of_ble_eq_true rfl) d_Law_read_4 ?_
  refine G_aload_n 0 rfl d_Law_read_7 ?_
  refine G_iconst 0 (by decide) d_Law_read_8 ?_
  obtain ⟨S_9, e_9, h⟩ := ob_s h
  refine G_putI e_9 fp_Law_30 kx_32 sx_32 rfl d_Law_read_9 ?_
  refine G_aload_n 0 rfl d_Law_read_12 ?_
  refine G_iconst 0 (by decide) d_Law_read_13 ?_
  obtain ⟨S_14, e_14, h⟩ := ob_s h
  refine G_putI e_14 fp_Law_34 kx_32 sx_32 rfl d_Law_read_14 ?_
  refine G_iconst 1 (by decide) d_Law_read_17 ?_
  obtain ⟨l1_18, e_18, h⟩ := ob_s h
  refine G_istore_n [(1, .int l1_18), (0, .ref 32)] e_18 rfl (by decide) d_Law_read_18 ?_
  refine G_iconst 0 (by decide) d_Law_read_19 ?_
  obtain ⟨l2_20, e_20, h⟩ := ob_s h
  refine G_istore_n [(2, .int l2_20), (1, .int l1_18), (0, .ref 32)] e_20 rfl (by decide) d_Law_read_20 ?_
  exact G_sub _ [2, 1, 0] rfl (t_Law_read_21 FU S_14 l1_18 l2_20 _ h)
