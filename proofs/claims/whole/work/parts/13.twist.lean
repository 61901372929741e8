theorem d_Twist_ends_0 : decode m_Twist_ends.2.1 0 = .ok (.aload_n 0, 1) := by decide +kernel
theorem d_Twist_ends_1 : decode m_Twist_ends.2.1 1 = .ok (.getfield 37, 3) := by decide +kernel
theorem d_Twist_ends_4 : decode m_Twist_ends.2.1 4 = .ok (.invokevirtual 81, 3) := by decide +kernel
theorem d_Twist_ends_7 : decode m_Twist_ends.2.1 7 = .ok (.ifCond .ne 14, 3) := by decide +kernel
theorem d_Twist_ends_10 : decode m_Twist_ends.2.1 10 = .ok (.aload_n 0, 1) := by decide +kernel
theorem d_Twist_ends_11 : decode m_Twist_ends.2.1 11 = .ok (.getfield 37, 3) := by decide +kernel
theorem d_Twist_ends_14 : decode m_Twist_ends.2.1 14 = .ok (.invokevirtual 57, 3) := by decide +kernel
theorem d_Twist_ends_17 : decode m_Twist_ends.2.1 17 = .ok (.iconst (-1), 1) := by decide +kernel
theorem d_Twist_ends_18 : decode m_Twist_ends.2.1 18 = .ok (.if_icmp .ne 7, 3) := by decide +kernel
theorem d_Twist_ends_21 : decode m_Twist_ends.2.1 21 = .ok (.iconst 1, 1) := by decide +kernel
theorem d_Twist_ends_22 : decode m_Twist_ends.2.1 22 = .ok (.goto 4, 3) := by decide +kernel
theorem d_Twist_ends_25 : decode m_Twist_ends.2.1 25 = .ok (.iconst 0, 1) := by decide +kernel
theorem d_Twist_ends_26 : decode m_Twist_ends.2.1 26 = .ok (.ireturn, 1) := by decide +kernel
def f_Twist_ends (S : St) : Option (Int32) :=
    (f_Reading_failed S).bind fun v_4 =>
    if v_4 = 0 then (
    (f_Reading_sign S).bind fun v_14 =>
    if v_14 = (-1) then (
    some (1 : Int32))
    else (
    some (0 : Int32)))
    else (
    some (1 : Int32))
set_option maxHeartbeats 4000000 in
set_option maxRecDepth 20000 in
theorem t_Twist_ends  {S : St} {w : Int32} (h : f_Twist_ends S = some w) : Ct SX m_Twist_ends 3 [.ref 42] S (some w) S := by
  unfold f_Twist_ends at h
  refine Ct.of pn_Twist (Nat.le_of_ble_eq_true rfl) ?_
  show G SX m_Twist_ends 3 (some w) S 0 [(0, .ref 42)] [] S
  refine G_aload_n 0 rfl d_Twist_ends_0 ?_
  refine G_getR fl_Twist_37 kx_42 sx_42 rfl (by decide) d_Twist_ends_1 ?_
  obtain ⟨v_4, q_4, h⟩ := ob_b h
  refine G_callV [] [] (t_Reading_failed q_4) (by decide) (by decide) mv_Reading_failed rfl ml_Twist_81 kx_3 sx_3 cl_4 rfl (Nat.le_of_ble_eq_true rfl) d_Twist_ends_4 ?_
  refine G_if_ne 21 (by decide) d_Twist_ends_7 (fun c_7 => ?_) (fun c_7 => ?_)
  · replace h := ob_f h c_7
    refine G_iconst 1 (by decide) d_Twist_ends_21 ?_
    refine G_goto 26 (by decide) d_Twist_ends_22 ?_
    cases h
    exact G_zret (Or.inr rfl) rfl d_Twist_ends_26
  · replace h := ob_t h c_7
    refine G_aload_n 0 rfl d_Twist_ends_10 ?_
    refine G_getR fl_Twist_37 kx_42 sx_42 rfl (by decide) d_Twist_ends_11 ?_
    obtain ⟨v_14, q_14, h⟩ := ob_b h
    refine G_callV [] [] (t_Reading_sign q_14) (by decide) (by decide) mv_Reading_sign rfl ml_Twist_57 kx_3 sx_3 cl_4 rfl (Nat.le_of_ble_eq_true rfl) d_Twist_ends_14 ?_
    refine G_iconst (-1) (by decide) d_Twist_ends_17 ?_
    refine G_icmp_ne 25 (by decide) d_Twist_ends_18 (fun c_18 => ?_) (fun c_18 => ?_)
    · replace h := ob_f h c_18
      refine G_iconst 0 (by decide) d_Twist_ends_25 ?_
      cases h
      exact G_zret (Or.inl rfl) rfl d_Twist_ends_26
    · replace h := ob_t h c_18
      refine G_iconst 1 (by decide) d_Twist_ends_21 ?_
      refine G_goto 26 (by decide) d_Twist_ends_22 ?_
      cases h
      exact G_zret (Or.inr rfl) rfl d_Twist_ends_26
theorem d_Twist_readTimes_0 : decode m_Twist_readTimes.2.1 0 = .ok (.aload_n 0, 1) := by decide +kernel
theorem d_Twist_readTimes_1 : decode m_Twist_readTimes.2.1 1 = .ok (.getfield 37, 3) := by decide +kernel
theorem d_Twist_readTimes_4 : decode m_Twist_readTimes.2.1 4 = .ok (.invokevirtual 57, 3) := by decide +kernel
theorem d_Twist_readTimes_7 : decode m_Twist_readTimes.2.1 7 = .ok (.istore_n 1, 1) := by decide +kernel
theorem d_Twist_readTimes_8 : decode m_Twist_readTimes.2.1 8 = .ok (.iload_n 1, 1) := by decide +kernel
theorem d_Twist_readTimes_9 : decode m_Twist_readTimes.2.1 9 = .ok (.bipush 50, 2) := by decide +kernel
theorem d_Twist_readTimes_11 : decode m_Twist_readTimes.2.1 11 = .ok (.if_icmp .lt 9, 3) := by decide +kernel
theorem d_Twist_readTimes_14 : decode m_Twist_readTimes.2.1 14 = .ok (.iload_n 1, 1) := by decide +kernel
theorem d_Twist_readTimes_15 : decode m_Twist_readTimes.2.1 15 = .ok (.bipush 57, 2) := by decide +kernel
theorem d_Twist_readTimes_17 : decode m_Twist_readTimes.2.1 17 = .ok (.if_icmp .le 5, 3) := by decide +kernel
theorem d_Twist_readTimes_20 : decode m_Twist_readTimes.2.1 20 = .ok (.iconst 1, 1) := by decide +kernel
theorem d_Twist_readTimes_21 : decode m_Twist_readTimes.2.1 21 = .ok (.ireturn, 1) := by decide +kernel
theorem d_Twist_readTimes_22 : decode m_Twist_readTimes.2.1 22 = .ok (.aload_n 0, 1) := by decide +kernel
theorem d_Twist_readTimes_23 : decode m_Twist_readTimes.2.1 23 = .ok (.getfield 37, 3) := by decide +kernel
theorem d_Twist_readTimes_26 : decode m_Twist_readTimes.2.1 26 = .ok (.dup, 1) := by decide +kernel
theorem d_Twist_readTimes_27 : decode m_Twist_readTimes.2.1 27 = .ok (.getfield 50, 3) := by decide +kernel
theorem d_Twist_readTimes_30 : decode m_Twist_readTimes.2.1 30 = .ok (.iconst 1, 1) := by decide +kernel
theorem d_Twist_readTimes_31 : decode m_Twist_readTimes.2.1 31 = .ok (.iadd, 1) := by decide +kernel
theorem d_Twist_readTimes_32 : decode m_Twist_readTimes.2.1 32 = .ok (.putfield 50, 3) := by decide +kernel
theorem d_Twist_readTimes_35 : decode m_Twist_readTimes.2.1 35 = .ok (.iload_n 1, 1) := by decide +kernel
theorem d_Twist_readTimes_36 : decode m_Twist_readTimes.2.1 36 = .ok (.bipush 48, 2) := by decide +kernel
theorem d_Twist_readTimes_38 : decode m_Twist_readTimes.2.1 38 = .ok (.isub, 1) := by decide +kernel
theorem d_Twist_readTimes_39 : decode m_Twist_readTimes.2.1 39 = .ok (.ireturn, 1) := by decide +kernel
def f_Twist_readTimes (S : St) : Option (Int32 × St) :=
    (f_Reading_sign S).bind fun v_4 =>
    if v_4 < 50 then (
    some (1, S))
    else (
    if v_4 ≤ 57 then (
    (some (sF S 3 1 ((S 3 1) + 1))).bind fun S_32 =>
    some ((v_4 - 48), S_32))
    else (
    some (1, S)))
set_option maxHeartbeats 4000000 in
set_option maxRecDepth 20000 in
theorem t_Twist_readTimes  {S : St} {w : Int32 × St} (h : f_Twist_readTimes S = some w) : Ct SX m_Twist_readTimes 3 [.ref 42] S (some w.1) w.2 := by
  unfold f_Twist_readTimes at h
  refine Ct.of pn_Twist (Nat.le_of_ble_eq_true rfl) ?_
  show G SX m_Twist_readTimes 3 (some w.1) w.2 0 [(0, .ref 42)] [] S
  refine G_aload_n 0 rfl d_Twist_readTimes_0 ?_
  refine G_getR fl_Twist_37 kx_42 sx_42 rfl (by decide) d_Twist_readTimes_1 ?_
  obtain ⟨v_4, q_4, h⟩ := ob_b h
  refine G_callV [] [] (t_Reading_sign q_4) (by decide) (by decide) mv_Reading_sign rfl ml_Twist_57 kx_3 sx_3 cl_4 rfl (Nat.le_of_ble_eq_true rfl) d_Twist_readTimes_4 ?_
  refine G_istore_n [(1, .int v_4), (0, .ref 42)] rfl rfl (by decide) d_Twist_readTimes_7 ?_
  refine G_iload_n 0 rfl d_Twist_readTimes_8 ?_
  refine G_bipush 50 (by decide) d_Twist_readTimes_9 ?_
  refine G_icmp_lt 20 (by decide) d_Twist_readTimes_11 (fun c_11 => ?_) (fun c_11 => ?_)
  · replace h := ob_t h c_11
    refine G_iconst 1 (by decide) d_Twist_readTimes_20 ?_
    cases h
    exact G_iret rfl d_Twist_readTimes_21
  · replace h := ob_f h c_11
    refine G_iload_n 0 rfl d_Twist_readTimes_14 ?_
    refine G_bipush 57 (by decide) d_Twist_readTimes_15 ?_
    refine G_icmp_le 22 (by decide) d_Twist_readTimes_17 (fun c_17 => ?_) (fun c_17 => ?_)
    · replace h := ob_t h c_17
      refine G_aload_n 1 rfl d_Twist_readTimes_22 ?_
      refine G_getR fl_Twist_37 kx_42 sx_42 rfl (by decide) d_Twist_readTimes_23 ?_
      refine G_dup rfl d_Twist_readTimes_26 ?_
      refine G_getI fl_Twist_50 kx_3 sx_3 rfl d_Twist_readTimes_27 ?_
      refine G_iconst 1 (by decide) d_Twist_readTimes_30 ?_
      refine G_iadd d_Twist_readTimes_31 ?_
      obtain ⟨S_32, e_32, h⟩ := ob_s h
      refine G_putI e_32 fp_Twist_50 kx_3 sx_3 rfl d_Twist_readTimes_32 ?_
      refine G_iload_n 0 rfl d_Twist_readTimes_35 ?_
      refine G_bipush 48 (by decide) d_Twist_readTimes_36 ?_
      refine G_isub d_Twist_readTimes_38 ?_
      cases h
      exact G_iret rfl d_Twist_readTimes_39
    · replace h := ob_f h c_17
      refine G_iconst 1 (by decide) d_Twist_readTimes_20 ?_
      cases h
      exact G_iret rfl d_Twist_readTimes_21
theorem d_Twist_readTurn_0 : decode m_Twist_readTurn.2.1 0 = .ok (.iload_n 1, 1) := by decide +kernel
theorem d_Twist_readTurn_1 : decode m_Twist_readTurn.2.1 1 = .ok (.iload_n 3, 1) := by decide +kernel
theorem d_Twist_readTurn_2 : decode m_Twist_readTurn.2.1 2 = .ok (.iconst 2, 1) := by decide +kernel
theorem d_Twist_readTurn_3 : decode m_Twist_readTurn.2.1 3 = .ok (.isub, 1) := by decide +kernel
theorem d_Twist_readTurn_4 : decode m_Twist_readTurn.2.1 4 = .ok (.if_icmp .le 19, 3) := by decide +kernel
theorem d_Twist_readTurn_7 : decode m_Twist_readTurn.2.1 7 = .ok (.aload_n 0, 1) := by decide +kernel
theorem d_Twist_readTurn_8 : decode m_Twist_readTurn.2.1 8 = .ok (.getfield 37, 3) := by decide +kernel
theorem d_Twist_readTurn_11 : decode m_Twist_readTurn.2.1 11 = .ok (.iconst 3, 1) := by decide +kernel
theorem d_Twist_readTurn_12 : decode m_Twist_readTurn.2.1 12 = .ok (.aload_n 0, 1) := by decide +kernel
theorem d_Twist_readTurn_13 : decode m_Twist_readTurn.2.1 13 = .ok (.getfield 37, 3) := by decide +kernel
theorem d_Twist_readTurn_16 : decode m_Twist_readTurn.2.1 16 = .ok (.getfield 50, 3) := by decide +kernel
theorem d_Twist_readTurn_19 : decode m_Twist_readTurn.2.1 19 = .ok (.invokevirtual 75, 3) := by decide +kernel
theorem d_Twist_readTurn_22 : decode m_Twist_readTurn.2.1 22 = .ok (.return_, 1) := by decide +kernel
theorem d_Twist_readTurn_23 : decode m_Twist_readTurn.2.1 23 = .ok (.aload_n 0, 1) := by decide +kernel
theorem d_Twist_readTurn_24 : decode m_Twist_readTurn.2.1 24 = .ok (.getfield 37, 3) := by decide +kernel
theorem d_Twist_readTurn_27 : decode m_Twist_readTurn.2.1 27 = .ok (.dup, 1) := by decide +kernel
theorem d_Twist_readTurn_28 : decode m_Twist_readTurn.2.1 28 = .ok (.getfield 50, 3) := by decide +kernel
theorem d_Twist_readTurn_31 : decode m_Twist_readTurn.2.1 31 = .ok (.iconst 1, 1) := by decide +kernel
theorem d_Twist_readTurn_32 : decode m_Twist_readTurn.2.1 32 = .ok (.iadd, 1) := by decide +kernel
theorem d_Twist_readTurn_33 : decode m_Twist_readTurn.2.1 33 = .ok (.putfield 50, 3) := by decide +kernel
theorem d_Twist_readTurn_36 : decode m_Twist_readTurn.2.1 36 = .ok (.aload_n 0, 1) := by decide +kernel
theorem d_Twist_readTurn_37 : decode m_Twist_readTurn.2.1 37 = .ok (.getfield 34, 3) := by decide +kernel
theorem d_Twist_readTurn_40 : decode m_Twist_readTurn.2.1 40 = .ok (.bipush 64, 2) := by decide +kernel
theorem d_Twist_readTurn_42 : decode m_Twist_readTurn.2.1 42 = .ok (.if_icmp .ge 26, 3) := by decide +kernel
theorem d_Twist_readTurn_45 : decode m_Twist_readTurn.2.1 45 = .ok (.aload_n 0, 1) := by decide +kernel
theorem d_Twist_readTurn_46 : decode m_Twist_readTurn.2.1 46 = .ok (.getfield 11, 3) := by decide +kernel
theorem d_Twist_readTurn_49 : decode m_Twist_readTurn.2.1 49 = .ok (.aload_n 0, 1) := by decide +kernel
theorem d_Twist_readTurn_50 : decode m_Twist_readTurn.2.1 50 = .ok (.getfield 34, 3) := by decide +kernel
theorem d_Twist_readTurn_53 : decode m_Twist_readTurn.2.1 53 = .ok (.iload_n 2, 1) := by decide +kernel
theorem d_Twist_readTurn_54 : decode m_Twist_readTurn.2.1 54 = .ok (.ifCond .eq 9, 3) := by decide +kernel
theorem d_Twist_readTurn_57 : decode m_Twist_readTurn.2.1 57 = .ok (.iload_n 1, 1) := by decide +kernel
theorem d_Twist_readTurn_58 : decode m_Twist_readTurn.2.1 58 = .ok (.iconst 1, 1) := by decide +kernel
theorem d_Twist_readTurn_59 : decode m_Twist_readTurn.2.1 59 = .ok (.iadd, 1) := by decide +kernel
theorem d_Twist_readTurn_60 : decode m_Twist_readTurn.2.1 60 = .ok (.goto 7, 3) := by decide +kernel
theorem d_Twist_readTurn_63 : decode m_Twist_readTurn.2.1 63 = .ok (.iload_n 1, 1) := by decide +kernel
theorem d_Twist_readTurn_64 : decode m_Twist_readTurn.2.1 64 = .ok (.ineg, 1) := by decide +kernel
theorem d_Twist_readTurn_65 : decode m_Twist_readTurn.2.1 65 = .ok (.iconst 1, 1) := by decide +kernel
theorem d_Twist_readTurn_66 : decode m_Twist_readTurn.2.1 66 = .ok (.isub, 1) := by decide +kernel
theorem d_Twist_readTurn_67 : decode m_Twist_readTurn.2.1 67 = .ok (.iastore, 1) := by decide +kernel
theorem d_Twist_readTurn_68 : decode m_Twist_readTurn.2.1 68 = .ok (.aload_n 0, 1) := by decide +kernel
theorem d_Twist_readTurn_69 : decode m_Twist_readTurn.2.1 69 = .ok (.dup, 1) := by decide +kernel
theorem d_Twist_readTurn_70 : decode m_Twist_readTurn.2.1 70 = .ok (.getfield 34, 3) := by decide +kernel
theorem d_Twist_readTurn_73 : decode m_Twist_readTurn.2.1 73 = .ok (.iconst 1, 1) := by decide +kernel
theorem d_Twist_readTurn_74 : decode m_Twist_readTurn.2.1 74 = .ok (.iadd, 1) := by decide +kernel
theorem d_Twist_readTurn_75 : decode m_Twist_readTurn.2.1 75 = .ok (.putfield 34, 3) := by decide +kernel
theorem d_Twist_readTurn_78 : decode m_Twist_readTurn.2.1 78 = .ok (.return_, 1) := by decide +kernel
def f_Twist_readTurn_68 (S : St) : Option (St) :=
    (some (sF S 42 8 ((S 42 8) + 1))).bind fun S_75 =>
    some S_75
set_option maxHeartbeats 4000000 in
set_option maxRecDepth 20000 in
theorem t_Twist_readTurn_68  (S : St) (w : St) (h : f_Twist_readTurn_68 S = some w) : G SX m_Twist_readTurn 2 none w 68 [(0, .ref 42)] [] S := by
  unfold f_Twist_readTurn_68 at h
  refine G_aload_n 0 rfl d_Twist_readTurn_68 ?_
  refine G_dup rfl d_Twist_readTurn_69 ?_
  refine G_getI fl_Twist_34 kx_42 sx_42 rfl d_Twist_readTurn_70 ?_
  refine G_iconst 1 (by decide) d_Twist_readTurn_73 ?_
  refine G_iadd d_Twist_readTurn_74 ?_
  obtain ⟨S_75, e_75, h⟩ := ob_s h
  refine G_putI e_75 fp_Twist_34 kx_42 sx_42 rfl d_Twist_readTurn_75 ?_
  cases h
  exact G_vret rfl d_Twist_readTurn_78
def f_Twist_readTurn_67 (S : St) (s0 : Int32) (s1 : Int32) : Option (St) :=
    if ig s1 64 then (
    (some (sF S 43 s1.toNatClampNeg s0)).bind fun S_67 =>
    f_Twist_readTurn_68 S_67) else none
set_option maxHeartbeats 4000000 in
set_option maxRecDepth 20000 in
theorem t_Twist_readTurn_67  (S : St) (s0 : Int32) (s1 : Int32) (w : St) (h : f_Twist_readTurn_67 S s0 s1 = some w) : G SX m_Twist_readTurn 2 none w 67 [(0, .ref 42)] [.int s0, .int s1, .ref 43] S := by
  unfold f_Twist_readTurn_67 at h
  obtain ⟨g_67, h⟩ := ob_g h
  obtain ⟨S_67, e_67, h⟩ := ob_s h
  refine G_iastore e_67 kx_43 sx_43 g_67 d_Twist_readTurn_67 ?_
  exact G_sub _ [0] rfl (t_Twist_readTurn_68 S_67 _ h)
def f_Twist_readTurn (S : St) (l1 : Int32) (l2 : Int32) (l3 : Int32) : Option (St) :=
    if l1 ≤ (l3 - 2) then (
    (some (sF S 3 1 ((S 3 1) + 1))).bind fun S_33 =>
    if (64 : Int32) ≤ (S_33 42 8) then (
    f_Twist_readTurn_68 S_33)
    else (
    if l2 = 0 then (
    f_Twist_readTurn_67 S_33 ((-l1) - 1) (S_33 42 8))
    else (
    f_Twist_readTurn_67 S_33 (l1 + 1) (S_33 42 8))))
    else (
    (f_Reading_fail S (3 : Int32) (S 3 1)).bind fun w_19 =>
    some w_19)
set_option maxHeartbeats 4000000 in
set_option maxRecDepth 20000 in
theorem t_Twist_readTurn  {S : St} {l1 : Int32} {l2 : Int32} {l3 : Int32} {w : St} (h : f_Twist_readTurn S l1 l2 l3 = some w) : Ct SX m_Twist_readTurn 2 [.ref 42, .int l1, .int l2, .int l3] S none w := by
  unfold f_Twist_readTurn at h
  refine Ct.of pn_Twist (Nat.le_of_ble_eq_true rfl) ?_
  show G SX m_Twist_readTurn 2 none w 0 [(0, .ref 42), (1, .int l1), (2, .int l2), (3, .int l3)] [] S
  refine G_iload_n 1 rfl d_Twist_readTurn_0 ?_
  refine G_iload_n 3 rfl d_Twist_readTurn_1 ?_
  refine G_iconst 2 (by decide) d_Twist_readTurn_2 ?_
  refine G_isub d_Twist_readTurn_3 ?_
  refine G_icmp_le 23 (by decide) d_Twist_readTurn_4 (fun c_4 => ?_) (fun c_4 => ?_)
  · replace h := ob_t h c_4
    refine G_aload_n 0 rfl d_Twist_readTurn_23 ?_
    refine G_getR fl_Twist_37 kx_42 sx_42 rfl (by decide) d_Twist_readTurn_24 ?_
    refine G_dup rfl d_Twist_readTurn_27 ?_
    refine G_getI fl_Twist_50 kx_3 sx_3 rfl d_Twist_readTurn_28 ?_
    refine G_iconst 1 (by decide) d_Twist_readTurn_31 ?_
    refine G_iadd d_Twist_readTurn_32 ?_
    obtain ⟨S_33, e_33, h⟩ := ob_s h
    refine G_putI e_33 fp_Twist_50 kx_3 sx_3 rfl d_Twist_readTurn_33 ?_
    refine G_aload_n 0 rfl d_Twist_readTurn_36 ?_
    refine G_getI fl_Twist_34 kx_42 sx_42 rfl d_Twist_readTurn_37 ?_
    refine G_bipush 64 (by decide) d_Twist_readTurn_40 ?_
    refine G_icmp_ge 68 (by decide) d_Twist_readTurn_42 (fun c_42 => ?_) (fun c_42 => ?_)
    · replace h := ob_t h c_42
      exact G_sub _ [0] rfl (t_Twist_readTurn_68 S_33 _ h)
    · replace h := ob_f h c_42
      refine G_aload_n 0 rfl d_Twist_readTurn_45 ?_
      refine G_getR fl_Twist_11 kx_42 sx_42 rfl (by decide) d_Twist_readTurn_46 ?_
      refine G_aload_n 0 rfl d_Twist_readTurn_49 ?_
      refine G_getI fl_Twist_34 kx_42 sx_42 rfl d_Twist_readTurn_50 ?_
      refine G_iload_n 2 rfl d_Twist_readTurn_53 ?_
      refine G_if_eq 63 (by decide) d_Twist_readTurn_54 (fun c_54 => ?_) (fun c_54 => ?_)
      · replace h := ob_t h c_54
        refine G_iload_n 1 rfl d_Twist_readTurn_63 ?_
        refine G_ineg d_Twist_readTurn_64 ?_
        refine G_iconst 1 (by decide) d_Twist_readTurn_65 ?_
        refine G_isub d_Twist_readTurn_66 ?_
        exact G_sub _ [0] rfl (t_Twist_readTurn_67 S_33 ((-l1) - 1) (S_33 42 8) _ h)
      · replace h := ob_f h c_54
        refine G_iload_n 1 rfl d_Twist_readTurn_57 ?_
        refine G_iconst 1 (by decide) d_Twist_readTurn_58 ?_
        refine G_iadd d_Twist_readTurn_59 ?_
        refine G_goto 67 (by decide) d_Twist_readTurn_60 ?_
        exact G_sub _ [0] rfl (t_Twist_readTurn_67 S_33 (l1 + 1) (S_33 42 8) _ h)
  · replace h := ob_f h c_4
    refine G_aload_n 0 rfl d_Twist_readTurn_7 ?_
    refine G_getR fl_Twist_37 kx_42 sx_42 rfl (by decide) d_Twist_readTurn_8 ?_
    refine G_iconst 3 (by decide) d_Twist_readTurn_11 ?_
    refine G_aload_n 0 rfl d_Twist_readTurn_12 ?_
    refine G_getR fl_Twist_37 kx_42 sx_42 rfl (by decide) d_Twist_readTurn_13 ?_
    refine G_getI fl_Twist_50 kx_3 sx_3 rfl d_Twist_readTurn_16 ?_
    obtain ⟨w_19, q_19, h⟩ := ob_b h
    refine G_callV [.int 3, .int (S 3 1)] [] (t_Reading_fail q_19) (by decide) (by decide) mv_Reading_fail rfl ml_Twist_75 kx_3 sx_3 cl_4 rfl (Nat.le_of_ble_eq_true rfl) d_Twist_readTurn_19 ?_
    cases h
    exact G_vret rfl d_Twist_readTurn_22
theorem d_Twist_repeat_0 : decode m_Twist_repeat.2.1 0 = .ok (.aload_n 0, 1) := by decide +kernel
theorem d_Twist_repeat_1 : decode m_Twist_repeat.2.1 1 = .ok (.getfield 37, 3) := by decide +kernel
theorem d_Twist_repeat_4 : decode m_Twist_repeat.2.1 4 = .ok (.invokevirtual 81, 3) := by decide +kernel
theorem d_Twist_repeat_7 : decode m_Twist_repeat.2.1 7 = .ok (.ifCond .eq 4, 3) := by decide +kernel
theorem d_Twist_repeat_10 : decode m_Twist_repeat.2.1 10 = .ok (.return_, 1) := by decide +kernel
theorem d_Twist_repeat_11 : decode m_Twist_repeat.2.1 11 = .ok (.aload_n 0, 1) := by decide +kernel
theorem d_Twist_repeat_12 : decode m_Twist_repeat.2.1 12 = .ok (.getfield 34, 3) := by decide +kernel
theorem d_Twist_repeat_15 : decode m_Twist_repeat.2.1 15 = .ok (.iload_n 1, 1) := by decide +kernel
theorem d_Twist_repeat_16 : decode m_Twist_repeat.2.1 16 = .ok (.isub, 1) := by decide +kernel
theorem d_Twist_repeat_17 : decode m_Twist_repeat.2.1 17 = .ok (.istore 4, 2) := by decide +kernel
theorem d_Twist_repeat_19 : decode m_Twist_repeat.2.1 19 = .ok (.iload_n 1, 1) := by decide +kernel
theorem d_Twist_repeat_20 : decode m_Twist_repeat.2.1 20 = .ok (.iload 4, 2) := by decide +kernel
theorem d_Twist_repeat_22 : decode m_Twist_repeat.2.1 22 = .ok (.iload_n 2, 1) := by decide +kernel
theorem d_Twist_repeat_23 : decode m_Twist_repeat.2.1 23 = .ok (.imul, 1) := by decide +kernel
theorem d_Twist_repeat_24 : decode m_Twist_repeat.2.1 24 = .ok (.iadd, 1) := by decide +kernel
theorem d_Twist_repeat_25 : decode m_Twist_repeat.2.1 25 = .ok (.istore 5, 2) := by decide +kernel
theorem d_Twist_repeat_27 : decode m_Twist_repeat.2.1 27 = .ok (.iload 5, 2) := by decide +kernel
theorem d_Twist_repeat_29 : decode m_Twist_repeat.2.1 29 = .ok (.bipush 64, 2) := by decide +kernel
theorem d_Twist_repeat_31 : decode m_Twist_repeat.2.1 31 = .ok (.if_icmp .le 14, 3) := by decide +kernel
theorem d_Twist_repeat_34 : decode m_Twist_repeat.2.1 34 = .ok (.aload_n 0, 1) := by decide +kernel
theorem d_Twist_repeat_35 : decode m_Twist_repeat.2.1 35 = .ok (.getfield 37, 3) := by decide +kernel
theorem d_Twist_repeat_38 : decode m_Twist_repeat.2.1 38 = .ok (.bipush 6, 2) := by decide +kernel
theorem d_Twist_repeat_40 : decode m_Twist_repeat.2.1 40 = .ok (.iload_n 3, 1) := by decide +kernel
theorem d_Twist_repeat_41 : decode m_Twist_repeat.2.1 41 = .ok (.invokevirtual 75, 3) := by decide +kernel
theorem d_Twist_repeat_44 : decode m_Twist_repeat.2.1 44 = .ok (.return_, 1) := by decide +kernel
theorem d_Twist_repeat_45 : decode m_Twist_repeat.2.1 45 = .ok (.aload_n 0, 1) := by decide +kernel
theorem d_Twist_repeat_46 : decode m_Twist_repeat.2.1 46 = .ok (.getfield 34, 3) := by decide +kernel
theorem d_Twist_repeat_49 : decode m_Twist_repeat.2.1 49 = .ok (.istore 6, 2) := by decide +kernel
theorem d_Twist_repeat_51 : decode m_Twist_repeat.2.1 51 = .ok (.iload 6, 2) := by decide +kernel
theorem d_Twist_repeat_53 : decode m_Twist_repeat.2.1 53 = .ok (.iload 5, 2) := by decide +kernel
theorem d_Twist_repeat_55 : decode m_Twist_repeat.2.1 55 = .ok (.if_icmp .ge 43, 3) := by decide +kernel
theorem d_Twist_repeat_58 : decode m_Twist_repeat.2.1 58 = .ok (.iload 6, 2) := by decide +kernel
theorem d_Twist_repeat_60 : decode m_Twist_repeat.2.1 60 = .ok (.iload 4, 2) := by decide +kernel
theorem d_Twist_repeat_62 : decode m_Twist_repeat.2.1 62 = .ok (.if_icmp .lt 30, 3) := by decide +kernel
theorem d_Twist_repeat_65 : decode m_Twist_repeat.2.1 65 = .ok (.iload 6, 2) := by decide +kernel
theorem d_Twist_repeat_67 : decode m_Twist_repeat.2.1 67 = .ok (.iload 4, 2) := by decide +kernel
theorem d_Twist_repeat_69 : decode m_Twist_repeat.2.1 69 = .ok (.isub, 1) := by decide +kernel
theorem d_Twist_repeat_70 : decode m_Twist_repeat.2.1 70 = .ok (.bipush 64, 2) := by decide +kernel
theorem d_Twist_repeat_72 : decode m_Twist_repeat.2.1 72 = .ok (.if_icmp .ge 20, 3) := by decide +kernel
theorem d_Twist_repeat_75 : decode m_Twist_repeat.2.1 75 = .ok (.aload_n 0, 1) := by decide +kernel
theorem d_Twist_repeat_76 : decode m_Twist_repeat.2.1 76 = .ok (.getfield 11, 3) := by decide +kernel
theorem d_Twist_repeat_79 : decode m_Twist_repeat.2.1 79 = .ok (.iload 6, 2) := by decide +kernel
theorem d_Twist_repeat_81 : decode m_Twist_repeat.2.1 81 = .ok (.aload_n 0, 1) := by decide +kernel
theorem d_Twist_repeat_82 : decode m_Twist_repeat.2.1 82 = .ok (.getfield 11, 3) := by decide +kernel
theorem d_Twist_repeat_85 : decode m_Twist_repeat.2.1 85 = .ok (.iload 6, 2) := by decide +kernel
theorem d_Twist_repeat_87 : decode m_Twist_repeat.2.1 87 = .ok (.iload 4, 2) := by decide +kernel
theorem d_Twist_repeat_89 : decode m_Twist_repeat.2.1 89 = .ok (.isub, 1) := by decide +kernel
theorem d_Twist_repeat_90 : decode m_Twist_repeat.2.1 90 = .ok (.iaload, 1) := by decide +kernel
theorem d_Twist_repeat_91 : decode m_Twist_repeat.2.1 91 = .ok (.iastore, 1) := by decide +kernel
theorem d_Twist_repeat_92 : decode m_Twist_repeat.2.1 92 = .ok (.iinc 6 1, 3) := by decide +kernel
theorem d_Twist_repeat_95 : decode m_Twist_repeat.2.1 95 = .ok (.goto (-44), 3) := by decide +kernel
theorem d_Twist_repeat_98 : decode m_Twist_repeat.2.1 98 = .ok (.aload_n 0, 1) := by decide +kernel
theorem d_Twist_repeat_99 : decode m_Twist_repeat.2.1 99 = .ok (.iload 5, 2) := by decide +kernel
theorem d_Twist_repeat_101 : decode m_Twist_repeat.2.1 101 = .ok (.putfield 34, 3) := by decide +kernel
theorem d_Twist_repeat_104 : decode m_Twist_repeat.2.1 104 = .ok (.return_, 1) := by decide +kernel
def f_Twist_repeat_92 (k_51 : St → Int32 → Int32 → Int32 → Option (St)) (S : St) (l4 : Int32) (l5 : Int32) (l6 : Int32) : Option (St) :=
    (some (l6 + 1)).bind fun l6_92 =>
    k_51 S l4 l5 l6_92
set_option maxHeartbeats 4000000 in
set_option maxRecDepth 20000 in
theorem t_Twist_repeat_92  {k_51 : St → Int32 → Int32 → Int32 → Option (St)} (hk_51 : ∀ (S : St) (l4 : Int32) (l5 : Int32) (l6 : Int32) (w : St), k_51 S l4 l5 l6 = some w → G SX m_Twist_repeat 2 none w 51 [(0, .ref 42), (4, .int l4), (5, .int l5), (6, .int l6)] [] S) (S : St) (l4 : Int32) (l5 : Int32) (l6 : Int32) (w : St) (h : f_Twist_repeat_92 k_51 S l4 l5 l6 = some w) : G SX m_Twist_repeat 2 none w 92 [(0, .ref 42), (4, .int l4), (5, .int l5), (6, .int l6)] [] S := by
  unfold f_Twist_repeat_92 at h
  obtain ⟨l6_92, e_92, h⟩ := ob_s h
  refine G_iinc 1 3 [(6, .int l6_92), (0, .ref 42), (4, .int l4), (5, .int l5)] (by decide) rfl e_92 rfl (by decide) d_Twist_repeat_92 ?_
  refine G_goto 51 (by decide) d_Twist_repeat_95 ?_
  exact G_sub _ [1, 2, 3, 0] rfl (hk_51 S l4 l5 l6_92 _ h)
def f_Twist_repeat_51 : Nat → St → Int32 → Int32 → Int32 → Option (St)
  | 0, _, _, _, _ => none
  | n + 1, S, l4, l5, l6 =>
    if l5 ≤ l6 then (
    (some (sF S 42 8 l5)).bind fun S_101 =>
    some S_101)
    else (
    if l6 < l4 then (
    f_Twist_repeat_92 (f_Twist_repeat_51 n) S l4 l5 l6)
    else (
    if (64 : Int32) ≤ (l6 - l4) then (
    f_Twist_repeat_92 (f_Twist_repeat_51 n) S l4 l5 l6)
    else (
    if ig (l6 - l4) 64 then (
    if ig l6 64 then (
    (some (sF S 43 l6.toNatClampNeg (S 43 (l6 - l4).toNatClampNeg))).bind fun S_91 =>
    f_Twist_repeat_92 (f_Twist_repeat_51 n) S_91 l4 l5 l6) else none) else none)))
set_option maxHeartbeats 4000000 in
set_option maxRecDepth 20000 in
theorem t_Twist_repeat_51  : ∀ (n : Nat) (S : St) (l4 : Int32) (l5 : Int32) (l6 : Int32) (w : St), f_Twist_repeat_51 n S l4 l5 l6 = some w → G SX m_Twist_repeat 2 none w 51 [(0, .ref 42), (4, .int l4), (5, .int l5), (6, .int l6)] [] S := by
  intro n
  induction n with
  | zero =>
    intro S l4 l5 l6 w h
    rw [f_Twist_repeat_51] at h
    cases h
  | succ n ih =>
    intro S l4 l5 l6 w h
    rw [f_Twist_repeat_51] at h
    refine G_iload 3 rfl d_Twist_repeat_51 ?_
    refine G_iload 2 rfl d_Twist_repeat_53 ?_
    refine G_icmp_ge 98 (by decide) d_Twist_repeat_55 (fun c_55 => ?_) (fun c_55 => ?_)
    · replace h := ob_t h c_55
      refine G_aload_n 0 rfl d_Twist_repeat_98 ?_
      refine G_iload 2 rfl d_Twist_repeat_99 ?_
      obtain ⟨S_101, e_101, h⟩ := ob_s h
      refine G_putI e_101 fp_Twist_34 kx_42 sx_42 rfl d_Twist_repeat_101 ?_
      cases h
      exact G_vret rfl d_Twist_repeat_104
    · replace h := ob_f h c_55
      refine G_iload 3 rfl d_Twist_repeat_58 ?_
      refine G_iload 1 rfl d_Twist_repeat_60 ?_
      refine G_icmp_lt 92 (by decide) d_Twist_repeat_62 (fun c_62 => ?_) (fun c_62 => ?_)
      · replace h := ob_t h c_62
        exact G_sub _ [0, 1, 2, 3] rfl (t_Twist_repeat_92 ih S l4 l5 l6 _ h)
      · replace h := ob_f h c_62
        refine G_iload 3 rfl d_Twist_repeat_65 ?_
        refine G_iload 1 rfl d_Twist_repeat_67 ?_
        refine G_isub d_Twist_repeat_69 ?_
        refine G_bipush 64 (by decide) d_Twist_repeat_70 ?_
        refine G_icmp_ge 92 (by decide) d_Twist_repeat_72 (fun c_72 => ?_) (fun c_72 => ?_)
        · replace h := ob_t h c_72
          exact G_sub _ [0, 1, 2, 3] rfl (t_Twist_repeat_92 ih S l4 l5 l6 _ h)
        · replace h := ob_f h c_72
          refine G_aload_n 0 rfl d_Twist_repeat_75 ?_
          refine G_getR fl_Twist_11 kx_42 sx_42 rfl (by decide) d_Twist_repeat_76 ?_
          refine G_iload 3 rfl d_Twist_repeat_79 ?_
          refine G_aload_n 0 rfl d_Twist_repeat_81 ?_
          refine G_getR fl_Twist_11 kx_42 sx_42 rfl (by decide) d_Twist_repeat_82 ?_
          refine G_iload 3 rfl d_Twist_repeat_85 ?_
          refine G_iload 1 rfl d_Twist_repeat_87 ?_
          refine G_isub d_Twist_repeat_89 ?_
          obtain ⟨g_90, h⟩ := ob_g h
          refine G_iaload kx_43 sx_43 g_90 d_Twist_repeat_90 ?_
          obtain ⟨g_91, h⟩ := ob_g h
          obtain ⟨S_91, e_91, h⟩ := ob_s h
          refine G_iastore e_91 kx_43 sx_43 g_91 d_Twist_repeat_91 ?_
          exact G_sub _ [0, 1, 2, 3] rfl (t_Twist_repeat_92 ih S_91 l4 l5 l6 _ h)
def f_Twist_repeat (S : St) (l1 : Int32) (l2 : Int32) (l3 : Int32) : Option (St) :=
    (f_Reading_failed S).bind fun v_4 =>
    if v_4 = 0 then (
    (some ((S 42 8) - l1)).bind fun l4_17 =>
    (some (l1 + (l4_17 * l2))).bind fun l5_25 =>
    if l5_25 ≤ 64 then (
    (some (S 42 8)).bind fun l6_49 =>
    f_Twist_repeat_51 FU S l4_17 l5_25 l6_49)
    else (
    (f_Reading_fail S (6 : Int32) l3).bind fun w_41 =>
    some w_41))
    else (
    some S)
set_option maxHeartbeats 4000000 in
set_option maxRecDepth 20000 in
theorem t_Twist_repeat  {S : St} {l1 : Int32} {l2 : Int32} {l3 : Int32} {w : St} (h : f_Twist_repeat S l1 l2 l3 = some w) : Ct SX m_Twist_repeat 2 [.ref 42, .int l1, .int l2, .int l3] S none w := by
  unfold f_Twist_repeat at h
  refine Ct.of pn_Twist (Nat.le_of_ble_eq_true rfl) ?_
  show G SX m_Twist_repeat 2 none w 0 [(0, .ref 42), (1, .int l1), (2, .int l2), (3, .int l3)] [] S
  refine G_aload_n 0 rfl d_Twist_repeat_0 ?_
  refine G_getR fl_Twist_37 kx_42 sx_42 rfl (by decide) d_Twist_repeat_1 ?_
  obtain ⟨v_4, q_4, h⟩ := ob_b h
  refine G_callV [] [] (t_Reading_failed q_4) (by decide) (by decide) mv_Reading_failed rfl ml_Twist_81 kx_3 sx_3 cl_4 rfl (Nat.le_of_ble_eq_true rfl) d_Twist_repeat_4 ?_
  refine G_if_eq 11 (by decide) d_Twist_repeat_7 (fun c_7 => ?_) (fun c_7 => ?_)
  · replace h := ob_t h c_7
    refine G_aload_n 0 rfl d_Twist_repeat_11 ?_
    refine G_getI fl_Twist_34 kx_42 sx_42 rfl d_Twist_repeat_12 ?_
    refine G_iload_n 1 rfl d_Twist_repeat_15 ?_
    refine G_isub d_Twist_repeat_16 ?_
    obtain ⟨l4_17, e_17, h⟩ := ob_s h
    refine G_istore [(4, .int l4_17), (0, .ref 42), (1, .int l1), (2, .int l2), (3, .int l3)] e_17 rfl (by decide) d_Twist_repeat_17 ?_
    refine G_iload_n 2 rfl d_Twist_repeat_19 ?_
    refine G_iload 0 rfl d_Twist_repeat_20 ?_
    refine G_iload_n 3 rfl d_Twist_repeat_22 ?_
    refine G_imul d_Twist_repeat_23 ?_
    refine G_iadd d_Twist_repeat_24 ?_
    obtain ⟨l5_25, e_25, h⟩ := ob_s h
    refine G_istore [(5, .int l5_25), (4, .int l4_17), (0, .ref 42), (1, .int l1), (2, .int l2), (3, .int l3)] e_25 rfl (by decide) d_Twist_repeat_25 ?_
    refine G_iload 0 rfl d_Twist_repeat_27 ?_
    refine G_bipush 64 (by decide) d_Twist_repeat_29 ?_
    refine G_icmp_le 45 (by decide) d_Twist_repeat_31 (fun c_31 => ?_) (fun c_31 => ?_)
    · replace h := ob_t h c_31
      refine G_aload_n 2 rfl d_Twist_repeat_45 ?_
      refine G_getI fl_Twist_34 kx_42 sx_42 rfl d_Twist_repeat_46 ?_
      obtain ⟨l6_49, e_49, h⟩ := ob_s h
      refine G_istore [(6, .int l6_49), (5, .int l5_25), (4, .int l4_17), (0, .ref 42), (1, .int l1), (2, .int l2), (3, .int l3)] e_49 rfl (by decide) d_Twist_repeat_49 ?_
      exact G_sub _ [3, 2, 1, 0] rfl (t_Twist_repeat_51 FU S l4_17 l5_25 l6_49 _ h)
    · replace h := ob_f h c_31
      refine G_aload_n 2 rfl d_Twist_repeat_34 ?_
      refine G_getR fl_Twist_37 kx_42 sx_42 rfl (by decide) d_Twist_repeat_35 ?_
      refine G_bipush 6 (by decide) d_Twist_repeat_38 ?_
      refine G_iload_n 5 rfl d_Twist_repeat_40 ?_
      obtain ⟨w_41, q_41, h⟩ := ob_b h
      refine G_callV [.int 6, .int l3] [] (t_Reading_fail q_41) (by decide) (by decide) mv_Reading_fail rfl ml_Twist_75 kx_3 sx_3 cl_4 rfl (Nat.le_of_ble_eq_true rfl) d_Twist_repeat_41 ?_
      cases h
      exact G_vret rfl d_Twist_repeat_44
  · replace h := ob_f h c_7
    cases h
    exact G_vret rfl d_Twist_repeat_10
theorem d_Twist_openGroup_0 : decode m_Twist_openGroup.2.1 0 = .ok (.aload_n 0, 1) := by decide +kernel
theorem d_Twist_openGroup_1 : decode m_Twist_openGroup.2.1 1 = .ok (.getfield 30, 3) := by decide +kernel
theorem d_Twist_openGroup_4 : decode m_Twist_openGroup.2.1 4 = .ok (.iconst 2, 1) := by decide +kernel
theorem d_Twist_openGroup_5 : decode m_Twist_openGroup.2.1 5 = .ok (.if_icmp .lt 19, 3) := by decide +kernel
theorem d_Twist_openGroup_8 : decode m_Twist_openGroup.2.1 8 = .ok (.aload_n 0, 1) := by decide +kernel
theorem d_Twist_openGroup_9 : decode m_Twist_openGroup.2.1 9 = .ok (.getfield 37, 3) := by decide +kernel
theorem d_Twist_openGroup_12 : decode m_Twist_openGroup.2.1 12 = .ok (.iconst 5, 1) := by decide +kernel
theorem d_Twist_openGroup_13 : decode m_Twist_openGroup.2.1 13 = .ok (.aload_n 0, 1) := by decide +kernel
theorem d_Twist_openGroup_14 : decode m_Twist_openGroup.2.1 14 = .ok (.getfield 37, 3) := by decide +kernel
theorem d_Twist_openGroup_17 : decode m_Twist_openGroup.2.1 17 = .ok (.getfield 50, 3) := by decide +kernel
theorem d_Twist_openGroup_20 : decode m_Twist_openGroup.2.1 20 = .ok (.invokevirtual 75, 3) := by decide +kernel
theorem d_Twist_openGroup_23 : decode m_Twist_openGroup.2.1 23 = .ok (.return_, 1) := by decide +kernel
theorem d_Twist_openGroup_24 : decode m_Twist_openGroup.2.1 24 = .ok (.aload_n 0, 1) := by decide +kernel
theorem d_Twist_openGroup_25 : decode m_Twist_openGroup.2.1 25 = .ok (.getfield 18, 3) := by decide +kernel
theorem d_Twist_openGroup_28 : decode m_Twist_openGroup.2.1 28 = .ok (.aload_n 0, 1) := by decide +kernel
theorem d_Twist_openGroup_29 : decode m_Twist_openGroup.2.1 29 = .ok (.getfield 30, 3) := by decide +kernel
theorem d_Twist_openGroup_32 : decode m_Twist_openGroup.2.1 32 = .ok (.iload_n 1, 1) := by decide +kernel
theorem d_Twist_openGroup_33 : decode m_Twist_openGroup.2.1 33 = .ok (.iastore, 1) := by decide +kernel
theorem d_Twist_openGroup_34 : decode m_Twist_openGroup.2.1 34 = .ok (.aload_n 0, 1) := by decide +kernel
theorem d_Twist_openGroup_35 : decode m_Twist_openGroup.2.1 35 = .ok (.getfield 21, 3) := by decide +kernel
theorem d_Twist_openGroup_38 : decode m_Twist_openGroup.2.1 38 = .ok (.aload_n 0, 1) := by decide +kernel
theorem d_Twist_openGroup_39 : decode m_Twist_openGroup.2.1 39 = .ok (.getfield 30, 3) := by decide +kernel
theorem d_Twist_openGroup_42 : decode m_Twist_openGroup.2.1 42 = .ok (.iload_n 2, 1) := by decide +kernel
theorem d_Twist_openGroup_43 : decode m_Twist_openGroup.2.1 43 = .ok (.iastore, 1) := by decide +kernel
theorem d_Twist_openGroup_44 : decode m_Twist_openGroup.2.1 44 = .ok (.aload_n 0, 1) := by decide +kernel
theorem d_Twist_openGroup_45 : decode m_Twist_openGroup.2.1 45 = .ok (.getfield 24, 3) := by decide +kernel
theorem d_Twist_openGroup_48 : decode m_Twist_openGroup.2.1 48 = .ok (.aload_n 0, 1) := by decide +kernel
theorem d_Twist_openGroup_49 : decode m_Twist_openGroup.2.1 49 = .ok (.getfield 30, 3) := by decide +kernel
theorem d_Twist_openGroup_52 : decode m_Twist_openGroup.2.1 52 = .ok (.aload_n 0, 1) := by decide +kernel
theorem d_Twist_openGroup_53 : decode m_Twist_openGroup.2.1 53 = .ok (.getfield 34, 3) := by decide +kernel
theorem d_Twist_openGroup_56 : decode m_Twist_openGroup.2.1 56 = .ok (.iastore, 1) := by decide +kernel
theorem d_Twist_openGroup_57 : decode m_Twist_openGroup.2.1 57 = .ok (.aload_n 0, 1) := by decide +kernel
theorem d_Twist_openGroup_58 : decode m_Twist_openGroup.2.1 58 = .ok (.dup, 1) := by decide +kernel
theorem d_Twist_openGroup_59 : decode m_Twist_openGroup.2.1 59 = .ok (.getfield 30, 3) := by decide +kernel
theorem d_Twist_openGroup_62 : decode m_Twist_openGroup.2.1 62 = .ok (.iconst 1, 1) := by decide +kernel
theorem d_Twist_openGroup_63 : decode m_Twist_openGroup.2.1 63 = .ok (.iadd, 1) := by decide +kernel
theorem d_Twist_openGroup_64 : decode m_Twist_openGroup.2.1 64 = .ok (.putfield 30, 3) := by decide +kernel
theorem d_Twist_openGroup_67 : decode m_Twist_openGroup.2.1 67 = .ok (.aload_n 0, 1) := by decide +kernel
theorem d_Twist_openGroup_68 : decode m_Twist_openGroup.2.1 68 = .ok (.getfield 37, 3) := by decide +kernel
theorem d_Twist_openGroup_71 : decode m_Twist_openGroup.2.1 71 = .ok (.dup, 1) := by decide +kernel
theorem d_Twist_openGroup_72 : decode m_Twist_openGroup.2.1 72 = .ok (.getfield 50, 3) := by decide +kernel
theorem d_Twist_openGroup_75 : decode m_Twist_openGroup.2.1 75 = .ok (.iconst 1, 1) := by decide +kernel
theorem d_Twist_openGroup_76 : decode m_Twist_openGroup.2.1 76 = .ok (.iadd, 1) := by decide +kernel
theorem d_Twist_openGroup_77 : decode m_Twist_openGroup.2.1 77 = .ok (.putfield 50, 3) := by decide +kernel
theorem d_Twist_openGroup_80 : decode m_Twist_openGroup.2.1 80 = .ok (.return_, 1) := by decide +kernel
def f_Twist_openGroup (S : St) (l1 : Int32) (l2 : Int32) : Option (St) :=
    if (S 42 7) < 2 then (
    if ig (S 42 7) 2 then (
    (some (sF S 45 (S 42 7).toNatClampNeg l1)).bind fun S_33 =>
    if ig (S_33 42 7) 2 then (
    (some (sF S_33 46 (S_33 42 7).toNatClampNeg l2)).bind fun S_43 =>
    if ig (S_43 42 7) 2 then (
    (some (sF S_43 47 (S_43 42 7).toNatClampNeg (S_43 42 8))).bind fun S_56 =>
    (some (sF S_56 42 7 ((S_56 42 7) + 1))).bind fun S_64 =>
    (some (sF S_64 3 1 ((S_64 3 1) + 1))).bind fun S_77 =>
    some S_77) else none) else none) else none)
    else (
    (f_Reading_fail S (5 : Int32) (S 3 1)).bind fun w_20 =>
    some w_20)
set_option maxHeartbeats 4000000 in
set_option maxRecDepth 20000 in
theorem t_Twist_openGroup  {S : St} {l1 : Int32} {l2 : Int32} {w : St} (h : f_Twist_openGroup S l1 l2 = some w) : Ct SX m_Twist_openGroup 2 [.ref 42, .int l1, .int l2] S none w := by
  unfold f_Twist_openGroup at h
  refine Ct.of pn_Twist (Nat.le_of_ble_eq_true rfl) ?_
  show G SX m_Twist_openGroup 2 none w 0 [(0, .ref 42), (1, .int l1), (2, .int l2)] [] S
  refine G_aload_n 0 rfl d_Twist_openGroup_0 ?_
  refine G_getI fl_Twist_30 kx_42 sx_42 rfl d_Twist_openGroup_1 ?_
  refine G_iconst 2 (by decide) d_Twist_openGroup_4 ?_
  refine G_icmp_lt 24 (by decide) d_Twist_openGroup_5 (fun c_5 => ?_) (fun c_5 => ?_)
  · replace h := ob_t h c_5
    refine G_aload_n 0 rfl d_Twist_openGroup_24 ?_
    refine G_getR fl_Twist_18 kx_42 sx_42 rfl (by decide) d_Twist_openGroup_25 ?_
    refine G_aload_n 0 rfl d_Twist_openGroup_28 ?_
    refine G_getI fl_Twist_30 kx_42 sx_42 rfl d_Twist_openGroup_29 ?_
    refine G_iload_n 1 rfl d_Twist_openGroup_32 ?_
    obtain ⟨g_33, h⟩ := ob_g h
    obtain ⟨S_33, e_33, h⟩ := ob_s h
    refine G_iastore e_33 kx_45 sx_45 g_33 d_Twist_openGroup_33 ?_
    refine G_aload_n 0 rfl d_Twist_openGroup_34 ?_
    refine G_getR fl_Twist_21 kx_42 sx_42 rfl (by decide) d_Twist_openGroup_35 ?_
    refine G_aload_n 0 rfl d_Twist_openGroup_38 ?_
    refine G_getI fl_Twist_30 kx_42 sx_42 rfl d_Twist_openGroup_39 ?_
    refine G_iload_n 2 rfl d_Twist_openGroup_42 ?_
    obtain ⟨g_43, h⟩ := ob_g h
    obtain ⟨S_43, e_43, h⟩ := ob_s h
    refine G_iastore e_43 kx_46 sx_46 g_43 d_Twist_openGroup_43 ?_
    refine G_aload_n 0 rfl d_Twist_openGroup_44 ?_
    refine G_getR fl_Twist_24 kx_42 sx_42 rfl (by decide) d_Twist_openGroup_45 ?_
    refine G_aload_n 0 rfl d_Twist_openGroup_48 ?_
    refine G_getI fl_Twist_30 kx_42 sx_42 rfl d_Twist_openGroup_49 ?_
    refine G_aload_n 0 rfl d_Twist_openGroup_52 ?_
    refine G_getI fl_Twist_34 kx_42 sx_42 rfl d_Twist_openGroup_53 ?_
    obtain ⟨g_56, h⟩ := ob_g h
    obtain ⟨S_56, e_56, h⟩ := ob_s h
    refine G_iastore e_56 kx_47 sx_47 g_56 d_Twist_openGroup_56 ?_
    refine G_aload_n 0 rfl d_Twist_openGroup_57 ?_
    refine G_dup rfl d_Twist_openGroup_58 ?_
    refine G_getI fl_Twist_30 kx_42 sx_42 rfl d_Twist_openGroup_59 ?_
    refine G_iconst 1 (by decide) d_Twist_openGroup_62 ?_
    refine G_iadd d_Twist_openGroup_63 ?_
    obtain ⟨S_64, e_64, h⟩ := ob_s h
    refine G_putI e_64 fp_Twist_30 kx_42 sx_42 rfl d_Twist_openGroup_64 ?_
    refine G_aload_n 0 rfl d_Twist_openGroup_67 ?_
    refine G_getR fl_Twist_37 kx_42 sx_42 rfl (by decide) d_Twist_openGroup_68 ?_
    refine G_dup rfl d_Twist_openGroup_71 ?_
    refine G_getI fl_Twist_50 kx_3 sx_3 rfl d_Twist_openGroup_72 ?_
    refine G_iconst 1 (by decide) d_Twist_openGroup_75 ?_
    refine G_iadd d_Twist_openGroup_76 ?_
    obtain ⟨S_77, e_77, h⟩ := ob_s h
    refine G_putI e_77 fp_Twist_50 kx_3 sx_3 rfl d_Twist_openGroup_77 ?_
    cases h
    exact G_vret rfl d_Twist_openGroup_80
  · replace h := ob_f h c_5
    refine G_aload_n 0 rfl d_Twist_openGroup_8 ?_
    refine G_getR fl_Twist_37 kx_42 sx_42 rfl (by decide) d_Twist_openGroup_9 ?_
    refine G_iconst 5 (by decide) d_Twist_openGroup_12 ?_
    refine G_aload_n 0 rfl d_Twist_openGroup_13 ?_
    refine G_getR fl_Twist_37 kx_42 sx_42 rfl (by decide) d_Twist_openGroup_14 ?_
    refine G_getI fl_Twist_50 kx_3 sx_3 rfl d_Twist_openGroup_17 ?_
    obtain ⟨w_20, q_20, h⟩ := ob_b h
    refine G_callV [.int 5, .int (S 3 1)] [] (t_Reading_fail q_20) (by decide) (by decide) mv_Reading_fail rfl ml_Twist_75 kx_3 sx_3 cl_4 rfl (Nat.le_of_ble_eq_true rfl) d_Twist_openGroup_20 ?_
    cases h
    exact G_vret rfl d_Twist_openGroup_23
theorem d_Twist_closeGroup_0 : decode m_Twist_closeGroup.2.1 0 = .ok (.aload_n 0, 1) := by decide +kernel
theorem d_Twist_closeGroup_1 : decode m_Twist_closeGroup.2.1 1 = .ok (.getfield 30, 3) := by decide +kernel
theorem d_Twist_closeGroup_4 : decode m_Twist_closeGroup.2.1 4 = .ok (.iconst 1, 1) := by decide +kernel
theorem d_Twist_closeGroup_5 : decode m_Twist_closeGroup.2.1 5 = .ok (.isub, 1) := by decide +kernel
theorem d_Twist_closeGroup_6 : decode m_Twist_closeGroup.2.1 6 = .ok (.istore_n 1, 1) := by decide +kernel
theorem d_Twist_closeGroup_7 : decode m_Twist_closeGroup.2.1 7 = .ok (.iload_n 1, 1) := by decide +kernel
theorem d_Twist_closeGroup_8 : decode m_Twist_closeGroup.2.1 8 = .ok (.ifCond .lt 21, 3) := by decide +kernel
theorem d_Twist_closeGroup_11 : decode m_Twist_closeGroup.2.1 11 = .ok (.iload_n 1, 1) := by decide +kernel
theorem d_Twist_closeGroup_12 : decode m_Twist_closeGroup.2.1 12 = .ok (.iconst 2, 1) := by decide +kernel
theorem d_Twist_closeGroup_13 : decode m_Twist_closeGroup.2.1 13 = .ok (.if_icmp .ge 16, 3) := by decide +kernel
theorem d_Twist_closeGroup_16 : decode m_Twist_closeGroup.2.1 16 = .ok (.aload_n 0, 1) := by decide +kernel
theorem d_Twist_closeGroup_17 : decode m_Twist_closeGroup.2.1 17 = .ok (.getfield 24, 3) := by decide +kernel
theorem d_Twist_closeGroup_20 : decode m_Twist_closeGroup.2.1 20 = .ok (.iload_n 1, 1) := by decide +kernel
theorem d_Twist_closeGroup_21 : decode m_Twist_closeGroup.2.1 21 = .ok (.iaload, 1) := by decide +kernel
theorem d_Twist_closeGroup_22 : decode m_Twist_closeGroup.2.1 22 = .ok (.aload_n 0, 1) := by decide +kernel
theorem d_Twist_closeGroup_23 : decode m_Twist_closeGroup.2.1 23 = .ok (.getfield 34, 3) := by decide +kernel
theorem d_Twist_closeGroup_26 : decode m_Twist_closeGroup.2.1 26 = .ok (.if_icmp .ne 19, 3) := by decide +kernel
theorem d_Twist_closeGroup_29 : decode m_Twist_closeGroup.2.1 29 = .ok (.aload_n 0, 1) := by decide +kernel
theorem d_Twist_closeGroup_30 : decode m_Twist_closeGroup.2.1 30 = .ok (.getfield 37, 3) := by decide +kernel
theorem d_Twist_closeGroup_33 : decode m_Twist_closeGroup.2.1 33 = .ok (.iconst 1, 1) := by decide +kernel
theorem d_Twist_closeGroup_34 : decode m_Twist_closeGroup.2.1 34 = .ok (.aload_n 0, 1) := by decide +kernel
theorem d_Twist_closeGroup_35 : decode m_Twist_closeGroup.2.1 35 = .ok (.getfield 37, 3) := by decide +kernel
theorem d_Twist_closeGroup_38 : decode m_Twist_closeGroup.2.1 38 = .ok (.getfield 50, 3) := by decide +kernel
theorem d_Twist_closeGroup_41 : decode m_Twist_closeGroup.2.1 41 = .ok (.invokevirtual 75, 3) := by decide +kernel
theorem d_Twist_closeGroup_44 : decode m_Twist_closeGroup.2.1 44 = .ok (.return_, 1) := by decide +kernel
theorem d_Twist_closeGroup_45 : decode m_Twist_closeGroup.2.1 45 = .ok (.aload_n 0, 1) := by decide +kernel
theorem d_Twist_closeGroup_46 : decode m_Twist_closeGroup.2.1 46 = .ok (.dup, 1) := by decide +kernel
theorem d_Twist_closeGroup_47 : decode m_Twist_closeGroup.2.1 47 = .ok (.getfield 30, 3) := by decide +kernel
theorem d_Twist_closeGroup_50 : decode m_Twist_closeGroup.2.1 50 = .ok (.iconst 1, 1) := by decide +kernel
theorem d_Twist_closeGroup_51 : decode m_Twist_closeGroup.2.1 51 = .ok (.isub, 1) := by decide +kernel
theorem d_Twist_closeGroup_52 : decode m_Twist_closeGroup.2.1 52 = .ok (.putfield 30, 3) := by decide +kernel
theorem d_Twist_closeGroup_55 : decode m_Twist_closeGroup.2.1 55 = .ok (.aload_n 0, 1) := by decide +kernel
theorem d_Twist_closeGroup_56 : decode m_Twist_closeGroup.2.1 56 = .ok (.getfield 37, 3) := by decide +kernel
theorem d_Twist_closeGroup_59 : decode m_Twist_closeGroup.2.1 59 = .ok (.dup, 1) := by decide +kernel
theorem d_Twist_closeGroup_60 : decode m_Twist_closeGroup.2.1 60 = .ok (.getfield 50, 3) := by decide +kernel
theorem d_Twist_closeGroup_63 : decode m_Twist_closeGroup.2.1 63 = .ok (.iconst 1, 1) := by decide +kernel
theorem d_Twist_closeGroup_64 : decode m_Twist_closeGroup.2.1 64 = .ok (.iadd, 1) := by decide +kernel
theorem d_Twist_closeGroup_65 : decode m_Twist_closeGroup.2.1 65 = .ok (.putfield 50, 3) := by decide +kernel
theorem d_Twist_closeGroup_68 : decode m_Twist_closeGroup.2.1 68 = .ok (.aload_n 0, 1) := by decide +kernel
theorem d_Twist_closeGroup_69 : decode m_Twist_closeGroup.2.1 69 = .ok (.aload_n 0, 1) := by decide +kernel
theorem d_Twist_closeGroup_70 : decode m_Twist_closeGroup.2.1 70 = .ok (.getfield 24, 3) := by decide +kernel
theorem d_Twist_closeGroup_73 : decode m_Twist_closeGroup.2.1 73 = .ok (.iload_n 1, 1) := by decide +kernel
theorem d_Twist_closeGroup_74 : decode m_Twist_closeGroup.2.1 74 = .ok (.iaload, 1) := by decide +kernel
theorem d_Twist_closeGroup_75 : decode m_Twist_closeGroup.2.1 75 = .ok (.aload_n 0, 1) := by decide +kernel
theorem d_Twist_closeGroup_76 : decode m_Twist_closeGroup.2.1 76 = .ok (.getfield 21, 3) := by decide +kernel
theorem d_Twist_closeGroup_79 : decode m_Twist_closeGroup.2.1 79 = .ok (.iload_n 1, 1) := by decide +kernel
theorem d_Twist_closeGroup_80 : decode m_Twist_closeGroup.2.1 80 = .ok (.iaload, 1) := by decide +kernel
theorem d_Twist_closeGroup_81 : decode m_Twist_closeGroup.2.1 81 = .ok (.aload_n 0, 1) := by decide +kernel
theorem d_Twist_closeGroup_82 : decode m_Twist_closeGroup.2.1 82 = .ok (.getfield 18, 3) := by decide +kernel
theorem d_Twist_closeGroup_85 : decode m_Twist_closeGroup.2.1 85 = .ok (.iload_n 1, 1) := by decide +kernel
theorem d_Twist_closeGroup_86 : decode m_Twist_closeGroup.2.1 86 = .ok (.iaload, 1) := by decide +kernel
theorem d_Twist_closeGroup_87 : decode m_Twist_closeGroup.2.1 87 = .ok (.invokevirtual 64, 3) := by decide +kernel
theorem d_Twist_closeGroup_90 : decode m_Twist_closeGroup.2.1 90 = .ok (.return_, 1) := by decide +kernel
def f_Twist_closeGroup_29 (S : St) : Option (St) :=
    (f_Reading_fail S (1 : Int32) (S 3 1)).bind fun w_41 =>
    some w_41
set_option maxHeartbeats 4000000 in
set_option maxRecDepth 20000 in
theorem t_Twist_closeGroup_29  (S : St) (w : St) (h : f_Twist_closeGroup_29 S = some w) : G SX m_Twist_closeGroup 3 none w 29 [(0, .ref 42)] [] S := by
  unfold f_Twist_closeGroup_29 at h
  refine G_aload_n 0 rfl d_Twist_closeGroup_29 ?_
  refine G_getR fl_Twist_37 kx_42 sx_42 rfl (by decide) d_Twist_closeGroup_30 ?_
  refine G_iconst 1 (by decide) d_Twist_closeGroup_33 ?_
  refine G_aload_n 0 rfl d_Twist_closeGroup_34 ?_
  refine G_getR fl_Twist_37 kx_42 sx_42 rfl (by decide) d_Twist_closeGroup_35 ?_
  refine G_getI fl_Twist_50 kx_3 sx_3 rfl d_Twist_closeGroup_38 ?_
  obtain ⟨w_41, q_41, h⟩ := ob_b h
  refine G_callV [.int 1, .int (S 3 1)] [] (t_Reading_fail q_41) (by decide) (by decide) mv_Reading_fail rfl ml_Twist_75 kx_3 sx_3 cl_4 rfl (Nat.le_of_ble_eq_true rfl) d_Twist_closeGroup_41 ?_
  cases h
  exact G_vret rfl d_Twist_closeGroup_44
def f_Twist_closeGroup (S : St) : Option (St) :=
    (some ((S 42 7) - 1)).bind fun l1_6 =>
    if l1_6 < 0 then (
    f_Twist_closeGroup_29 S)
    else (
    if (2 : Int32) ≤ l1_6 then (
    f_Twist_closeGroup_29 S)
    else (
    if ig l1_6 2 then (
    if (S 47 l1_6.toNatClampNeg) = (S 42 8) then (
    f_Twist_closeGroup_29 S)
    else (
    (some (sF S 42 7 ((S 42 7) - 1))).bind fun S_52 =>
    (some (sF S_52 3 1 ((S_52 3 1) + 1))).bind fun S_65 =>
    if ig l1_6 2 then (
    if ig l1_6 2 then (
    if ig l1_6 2 then (
    (f_Twist_repeat S_65 (S_65 47 l1_6.toNatClampNeg) (S_65 46 l1_6.toNatClampNeg) (S_65 45 l1_6.toNatClampNeg)).bind fun w_87 =>
    some w_87) else none) else none) else none)) else none))
set_option maxHeartbeats 4000000 in
set_option maxRecDepth 20000 in
theorem t_Twist_closeGroup  {S : St} {w : St} (h : f_Twist_closeGroup S = some w) : Ct SX m_Twist_closeGroup 3 [.ref 42] S none w := by
  unfold f_Twist_closeGroup at h
  refine Ct.of pn_Twist (Nat.le_of_ble_eq_true rfl) ?_
  show G SX m_Twist_closeGroup 3 none w 0 [(0, .ref 42)] [] S
  refine G_aload_n 0 rfl d_Twist_closeGroup_0 ?_
  refine G_getI fl_Twist_30 kx_42 sx_42 rfl d_Twist_closeGroup_1 ?_
  refine G_iconst 1 (by decide) d_Twist_closeGroup_4 ?_
  refine G_isub d_Twist_closeGroup_5 ?_
  obtain ⟨l1_6, e_6, h⟩ := ob_s h
  refine G_istore_n [(1, .int l1_6), (0, .ref 42)] e_6 rfl (by decide) d_Twist_closeGroup_6 ?_
  refine G_iload_n 0 rfl d_Twist_closeGroup_7 ?_
  refine G_if_lt 29 (by decide) d_Twist_closeGroup_8 (fun c_8 => ?_) (fun c_8 => ?_)
  · replace h := ob_t h c_8
    exact G_sub _ [1] rfl (t_Twist_closeGroup_29 S _ h)
  · replace h := ob_f h c_8
    refine G_iload_n 0 rfl d_Twist_closeGroup_11 ?_
    refine G_iconst 2 (by decide) d_Twist_closeGroup_12 ?_
    refine G_icmp_ge 29 (by decide) d_Twist_closeGroup_13 (fun c_13 => ?_) (fun c_13 => ?_)
    · replace h := ob_t h c_13
      exact G_sub _ [1] rfl (t_Twist_closeGroup_29 S _ h)
    · replace h := ob_f h c_13
      refine G_aload_n 1 rfl d_Twist_closeGroup_16 ?_
      refine G_getR fl_Twist_24 kx_42 sx_42 rfl (by decide) d_Twist_closeGroup_17 ?_
      refine G_iload_n 0 rfl d_Twist_closeGroup_20 ?_
      obtain ⟨g_21, h⟩ := ob_g h
      refine G_iaload kx_47 sx_47 g_21 d_Twist_closeGroup_21 ?_
      refine G_aload_n 1 rfl d_Twist_closeGroup_22 ?_
      refine G_getI fl_Twist_34 kx_42 sx_42 rfl d_Twist_closeGroup_23 ?_
      refine G_icmp_ne 45 (by decide) d_Twist_closeGroup_26 (fun c_26 => ?_) (fun c_26 => ?_)
      · replace h := ob_f h c_26
        refine G_aload_n 1 rfl d_Twist_closeGroup_45 ?_
        refine G_dup rfl d_Twist_closeGroup_46 ?_
        refine G_getI fl_Twist_30 kx_42 sx_42 rfl d_Twist_closeGroup_47 ?_
        refine G_iconst 1 (by decide) d_Twist_closeGroup_50 ?_
        refine G_isub d_Twist_closeGroup_51 ?_
        obtain ⟨S_52, e_52, h⟩ := ob_s h
        refine G_putI e_52 fp_Twist_30 kx_42 sx_42 rfl d_Twist_closeGroup_52 ?_
        refine G_aload_n 1 rfl d_Twist_closeGroup_55 ?_
        refine G_getR fl_Twist_37 kx_42 sx_42 rfl (by decide) d_Twist_closeGroup_56 ?_
        refine G_dup rfl d_Twist_closeGroup_59 ?_
        refine G_getI fl_Twist_50 kx_3 sx_3 rfl d_Twist_closeGroup_60 ?_
        refine G_iconst 1 (by decide) d_Twist_closeGroup_63 ?_
        refine G_iadd d_Twist_closeGroup_64 ?_
        obtain ⟨S_65, e_65, h⟩ := ob_s h
        refine G_putI e_65 fp_Twist_50 kx_3 sx_3 rfl d_Twist_closeGroup_65 ?_
        refine G_aload_n 1 rfl d_Twist_closeGroup_68 ?_
        refine G_aload_n 1 rfl d_Twist_closeGroup_69 ?_
        refine G_getR fl_Twist_24 kx_42 sx_42 rfl (by decide) d_Twist_closeGroup_70 ?_
        refine G_iload_n 0 rfl d_Twist_closeGroup_73 ?_
        obtain ⟨g_74, h⟩ := ob_g h
        refine G_iaload kx_47 sx_47 g_74 d_Twist_closeGroup_74 ?_
        refine G_aload_n 1 rfl d_Twist_closeGroup_75 ?_
        refine G_getR fl_Twist_21 kx_42 sx_42 rfl (by decide) d_Twist_closeGroup_76 ?_
        refine G_iload_n 0 rfl d_Twist_closeGroup_79 ?_
        obtain ⟨g_80, h⟩ := ob_g h
        refine G_iaload kx_46 sx_46 g_80 d_Twist_closeGroup_80 ?_
        refine G_aload_n 1 rfl d_Twist_closeGroup_81 ?_
        refine G_getR fl_Twist_18 kx_42 sx_42 rfl (by decide) d_Twist_closeGroup_82 ?_
        refine G_iload_n 0 rfl d_Twist_closeGroup_85 ?_
        obtain ⟨g_86, h⟩ := ob_g h
        refine G_iaload kx_45 sx_45 g_86 d_Twist_closeGroup_86 ?_
        obtain ⟨w_87, q_87, h⟩ := ob_b h
        refine G_callV [.int (S_65 47 l1_6.toNatClampNeg), .int (S_65 46 l1_6.toNatClampNeg), .int (S_65 45 l1_6.toNatClampNeg)] [] (t_Twist_repeat q_87) (by decide) (by decide) mv_Twist_repeat rfl ml_Twist_64 kx_42 sx_42 cl_9 rfl (Nat.le_of_ble_eq_true rfl) d_Twist_closeGroup_87 ?_
        cases h
        exact G_vret rfl d_Twist_closeGroup_90
      · replace h := ob_t h c_26
        exact G_sub _ [1] rfl (t_Twist_closeGroup_29 S _ h)
theorem d_Twist_read_0 : decode m_Twist_read.2.1 0 = .ok (.aload_n 0, 1) := by decide +kernel
theorem d_Twist_read_1 : decode m_Twist_read.2.1 1 = .ok (.getfield 37, 3) := by decide +kernel
theorem d_Twist_read_4 : decode m_Twist_read.2.1 4 = .ok (.invokevirtual 41, 3) := by decide +kernel
theorem d_Twist_read_7 : decode m_Twist_read.2.1 7 = .ok (.aload_n 0, 1) := by decide +kernel
theorem d_Twist_read_8 : decode m_Twist_read.2.1 8 = .ok (.iconst 0, 1) := by decide +kernel
theorem d_Twist_read_9 : decode m_Twist_read.2.1 9 = .ok (.putfield 34, 3) := by decide +kernel
theorem d_Twist_read_12 : decode m_Twist_read.2.1 12 = .ok (.aload_n 0, 1) := by decide +kernel
theorem d_Twist_read_13 : decode m_Twist_read.2.1 13 = .ok (.iconst 0, 1) := by decide +kernel
theorem d_Twist_read_14 : decode m_Twist_read.2.1 14 = .ok (.putfield 30, 3) := by decide +kernel
theorem d_Twist_read_17 : decode m_Twist_read.2.1 17 = .ok (.iconst 0, 1) := by decide +kernel
theorem d_Twist_read_18 : decode m_Twist_read.2.1 18 = .ok (.istore_n 2, 1) := by decide +kernel
theorem d_Twist_read_19 : decode m_Twist_read.2.1 19 = .ok (.iload_n 2, 1) := by decide +kernel
theorem d_Twist_read_20 : decode m_Twist_read.2.1 20 = .ok (.bipush 80, 2) := by decide +kernel
theorem d_Twist_read_22 : decode m_Twist_read.2.1 22 = .ok (.if_icmp .ge 193, 3) := by decide +kernel
theorem d_Twist_read_25 : decode m_Twist_read.2.1 25 = .ok (.aload_n 0, 1) := by decide +kernel
theorem d_Twist_read_26 : decode m_Twist_read.2.1 26 = .ok (.invokevirtual 46, 3) := by decide +kernel
theorem d_Twist_read_29 : decode m_Twist_read.2.1 29 = .ok (.ifCond .ne 186, 3) := by decide +kernel
theorem d_Twist_read_32 : decode m_Twist_read.2.1 32 = .ok (.aload_n 0, 1) := by decide +kernel
theorem d_Twist_read_33 : decode m_Twist_read.2.1 33 = .ok (.getfield 37, 3) := by decide +kernel
theorem d_Twist_read_36 : decode m_Twist_read.2.1 36 = .ok (.getfield 50, 3) := by decide +kernel
theorem d_Twist_read_39 : decode m_Twist_read.2.1 39 = .ok (.istore_n 3, 1) := by decide +kernel
theorem d_Twist_read_40 : decode m_Twist_read.2.1 40 = .ok (.aload_n 0, 1) := by decide +kernel
theorem d_Twist_read_41 : decode m_Twist_read.2.1 41 = .ok (.invokevirtual 53, 3) := by decide +kernel
theorem d_Twist_read_44 : decode m_Twist_read.2.1 44 = .ok (.istore 4, 2) := by decide +kernel
theorem d_Twist_read_46 : decode m_Twist_read.2.1 46 = .ok (.aload_n 0, 1) := by decide +kernel
theorem d_Twist_read_47 : decode m_Twist_read.2.1 47 = .ok (.getfield 37, 3) := by decide +kernel
theorem d_Twist_read_50 : decode m_Twist_read.2.1 50 = .ok (.invokevirtual 57, 3) := by decide +kernel
theorem d_Twist_read_53 : decode m_Twist_read.2.1 53 = .ok (.istore 5, 2) := by decide +kernel
theorem d_Twist_read_55 : decode m_Twist_read.2.1 55 = .ok (.iload 5, 2) := by decide +kernel
theorem d_Twist_read_57 : decode m_Twist_read.2.1 57 = .ok (.bipush 97, 2) := by decide +kernel
theorem d_Twist_read_59 : decode m_Twist_read.2.1 59 = .ok (.if_icmp .lt 14, 3) := by decide +kernel
theorem d_Twist_read_62 : decode m_Twist_read.2.1 62 = .ok (.iload 5, 2) := by decide +kernel
theorem d_Twist_read_64 : decode m_Twist_read.2.1 64 = .ok (.bipush 103, 2) := by decide +kernel
theorem d_Twist_read_66 : decode m_Twist_read.2.1 66 = .ok (.if_icmp .gt 7, 3) := by decide +kernel
theorem d_Twist_read_69 : decode m_Twist_read.2.1 69 = .ok (.iconst 1, 1) := by decide +kernel
theorem d_Twist_read_70 : decode m_Twist_read.2.1 70 = .ok (.goto 4, 3) := by decide +kernel
theorem d_Twist_read_73 : decode m_Twist_read.2.1 73 = .ok (.iconst 0, 1) := by decide +kernel
theorem d_Twist_read_74 : decode m_Twist_read.2.1 74 = .ok (.istore 6, 2) := by decide +kernel
theorem d_Twist_read_76 : decode m_Twist_read.2.1 76 = .ok (.iload 5, 2) := by decide +kernel
theorem d_Twist_read_78 : decode m_Twist_read.2.1 78 = .ok (.bipush 65, 2) := by decide +kernel
theorem d_Twist_read_80 : decode m_Twist_read.2.1 80 = .ok (.if_icmp .lt 14, 3) := by decide +kernel
theorem d_Twist_read_83 : decode m_Twist_read.2.1 83 = .ok (.iload 5, 2) := by decide +kernel
theorem d_Twist_read_85 : decode m_Twist_read.2.1 85 = .ok (.bipush 71, 2) := by decide +kernel
theorem d_Twist_read_87 : decode m_Twist_read.2.1 87 = .ok (.if_icmp .gt 7, 3) := by decide +kernel
theorem d_Twist_read_90 : decode m_Twist_read.2.1 90 = .ok (.iconst 1, 1) := by decide +kernel
theorem d_Twist_read_91 : decode m_Twist_read.2.1 91 = .ok (.goto 4, 3) := by decide +kernel
theorem d_Twist_read_94 : decode m_Twist_read.2.1 94 = .ok (.iconst 0, 1) := by decide +kernel
theorem d_Twist_read_95 : decode m_Twist_read.2.1 95 = .ok (.istore 7, 2) := by decide +kernel
theorem d_Twist_read_97 : decode m_Twist_read.2.1 97 = .ok (.iload 6, 2) := by decide +kernel
theorem d_Twist_read_99 : decode m_Twist_read.2.1 99 = .ok (.ifCond .ne 8, 3) := by decide +kernel
theorem d_Twist_read_102 : decode m_Twist_read.2.1 102 = .ok (.iload 7, 2) := by decide +kernel
theorem d_Twist_read_104 : decode m_Twist_read.2.1 104 = .ok (.ifCond .eq 41, 3) := by decide +kernel
theorem d_Twist_read_107 : decode m_Twist_read.2.1 107 = .ok (.aload_n 0, 1) := by decide +kernel
theorem d_Twist_read_108 : decode m_Twist_read.2.1 108 = .ok (.iload 5, 2) := by decide +kernel
theorem d_Twist_read_110 : decode m_Twist_read.2.1 110 = .ok (.iload 6, 2) := by decide +kernel
theorem d_Twist_read_112 : decode m_Twist_read.2.1 112 = .ok (.ifCond .eq 8, 3) := by decide +kernel
theorem d_Twist_read_115 : decode m_Twist_read.2.1 115 = .ok (.bipush 97, 2) := by decide +kernel
theorem d_Twist_read_117 : decode m_Twist_read.2.1 117 = .ok (.goto 5, 3) := by decide +kernel
theorem d_Twist_read_120 : decode m_Twist_read.2.1 120 = .ok (.bipush 65, 2) := by decide +kernel
theorem d_Twist_read_122 : decode m_Twist_read.2.1 122 = .ok (.isub, 1) := by decide +kernel
theorem d_Twist_read_123 : decode m_Twist_read.2.1 123 = .ok (.iload 6, 2) := by decide +kernel
theorem d_Twist_read_125 : decode m_Twist_read.2.1 125 = .ok (.iload_n 1, 1) := by decide +kernel
theorem d_Twist_read_126 : decode m_Twist_read.2.1 126 = .ok (.invokevirtual 60, 3) := by decide +kernel
theorem d_Twist_read_129 : decode m_Twist_read.2.1 129 = .ok (.aload_n 0, 1) := by decide +kernel
theorem d_Twist_read_130 : decode m_Twist_read.2.1 130 = .ok (.aload_n 0, 1) := by decide +kernel
theorem d_Twist_read_131 : decode m_Twist_read.2.1 131 = .ok (.getfield 34, 3) := by decide +kernel
theorem d_Twist_read_134 : decode m_Twist_read.2.1 134 = .ok (.iconst 1, 1) := by decide +kernel
theorem d_Twist_read_135 : decode m_Twist_read.2.1 135 = .ok (.isub, 1) := by decide +kernel
theorem d_Twist_read_136 : decode m_Twist_read.2.1 136 = .ok (.iload 4, 2) := by decide +kernel
theorem d_Twist_read_138 : decode m_Twist_read.2.1 138 = .ok (.iload_n 3, 1) := by decide +kernel
theorem d_Twist_read_139 : decode m_Twist_read.2.1 139 = .ok (.invokevirtual 64, 3) := by decide +kernel
theorem d_Twist_read_142 : decode m_Twist_read.2.1 142 = .ok (.goto 67, 3) := by decide +kernel
theorem d_Twist_read_145 : decode m_Twist_read.2.1 145 = .ok (.iload 5, 2) := by decide +kernel
theorem d_Twist_read_147 : decode m_Twist_read.2.1 147 = .ok (.bipush 40, 2) := by decide +kernel
theorem d_Twist_read_149 : decode m_Twist_read.2.1 149 = .ok (.if_icmp .ne 13, 3) := by decide +kernel
theorem d_Twist_read_152 : decode m_Twist_read.2.1 152 = .ok (.aload_n 0, 1) := by decide +kernel
theorem d_Twist_read_153 : decode m_Twist_read.2.1 153 = .ok (.iload_n 3, 1) := by decide +kernel
theorem d_Twist_read_154 : decode m_Twist_read.2.1 154 = .ok (.iload 4, 2) := by decide +kernel
theorem d_Twist_read_156 : decode m_Twist_read.2.1 156 = .ok (.invokevirtual 68, 3) := by decide +kernel
theorem d_Twist_read_159 : decode m_Twist_read.2.1 159 = .ok (.goto 50, 3) := by decide +kernel
theorem d_Twist_read_162 : decode m_Twist_read.2.1 162 = .ok (.iload 5, 2) := by decide +kernel
theorem d_Twist_read_164 : decode m_Twist_read.2.1 164 = .ok (.bipush 41, 2) := by decide +kernel
theorem d_Twist_read_166 : decode m_Twist_read.2.1 166 = .ok (.if_icmp .ne 28, 3) := by decide +kernel
theorem d_Twist_read_169 : decode m_Twist_read.2.1 169 = .ok (.iload_n 3, 1) := by decide +kernel
theorem d_Twist_read_170 : decode m_Twist_read.2.1 170 = .ok (.aload_n 0, 1) := by decide +kernel
theorem d_Twist_read_171 : decode m_Twist_read.2.1 171 = .ok (.getfield 37, 3) := by decide +kernel
theorem d_Twist_read_174 : decode m_Twist_read.2.1 174 = .ok (.getfield 50, 3) := by decide +kernel
theorem d_Twist_read_177 : decode m_Twist_read.2.1 177 = .ok (.if_icmp .ne 17, 3) := by decide +kernel
theorem d_Twist_read_180 : decode m_Twist_read.2.1 180 = .ok (.aload_n 0, 1) := by decide +kernel
theorem d_Twist_read_181 : decode m_Twist_read.2.1 181 = .ok (.getfield 30, 3) := by decide +kernel
theorem d_Twist_read_184 : decode m_Twist_read.2.1 184 = .ok (.ifCond .le 10, 3) := by decide +kernel
theorem d_Twist_read_187 : decode m_Twist_read.2.1 187 = .ok (.aload_n 0, 1) := by decide +kernel
theorem d_Twist_read_188 : decode m_Twist_read.2.1 188 = .ok (.invokevirtual 72, 3) := by decide +kernel
theorem d_Twist_read_191 : decode m_Twist_read.2.1 191 = .ok (.goto 18, 3) := by decide +kernel
theorem d_Twist_read_194 : decode m_Twist_read.2.1 194 = .ok (.aload_n 0, 1) := by decide +kernel
theorem d_Twist_read_195 : decode m_Twist_read.2.1 195 = .ok (.getfield 37, 3) := by decide +kernel
theorem d_Twist_read_198 : decode m_Twist_read.2.1 198 = .ok (.iconst 1, 1) := by decide +kernel
theorem d_Twist_read_199 : decode m_Twist_read.2.1 199 = .ok (.aload_n 0, 1) := by decide +kernel
theorem d_Twist_read_200 : decode m_Twist_read.2.1 200 = .ok (.getfield 37, 3) := by decide +kernel
theorem d_Twist_read_203 : decode m_Twist_read.2.1 203 = .ok (.getfield 50, 3) := by decide +kernel
theorem d_Twist_read_206 : decode m_Twist_read.2.1 206 = .ok (.invokevirtual 75, 3) := by decide +kernel
theorem d_Twist_read_209 : decode m_Twist_read.2.1 209 = .ok (.iinc 2 1, 3) := by decide +kernel
theorem d_Twist_read_212 : decode m_Twist_read.2.1 212 = .ok (.goto (-193), 3) := by decide +kernel
theorem d_Twist_read_215 : decode m_Twist_read.2.1 215 = .ok (.aload_n 0, 1) := by decide +kernel
theorem d_Twist_read_216 : decode m_Twist_read.2.1 216 = .ok (.getfield 30, 3) := by decide +kernel
theorem d_Twist_read_219 : decode m_Twist_read.2.1 219 = .ok (.ifCond .le 18, 3) := by decide +kernel
theorem d_Twist_read_222 : decode m_Twist_read.2.1 222 = .ok (.aload_n 0, 1) := by decide +kernel
theorem d_Twist_read_223 : decode m_Twist_read.2.1 223 = .ok (.getfield 37, 3) := by decide +kernel
theorem d_Twist_read_226 : decode m_Twist_read.2.1 226 = .ok (.iconst 1, 1) := by decide +kernel
theorem d_Twist_read_227 : decode m_Twist_read.2.1 227 = .ok (.aload_n 0, 1) := by decide +kernel
theorem d_Twist_read_228 : decode m_Twist_read.2.1 228 = .ok (.getfield 37, 3) := by decide +kernel
theorem d_Twist_read_231 : decode m_Twist_read.2.1 231 = .ok (.getfield 50, 3) := by decide +kernel
theorem d_Twist_read_234 : decode m_Twist_read.2.1 234 = .ok (.invokevirtual 75, 3) := by decide +kernel
theorem d_Twist_read_237 : decode m_Twist_read.2.1 237 = .ok (.aload_n 0, 1) := by decide +kernel
theorem d_Twist_read_238 : decode m_Twist_read.2.1 238 = .ok (.getfield 37, 3) := by decide +kernel
theorem d_Twist_read_241 : decode m_Twist_read.2.1 241 = .ok (.getfield 78, 3) := by decide +kernel
theorem d_Twist_read_244 : decode m_Twist_read.2.1 244 = .ok (.ireturn, 1) := by decide +kernel
def f_Twist_read_209 (k_19 : St → Int32 → Int32 → Option (Int32 × St)) (S : St) (l1 : Int32) (l2 : Int32) : Option (Int32 × St) :=
    (some (l2 + 1)).bind fun l2_209 =>
    k_19 S l1 l2_209
set_option maxHeartbeats 4000000 in
set_option maxRecDepth 20000 in
theorem t_Twist_read_209  {k_19 : St → Int32 → Int32 → Option (Int32 × St)} (hk_19 : ∀ (S : St) (l1 : Int32) (l2 : Int32) (w : Int32 × St), k_19 S l1 l2 = some w → G SX m_Twist_read 4 (some w.1) w.2 19 [(0, .ref 42), (1, .int l1), (2, .int l2)] [] S) (S : St) (l1 : Int32) (l2 : Int32) (w : Int32 × St) (h : f_Twist_read_209 k_19 S l1 l2 = some w) : G SX m_Twist_read 4 (some w.1) w.2 209 [(0, .ref 42), (1, .int l1), (2, .int l2)] [] S := by
  unfold f_Twist_read_209 at h
  obtain ⟨l2_209, e_209, h⟩ := ob_s h
  refine G_iinc 1 2 [(2, .int l2_209), (0, .ref 42), (1, .int l1)] (by decide) rfl e_209 rfl (by decide) d_Twist_read_209 ?_
  refine G_goto 19 (by decide) d_Twist_read_212 ?_
  exact G_sub _ [1, 2, 0] rfl (hk_19 S l1 l2_209 _ h)
def f_Twist_read_122 (k_19 : St → Int32 → Int32 → Option (Int32 × St)) (S : St) (l1 : Int32) (l2 : Int32) (l3 : Int32) (l4 : Int32) (l6 : Int32) (s0 : Int32) (s1 : Int32) : Option (Int32 × St) :=
    (f_Twist_readTurn S (s1 - s0) l6 l1).bind fun w_126 =>
    (f_Twist_repeat w_126 ((w_126 42 8) - 1) l4 l3).bind fun w_139 =>
    f_Twist_read_209 k_19 w_139 l1 l2
set_option maxHeartbeats 4000000 in
set_option maxRecDepth 20000 in
theorem t_Twist_read_122  {k_19 : St → Int32 → Int32 → Option (Int32 × St)} (hk_19 : ∀ (S : St) (l1 : Int32) (l2 : Int32) (w : Int32 × St), k_19 S l1 l2 = some w → G SX m_Twist_read 4 (some w.1) w.2 19 [(0, .ref 42), (1, .int l1), (2, .int l2)] [] S) (S : St) (l1 : Int32) (l2 : Int32) (l3 : Int32) (l4 : Int32) (l6 : Int32) (s0 : Int32) (s1 : Int32) (w : Int32 × St) (h : f_Twist_read_122 k_19 S l1 l2 l3 l4 l6 s0 s1 = some w) : G SX m_Twist_read 4 (some w.1) w.2 122 [(0, .ref 42), (1, .int l1), (2, .int l2), (3, .int l3), (4, .int l4), (6, .int l6)] [.int s0, .int s1, .ref 42] S := by
  unfold f_Twist_read_122 at h
  refine G_isub d_Twist_read_122 ?_
  refine G_iload 5 rfl d_Twist_read_123 ?_
  refine G_iload_n 1 rfl d_Twist_read_125 ?_
  obtain ⟨w_126, q_126, h⟩ := ob_b h
  refine G_callV [.int (s1 - s0), .int l6, .int l1] [] (t_Twist_readTurn q_126) (by decide) (by decide) mv_Twist_readTurn rfl ml_Twist_60 kx_42 sx_42 cl_9 rfl (Nat.le_of_ble_eq_true rfl) d_Twist_read_126 ?_
  refine G_aload_n 0 rfl d_Twist_read_129 ?_
  refine G_aload_n 0 rfl d_Twist_read_130 ?_
  refine G_getI fl_Twist_34 kx_42 sx_42 rfl d_Twist_read_131 ?_
  refine G_iconst 1 (by decide) d_Twist_read_134 ?_
  refine G_isub d_Twist_read_135 ?_
  refine G_iload 4 rfl d_Twist_read_136 ?_
  refine G_iload_n 3 rfl d_Twist_read_138 ?_
  obtain ⟨w_139, q_139, h⟩ := ob_b h
  refine G_callV [.int ((w_126 42 8) - 1), .int l4, .int l3] [] (t_Twist_repeat q_139) (by decide) (by decide) mv_Twist_repeat rfl ml_Twist_64 kx_42 sx_42 cl_9 rfl (Nat.le_of_ble_eq_true rfl) d_Twist_read_139 ?_
  refine G_goto 209 (by decide) d_Twist_read_142 ?_
  exact G_sub _ [0, 1, 2] rfl (t_Twist_read_209 hk_19 w_139 l1 l2 _ h)
def f_Twist_read_107 (k_19 : St → Int32 → Int32 → Option (Int32 × St)) (S : St) (l1 : Int32) (l2 : Int32) (l3 : Int32) (l4 : Int32) (l5 : Int32) (l6 : Int32) : Option (Int32 × St) :=
    if l6 = 0 then (
    f_Twist_read_122 k_19 S l1 l2 l3 l4 l6 (65 : Int32) l5)
    else (
    f_Twist_read_122 k_19 S l1 l2 l3 l4 l6 (97 : Int32) l5)
set_option maxHeartbeats 4000000 in
set_option maxRecDepth 20000 in
theorem t_Twist_read_107  {k_19 : St → Int32 → Int32 → Option (Int32 × St)} (hk_19 : ∀ (S : St) (l1 : Int32) (l2 : Int32) (w : Int32 × St), k_19 S l1 l2 = some w → G SX m_Twist_read 4 (some w.1) w.2 19 [(0, .ref 42), (1, .int l1), (2, .int l2)] [] S) (S : St) (l1 : Int32) (l2 : Int32) (l3 : Int32) (l4 : Int32) (l5 : Int32) (l6 : Int32) (w : Int32 × St) (h : f_Twist_read_107 k_19 S l1 l2 l3 l4 l5 l6 = some w) : G SX m_Twist_read 4 (some w.1) w.2 107 [(0, .ref 42), (1, .int l1), (2, .int l2), (3, .int l3), (4, .int l4), (5, .int l5), (6, .int l6)] [] S := by
  unfold f_Twist_read_107 at h
  refine G_aload_n 0 rfl d_Twist_read_107 ?_
  refine G_iload 5 rfl d_Twist_read_108 ?_
  refine G_iload 6 rfl d_Twist_read_110 ?_
  refine G_if_eq 120 (by decide) d_Twist_read_112 (fun c_112 => ?_) (fun c_112 => ?_)
  · replace h := ob_t h c_112
    refine G_bipush 65 (by decide) d_Twist_read_120 ?_
    exact G_sub _ [0, 1, 2, 3, 4, 6] rfl (t_Twist_read_122 hk_19 S l1 l2 l3 l4 l6 (65 : Int32) l5 _ h)
  · replace h := ob_f h c_112
    refine G_bipush 97 (by decide) d_Twist_read_115 ?_
    refine G_goto 122 (by decide) d_Twist_read_117 ?_
    exact G_sub _ [0, 1, 2, 3, 4, 6] rfl (t_Twist_read_122 hk_19 S l1 l2 l3 l4 l6 (97 : Int32) l5 _ h)
def f_Twist_read_194 (k_19 : St → Int32 → Int32 → Option (Int32 × St)) (S : St) (l1 : Int32) (l2 : Int32) : Option (Int32 × St) :=
    (f_Reading_fail S (1 : Int32) (S 3 1)).bind fun w_206 =>
    f_Twist_read_209 k_19 w_206 l1 l2
set_option maxHeartbeats 4000000 in
set_option maxRecDepth 20000 in
theorem t_Twist_read_194  {k_19 : St → Int32 → Int32 → Option (Int32 × St)} (hk_19 : ∀ (S : St) (l1 : Int32) (l2 : Int32) (w : Int32 × St), k_19 S l1 l2 = some w → G SX m_Twist_read 4 (some w.1) w.2 19 [(0, .ref 42), (1, .int l1), (2, .int l2)] [] S) (S : St) (l1 : Int32) (l2 : Int32) (w : Int32 × St) (h : f_Twist_read_194 k_19 S l1 l2 = some w) : G SX m_Twist_read 4 (some w.1) w.2 194 [(0, .ref 42), (1, .int l1), (2, .int l2)] [] S := by
  unfold f_Twist_read_194 at h
  refine G_aload_n 0 rfl d_Twist_read_194 ?_
  refine G_getR fl_Twist_37 kx_42 sx_42 rfl (by decide) d_Twist_read_195 ?_
  refine G_iconst 1 (by decide) d_Twist_read_198 ?_
  refine G_aload_n 0 rfl d_Twist_read_199 ?_
  refine G_getR fl_Twist_37 kx_42 sx_42 rfl (by decide) d_Twist_read_200 ?_
  refine G_getI fl_Twist_50 kx_3 sx_3 rfl d_Twist_read_203 ?_
  obtain ⟨w_206, q_206, h⟩ := ob_b h
  refine G_callV [.int 1, .int (S 3 1)] [] (t_Reading_fail q_206) (by decide) (by decide) mv_Reading_fail rfl ml_Twist_75 kx_3 sx_3 cl_4 rfl (Nat.le_of_ble_eq_true rfl) d_Twist_read_206 ?_
  exact G_sub _ [0, 1, 2] rfl (t_Twist_read_209 hk_19 w_206 l1 l2 _ h)
def f_Twist_read_95 (k_19 : St → Int32 → Int32 → Option (Int32 × St)) (S : St) (l1 : Int32) (l2 : Int32) (l3 : Int32) (l4 : Int32) (l5 : Int32) (l6 : Int32) (s0 : Int32) : Option (Int32 × St) :=
    if l6 = 0 then (
    if s0 = 0 then (
    if l5 = 40 then (
    (f_Twist_openGroup S l3 l4).bind fun w_156 =>
    f_Twist_read_209 k_19 w_156 l1 l2)
    else (
    if l5 = 41 then (
    if l3 = (S 3 1) then (
    if (S 42 7) ≤ 0 then (
    f_Twist_read_194 k_19 S l1 l2)
    else (
    (f_Twist_closeGroup S).bind fun w_188 =>
    f_Twist_read_209 k_19 w_188 l1 l2))
    else (
    f_Twist_read_194 k_19 S l1 l2))
    else (
    f_Twist_read_194 k_19 S l1 l2)))
    else (
    f_Twist_read_107 k_19 S l1 l2 l3 l4 l5 l6))
    else (
    f_Twist_read_107 k_19 S l1 l2 l3 l4 l5 l6)
set_option maxHeartbeats 4000000 in
set_option maxRecDepth 20000 in
theorem t_Twist_read_95  {k_19 : St → Int32 → Int32 → Option (Int32 × St)} (hk_19 : ∀ (S : St) (l1 : Int32) (l2 : Int32) (w : Int32 × St), k_19 S l1 l2 = some w → G SX m_Twist_read 4 (some w.1) w.2 19 [(0, .ref 42), (1, .int l1), (2, .int l2)] [] S) (S : St) (l1 : Int32) (l2 : Int32) (l3 : Int32) (l4 : Int32) (l5 : Int32) (l6 : Int32) (s0 : Int32) (w : Int32 × St) (h : f_Twist_read_95 k_19 S l1 l2 l3 l4 l5 l6 s0 = some w) : G SX m_Twist_read 4 (some w.1) w.2 95 [(0, .ref 42), (1, .int l1), (2, .int l2), (3, .int l3), (4, .int l4), (5, .int l5), (6, .int l6)] [.int s0] S := by
  unfold f_Twist_read_95 at h
  refine G_istore [(7, .int s0), (0, .ref 42), (1, .int l1), (2, .int l2), (3, .int l3), (4, .int l4), (5, .int l5), (6, .int l6)] rfl rfl (by decide) d_Twist_read_95 ?_
  refine G_iload 7 rfl d_Twist_read_97 ?_
  refine G_if_ne 107 (by decide) d_Twist_read_99 (fun c_99 => ?_) (fun c_99 => ?_)
  · replace h := ob_f h c_99
    exact G_sub _ [1, 2, 3, 4, 5, 6, 7] rfl (t_Twist_read_107 hk_19 S l1 l2 l3 l4 l5 l6 _ h)
  · replace h := ob_t h c_99
    refine G_iload 0 rfl d_Twist_read_102 ?_
    refine G_if_eq 145 (by decide) d_Twist_read_104 (fun c_104 => ?_) (fun c_104 => ?_)
    · replace h := ob_t h c_104
      refine G_iload 6 rfl d_Twist_read_145 ?_
      refine G_bipush 40 (by decide) d_Twist_read_147 ?_
      refine G_icmp_ne 162 (by decide) d_Twist_read_149 (fun c_149 => ?_) (fun c_149 => ?_)
      · replace h := ob_f h c_149
        refine G_iload 6 rfl d_Twist_read_162 ?_
        refine G_bipush 41 (by decide) d_Twist_read_164 ?_
        refine G_icmp_ne 194 (by decide) d_Twist_read_166 (fun c_166 => ?_) (fun c_166 => ?_)
        · replace h := ob_f h c_166
          exact G_sub _ [1, 2, 3] rfl (t_Twist_read_194 hk_19 S l1 l2 _ h)
        · replace h := ob_t h c_166
          refine G_iload_n 4 rfl d_Twist_read_169 ?_
          refine G_aload_n 1 rfl d_Twist_read_170 ?_
          refine G_getR fl_Twist_37 kx_42 sx_42 rfl (by decide) d_Twist_read_171 ?_
          refine G_getI fl_Twist_50 kx_3 sx_3 rfl d_Twist_read_174 ?_
          refine G_icmp_ne 194 (by decide) d_Twist_read_177 (fun c_177 => ?_) (fun c_177 => ?_)
          · replace h := ob_f h c_177
            exact G_sub _ [1, 2, 3] rfl (t_Twist_read_194 hk_19 S l1 l2 _ h)
          · replace h := ob_t h c_177
            refine G_aload_n 1 rfl d_Twist_read_180 ?_
            refine G_getI fl_Twist_30 kx_42 sx_42 rfl d_Twist_read_181 ?_
            refine G_if_le 194 (by decide) d_Twist_read_184 (fun c_184 => ?_) (fun c_184 => ?_)
            · replace h := ob_t h c_184
              exact G_sub _ [1, 2, 3] rfl (t_Twist_read_194 hk_19 S l1 l2 _ h)
            · replace h := ob_f h c_184
              refine G_aload_n 1 rfl d_Twist_read_187 ?_
              obtain ⟨w_188, q_188, h⟩ := ob_b h
              refine G_callV [] [] (t_Twist_closeGroup q_188) (by decide) (by decide) mv_Twist_closeGroup rfl ml_Twist_72 kx_42 sx_42 cl_9 rfl (Nat.le_of_ble_eq_true rfl) d_Twist_read_188 ?_
              refine G_goto 209 (by decide) d_Twist_read_191 ?_
              exact G_sub _ [1, 2, 3] rfl (t_Twist_read_209 hk_19 w_188 l1 l2 _ h)
      · replace h := ob_t h c_149
        refine G_aload_n 1 rfl d_Twist_read_152 ?_
        refine G_iload_n 4 rfl d_Twist_read_153 ?_
        refine G_iload 5 rfl d_Twist_read_154 ?_
        obtain ⟨w_156, q_156, h⟩ := ob_b h
        refine G_callV [.int l3, .int l4] [] (t_Twist_openGroup q_156) (by decide) (by decide) mv_Twist_openGroup rfl ml_Twist_68 kx_42 sx_42 cl_9 rfl (Nat.le_of_ble_eq_true rfl) d_Twist_read_156 ?_
        refine G_goto 209 (by decide) d_Twist_read_159 ?_
        exact G_sub _ [1, 2, 3] rfl (t_Twist_read_209 hk_19 w_156 l1 l2 _ h)
    · replace h := ob_f h c_104
      exact G_sub _ [1, 2, 3, 4, 5, 6, 7] rfl (t_Twist_read_107 hk_19 S l1 l2 l3 l4 l5 l6 _ h)
def f_Twist_read_94 (k_19 : St → Int32 → Int32 → Option (Int32 × St)) (S : St) (l1 : Int32) (l2 : Int32) (l3 : Int32) (l4 : Int32) (l5 : Int32) (l6 : Int32) : Option (Int32 × St) :=
    f_Twist_read_95 k_19 S l1 l2 l3 l4 l5 l6 (0 : Int32)
set_option maxHeartbeats 4000000 in
set_option maxRecDepth 20000 in
theorem t_Twist_read_94  {k_19 : St → Int32 → Int32 → Option (Int32 × St)} (hk_19 : ∀ (S : St) (l1 : Int32) (l2 : Int32) (w : Int32 × St), k_19 S l1 l2 = some w → G SX m_Twist_read 4 (some w.1) w.2 19 [(0, .ref 42), (1, .int l1), (2, .int l2)] [] S) (S : St) (l1 : Int32) (l2 : Int32) (l3 : Int32) (l4 : Int32) (l5 : Int32) (l6 : Int32) (w : Int32 × St) (h : f_Twist_read_94 k_19 S l1 l2 l3 l4 l5 l6 = some w) : G SX m_Twist_read 4 (some w.1) w.2 94 [(0, .ref 42), (1, .int l1), (2, .int l2), (3, .int l3), (4, .int l4), (5, .int l5), (6, .int l6)] [] S := by
  unfold f_Twist_read_94 at h
  refine G_iconst 0 (by decide) d_Twist_read_94 ?_
  exact G_sub _ [0, 1, 2, 3, 4, 5, 6] rfl (t_Twist_read_95 hk_19 S l1 l2 l3 l4 l5 l6 (0 : Int32) _ h)
def f_Twist_read_74 (k_19 : St → Int32 → Int32 → Option (Int32 × St)) (S : St) (l1 : Int32) (l2 : Int32) (l3 : Int32) (l4 : Int32) (l5 : Int32) (s0 : Int32) : Option (Int32 × St) :=
    if l5 < 65 then (
    f_Twist_read_94 k_19 S l1 l2 l3 l4 l5 s0)
    else (
    if (71 : Int32) < l5 then (
    f_Twist_read_94 k_19 S l1 l2 l3 l4 l5 s0)
    else (
    f_Twist_read_95 k_19 S l1 l2 l3 l4 l5 s0 (1 : Int32)))
set_option maxHeartbeats 4000000 in
set_option maxRecDepth 20000 in
theorem t_Twist_read_74  {k_19 : St → Int32 → Int32 → Option (Int32 × St)} (hk_19 : ∀ (S : St) (l1 : Int32) (l2 : Int32) (w : Int32 × St), k_19 S l1 l2 = some w → G SX m_Twist_read 4 (some w.1) w.2 19 [(0, .ref 42), (1, .int l1), (2, .int l2)] [] S) (S : St) (l1 : Int32) (l2 : Int32) (l3 : Int32) (l4 : Int32) (l5 : Int32) (s0 : Int32) (w : Int32 × St) (h : f_Twist_read_74 k_19 S l1 l2 l3 l4 l5 s0 = some w) : G SX m_Twist_read 4 (some w.1) w.2 74 [(0, .ref 42), (1, .int l1), (2, .int l2), (3, .int l3), (4, .int l4), (5, .int l5)] [.int s0] S := by
  unfold f_Twist_read_74 at h
  refine G_istore [(6, .int s0), (0, .ref 42), (1, .int l1), (2, .int l2), (3, .int l3), (4, .int l4), (5, .int l5)] rfl rfl (by decide) d_Twist_read_74 ?_
  refine G_iload 6 rfl d_Twist_read_76 ?_
  refine G_bipush 65 (by decide) d_Twist_read_78 ?_
  refine G_icmp_lt 94 (by decide) d_Twist_read_80 (fun c_80 => ?_) (fun c_80 => ?_)
  · replace h := ob_t h c_80
    exact G_sub _ [1, 2, 3, 4, 5, 6, 0] rfl (t_Twist_read_94 hk_19 S l1 l2 l3 l4 l5 s0 _ h)
  · replace h := ob_f h c_80
    refine G_iload 6 rfl d_Twist_read_83 ?_
    refine G_bipush 71 (by decide) d_Twist_read_85 ?_
    refine G_icmp_gt 94 (by decide) d_Twist_read_87 (fun c_87 => ?_) (fun c_87 => ?_)
    · replace h := ob_t h c_87
      exact G_sub _ [1, 2, 3, 4, 5, 6, 0] rfl (t_Twist_read_94 hk_19 S l1 l2 l3 l4 l5 s0 _ h)
    · replace h := ob_f h c_87
      refine G_iconst 1 (by decide) d_Twist_read_90 ?_
      refine G_goto 95 (by decide) d_Twist_read_91 ?_
      exact G_sub _ [1, 2, 3, 4, 5, 6, 0] rfl (t_Twist_read_95 hk_19 S l1 l2 l3 l4 l5 s0 (1 : Int32) _ h)
def f_Twist_read_73 (k_19 : St → Int32 → Int32 → Option (Int32 × St)) (S : St) (l1 : Int32) (l2 : Int32) (l3 : Int32) (l4 : Int32) (l5 : Int32) : Option (Int32 × St) :=
    f_Twist_read_74 k_19 S l1 l2 l3 l4 l5 (0 : Int32)
set_option maxHeartbeats 4000000 in
set_option maxRecDepth 20000 in
theorem t_Twist_read_73  {k_19 : St → Int32 → Int32 → Option (Int32 × St)} (hk_19 : ∀ (S : St) (l1 : Int32) (l2 : Int32) (w : Int32 × St), k_19 S l1 l2 = some w → G SX m_Twist_read 4 (some w.1) w.2 19 [(0, .ref 42), (1, .int l1), (2, .int l2)] [] S) (S : St) (l1 : Int32) (l2 : Int32) (l3 : Int32) (l4 : Int32) (l5 : Int32) (w : Int32 × St) (h : f_Twist_read_73 k_19 S l1 l2 l3 l4 l5 = some w) : G SX m_Twist_read 4 (some w.1) w.2 73 [(0, .ref 42), (1, .int l1), (2, .int l2), (3, .int l3), (4, .int l4), (5, .int l5)] [] S := by
  unfold f_Twist_read_73 at h
  refine G_iconst 0 (by decide) d_Twist_read_73 ?_
  exact G_sub _ [0, 1, 2, 3, 4, 5] rfl (t_Twist_read_74 hk_19 S l1 l2 l3 l4 l5 (0 : Int32) _ h)
def f_Twist_read_215 (S : St) : Option (Int32 × St) :=
    if (S 42 7) ≤ 0 then (
    some ((S 3 2), S))
    else (
    (f_Reading_fail S (1 : Int32) (S 3 1)).bind fun w_234 =>
    some ((w_234 3 2), w_234))
set_option maxHeartbeats 4000000 in
set_option maxRecDepth 20000 in
theorem t_Twist_read_215  (S : St) (w : Int32 × St) (h : f_Twist_read_215 S = some w) : G SX m_Twist_read 4 (some w.1) w.2 215 [(0, .ref 42)] [] S := by
  unfold f_Twist_read_215 at h
  refine G_aload_n 0 rfl d_Twist_read_215 ?_
  refine G_getI fl_Twist_30 kx_42 sx_42 rfl d_Twist_read_216 ?_
  refine G_if_le 237 (by decide) d_Twist_read_219 (fun c_219 => ?_) (fun c_219 => ?_)
  · replace h := ob_t h c_219
    refine G_aload_n 0 rfl d_Twist_read_237 ?_
    refine G_getR fl_Twist_37 kx_42 sx_42 rfl (by decide) d_Twist_read_238 ?_
    refine G_getI fl_Twist_78 kx_3 sx_3 rfl d_Twist_read_241 ?_
    cases h
    exact G_iret rfl d_Twist_read_244
  · replace h := ob_f h c_219
    refine G_aload_n 0 rfl d_Twist_read_222 ?_
    refine G_getR fl_Twist_37 kx_42 sx_42 rfl (by decide) d_Twist_read_223 ?_
    refine G_iconst 1 (by decide) d_Twist_read_226 ?_
    refine G_aload_n 0 rfl d_Twist_read_227 ?_
    refine G_getR fl_Twist_37 kx_42 sx_42 rfl (by decide) d_Twist_read_228 ?_
    refine G_getI fl_Twist_50 kx_3 sx_3 rfl d_Twist_read_231 ?_
    obtain ⟨w_234, q_234, h⟩ := ob_b h
    refine G_callV [.int 1, .int (S 3 1)] [] (t_Reading_fail q_234) (by decide) (by decide) mv_Reading_fail rfl ml_Twist_75 kx_3 sx_3 cl_4 rfl (Nat.le_of_ble_eq_true rfl) d_Twist_read_234 ?_
    refine G_aload_n 0 rfl d_Twist_read_237 ?_
    refine G_getR fl_Twist_37 kx_42 sx_42 rfl (by decide) d_Twist_read_238 ?_
    refine G_getI fl_Twist_78 kx_3 sx_3 rfl d_Twist_read_241 ?_
    cases h
    exact G_iret rfl d_Twist_read_244
def f_Twist_read_19 : Nat → St → Int32 → Int32 → Option (Int32 × St)
  | 0, _, _, _ => none
  | n + 1, S, l1, l2 =>
    if (80 : Int32) ≤ l2 then (
    f_Twist_read_215 S)
    else (
    (f_Twist_ends S).bind fun v_26 =>
    if v_26 = 0 then (
    (some (S 3 1)).bind fun l3_39 =>
    (f_Twist_readTimes S).bind fun w_41 =>
    (some w_41.1).bind fun l4_44 =>
    (f_Reading_sign w_41.2).bind fun v_50 =>
    if v_50 < 97 then (
    f_Twist_read_73 (f_Twist_read_19 n) w_41.2 l1 l2 l3_39 l4_44 v_50)
    else (
    if (103 : Int32) < v_50 then (
    f_Twist_read_73 (f_Twist_read_19 n) w_41.2 l1 l2 l3_39 l4_44 v_50)
    else (
    f_Twist_read_74 (f_Twist_read_19 n) w_41.2 l1 l2 l3_39 l4_44 v_50 (1 : Int32))))
    else (
    f_Twist_read_215 S))
set_option maxHeartbeats 4000000 in
set_option maxRecDepth 20000 in
theorem t_Twist_read_19  : ∀ (n : Nat) (S : St) (l1 : Int32) (l2 : Int32) (w : Int32 × St), f_Twist_read_19 n S l1 l2 = some w → G SX m_Twist_read 4 (some w.1) w.2 19 [(0, .ref 42), (1, .int l1), (2, .int l2)] [] S := by
  intro n
  induction n with
  | zero =>
    intro S l1 l2 w h
    rw [f_Twist_read_19] at h
    cases h
  | succ n ih =>
    intro S l1 l2 w h
    rw [f_Twist_read_19] at h
    refine G_iload_n 2 rfl d_Twist_read_19 ?_
    refine G_bipush 80 (by decide) d_Twist_read_20 ?_
    refine G_icmp_ge 215 (by decide) d_Twist_read_22 (fun c_22 => ?_) (fun c_22 => ?_)
    · replace h := ob_t h c_22
      exact G_sub _ [0] rfl (t_Twist_read_215 S _ h)
    · replace h := ob_f h c_22
      refine G_aload_n 0 rfl d_Twist_read_25 ?_
      obtain ⟨v_26, q_26, h⟩ := ob_b h
      refine G_callV [] [] (t_Twist_ends q_26) (by decide) (by decide) mv_Twist_ends rfl ml_Twist_46 kx_42 sx_42 cl_9 rfl (Nat.le_of_ble_eq_true rfl) d_Twist_read_26 ?_
      refine G_if_ne 215 (by decide) d_Twist_read_29 (fun c_29 => ?_) (fun c_29 => ?_)
      · replace h := ob_f h c_29
        exact G_sub _ [0] rfl (t_Twist_read_215 S _ h)
      · replace h := ob_t h c_29
        refine G_aload_n 0 rfl d_Twist_read_32 ?_
        refine G_getR fl_Twist_37 kx_42 sx_42 rfl (by decide) d_Twist_read_33 ?_
        refine G_getI fl_Twist_50 kx_3 sx_3 rfl d_Twist_read_36 ?_
        obtain ⟨l3_39, e_39, h⟩ := ob_s h
        refine G_istore_n [(3, .int l3_39), (0, .ref 42), (1, .int l1), (2, .int l2)] e_39 rfl (by decide) d_Twist_read_39 ?_
        refine G_aload_n 1 rfl d_Twist_read_40 ?_
        obtain ⟨w_41, q_41, h⟩ := ob_b h
        refine G_callV [] [] (t_Twist_readTimes q_41) (by decide) (by decide) mv_Twist_readTimes rfl ml_Twist_53 kx_42 sx_42 cl_9 rfl (Nat.le_of_ble_eq_true rfl) d_Twist_read_41 ?_
        obtain ⟨l4_44, e_44, h⟩ := ob_s h
        refine G_istore [(4, .int l4_44), (3, .int l3_39), (0, .ref 42), (1, .int l1), (2, .int l2)] e_44 rfl (by decide) d_Twist_read_44 ?_
        refine G_aload_n 2 rfl d_Twist_read_46 ?_
        refine G_getR fl_Twist_37 kx_42 sx_42 rfl (by decide) d_Twist_read_47 ?_
        obtain ⟨v_50, q_50, h⟩ := ob_b h
        refine G_callV [] [] (t_Reading_sign q_50) (by decide) (by decide) mv_Reading_sign rfl ml_Twist_57 kx_3 sx_3 cl_4 rfl (Nat.le_of_ble_eq_true rfl) d_Twist_read_50 ?_
        refine G_istore [(5, .int v_50), (4, .int l4_44), (3, .int l3_39), (0, .ref 42), (1, .int l1), (2, .int l2)] rfl rfl (by decide) d_Twist_read_53 ?_
        refine G_iload 0 rfl d_Twist_read_55 ?_
        refine G_bipush 97 (by decide) d_Twist_read_57 ?_
        refine G_icmp_lt 73 (by decide) d_Twist_read_59 (fun c_59 => ?_) (fun c_59 => ?_)
        · replace h := ob_t h c_59
          exact G_sub _ [3, 4, 5, 2, 1, 0] rfl (t_Twist_read_73 ih w_41.2 l1 l2 l3_39 l4_44 v_50 _ h)
        · replace h := ob_f h c_59
          refine G_iload 0 rfl d_Twist_read_62 ?_
          refine G_bipush 103 (by decide) d_Twist_read_64 ?_
          refine G_icmp_gt 73 (by decide) d_Twist_read_66 (fun c_66 => ?_) (fun c_66 => ?_)
          · replace h := ob_t h c_66
            exact G_sub _ [3, 4, 5, 2, 1, 0] rfl (t_Twist_read_73 ih w_41.2 l1 l2 l3_39 l4_44 v_50 _ h)
          · replace h := ob_f h c_66
            refine G_iconst 1 (by decide) d_Twist_read_69 ?_
            refine G_goto 74 (by decide) d_Twist_read_70 ?_
            exact G_sub _ [3, 4, 5, 2, 1, 0] rfl (t_Twist_read_74 ih w_41.2 l1 l2 l3_39 l4_44 v_50 (1 : Int32) _ h)
def f_Twist_read (S : St) (l1 : Int32) : Option (Int32 × St) :=
    (f_Reading_begin S).bind fun w_4 =>
    (some (sF w_4 42 8 0)).bind fun S_9 =>
    (some (sF S_9 42 7 0)).bind fun S_14 =>
    (some (0 : Int32)).bind fun l2_18 =>
    f_Twist_read_19 FU S_14 l1 l2_18
set_option maxHeartbeats 4000000 in
set_option maxRecDepth 20000 in
theorem t_Twist_read  {S : St} {l1 : Int32} {w : Int32 × St} (h : f_Twist_read S l1 = some w) : Ct SX m_Twist_read 4 [.ref 42, .int l1] S (some w.1) w.2 := by
  unfold f_Twist_read at h
  refine Ct.of pn_Twist (Nat.le_of_ble_eq_true rfl) ?_
  show G SX m_Twist_read 4 (some w.1) w.2 0 [(0, .ref 42), (1, .int l1)] [] S
  refine G_aload_n 0 rfl d_Twist_read_0 ?_
  refine G_getR fl_Twist_37 kx_42 sx_42 rfl (by decide) d_Twist_read_1 ?_
  obtain ⟨w_4, q_4, h⟩ := ob_b h
  refine G_callV [] [] (t_Reading_begin q_4) (by decide) (by decide) mv_Reading_begin rfl ml_Twist_41 kx_3 sx_3 cl_4 rfl (Nat.le_of_ble_eq_true rfl) d_Twist_read_4 ?_
  refine G_aload_n 0 rfl d_Twist_read_7 ?_
  refine G_iconst 0 (by decide) d_Twist_read_8 ?_
  obtain ⟨S_9, e_9, h⟩ := ob_s h
  refine G_putI e_9 fp_Twist_34 kx_42 sx_42 rfl d_Twist_read_9 ?_
  refine G_aload_n 0 rfl d_Twist_read_12 ?_
  refine G_iconst 0 (by decide) d_Twist_read_13 ?_
  obtain ⟨S_14, e_14, h⟩ := ob_s h
  refine G_putI e_14 fp_Twist_30 kx_42 sx_42 rfl d_Twist_read_14 ?_
  refine G_iconst 0 (by decide) d_Twist_read_17 ?_
  obtain ⟨l2_18, e_18, h⟩ := ob_s h
  refine G_istore_n [(2, .int l2_18), (0, .ref 42), (1, .int l1)] e_18 rfl (by decide) d_Twist_read_18 ?_
  exact G_sub _ [1, 2, 0] rfl (t_Twist_read_19 FU S_14 l1 l2_18 _ h)
theorem d_Twist_oversLessUnders_0 : decode m_Twist_oversLessUnders.2.1 0 = .ok (.iconst 0, 1) := by decide +kernel
theorem d_Twist_oversLessUnders_1 : decode m_Twist_oversLessUnders.2.1 1 = .ok (.istore_n 1, 1) := by decide +kernel
theorem d_Twist_oversLessUnders_2 : decode m_Twist_oversLessUnders.2.1 2 = .ok (.iconst 0, 1) := by decide +kernel
theorem d_Twist_oversLessUnders_3 : decode m_Twist_oversLessUnders.2.1 3 = .ok (.istore_n 2, 1) := by decide +kernel
theorem d_Twist_oversLessUnders_4 : decode m_Twist_oversLessUnders.2.1 4 = .ok (.iload_n 2, 1) := by decide +kernel
theorem d_Twist_oversLessUnders_5 : decode m_Twist_oversLessUnders.2.1 5 = .ok (.aload_n 0, 1) := by decide +kernel
theorem d_Twist_oversLessUnders_6 : decode m_Twist_oversLessUnders.2.1 6 = .ok (.getfield 34, 3) := by decide +kernel
theorem d_Twist_oversLessUnders_9 : decode m_Twist_oversLessUnders.2.1 9 = .ok (.if_icmp .ge 32, 3) := by decide +kernel
theorem d_Twist_oversLessUnders_12 : decode m_Twist_oversLessUnders.2.1 12 = .ok (.iload_n 2, 1) := by decide +kernel
theorem d_Twist_oversLessUnders_13 : decode m_Twist_oversLessUnders.2.1 13 = .ok (.bipush 64, 2) := by decide +kernel
theorem d_Twist_oversLessUnders_15 : decode m_Twist_oversLessUnders.2.1 15 = .ok (.if_icmp .ge 26, 3) := by decide +kernel
theorem d_Twist_oversLessUnders_18 : decode m_Twist_oversLessUnders.2.1 18 = .ok (.iload_n 1, 1) := by decide +kernel
theorem d_Twist_oversLessUnders_19 : decode m_Twist_oversLessUnders.2.1 19 = .ok (.aload_n 0, 1) := by decide +kernel
theorem d_Twist_oversLessUnders_20 : decode m_Twist_oversLessUnders.2.1 20 = .ok (.getfield 11, 3) := by decide +kernel
theorem d_Twist_oversLessUnders_23 : decode m_Twist_oversLessUnders.2.1 23 = .ok (.iload_n 2, 1) := by decide +kernel
theorem d_Twist_oversLessUnders_24 : decode m_Twist_oversLessUnders.2.1 24 = .ok (.iaload, 1) := by decide +kernel
theorem d_Twist_oversLessUnders_25 : decode m_Twist_oversLessUnders.2.1 25 = .ok (.ifCond .le 7, 3) := by decide +kernel
theorem d_Twist_oversLessUnders_28 : decode m_Twist_oversLessUnders.2.1 28 = .ok (.iconst 1, 1) := by decide +kernel
theorem d_Twist_oversLessUnders_29 : decode m_Twist_oversLessUnders.2.1 29 = .ok (.goto 4, 3) := by decide +kernel
theorem d_Twist_oversLessUnders_32 : decode m_Twist_oversLessUnders.2.1 32 = .ok (.iconst (-1), 1) := by decide +kernel
theorem d_Twist_oversLessUnders_33 : decode m_Twist_oversLessUnders.2.1 33 = .ok (.iadd, 1) := by decide +kernel
theorem d_Twist_oversLessUnders_34 : decode m_Twist_oversLessUnders.2.1 34 = .ok (.istore_n 1, 1) := by decide +kernel
theorem d_Twist_oversLessUnders_35 : decode m_Twist_oversLessUnders.2.1 35 = .ok (.iinc 2 1, 3) := by decide +kernel
theorem d_Twist_oversLessUnders_38 : decode m_Twist_oversLessUnders.2.1 38 = .ok (.goto (-34), 3) := by decide +kernel
theorem d_Twist_oversLessUnders_41 : decode m_Twist_oversLessUnders.2.1 41 = .ok (.iload_n 1, 1) := by decide +kernel
theorem d_Twist_oversLessUnders_42 : decode m_Twist_oversLessUnders.2.1 42 = .ok (.ireturn, 1) := by decide +kernel
def f_Twist_oversLessUnders_33 (k_4 : St → Int32 → Int32 → Option (Int32)) (S : St) (l2 : Int32) (s0 : Int32) (s1 : Int32) : Option (Int32) :=
    (some (s1 + s0)).bind fun l1_34 =>
    (some (l2 + 1)).bind fun l2_35 =>
    k_4 S l1_34 l2_35
set_option maxHeartbeats 4000000 in
set_option maxRecDepth 20000 in
theorem t_Twist_oversLessUnders_33  {k_4 : St → Int32 → Int32 → Option (Int32)} (hk_4 : ∀ (S : St) (l1 : Int32) (l2 : Int32) (w : Int32), k_4 S l1 l2 = some w → G SX m_Twist_oversLessUnders 1 (some w) S 4 [(0, .ref 42), (1, .int l1), (2, .int l2)] [] S) (S : St) (l2 : Int32) (s0 : Int32) (s1 : Int32) (w : Int32) (h : f_Twist_oversLessUnders_33 k_4 S l2 s0 s1 = some w) : G SX m_Twist_oversLessUnders 1 (some w) S 33 [(0, .ref 42), (2, .int l2)] [.int s0, .int s1] S := by
  unfold f_Twist_oversLessUnders_33 at h
  refine G_iadd d_Twist_oversLessUnders_33 ?_
  obtain ⟨l1_34, e_34, h⟩ := ob_s h
  refine G_istore_n [(1, .int l1_34), (0, .ref 42), (2, .int l2)] e_34 rfl (by decide) d_Twist_oversLessUnders_34 ?_
  obtain ⟨l2_35, e_35, h⟩ := ob_s h
  refine G_iinc 1 2 [(2, .int l2_35), (1, .int l1_34), (0, .ref 42)] (by decide) rfl e_35 rfl (by decide) d_Twist_oversLessUnders_35 ?_
  refine G_goto 4 (by decide) d_Twist_oversLessUnders_38 ?_
  exact G_sub _ [2, 1, 0] rfl (hk_4 S l1_34 l2_35 _ h)
def f_Twist_oversLessUnders_4 : Nat → St → Int32 → Int32 → Option (Int32)
  | 0, _, _, _ => none
  | n + 1, S, l1, l2 =>
    if (S 42 8) ≤ l2 then (
    some l1)
    else (
    if (64 : Int32) ≤ l2 then (
    some l1)
    else (
    if ig l2 64 then (
    if (S 43 l2.toNatClampNeg) ≤ 0 then (
    f_Twist_oversLessUnders_33 (f_Twist_oversLessUnders_4 n) S l2 ((-1) : Int32) l1)
    else (
    f_Twist_oversLessUnders_33 (f_Twist_oversLessUnders_4 n) S l2 (1 : Int32) l1)) else none))
set_option maxHeartbeats 4000000 in
set_option maxRecDepth 20000 in
theorem t_Twist_oversLessUnders_4  : ∀ (n : Nat) (S : St) (l1 : Int32) (l2 : Int32) (w : Int32), f_Twist_oversLessUnders_4 n S l1 l2 = some w → G SX m_Twist_oversLessUnders 1 (some w) S 4 [(0, .ref 42), (1, .int l1), (2, .int l2)] [] S := by
  intro n
  induction n with
  | zero =>
    intro S l1 l2 w h
    rw [f_Twist_oversLessUnders_4] at h
    cases h
  | succ n ih =>
    intro S l1 l2 w h
    rw [f_Twist_oversLessUnders_4] at h
    refine G_iload_n 2 rfl d_Twist_oversLessUnders_4 ?_
    refine G_aload_n 0 rfl d_Twist_oversLessUnders_5 ?_
    refine G_getI fl_Twist_34 kx_42 sx_42 rfl d_Twist_oversLessUnders_6 ?_
    refine G_icmp_ge 41 (by decide) d_Twist_oversLessUnders_9 (fun c_9 => ?_) (fun c_9 => ?_)
    · replace h := ob_t h c_9
      refine G_iload_n 1 rfl d_Twist_oversLessUnders_41 ?_
      cases h
      exact G_iret rfl d_Twist_oversLessUnders_42
    · replace h := ob_f h c_9
      refine G_iload_n 2 rfl d_Twist_oversLessUnders_12 ?_
      refine G_bipush 64 (by decide) d_Twist_oversLessUnders_13 ?_
      refine G_icmp_ge 41 (by decide) d_Twist_oversLessUnders_15 (fun c_15 => ?_) (fun c_15 => ?_)
      · replace h := ob_t h c_15
        refine G_iload_n 1 rfl d_Twist_oversLessUnders_41 ?_
        cases h
        exact G_iret rfl d_Twist_oversLessUnders_42
      · replace h := ob_f h c_15
        refine G_iload_n 1 rfl d_Twist_oversLessUnders_18 ?_
        refine G_aload_n 0 rfl d_Twist_oversLessUnders_19 ?_
        refine G_getR fl_Twist_11 kx_42 sx_42 rfl (by decide) d_Twist_oversLessUnders_20 ?_
        refine G_iload_n 2 rfl d_Twist_oversLessUnders_23 ?_
        obtain ⟨g_24, h⟩ := ob_g h
        refine G_iaload kx_43 sx_43 g_24 d_Twist_oversLessUnders_24 ?_
        refine G_if_le 32 (by decide) d_Twist_oversLessUnders_25 (fun c_25 => ?_) (fun c_25 => ?_)
        · replace h := ob_t h c_25
          refine G_iconst (-1) (by decide) d_Twist_oversLessUnders_32 ?_
          exact G_sub _ [0, 2] rfl (t_Twist_oversLessUnders_33 ih S l2 ((-1) : Int32) l1 _ h)
        · replace h := ob_f h c_25
          refine G_iconst 1 (by decide) d_Twist_oversLessUnders_28 ?_
          refine G_goto 33 (by decide) d_Twist_oversLessUnders_29 ?_
          exact G_sub _ [0, 2] rfl (t_Twist_oversLessUnders_33 ih S l2 (1 : Int32) l1 _ h)
def f_Twist_oversLessUnders (S : St) : Option (Int32) :=
    (some (0 : Int32)).bind fun l1_1 =>
    (some (0 : Int32)).bind fun l2_3 =>
    f_Twist_oversLessUnders_4 FU S l1_1 l2_3
set_option maxHeartbeats 4000000 in
set_option maxRecDepth 20000 in
theorem t_Twist_oversLessUnders  {S : St} {w : Int32} (h : f_Twist_oversLessUnders S = some w) : Ct SX m_Twist_oversLessUnders 1 [.ref 42] S (some w) S := by
  unfold f_Twist_oversLessUnders at h
  refine Ct.of pn_Twist (Nat.le_of_ble_eq_true rfl) ?_
  show G SX m_Twist_oversLessUnders 1 (some w) S 0 [(0, .ref 42)] [] S
  refine G_iconst 0 (by decide) d_Twist_oversLessUnders_0 ?_
  obtain ⟨l1_1, e_1, h⟩ := ob_s h
  refine G_istore_n [(1, .int l1_1), (0, .ref 42)] e_1 rfl (by decide) d_Twist_oversLessUnders_1 ?_
  refine G_iconst 0 (by decide) d_Twist_oversLessUnders_2 ?_
  obtain ⟨l2_3, e_3, h⟩ := ob_s h
  refine G_istore_n [(2, .int l2_3), (1, .int l1_1), (0, .ref 42)] e_3 rfl (by decide) d_Twist_oversLessUnders_3 ?_
  exact G_sub _ [2, 1, 0] rfl (t_Twist_oversLessUnders_4 FU S l1_1 l2_3 _ h)
theorem d_Twist_turnsLeft_0 : decode m_Twist_turnsLeft.2.1 0 = .ok (.iconst 0, 1) := by decide +kernel
theorem d_Twist_turnsLeft_1 : decode m_Twist_turnsLeft.2.1 1 = .ok (.istore_n 1, 1) := by decide +kernel
theorem d_Twist_turnsLeft_2 : decode m_Twist_turnsLeft.2.1 2 = .ok (.iconst 0, 1) := by decide +kernel
theorem d_Twist_turnsLeft_3 : decode m_Twist_turnsLeft.2.1 3 = .ok (.istore_n 2, 1) := by decide +kernel
theorem d_Twist_turnsLeft_4 : decode m_Twist_turnsLeft.2.1 4 = .ok (.iload_n 2, 1) := by decide +kernel
theorem d_Twist_turnsLeft_5 : decode m_Twist_turnsLeft.2.1 5 = .ok (.aload_n 0, 1) := by decide +kernel
theorem d_Twist_turnsLeft_6 : decode m_Twist_turnsLeft.2.1 6 = .ok (.getfield 34, 3) := by decide +kernel
theorem d_Twist_turnsLeft_9 : decode m_Twist_turnsLeft.2.1 9 = .ok (.if_icmp .ge 58, 3) := by decide +kernel
theorem d_Twist_turnsLeft_12 : decode m_Twist_turnsLeft.2.1 12 = .ok (.iload_n 2, 1) := by decide +kernel
theorem d_Twist_turnsLeft_13 : decode m_Twist_turnsLeft.2.1 13 = .ok (.bipush 64, 2) := by decide +kernel
theorem d_Twist_turnsLeft_15 : decode m_Twist_turnsLeft.2.1 15 = .ok (.if_icmp .ge 52, 3) := by decide +kernel
theorem d_Twist_turnsLeft_18 : decode m_Twist_turnsLeft.2.1 18 = .ok (.iload_n 1, 1) := by decide +kernel
theorem d_Twist_turnsLeft_19 : decode m_Twist_turnsLeft.2.1 19 = .ok (.ifCond .le 27, 3) := by decide +kernel
theorem d_Twist_turnsLeft_22 : decode m_Twist_turnsLeft.2.1 22 = .ok (.aload_n 0, 1) := by decide +kernel
theorem d_Twist_turnsLeft_23 : decode m_Twist_turnsLeft.2.1 23 = .ok (.getfield 15, 3) := by decide +kernel
theorem d_Twist_turnsLeft_26 : decode m_Twist_turnsLeft.2.1 26 = .ok (.iload_n 1, 1) := by decide +kernel
theorem d_Twist_turnsLeft_27 : decode m_Twist_turnsLeft.2.1 27 = .ok (.iconst 1, 1) := by decide +kernel
theorem d_Twist_turnsLeft_28 : decode m_Twist_turnsLeft.2.1 28 = .ok (.isub, 1) := by decide +kernel
theorem d_Twist_turnsLeft_29 : decode m_Twist_turnsLeft.2.1 29 = .ok (.iaload, 1) := by decide +kernel
theorem d_Twist_turnsLeft_30 : decode m_Twist_turnsLeft.2.1 30 = .ok (.aload_n 0, 1) := by decide +kernel
theorem d_Twist_turnsLeft_31 : decode m_Twist_turnsLeft.2.1 31 = .ok (.getfield 11, 3) := by decide +kernel
theorem d_Twist_turnsLeft_34 : decode m_Twist_turnsLeft.2.1 34 = .ok (.iload_n 2, 1) := by decide +kernel
theorem d_Twist_turnsLeft_35 : decode m_Twist_turnsLeft.2.1 35 = .ok (.iaload, 1) := by decide +kernel
theorem d_Twist_turnsLeft_36 : decode m_Twist_turnsLeft.2.1 36 = .ok (.ineg, 1) := by decide +kernel
theorem d_Twist_turnsLeft_37 : decode m_Twist_turnsLeft.2.1 37 = .ok (.if_icmp .ne 9, 3) := by decide +kernel
theorem d_Twist_turnsLeft_40 : decode m_Twist_turnsLeft.2.1 40 = .ok (.iinc 1 (-1), 3) := by decide +kernel
theorem d_Twist_turnsLeft_43 : decode m_Twist_turnsLeft.2.1 43 = .ok (.goto 18, 3) := by decide +kernel
theorem d_Twist_turnsLeft_46 : decode m_Twist_turnsLeft.2.1 46 = .ok (.aload_n 0, 1) := by decide +kernel
theorem d_Twist_turnsLeft_47 : decode m_Twist_turnsLeft.2.1 47 = .ok (.getfield 15, 3) := by decide +kernel
theorem d_Twist_turnsLeft_50 : decode m_Twist_turnsLeft.2.1 50 = .ok (.iload_n 1, 1) := by decide +kernel
theorem d_Twist_turnsLeft_51 : decode m_Twist_turnsLeft.2.1 51 = .ok (.aload_n 0, 1) := by decide +kernel
theorem d_Twist_turnsLeft_52 : decode m_Twist_turnsLeft.2.1 52 = .ok (.getfield 11, 3) := by decide +kernel
theorem d_Twist_turnsLeft_55 : decode m_Twist_turnsLeft.2.1 55 = .ok (.iload_n 2, 1) := by decide +kernel
theorem d_Twist_turnsLeft_56 : decode m_Twist_turnsLeft.2.1 56 = .ok (.iaload, 1) := by decide +kernel
theorem d_Twist_turnsLeft_57 : decode m_Twist_turnsLeft.2.1 57 = .ok (.iastore, 1) := by decide +kernel
theorem d_Twist_turnsLeft_58 : decode m_Twist_turnsLeft.2.1 58 = .ok (.iinc 1 1, 3) := by decide +kernel
theorem d_Twist_turnsLeft_61 : decode m_Twist_turnsLeft.2.1 61 = .ok (.iinc 2 1, 3) := by decide +kernel
theorem d_Twist_turnsLeft_64 : decode m_Twist_turnsLeft.2.1 64 = .ok (.goto (-60), 3) := by decide +kernel
theorem d_Twist_turnsLeft_67 : decode m_Twist_turnsLeft.2.1 67 = .ok (.iload_n 1, 1) := by decide +kernel
theorem d_Twist_turnsLeft_68 : decode m_Twist_turnsLeft.2.1 68 = .ok (.ireturn, 1) := by decide +kernel
def f_Twist_turnsLeft_61 (k_4 : St → Int32 → Int32 → Option (Int32 × St)) (S : St) (l1 : Int32) (l2 : Int32) : Option (Int32 × St) :=
    (some (l2 + 1)).bind fun l2_61 =>
    k_4 S l1 l2_61
set_option maxHeartbeats 4000000 in
set_option maxRecDepth 20000 in
theorem t_Twist_turnsLeft_61  {k_4 : St → Int32 → Int32 → Option (Int32 × St)} (hk_4 : ∀ (S : St) (l1 : Int32) (l2 : Int32) (w : Int32 × St), k_4 S l1 l2 = some w → G SX m_Twist_turnsLeft 1 (some w.1) w.2 4 [(0, .ref 42), (1, .int l1), (2, .int l2)] [] S) (S : St) (l1 : Int32) (l2 : Int32) (w : Int32 × St) (h : f_Twist_turnsLeft_61 k_4 S l1 l2 = some w) : G SX m_Twist_turnsLeft 1 (some w.1) w.2 61 [(0, .ref 42), (1, .int l1), (2, .int l2)] [] S := by
  unfold f_Twist_turnsLeft_61 at h
  obtain ⟨l2_61, e_61, h⟩ := ob_s h
  refine G_iinc 1 2 [(2, .int l2_61), (0, .ref 42), (1, .int l1)] (by decide) rfl e_61 rfl (by decide) d_Twist_turnsLeft_61 ?_
  refine G_goto 4 (by decide) d_Twist_turnsLeft_64 ?_
  exact G_sub _ [1, 2, 0] rfl (hk_4 S l1 l2_61 _ h)
def f_Twist_turnsLeft_46 (k_4 : St → Int32 → Int32 → Option (Int32 × St)) (S : St) (l1 : Int32) (l2 : Int32) : Option (Int32 × St) :=
    if ig l2 64 then (
    if ig l1 64 then (
    (some (sF S 44 l1.toNatClampNeg (S 43 l2.toNatClampNeg))).bind fun S_57 =>
    (some (l1 + 1)).bind fun l1_58 =>
    f_Twist_turnsLeft_61 k_4 S_57 l1_58 l2) else none) else none
set_option maxHeartbeats 4000000 in
set_option maxRecDepth 20000 in
theorem t_Twist_turnsLeft_46  {k_4 : St → Int32 → Int32 → Option (Int32 × St)} (hk_4 : ∀ (S : St) (l1 : Int32) (l2 : Int32) (w : Int32 × St), k_4 S l1 l2 = some w → G SX m_Twist_turnsLeft 1 (some w.1) w.2 4 [(0, .ref 42), (1, .int l1), (2, .int l2)] [] S) (S : St) (l1 : Int32) (l2 : Int32) (w : Int32 × St) (h : f_Twist_turnsLeft_46 k_4 S l1 l2 = some w) : G SX m_Twist_turnsLeft 1 (some w.1) w.2 46 [(0, .ref 42), (1, .int l1), (2, .int l2)] [] S := by
  unfold f_Twist_turnsLeft_46 at h
  refine G_aload_n 0 rfl d_Twist_turnsLeft_46 ?_
  refine G_getR fl_Twist_15 kx_42 sx_42 rfl (by decide) d_Twist_turnsLeft_47 ?_
  refine G_iload_n 1 rfl d_Twist_turnsLeft_50 ?_
  refine G_aload_n 0 rfl d_Twist_turnsLeft_51 ?_
  refine G_getR fl_Twist_11 kx_42 sx_42 rfl (by decide) d_Twist_turnsLeft_52 ?_
  refine G_iload_n 2 rfl d_Twist_turnsLeft_55 ?_
  obtain ⟨g_56, h⟩ := ob_g h
  refine G_iaload kx_43 sx_43 g_56 d_Twist_turnsLeft_56 ?_
  obtain ⟨g_57, h⟩ := ob_g h
  obtain ⟨S_57, e_57, h⟩ := ob_s h
  refine G_iastore e_57 kx_44 sx_44 g_57 d_Twist_turnsLeft_57 ?_
  obtain ⟨l1_58, e_58, h⟩ := ob_s h
  refine G_iinc 1 1 [(1, .int l1_58), (0, .ref 42), (2, .int l2)] (by decide) rfl e_58 rfl (by decide) d_Twist_turnsLeft_58 ?_
  exact G_sub _ [1, 0, 2] rfl (t_Twist_turnsLeft_61 hk_4 S_57 l1_58 l2 _ h)
def f_Twist_turnsLeft_4 : Nat → St → Int32 → Int32 → Option (Int32 × St)
  | 0, _, _, _ => none
  | n + 1, S, l1, l2 =>
    if (S 42 8) ≤ l2 then (
    some (l1, S))
    else (
    if (64 : Int32) ≤ l2 then (
    some (l1, S))
    else (
    if l1 ≤ 0 then (
    f_Twist_turnsLeft_46 (f_Twist_turnsLeft_4 n) S l1 l2)
    else (
    if ig (l1 - 1) 64 then (
    if ig l2 64 then (
    if (S 44 (l1 - 1).toNatClampNeg) = (-(S 43 l2.toNatClampNeg)) then (
    (some (l1 + (-1))).bind fun l1_40 =>
    f_Twist_turnsLeft_61 (f_Twist_turnsLeft_4 n) S l1_40 l2)
    else (
    f_Twist_turnsLeft_46 (f_Twist_turnsLeft_4 n) S l1 l2)) else none) else none)))
set_option maxHeartbeats 4000000 in
set_option maxRecDepth 20000 in
theorem t_Twist_turnsLeft_4  : ∀ (n : Nat) (S : St) (l1 : Int32) (l2 : Int32) (w : Int32 × St), f_Twist_turnsLeft_4 n S l1 l2 = some w → G SX m_Twist_turnsLeft 1 (some w.1) w.2 4 [(0, .ref 42), (1, .int l1), (2, .int l2)] [] S := by
  intro n
  induction n with
  | zero =>
    intro S l1 l2 w h
    rw [f_Twist_turnsLeft_4] at h
    cases h
  | succ n ih =>
    intro S l1 l2 w h
    rw [f_Twist_turnsLeft_4] at h
    refine G_iload_n 2 rfl d_Twist_turnsLeft_4 ?_
    refine G_aload_n 0 rfl d_Twist_turnsLeft_5 ?_
    refine G_getI fl_Twist_34 kx_42 sx_42 rfl d_Twist_turnsLeft_6 ?_
    refine G_icmp_ge 67 (by decide) d_Twist_turnsLeft_9 (fun c_9 => ?_) (fun c_9 => ?_)
    · replace h := ob_t h c_9
      refine G_iload_n 1 rfl d_Twist_turnsLeft_67 ?_
      cases h
      exact G_iret rfl d_Twist_turnsLeft_68
    · replace h := ob_f h c_9
      refine G_iload_n 2 rfl d_Twist_turnsLeft_12 ?_
      refine G_bipush 64 (by decide) d_Twist_turnsLeft_13 ?_
      refine G_icmp_ge 67 (by decide) d_Twist_turnsLeft_15 (fun c_15 => ?_) (fun c_15 => ?_)
      · replace h := ob_t h c_15
        refine G_iload_n 1 rfl d_Twist_turnsLeft_67 ?_
        cases h
        exact G_iret rfl d_Twist_turnsLeft_68
      · replace h := ob_f h c_15
        refine G_iload_n 1 rfl d_Twist_turnsLeft_18 ?_
        refine G_if_le 46 (by decide) d_Twist_turnsLeft_19 (fun c_19 => ?_) (fun c_19 => ?_)
        · replace h := ob_t h c_19
          exact G_sub _ [0, 1, 2] rfl (t_Twist_turnsLeft_46 ih S l1 l2 _ h)
        · replace h := ob_f h c_19
          refine G_aload_n 0 rfl d_Twist_turnsLeft_22 ?_
          refine G_getR fl_Twist_15 kx_42 sx_42 rfl (by decide) d_Twist_turnsLeft_23 ?_
          refine G_iload_n 1 rfl d_Twist_turnsLeft_26 ?_
          refine G_iconst 1 (by decide) d_Twist_turnsLeft_27 ?_
          refine G_isub d_Twist_turnsLeft_28 ?_
          obtain ⟨g_29, h⟩ := ob_g h
          refine G_iaload kx_44 sx_44 g_29 d_Twist_turnsLeft_29 ?_
          refine G_aload_n 0 rfl d_Twist_turnsLeft_30 ?_
          refine G_getR fl_Twist_11 kx_42 sx_42 rfl (by decide) d_Twist_turnsLeft_31 ?_
          refine G_iload_n 2 rfl d_Twist_turnsLeft_34 ?_
          obtain ⟨g_35, h⟩ := ob_g h
          refine G_iaload kx_43 sx_43 g_35 d_Twist_turnsLeft_35 ?_
          refine G_ineg d_Twist_turnsLeft_36 ?_
          refine G_icmp_ne 46 (by decide) d_Twist_turnsLeft_37 (fun c_37 => ?_) (fun c_37 => ?_)
          · replace h := ob_f h c_37
            exact G_sub _ [0, 1, 2] rfl (t_Twist_turnsLeft_46 ih S l1 l2 _ h)
          · replace h := ob_t h c_37
            obtain ⟨l1_40, e_40, h⟩ := ob_s h
            refine G_iinc (-1) 1 [(1, .int l1_40), (0, .ref 42), (2, .int l2)] (by decide) rfl e_40 rfl (by decide) d_Twist_turnsLeft_40 ?_
            refine G_goto 61 (by decide) d_Twist_turnsLeft_43 ?_
            exact G_sub _ [1, 0, 2] rfl (t_Twist_turnsLeft_61 ih S l1_40 l2 _ h)
def f_Twist_turnsLeft (S : St) : Option (Int32 × St) :=
    (some (0 : Int32)).bind fun l1_1 =>
    (some (0 : Int32)).bind fun l2_3 =>
    f_Twist_turnsLeft_4 FU S l1_1 l2_3
set_option maxHeartbeats 4000000 in
set_option maxRecDepth 20000 in
theorem t_Twist_turnsLeft  {S : St} {w : Int32 × St} (h : f_Twist_turnsLeft S = some w) : Ct SX m_Twist_turnsLeft 1 [.ref 42] S (some w.1) w.2 := by
  unfold f_Twist_turnsLeft at h
  refine Ct.of pn_Twist (Nat.le_of_ble_eq_true rfl) ?_
  show G SX m_Twist_turnsLeft 1 (some w.1) w.2 0 [(0, .ref 42)] [] S
  refine G_iconst 0 (by decide) d_Twist_turnsLeft_0 ?_
  obtain ⟨l1_1, e_1, h⟩ := ob_s h
  refine G_istore_n [(1, .int l1_1), (0, .ref 42)] e_1 rfl (by decide) d_Twist_turnsLeft_1 ?_
  refine G_iconst 0 (by decide) d_Twist_turnsLeft_2 ?_
  obtain ⟨l2_3, e_3, h⟩ := ob_s h
  refine G_istore_n [(2, .int l2_3), (1, .int l1_1), (0, .ref 42)] e_3 rfl (by decide) d_Twist_turnsLeft_3 ?_
  exact G_sub _ [2, 1, 0] rfl (t_Twist_turnsLeft_4 FU S l1_1 l2_3 _ h)
theorem d_Twist_comesOut_0 : decode m_Twist_comesOut.2.1 0 = .ok (.iload_n 1, 1) := by decide +kernel
theorem d_Twist_comesOut_1 : decode m_Twist_comesOut.2.1 1 = .ok (.istore_n 2, 1) := by decide +kernel
theorem d_Twist_comesOut_2 : decode m_Twist_comesOut.2.1 2 = .ok (.iconst 0, 1) := by decide +kernel
theorem d_Twist_comesOut_3 : decode m_Twist_comesOut.2.1 3 = .ok (.istore_n 3, 1) := by decide +kernel
theorem d_Twist_comesOut_4 : decode m_Twist_comesOut.2.1 4 = .ok (.iload_n 3, 1) := by decide +kernel
theorem d_Twist_comesOut_5 : decode m_Twist_comesOut.2.1 5 = .ok (.aload_n 0, 1) := by decide +kernel
theorem d_Twist_comesOut_6 : decode m_Twist_comesOut.2.1 6 = .ok (.getfield 34, 3) := by decide +kernel
theorem d_Twist_comesOut_9 : decode m_Twist_comesOut.2.1 9 = .ok (.if_icmp .ge 51, 3) := by decide +kernel
theorem d_Twist_comesOut_12 : decode m_Twist_comesOut.2.1 12 = .ok (.iload_n 3, 1) := by decide +kernel
theorem d_Twist_comesOut_13 : decode m_Twist_comesOut.2.1 13 = .ok (.bipush 64, 2) := by decide +kernel
theorem d_Twist_comesOut_15 : decode m_Twist_comesOut.2.1 15 = .ok (.if_icmp .ge 45, 3) := by decide +kernel
theorem d_Twist_comesOut_18 : decode m_Twist_comesOut.2.1 18 = .ok (.aload_n 0, 1) := by decide +kernel
theorem d_Twist_comesOut_19 : decode m_Twist_comesOut.2.1 19 = .ok (.getfield 11, 3) := by decide +kernel
theorem d_Twist_comesOut_22 : decode m_Twist_comesOut.2.1 22 = .ok (.iload_n 3, 1) := by decide +kernel
theorem d_Twist_comesOut_23 : decode m_Twist_comesOut.2.1 23 = .ok (.iaload, 1) := by decide +kernel
theorem d_Twist_comesOut_24 : decode m_Twist_comesOut.2.1 24 = .ok (.invokestatic 86, 3) := by decide +kernel
theorem d_Twist_comesOut_27 : decode m_Twist_comesOut.2.1 27 = .ok (.iconst 1, 1) := by decide +kernel
theorem d_Twist_comesOut_28 : decode m_Twist_comesOut.2.1 28 = .ok (.isub, 1) := by decide +kernel
theorem d_Twist_comesOut_29 : decode m_Twist_comesOut.2.1 29 = .ok (.istore 4, 2) := by decide +kernel
theorem d_Twist_comesOut_31 : decode m_Twist_comesOut.2.1 31 = .ok (.iload_n 2, 1) := by decide +kernel
theorem d_Twist_comesOut_32 : decode m_Twist_comesOut.2.1 32 = .ok (.iload 4, 2) := by decide +kernel
theorem d_Twist_comesOut_34 : decode m_Twist_comesOut.2.1 34 = .ok (.if_icmp .ne 9, 3) := by decide +kernel
theorem d_Twist_comesOut_37 : decode m_Twist_comesOut.2.1 37 = .ok (.iinc 2 1, 3) := by decide +kernel
theorem d_Twist_comesOut_40 : decode m_Twist_comesOut.2.1 40 = .ok (.goto 14, 3) := by decide +kernel
theorem d_Twist_comesOut_43 : decode m_Twist_comesOut.2.1 43 = .ok (.iload_n 2, 1) := by decide +kernel
theorem d_Twist_comesOut_44 : decode m_Twist_comesOut.2.1 44 = .ok (.iload 4, 2) := by decide +kernel
theorem d_Twist_comesOut_46 : decode m_Twist_comesOut.2.1 46 = .ok (.iconst 1, 1) := by decide +kernel
theorem d_Twist_comesOut_47 : decode m_Twist_comesOut.2.1 47 = .ok (.iadd, 1) := by decide +kernel
theorem d_Twist_comesOut_48 : decode m_Twist_comesOut.2.1 48 = .ok (.if_icmp .ne 6, 3) := by decide +kernel
theorem d_Twist_comesOut_51 : decode m_Twist_comesOut.2.1 51 = .ok (.iinc 2 (-1), 3) := by decide +kernel
theorem d_Twist_comesOut_54 : decode m_Twist_comesOut.2.1 54 = .ok (.iinc 3 1, 3) := by decide +kernel
theorem d_Twist_comesOut_57 : decode m_Twist_comesOut.2.1 57 = .ok (.goto (-53), 3) := by decide +kernel
theorem d_Twist_comesOut_60 : decode m_Twist_comesOut.2.1 60 = .ok (.iload_n 2, 1) := by decide +kernel
theorem d_Twist_comesOut_61 : decode m_Twist_comesOut.2.1 61 = .ok (.ireturn, 1) := by decide +kernel
def f_Twist_comesOut_54 (k_4 : St → Int32 → Int32 → Option (Int32)) (S : St) (l2 : Int32) (l3 : Int32) : Option (Int32) :=
    (some (l3 + 1)).bind fun l3_54 =>
    k_4 S l2 l3_54
set_option maxHeartbeats 4000000 in
set_option maxRecDepth 20000 in
theorem t_Twist_comesOut_54  {k_4 : St → Int32 → Int32 → Option (Int32)} (hk_4 : ∀ (S : St) (l2 : Int32) (l3 : Int32) (w : Int32), k_4 S l2 l3 = some w → G SX m_Twist_comesOut 2 (some w) S 4 [(0, .ref 42), (2, .int l2), (3, .int l3)] [] S) (S : St) (l2 : Int32) (l3 : Int32) (w : Int32) (h : f_Twist_comesOut_54 k_4 S l2 l3 = some w) : G SX m_Twist_comesOut 2 (some w) S 54 [(0, .ref 42), (2, .int l2), (3, .int l3)] [] S := by
  unfold f_Twist_comesOut_54 at h
  obtain ⟨l3_54, e_54, h⟩ := ob_s h
  refine G_iinc 1 2 [(3, .int l3_54), (0, .ref 42), (2, .int l2)] (by decide) rfl e_54 rfl (by decide) d_Twist_comesOut_54 ?_
  refine G_goto 4 (by decide) d_Twist_comesOut_57 ?_
  exact G_sub _ [1, 2, 0] rfl (hk_4 S l2 l3_54 _ h)
def f_Twist_comesOut_4 : Nat → St → Int32 → Int32 → Option (Int32)
  | 0, _, _, _ => none
  | n + 1, S, l2, l3 =>
    if (S 42 8) ≤ l3 then (
    some l2)
    else (
    if (64 : Int32) ≤ l3 then (
    some l2)
    else (
    if ig l3 64 then (
    (some ((jabs (S 43 l3.toNatClampNeg)) - 1)).bind fun l4_29 =>
    if l2 = l4_29 then (
    (some (l2 + 1)).bind fun l2_37 =>
    f_Twist_comesOut_54 (f_Twist_comesOut_4 n) S l2_37 l3)
    else (
    if l2 = (l4_29 + 1) then (
    (some (l2 + (-1))).bind fun l2_51 =>
    f_Twist_comesOut_54 (f_Twist_comesOut_4 n) S l2_51 l3)
    else (
    f_Twist_comesOut_54 (f_Twist_comesOut_4 n) S l2 l3))) else none))
set_option maxHeartbeats 4000000 in
set_option maxRecDepth 20000 in
theorem t_Twist_comesOut_4  : ∀ (n : Nat) (S : St) (l2 : Int32) (l3 : Int32) (w : Int32), f_Twist_comesOut_4 n S l2 l3 = some w → G SX m_Twist_comesOut 2 (some w) S 4 [(0, .ref 42), (2, .int l2), (3, .int l3)] [] S := by
  intro n
  induction n with
  | zero =>
    intro S l2 l3 w h
    rw [f_Twist_comesOut_4] at h
    cases h
  | succ n ih =>
    intro S l2 l3 w h
    rw [f_Twist_comesOut_4] at h
    refine G_iload_n 2 rfl d_Twist_comesOut_4 ?_
    refine G_aload_n 0 rfl d_Twist_comesOut_5 ?_
    refine G_getI fl_Twist_34 kx_42 sx_42 rfl d_Twist_comesOut_6 ?_
    refine G_icmp_ge 60 (by decide) d_Twist_comesOut_9 (fun c_9 => ?_) (fun c_9 => ?_)
    · replace h := ob_t h c_9
      refine G_iload_n 1 rfl d_Twist_comesOut_60 ?_
      cases h
      exact G_iret rfl d_Twist_comesOut_61
    · replace h := ob_f h c_9
      refine G_iload_n 2 rfl d_Twist_comesOut_12 ?_
      refine G_bipush 64 (by decide) d_Twist_comesOut_13 ?_
      refine G_icmp_ge 60 (by decide) d_Twist_comesOut_15 (fun c_15 => ?_) (fun c_15 => ?_)
      · replace h := ob_t h c_15
        refine G_iload_n 1 rfl d_Twist_comesOut_60 ?_
        cases h
        exact G_iret rfl d_Twist_comesOut_61
      · replace h := ob_f h c_15
        refine G_aload_n 0 rfl d_Twist_comesOut_18 ?_
        refine G_getR fl_Twist_11 kx_42 sx_42 rfl (by decide) d_Twist_comesOut_19 ?_
        refine G_iload_n 2 rfl d_Twist_comesOut_22 ?_
        obtain ⟨g_23, h⟩ := ob_g h
        refine G_iaload kx_43 sx_43 g_23 d_Twist_comesOut_23 ?_
        refine G_mabs ms_Twist_86 (by decide) (Nat.le_of_ble_eq_true rfl) d_Twist_comesOut_24 ?_
        refine G_iconst 1 (by decide) d_Twist_comesOut_27 ?_
        refine G_isub d_Twist_comesOut_28 ?_
        obtain ⟨l4_29, e_29, h⟩ := ob_s h
        refine G_istore [(4, .int l4_29), (0, .ref 42), (2, .int l2), (3, .int l3)] e_29 rfl (by decide) d_Twist_comesOut_29 ?_
        refine G_iload_n 2 rfl d_Twist_comesOut_31 ?_
        refine G_iload 0 rfl d_Twist_comesOut_32 ?_
        refine G_icmp_ne 43 (by decide) d_Twist_comesOut_34 (fun c_34 => ?_) (fun c_34 => ?_)
        · replace h := ob_f h c_34
          refine G_iload_n 2 rfl d_Twist_comesOut_43 ?_
          refine G_iload 0 rfl d_Twist_comesOut_44 ?_
          refine G_iconst 1 (by decide) d_Twist_comesOut_46 ?_
          refine G_iadd d_Twist_comesOut_47 ?_
          refine G_icmp_ne 54 (by decide) d_Twist_comesOut_48 (fun c_48 => ?_) (fun c_48 => ?_)
          · replace h := ob_f h c_48
            exact G_sub _ [1, 2, 3] rfl (t_Twist_comesOut_54 ih S l2 l3 _ h)
          · replace h := ob_t h c_48
            obtain ⟨l2_51, e_51, h⟩ := ob_s h
            refine G_iinc (-1) 2 [(2, .int l2_51), (4, .int l4_29), (0, .ref 42), (3, .int l3)] (by decide) rfl e_51 rfl (by decide) d_Twist_comesOut_51 ?_
            exact G_sub _ [2, 0, 3] rfl (t_Twist_comesOut_54 ih S l2_51 l3 _ h)
        · replace h := ob_t h c_34
          obtain ⟨l2_37, e_37, h⟩ := ob_s h
          refine G_iinc 1 2 [(2, .int l2_37), (4, .int l4_29), (0, .ref 42), (3, .int l3)] (by decide) rfl e_37 rfl (by decide) d_Twist_comesOut_37 ?_
          refine G_goto 54 (by decide) d_Twist_comesOut_40 ?_
          exact G_sub _ [2, 0, 3] rfl (t_Twist_comesOut_54 ih S l2_37 l3 _ h)
def f_Twist_comesOut (S : St) (l1 : Int32) : Option (Int32) :=
    (some (0 : Int32)).bind fun l3_3 =>
    f_Twist_comesOut_4 FU S l1 l3_3
set_option maxHeartbeats 4000000 in
set_option maxRecDepth 20000 in
theorem t_Twist_comesOut  {S : St} {l1 : Int32} {w : Int32} (h : f_Twist_comesOut S l1 = some w) : Ct SX m_Twist_comesOut 2 [.ref 42, .int l1] S (some w) S := by
  unfold f_Twist_comesOut at h
  refine Ct.of pn_Twist (Nat.le_of_ble_eq_true rfl) ?_
  show G SX m_Twist_comesOut 2 (some w) S 0 [(0, .ref 42), (1, .int l1)] [] S
  refine G_iload_n 1 rfl d_Twist_comesOut_0 ?_
  refine G_istore_n [(2, .int l1), (0, .ref 42), (1, .int l1)] rfl rfl (by decide) d_Twist_comesOut_1 ?_
  refine G_iconst 0 (by decide) d_Twist_comesOut_2 ?_
  obtain ⟨l3_3, e_3, h⟩ := ob_s h
  refine G_istore_n [(3, .int l3_3), (2, .int l1), (0, .ref 42), (1, .int l1)] e_3 rfl (by decide) d_Twist_comesOut_3 ?_
  exact G_sub _ [2, 1, 0] rfl (t_Twist_comesOut_4 FU S l1 l3_3 _ h)
theorem d_Twist_timesTillHome_0 : decode m_Twist_timesTillHome.2.1 0 = .ok (.iconst 0, 1) := by decide +kernel
theorem d_Twist_timesTillHome_1 : decode m_Twist_timesTillHome.2.1 1 = .ok (.istore_n 2, 1) := by decide +kernel
theorem d_Twist_timesTillHome_2 : decode m_Twist_timesTillHome.2.1 2 = .ok (.iload_n 2, 1) := by decide +kernel
theorem d_Twist_timesTillHome_3 : decode m_Twist_timesTillHome.2.1 3 = .ok (.iload_n 1, 1) := by decide +kernel
theorem d_Twist_timesTillHome_4 : decode m_Twist_timesTillHome.2.1 4 = .ok (.if_icmp .ge 22, 3) := by decide +kernel
theorem d_Twist_timesTillHome_7 : decode m_Twist_timesTillHome.2.1 7 = .ok (.iload_n 2, 1) := by decide +kernel
theorem d_Twist_timesTillHome_8 : decode m_Twist_timesTillHome.2.1 8 = .ok (.bipush 8, 2) := by decide +kernel
theorem d_Twist_timesTillHome_10 : decode m_Twist_timesTillHome.2.1 10 = .ok (.if_icmp .ge 16, 3) := by decide +kernel
theorem d_Twist_timesTillHome_13 : decode m_Twist_timesTillHome.2.1 13 = .ok (.aload_n 0, 1) := by decide +kernel
theorem d_Twist_timesTillHome_14 : decode m_Twist_timesTillHome.2.1 14 = .ok (.getfield 27, 3) := by decide +kernel
theorem d_Twist_timesTillHome_17 : decode m_Twist_timesTillHome.2.1 17 = .ok (.iload_n 2, 1) := by decide +kernel
theorem d_Twist_timesTillHome_18 : decode m_Twist_timesTillHome.2.1 18 = .ok (.iload_n 2, 1) := by decide +kernel
theorem d_Twist_timesTillHome_19 : decode m_Twist_timesTillHome.2.1 19 = .ok (.iastore, 1) := by decide +kernel
theorem d_Twist_timesTillHome_20 : decode m_Twist_timesTillHome.2.1 20 = .ok (.iinc 2 1, 3) := by decide +kernel
theorem d_Twist_timesTillHome_23 : decode m_Twist_timesTillHome.2.1 23 = .ok (.goto (-21), 3) := by decide +kernel
theorem d_Twist_timesTillHome_26 : decode m_Twist_timesTillHome.2.1 26 = .ok (.iconst 0, 1) := by decide +kernel
theorem d_Twist_timesTillHome_27 : decode m_Twist_timesTillHome.2.1 27 = .ok (.istore_n 2, 1) := by decide +kernel
theorem d_Twist_timesTillHome_28 : decode m_Twist_timesTillHome.2.1 28 = .ok (.iconst 0, 1) := by decide +kernel
theorem d_Twist_timesTillHome_29 : decode m_Twist_timesTillHome.2.1 29 = .ok (.istore_n 3, 1) := by decide +kernel
theorem d_Twist_timesTillHome_30 : decode m_Twist_timesTillHome.2.1 30 = .ok (.iload_n 2, 1) := by decide +kernel
theorem d_Twist_timesTillHome_31 : decode m_Twist_timesTillHome.2.1 31 = .ok (.bipush 15, 2) := by decide +kernel
theorem d_Twist_timesTillHome_33 : decode m_Twist_timesTillHome.2.1 33 = .ok (.if_icmp .ge 77, 3) := by decide +kernel
theorem d_Twist_timesTillHome_36 : decode m_Twist_timesTillHome.2.1 36 = .ok (.iload_n 3, 1) := by decide +kernel
theorem d_Twist_timesTillHome_37 : decode m_Twist_timesTillHome.2.1 37 = .ok (.ifCond .ne 73, 3) := by decide +kernel
theorem d_Twist_timesTillHome_40 : decode m_Twist_timesTillHome.2.1 40 = .ok (.iinc 2 1, 3) := by decide +kernel
theorem d_Twist_timesTillHome_43 : decode m_Twist_timesTillHome.2.1 43 = .ok (.iconst 1, 1) := by decide +kernel
theorem d_Twist_timesTillHome_44 : decode m_Twist_timesTillHome.2.1 44 = .ok (.istore_n 3, 1) := by decide +kernel
theorem d_Twist_timesTillHome_45 : decode m_Twist_timesTillHome.2.1 45 = .ok (.iconst 0, 1) := by decide +kernel
theorem d_Twist_timesTillHome_46 : decode m_Twist_timesTillHome.2.1 46 = .ok (.istore 4, 2) := by decide +kernel
theorem d_Twist_timesTillHome_48 : decode m_Twist_timesTillHome.2.1 48 = .ok (.iload 4, 2) := by decide +kernel
theorem d_Twist_timesTillHome_50 : decode m_Twist_timesTillHome.2.1 50 = .ok (.iload_n 1, 1) := by decide +kernel
theorem d_Twist_timesTillHome_51 : decode m_Twist_timesTillHome.2.1 51 = .ok (.if_icmp .ge 56, 3) := by decide +kernel
theorem d_Twist_timesTillHome_54 : decode m_Twist_timesTillHome.2.1 54 = .ok (.iload 4, 2) := by decide +kernel
theorem d_Twist_timesTillHome_56 : decode m_Twist_timesTillHome.2.1 56 = .ok (.bipush 8, 2) := by decide +kernel
theorem d_Twist_timesTillHome_58 : decode m_Twist_timesTillHome.2.1 58 = .ok (.if_icmp .ge 49, 3) := by decide +kernel
theorem d_Twist_timesTillHome_61 : decode m_Twist_timesTillHome.2.1 61 = .ok (.aload_n 0, 1) := by decide +kernel
theorem d_Twist_timesTillHome_62 : decode m_Twist_timesTillHome.2.1 62 = .ok (.getfield 27, 3) := by decide +kernel
theorem d_Twist_timesTillHome_65 : decode m_Twist_timesTillHome.2.1 65 = .ok (.iload 4, 2) := by decide +kernel
theorem d_Twist_timesTillHome_67 : decode m_Twist_timesTillHome.2.1 67 = .ok (.aload_n 0, 1) := by decide +kernel
theorem d_Twist_timesTillHome_68 : decode m_Twist_timesTillHome.2.1 68 = .ok (.aload_n 0, 1) := by decide +kernel
theorem d_Twist_timesTillHome_69 : decode m_Twist_timesTillHome.2.1 69 = .ok (.getfield 27, 3) := by decide +kernel
theorem d_Twist_timesTillHome_72 : decode m_Twist_timesTillHome.2.1 72 = .ok (.iload 4, 2) := by decide +kernel
theorem d_Twist_timesTillHome_74 : decode m_Twist_timesTillHome.2.1 74 = .ok (.iaload, 1) := by decide +kernel
theorem d_Twist_timesTillHome_75 : decode m_Twist_timesTillHome.2.1 75 = .ok (.invokevirtual 92, 3) := by decide +kernel
theorem d_Twist_timesTillHome_78 : decode m_Twist_timesTillHome.2.1 78 = .ok (.iastore, 1) := by decide +kernel
theorem d_Twist_timesTillHome_79 : decode m_Twist_timesTillHome.2.1 79 = .ok (.iload_n 3, 1) := by decide +kernel
theorem d_Twist_timesTillHome_80 : decode m_Twist_timesTillHome.2.1 80 = .ok (.ifCond .eq 19, 3) := by decide +kernel
theorem d_Twist_timesTillHome_83 : decode m_Twist_timesTillHome.2.1 83 = .ok (.aload_n 0, 1) := by decide +kernel
theorem d_Twist_timesTillHome_84 : decode m_Twist_timesTillHome.2.1 84 = .ok (.getfield 27, 3) := by decide +kernel
theorem d_Twist_timesTillHome_87 : decode m_Twist_timesTillHome.2.1 87 = .ok (.iload 4, 2) := by decide +kernel
theorem d_Twist_timesTillHome_89 : decode m_Twist_timesTillHome.2.1 89 = .ok (.iaload, 1) := by decide +kernel
theorem d_Twist_timesTillHome_90 : decode m_Twist_timesTillHome.2.1 90 = .ok (.iload 4, 2) := by decide +kernel
theorem d_Twist_timesTillHome_92 : decode m_Twist_timesTillHome.2.1 92 = .ok (.if_icmp .ne 7, 3) := by decide +kernel
theorem d_Twist_timesTillHome_95 : decode m_Twist_timesTillHome.2.1 95 = .ok (.iconst 1, 1) := by decide +kernel
theorem d_Twist_timesTillHome_96 : decode m_Twist_timesTillHome.2.1 96 = .ok (.goto 4, 3) := by decide +kernel
theorem d_Twist_timesTillHome_99 : decode m_Twist_timesTillHome.2.1 99 = .ok (.iconst 0, 1) := by decide +kernel
theorem d_Twist_timesTillHome_100 : decode m_Twist_timesTillHome.2.1 100 = .ok (.istore_n 3, 1) := by decide +kernel
theorem d_Twist_timesTillHome_101 : decode m_Twist_timesTillHome.2.1 101 = .ok (.iinc 4 1, 3) := by decide +kernel
theorem d_Twist_timesTillHome_104 : decode m_Twist_timesTillHome.2.1 104 = .ok (.goto (-56), 3) := by decide +kernel
theorem d_Twist_timesTillHome_107 : decode m_Twist_timesTillHome.2.1 107 = .ok (.goto (-77), 3) := by decide +kernel
theorem d_Twist_timesTillHome_110 : decode m_Twist_timesTillHome.2.1 110 = .ok (.iload_n 2, 1) := by decide +kernel
theorem d_Twist_timesTillHome_111 : decode m_Twist_timesTillHome.2.1 111 = .ok (.ireturn, 1) := by decide +kernel
def f_Twist_timesTillHome_100 (k_30 : St → Int32 → Int32 → Int32 → Option (Int32 × St)) (k_48 : St → Int32 → Int32 → Int32 → Int32 → Option (Int32 × St)) (S : St) (l1 : Int32) (l2 : Int32) (l4 : Int32) (s0 : Int32) : Option (Int32 × St) :=
    (some (l4 + 1)).bind fun l4_101 =>
    k_48 S l1 l2 s0 l4_101
set_option maxHeartbeats 4000000 in
set_option maxRecDepth 20000 in
theorem t_Twist_timesTillHome_100  {k_30 : St → Int32 → Int32 → Int32 → Option (Int32 × St)} {k_48 : St → Int32 → Int32 → Int32 → Int32 → Option (Int32 × St)} (hk_30 : ∀ (S : St) (l1 : Int32) (l2 : Int32) (l3 : Int32) (w : Int32 × St), k_30 S l1 l2 l3 = some w → G SX m_Twist_timesTillHome 3 (some w.1) w.2 30 [(0, .ref 42), (1, .int l1), (2, .int l2), (3, .int l3)] [] S) (hk_48 : ∀ (S : St) (l1 : Int32) (l2 : Int32) (l3 : Int32) (l4 : Int32) (w : Int32 × St), k_48 S l1 l2 l3 l4 = some w → G SX m_Twist_timesTillHome 3 (some w.1) w.2 48 [(0, .ref 42), (1, .int l1), (2, .int l2), (3, .int l3), (4, .int l4)] [] S) (S : St) (l1 : Int32) (l2 : Int32) (l4 : Int32) (s0 : Int32) (w : Int32 × St) (h : f_Twist_timesTillHome_100 k_30 k_48 S l1 l2 l4 s0 = some w) : G SX m_Twist_timesTillHome 3 (some w.1) w.2 100 [(0, .ref 42), (1, .int l1), (2, .int l2), (4, .int l4)] [.int s0] S := by
  unfold f_Twist_timesTillHome_100 at h
  refine G_istore_n [(3, .int s0), (0, .ref 42), (1, .int l1), (2, .int l2), (4, .int l4)] rfl rfl (by decide) d_Twist_timesTillHome_100 ?_
  obtain ⟨l4_101, e_101, h⟩ := ob_s h
  refine G_iinc 1 4 [(4, .int l4_101), (3, .int s0), (0, .ref 42), (1, .int l1), (2, .int l2)] (by decide) rfl e_101 rfl (by decide) d_Twist_timesTillHome_101 ?_
  refine G_goto 48 (by decide) d_Twist_timesTillHome_104 ?_
  exact G_sub _ [2, 3, 4, 1, 0] rfl (hk_48 S l1 l2 s0 l4_101 _ h)
def f_Twist_timesTillHome_99 (k_30 : St → Int32 → Int32 → Int32 → Option (Int32 × St)) (k_48 : St → Int32 → Int32 → Int32 → Int32 → Option (Int32 × St)) (S : St) (l1 : Int32) (l2 : Int32) (l4 : Int32) : Option (Int32 × St) :=
    f_Twist_timesTillHome_100 k_30 k_48 S l1 l2 l4 (0 : Int32)
set_option maxHeartbeats 4000000 in
set_option maxRecDepth 20000 in
theorem t_Twist_timesTillHome_99  {k_30 : St → Int32 → Int32 → Int32 → Option (Int32 × St)} {k_48 : St → Int32 → Int32 → Int32 → Int32 → Option (Int32 × St)} (hk_30 : ∀ (S : St) (l1 : Int32) (l2 : Int32) (l3 : Int32) (w : Int32 × St), k_30 S l1 l2 l3 = some w → G SX m_Twist_timesTillHome 3 (some w.1) w.2 30 [(0, .ref 42), (1, .int l1), (2, .int l2), (3, .int l3)] [] S) (hk_48 : ∀ (S : St) (l1 : Int32) (l2 : Int32) (l3 : Int32) (l4 : Int32) (w : Int32 × St), k_48 S l1 l2 l3 l4 = some w → G SX m_Twist_timesTillHome 3 (some w.1) w.2 48 [(0, .ref 42), (1, .int l1), (2, .int l2), (3, .int l3), (4, .int l4)] [] S) (S : St) (l1 : Int32) (l2 : Int32) (l4 : Int32) (w : Int32 × St) (h : f_Twist_timesTillHome_99 k_30 k_48 S l1 l2 l4 = some w) : G SX m_Twist_timesTillHome 3 (some w.1) w.2 99 [(0, .ref 42), (1, .int l1), (2, .int l2), (4, .int l4)] [] S := by
  unfold f_Twist_timesTillHome_99 at h
  refine G_iconst 0 (by decide) d_Twist_timesTillHome_99 ?_
  exact G_sub _ [0, 1, 2, 3] rfl (t_Twist_timesTillHome_100 hk_30 hk_48 S l1 l2 l4 (0 : Int32) _ h)
def f_Twist_timesTillHome_107 (k_30 : St → Int32 → Int32 → Int32 → Option (Int32 × St)) (S : St) (l1 : Int32) (l2 : Int32) (l3 : Int32) : Option (Int32 × St) :=
    k_30 S l1 l2 l3
set_option maxHeartbeats 4000000 in
set_option maxRecDepth 20000 in
theorem t_Twist_timesTillHome_107  {k_30 : St → Int32 → Int32 → Int32 → Option (Int32 × St)} (hk_30 : ∀ (S : St) (l1 : Int32) (l2 : Int32) (l3 : Int32) (w : Int32 × St), k_30 S l1 l2 l3 = some w → G SX m_Twist_timesTillHome 3 (some w.1) w.2 30 [(0, .ref 42), (1, .int l1), (2, .int l2), (3, .int l3)] [] S) (S : St) (l1 : Int32) (l2 : Int32) (l3 : Int32) (w : Int32 × St) (h : f_Twist_timesTillHome_107 k_30 S l1 l2 l3 = some w) : G SX m_Twist_timesTillHome 3 (some w.1) w.2 107 [(0, .ref 42), (1, .int l1), (2, .int l2), (3, .int l3)] [] S := by
  unfold f_Twist_timesTillHome_107 at h
  refine G_goto 30 (by decide) d_Twist_timesTillHome_107 ?_
  exact G_sub _ [0, 1, 2, 3] rfl (hk_30 S l1 l2 l3 _ h)
def f_Twist_timesTillHome_48 (k_30 : St → Int32 → Int32 → Int32 → Option (Int32 × St)) : Nat → St → Int32 → Int32 → Int32 → Int32 → Option (Int32 × St)
  | 0, _, _, _, _, _ => none
  | n + 1, S, l1, l2, l3, l4 =>
    if l1 ≤ l4 then (
    f_Twist_timesTillHome_107 k_30 S l1 l2 l3)
    else (
    if (8 : Int32) ≤ l4 then (
    f_Twist_timesTillHome_107 k_30 S l1 l2 l3)
    else (
    if ig l4 8 then (
    (f_Twist_comesOut S (S 48 l4.toNatClampNeg)).bind fun v_75 =>
    if ig l4 8 then (
    (some (sF S 48 l4.toNatClampNeg v_75)).bind fun S_78 =>
    if l3 = 0 then (
    f_Twist_timesTillHome_99 k_30 (f_Twist_timesTillHome_48 k_30 n) S_78 l1 l2 l4)
    else (
    if ig l4 8 then (
    if (S_78 48 l4.toNatClampNeg) = l4 then (
    f_Twist_timesTillHome_100 k_30 (f_Twist_timesTillHome_48 k_30 n) S_78 l1 l2 l4 (1 : Int32))
    else (
    f_Twist_timesTillHome_99 k_30 (f_Twist_timesTillHome_48 k_30 n) S_78 l1 l2 l4)) else none)) else none) else none))
set_option maxHeartbeats 4000000 in
set_option maxRecDepth 20000 in
theorem t_Twist_timesTillHome_48  {k_30 : St → Int32 → Int32 → Int32 → Option (Int32 × St)} (hk_30 : ∀ (S : St) (l1 : Int32) (l2 : Int32) (l3 : Int32) (w : Int32 × St), k_30 S l1 l2 l3 = some w → G SX m_Twist_timesTillHome 3 (some w.1) w.2 30 [(0, .ref 42), (1, .int l1), (2, .int l2), (3, .int l3)] [] S) : ∀ (n : Nat) (S : St) (l1 : Int32) (l2 : Int32) (l3 : Int32) (l4 : Int32) (w : Int32 × St), f_Twist_timesTillHome_48 k_30 n S l1 l2 l3 l4 = some w → G SX m_Twist_timesTillHome 3 (some w.1) w.2 48 [(0, .ref 42), (1, .int l1), (2, .int l2), (3, .int l3), (4, .int l4)] [] S := by
  intro n
  induction n with
  | zero =>
    intro S l1 l2 l3 l4 w h
    rw [f_Twist_timesTillHome_48] at h
    cases h
  | succ n ih =>
    intro S l1 l2 l3 l4 w h
    rw [f_Twist_timesTillHome_48] at h
    refine G_iload 4 rfl d_Twist_timesTillHome_48 ?_
    refine G_iload_n 1 rfl d_Twist_timesTillHome_50 ?_
    refine G_icmp_ge 107 (by decide) d_Twist_timesTillHome_51 (fun c_51 => ?_) (fun c_51 => ?_)
    · replace h := ob_t h c_51
      exact G_sub _ [0, 1, 2, 3] rfl (t_Twist_timesTillHome_107 hk_30 S l1 l2 l3 _ h)
    · replace h := ob_f h c_51
      refine G_iload 4 rfl d_Twist_timesTillHome_54 ?_
      refine G_bipush 8 (by decide) d_Twist_timesTillHome_56 ?_
      refine G_icmp_ge 107 (by decide) d_Twist_timesTillHome_58 (fun c_58 => ?_) (fun c_58 => ?_)
      · replace h := ob_t h c_58
        exact G_sub _ [0, 1, 2, 3] rfl (t_Twist_timesTillHome_107 hk_30 S l1 l2 l3 _ h)
      · replace h := ob_f h c_58
        refine G_aload_n 0 rfl d_Twist_timesTillHome_61 ?_
        refine G_getR fl_Twist_27 kx_42 sx_42 rfl (by decide) d_Twist_timesTillHome_62 ?_
        refine G_iload 4 rfl d_Twist_timesTillHome_65 ?_
        refine G_aload_n 0 rfl d_Twist_timesTillHome_67 ?_
        refine G_aload_n 0 rfl d_Twist_timesTillHome_68 ?_
        refine G_getR fl_Twist_27 kx_42 sx_42 rfl (by decide) d_Twist_timesTillHome_69 ?_
        refine G_iload 4 rfl d_Twist_timesTillHome_72 ?_
        obtain ⟨g_74, h⟩ := ob_g h
        refine G_iaload kx_48 sx_48 g_74 d_Twist_timesTillHome_74 ?_
        obtain ⟨v_75, q_75, h⟩ := ob_b h
        refine G_callV [.int (S 48 l4.toNatClampNeg)] [.int l4, .ref 48] (t_Twist_comesOut q_75) (by decide) (by decide) mv_Twist_comesOut rfl ml_Twist_92 kx_42 sx_42 cl_9 rfl (Nat.le_of_ble_eq_true rfl) d_Twist_timesTillHome_75 ?_
        obtain ⟨g_78, h⟩ := ob_g h
        obtain ⟨S_78, e_78, h⟩ := ob_s h
        refine G_iastore e_78 kx_48 sx_48 g_78 d_Twist_timesTillHome_78 ?_
        refine G_iload_n 3 rfl d_Twist_timesTillHome_79 ?_
        refine G_if_eq 99 (by decide) d_Twist_timesTillHome_80 (fun c_80 => ?_) (fun c_80 => ?_)
        · replace h := ob_t h c_80
          exact G_sub _ [0, 1, 2, 4] rfl (t_Twist_timesTillHome_99 hk_30 ih S_78 l1 l2 l4 _ h)
        · replace h := ob_f h c_80
          refine G_aload_n 0 rfl d_Twist_timesTillHome_83 ?_
          refine G_getR fl_Twist_27 kx_42 sx_42 rfl (by decide) d_Twist_timesTillHome_84 ?_
          refine G_iload 4 rfl d_Twist_timesTillHome_87 ?_
          obtain ⟨g_89, h⟩ := ob_g h
          refine G_iaload kx_48 sx_48 g_89 d_Twist_timesTillHome_89 ?_
          refine G_iload 4 rfl d_Twist_timesTillHome_90 ?_
          refine G_icmp_ne 99 (by decide) d_Twist_timesTillHome_92 (fun c_92 => ?_) (fun c_92 => ?_)
          · replace h := ob_f h c_92
            exact G_sub _ [0, 1, 2, 4] rfl (t_Twist_timesTillHome_99 hk_30 ih S_78 l1 l2 l4 _ h)
          · replace h := ob_t h c_92
            refine G_iconst 1 (by decide) d_Twist_timesTillHome_95 ?_
            refine G_goto 100 (by decide) d_Twist_timesTillHome_96 ?_
            exact G_sub _ [0, 1, 2, 4] rfl (t_Twist_timesTillHome_100 hk_30 ih S_78 l1 l2 l4 (1 : Int32) _ h)
def f_Twist_timesTillHome_30 : Nat → St → Int32 → Int32 → Int32 → Option (Int32 × St)
  | 0, _, _, _, _ => none
  | n + 1, S, l1, l2, l3 =>
    if (15 : Int32) ≤ l2 then (
    some (l2, S))
    else (
    if l3 = 0 then (
    (some (l2 + 1)).bind fun l2_40 =>
    (some (1 : Int32)).bind fun l3_44 =>
    (some (0 : Int32)).bind fun l4_46 =>
    f_Twist_timesTillHome_48 (f_Twist_timesTillHome_30 n) FU S l1 l2_40 l3_44 l4_46)
    else (
    some (l2, S)))
set_option maxHeartbeats 4000000 in
set_option maxRecDepth 20000 in
theorem t_Twist_timesTillHome_30  : ∀ (n : Nat) (S : St) (l1 : Int32) (l2 : Int32) (l3 : Int32) (w : Int32 × St), f_Twist_timesTillHome_30 n S l1 l2 l3 = some w → G SX m_Twist_timesTillHome 3 (some w.1) w.2 30 [(0, .ref 42), (1, .int l1), (2, .int l2), (3, .int l3)] [] S := by
  intro n
  induction n with
  | zero =>
    intro S l1 l2 l3 w h
    rw [f_Twist_timesTillHome_30] at h
    cases h
  | succ n ih =>
    intro S l1 l2 l3 w h
    rw [f_Twist_timesTillHome_30] at h
    refine G_iload_n 2 rfl d_Twist_timesTillHome_30 ?_
    refine G_bipush 15 (by decide) d_Twist_timesTillHome_31 ?_
    refine G_icmp_ge 110 (by decide) d_Twist_timesTillHome_33 (fun c_33 => ?_) (fun c_33 => ?_)
    · replace h := ob_t h c_33
      refine G_iload_n 2 rfl d_Twist_timesTillHome_110 ?_
      cases h
      exact G_iret rfl d_Twist_timesTillHome_111
    · replace h := ob_f h c_33
      refine G_iload_n 3 rfl d_Twist_timesTillHome_36 ?_
      refine G_if_ne 110 (by decide) d_Twist_timesTillHome_37 (fun c_37 => ?_) (fun c_37 => ?_)
      · replace h := ob_f h c_37
        refine G_iload_n 2 rfl d_Twist_timesTillHome_110 ?_
        cases h
        exact G_iret rfl d_Twist_timesTillHome_111
      · replace h := ob_t h c_37
        obtain ⟨l2_40, e_40, h⟩ := ob_s h
        refine G_iinc 1 2 [(2, .int l2_40), (0, .ref 42), (1, .int l1), (3, .int l3)] (by decide) rfl e_40 rfl (by decide) d_Twist_timesTillHome_40 ?_
        refine G_iconst 1 (by decide) d_Twist_timesTillHome_43 ?_
        obtain ⟨l3_44, e_44, h⟩ := ob_s h
        refine G_istore_n [(3, .int l3_44), (2, .int l2_40), (0, .ref 42), (1, .int l1)] e_44 rfl (by decide) d_Twist_timesTillHome_44 ?_
        refine G_iconst 0 (by decide) d_Twist_timesTillHome_45 ?_
        obtain ⟨l4_46, e_46, h⟩ := ob_s h
        refine G_istore [(4, .int l4_46), (3, .int l3_44), (2, .int l2_40), (0, .ref 42), (1, .int l1)] e_46 rfl (by decide) d_Twist_timesTillHome_46 ?_
        exact G_sub _ [3, 4, 2, 1, 0] rfl (t_Twist_timesTillHome_48 ih FU S l1 l2_40 l3_44 l4_46 _ h)
def f_Twist_timesTillHome_26 (S : St) (l1 : Int32) : Option (Int32 × St) :=
    (some (0 : Int32)).bind fun l2_27 =>
    (some (0 : Int32)).bind fun l3_29 =>
    f_Twist_timesTillHome_30 FU S l1 l2_27 l3_29
set_option maxHeartbeats 4000000 in
set_option maxRecDepth 20000 in
theorem t_Twist_timesTillHome_26  (S : St) (l1 : Int32) (w : Int32 × St) (h : f_Twist_timesTillHome_26 S l1 = some w) : G SX m_Twist_timesTillHome 3 (some w.1) w.2 26 [(0, .ref 42), (1, .int l1)] [] S := by
  unfold f_Twist_timesTillHome_26 at h
  refine G_iconst 0 (by decide) d_Twist_timesTillHome_26 ?_
  obtain ⟨l2_27, e_27, h⟩ := ob_s h
  refine G_istore_n [(2, .int l2_27), (0, .ref 42), (1, .int l1)] e_27 rfl (by decide) d_Twist_timesTillHome_27 ?_
  refine G_iconst 0 (by decide) d_Twist_timesTillHome_28 ?_
  obtain ⟨l3_29, e_29, h⟩ := ob_s h
  refine G_istore_n [(3, .int l3_29), (2, .int l2_27), (0, .ref 42), (1, .int l1)] e_29 rfl (by decide) d_Twist_timesTillHome_29 ?_
  exact G_sub _ [2, 3, 1, 0] rfl (t_Twist_timesTillHome_30 FU S l1 l2_27 l3_29 _ h)
def f_Twist_timesTillHome_2 : Nat → St → Int32 → Int32 → Option (Int32 × St)
  | 0, _, _, _ => none
  | n + 1, S, l1, l2 =>
    if l1 ≤ l2 then (
    f_Twist_timesTillHome_26 S l1)
    else (
    if (8 : Int32) ≤ l2 then (
    f_Twist_timesTillHome_26 S l1)
    else (
    if ig l2 8 then (
    (some (sF S 48 l2.toNatClampNeg l2)).bind fun S_19 =>
    (some (l2 + 1)).bind fun l2_20 =>
    f_Twist_timesTillHome_2 n S_19 l1 l2_20) else none))
set_option maxHeartbeats 4000000 in
set_option maxRecDepth 20000 in
theorem t_Twist_timesTillHome_2  : ∀ (n : Nat) (S : St) (l1 : Int32) (l2 : Int32) (w : Int32 × St), f_Twist_timesTillHome_2 n S l1 l2 = some w → G SX m_Twist_timesTillHome 3 (some w.1) w.2 2 [(0, .ref 42), (1, .int l1), (2, .int l2)] [] S := by
  intro n
  induction n with
  | zero =>
    intro S l1 l2 w h
    rw [f_Twist_timesTillHome_2] at h
    cases h
  | succ n ih =>
    intro S l1 l2 w h
    rw [f_Twist_timesTillHome_2] at h
    refine G_iload_n 2 rfl d_Twist_timesTillHome_2 ?_
    refine G_iload_n 1 rfl d_Twist_timesTillHome_3 ?_
    refine G_icmp_ge 26 (by decide) d_Twist_timesTillHome_4 (fun c_4 => ?_) (fun c_4 => ?_)
    · replace h := ob_t h c_4
      exact G_sub _ [0, 1] rfl (t_Twist_timesTillHome_26 S l1 _ h)
    · replace h := ob_f h c_4
      refine G_iload_n 2 rfl d_Twist_timesTillHome_7 ?_
      refine G_bipush 8 (by decide) d_Twist_timesTillHome_8 ?_
      refine G_icmp_ge 26 (by decide) d_Twist_timesTillHome_10 (fun c_10 => ?_) (fun c_10 => ?_)
      · replace h := ob_t h c_10
        exact G_sub _ [0, 1] rfl (t_Twist_timesTillHome_26 S l1 _ h)
      · replace h := ob_f h c_10
        refine G_aload_n 0 rfl d_Twist_timesTillHome_13 ?_
        refine G_getR fl_Twist_27 kx_42 sx_42 rfl (by decide) d_Twist_timesTillHome_14 ?_
        refine G_iload_n 2 rfl d_Twist_timesTillHome_17 ?_
        refine G_iload_n 2 rfl d_Twist_timesTillHome_18 ?_
        obtain ⟨g_19, h⟩ := ob_g h
        obtain ⟨S_19, e_19, h⟩ := ob_s h
        refine G_iastore e_19 kx_48 sx_48 g_19 d_Twist_timesTillHome_19 ?_
        obtain ⟨l2_20, e_20, h⟩ := ob_s h
        refine G_iinc 1 2 [(2, .int l2_20), (0, .ref 42), (1, .int l1)] (by decide) rfl e_20 rfl (by decide) d_Twist_timesTillHome_20 ?_
        refine G_goto 2 (by decide) d_Twist_timesTillHome_23 ?_
        exact G_sub _ [1, 2, 0] rfl (ih S_19 l1 l2_20 _ h)
def f_Twist_timesTillHome (S : St) (l1 : Int32) : Option (Int32 × St) :=
    (some (0 : Int32)).bind fun l2_1 =>
    f_Twist_timesTillHome_2 FU S l1 l2_1
set_option maxHeartbeats 4000000 in
set_option maxRecDepth 20000 in
theorem t_Twist_timesTillHome  {S : St} {l1 : Int32} {w : Int32 × St} (h : f_Twist_timesTillHome S l1 = some w) : Ct SX m_Twist_timesTillHome 3 [.ref 42, .int l1] S (some w.1) w.2 := by
  unfold f_Twist_timesTillHome at h
  refine Ct.of pn_Twist (Nat.le_of_ble_eq_true rfl) ?_
  show G SX m_Twist_timesTillHome 3 (some w.1) w.2 0 [(0, .ref 42), (1, .int l1)] [] S
  refine G_iconst 0 (by decide) d_Twist_timesTillHome_0 ?_
  obtain ⟨l2_1, e_1, h⟩ := ob_s h
  refine G_istore_n [(2, .int l2_1), (0, .ref 42), (1, .int l1)] e_1 rfl (by decide) d_Twist_timesTillHome_1 ?_
  exact G_sub _ [1, 2, 0] rfl (t_Twist_timesTillHome_2 FU S l1 l2_1 _ h)
