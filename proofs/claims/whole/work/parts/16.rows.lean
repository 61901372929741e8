theorem d_Rows_spinsAhead_0 : decode m_Rows_spinsAhead.2.1 0 = .ok (.aload_n 0, 1) := by decide +kernel
theorem d_Rows_spinsAhead_1 : decode m_Rows_spinsAhead.2.1 1 = .ok (.getfield 9, 3) := by decide +kernel
theorem d_Rows_spinsAhead_4 : decode m_Rows_spinsAhead.2.1 4 = .ok (.iconst 2, 1) := by decide +kernel
theorem d_Rows_spinsAhead_5 : decode m_Rows_spinsAhead.2.1 5 = .ok (.iload_n 1, 1) := by decide +kernel
theorem d_Rows_spinsAhead_6 : decode m_Rows_spinsAhead.2.1 6 = .ok (.imul, 1) := by decide +kernel
theorem d_Rows_spinsAhead_7 : decode m_Rows_spinsAhead.2.1 7 = .ok (.invokevirtual 19, 3) := by decide +kernel
theorem d_Rows_spinsAhead_10 : decode m_Rows_spinsAhead.2.1 10 = .ok (.aload_n 0, 1) := by decide +kernel
theorem d_Rows_spinsAhead_11 : decode m_Rows_spinsAhead.2.1 11 = .ok (.getfield 9, 3) := by decide +kernel
theorem d_Rows_spinsAhead_14 : decode m_Rows_spinsAhead.2.1 14 = .ok (.iconst 2, 1) := by decide +kernel
theorem d_Rows_spinsAhead_15 : decode m_Rows_spinsAhead.2.1 15 = .ok (.iload_n 1, 1) := by decide +kernel
theorem d_Rows_spinsAhead_16 : decode m_Rows_spinsAhead.2.1 16 = .ok (.imul, 1) := by decide +kernel
theorem d_Rows_spinsAhead_17 : decode m_Rows_spinsAhead.2.1 17 = .ok (.iconst 1, 1) := by decide +kernel
theorem d_Rows_spinsAhead_18 : decode m_Rows_spinsAhead.2.1 18 = .ok (.iadd, 1) := by decide +kernel
theorem d_Rows_spinsAhead_19 : decode m_Rows_spinsAhead.2.1 19 = .ok (.invokevirtual 19, 3) := by decide +kernel
theorem d_Rows_spinsAhead_22 : decode m_Rows_spinsAhead.2.1 22 = .ok (.if_icmp .ge 7, 3) := by decide +kernel
theorem d_Rows_spinsAhead_25 : decode m_Rows_spinsAhead.2.1 25 = .ok (.iconst 1, 1) := by decide +kernel
theorem d_Rows_spinsAhead_26 : decode m_Rows_spinsAhead.2.1 26 = .ok (.goto 4, 3) := by decide +kernel
theorem d_Rows_spinsAhead_29 : decode m_Rows_spinsAhead.2.1 29 = .ok (.iconst 0, 1) := by decide +kernel
theorem d_Rows_spinsAhead_30 : decode m_Rows_spinsAhead.2.1 30 = .ok (.istore_n 3, 1) := by decide +kernel
theorem d_Rows_spinsAhead_31 : decode m_Rows_spinsAhead.2.1 31 = .ok (.aload_n 0, 1) := by decide +kernel
theorem d_Rows_spinsAhead_32 : decode m_Rows_spinsAhead.2.1 32 = .ok (.getfield 9, 3) := by decide +kernel
theorem d_Rows_spinsAhead_35 : decode m_Rows_spinsAhead.2.1 35 = .ok (.iconst 2, 1) := by decide +kernel
theorem d_Rows_spinsAhead_36 : decode m_Rows_spinsAhead.2.1 36 = .ok (.iload_n 2, 1) := by decide +kernel
theorem d_Rows_spinsAhead_37 : decode m_Rows_spinsAhead.2.1 37 = .ok (.imul, 1) := by decide +kernel
theorem d_Rows_spinsAhead_38 : decode m_Rows_spinsAhead.2.1 38 = .ok (.invokevirtual 19, 3) := by decide +kernel
theorem d_Rows_spinsAhead_41 : decode m_Rows_spinsAhead.2.1 41 = .ok (.aload_n 0, 1) := by decide +kernel
theorem d_Rows_spinsAhead_42 : decode m_Rows_spinsAhead.2.1 42 = .ok (.getfield 9, 3) := by decide +kernel
theorem d_Rows_spinsAhead_45 : decode m_Rows_spinsAhead.2.1 45 = .ok (.iconst 2, 1) := by decide +kernel
theorem d_Rows_spinsAhead_46 : decode m_Rows_spinsAhead.2.1 46 = .ok (.iload_n 2, 1) := by decide +kernel
theorem d_Rows_spinsAhead_47 : decode m_Rows_spinsAhead.2.1 47 = .ok (.imul, 1) := by decide +kernel
theorem d_Rows_spinsAhead_48 : decode m_Rows_spinsAhead.2.1 48 = .ok (.iconst 1, 1) := by decide +kernel
theorem d_Rows_spinsAhead_49 : decode m_Rows_spinsAhead.2.1 49 = .ok (.iadd, 1) := by decide +kernel
theorem d_Rows_spinsAhead_50 : decode m_Rows_spinsAhead.2.1 50 = .ok (.invokevirtual 19, 3) := by decide +kernel
theorem d_Rows_spinsAhead_53 : decode m_Rows_spinsAhead.2.1 53 = .ok (.if_icmp .ge 7, 3) := by decide +kernel
theorem d_Rows_spinsAhead_56 : decode m_Rows_spinsAhead.2.1 56 = .ok (.iconst 1, 1) := by decide +kernel
theorem d_Rows_spinsAhead_57 : decode m_Rows_spinsAhead.2.1 57 = .ok (.goto 4, 3) := by decide +kernel
theorem d_Rows_spinsAhead_60 : decode m_Rows_spinsAhead.2.1 60 = .ok (.iconst 0, 1) := by decide +kernel
theorem d_Rows_spinsAhead_61 : decode m_Rows_spinsAhead.2.1 61 = .ok (.istore 4, 2) := by decide +kernel
theorem d_Rows_spinsAhead_63 : decode m_Rows_spinsAhead.2.1 63 = .ok (.iload_n 3, 1) := by decide +kernel
theorem d_Rows_spinsAhead_64 : decode m_Rows_spinsAhead.2.1 64 = .ok (.iload 4, 2) := by decide +kernel
theorem d_Rows_spinsAhead_66 : decode m_Rows_spinsAhead.2.1 66 = .ok (.if_icmp .eq 5, 3) := by decide +kernel
theorem d_Rows_spinsAhead_69 : decode m_Rows_spinsAhead.2.1 69 = .ok (.iload_n 3, 1) := by decide +kernel
theorem d_Rows_spinsAhead_70 : decode m_Rows_spinsAhead.2.1 70 = .ok (.ireturn, 1) := by decide +kernel
theorem d_Rows_spinsAhead_71 : decode m_Rows_spinsAhead.2.1 71 = .ok (.iload_n 3, 1) := by decide +kernel
theorem d_Rows_spinsAhead_72 : decode m_Rows_spinsAhead.2.1 72 = .ok (.ifCond .eq 32, 3) := by decide +kernel
theorem d_Rows_spinsAhead_75 : decode m_Rows_spinsAhead.2.1 75 = .ok (.aload_n 0, 1) := by decide +kernel
theorem d_Rows_spinsAhead_76 : decode m_Rows_spinsAhead.2.1 76 = .ok (.getfield 9, 3) := by decide +kernel
theorem d_Rows_spinsAhead_79 : decode m_Rows_spinsAhead.2.1 79 = .ok (.iconst 2, 1) := by decide +kernel
theorem d_Rows_spinsAhead_80 : decode m_Rows_spinsAhead.2.1 80 = .ok (.iload_n 1, 1) := by decide +kernel
theorem d_Rows_spinsAhead_81 : decode m_Rows_spinsAhead.2.1 81 = .ok (.imul, 1) := by decide +kernel
theorem d_Rows_spinsAhead_82 : decode m_Rows_spinsAhead.2.1 82 = .ok (.invokevirtual 19, 3) := by decide +kernel
theorem d_Rows_spinsAhead_85 : decode m_Rows_spinsAhead.2.1 85 = .ok (.aload_n 0, 1) := by decide +kernel
theorem d_Rows_spinsAhead_86 : decode m_Rows_spinsAhead.2.1 86 = .ok (.getfield 9, 3) := by decide +kernel
theorem d_Rows_spinsAhead_89 : decode m_Rows_spinsAhead.2.1 89 = .ok (.iconst 2, 1) := by decide +kernel
theorem d_Rows_spinsAhead_90 : decode m_Rows_spinsAhead.2.1 90 = .ok (.iload_n 2, 1) := by decide +kernel
theorem d_Rows_spinsAhead_91 : decode m_Rows_spinsAhead.2.1 91 = .ok (.imul, 1) := by decide +kernel
theorem d_Rows_spinsAhead_92 : decode m_Rows_spinsAhead.2.1 92 = .ok (.invokevirtual 19, 3) := by decide +kernel
theorem d_Rows_spinsAhead_95 : decode m_Rows_spinsAhead.2.1 95 = .ok (.if_icmp .ge 7, 3) := by decide +kernel
theorem d_Rows_spinsAhead_98 : decode m_Rows_spinsAhead.2.1 98 = .ok (.iconst 1, 1) := by decide +kernel
theorem d_Rows_spinsAhead_99 : decode m_Rows_spinsAhead.2.1 99 = .ok (.goto 4, 3) := by decide +kernel
theorem d_Rows_spinsAhead_102 : decode m_Rows_spinsAhead.2.1 102 = .ok (.iconst 0, 1) := by decide +kernel
theorem d_Rows_spinsAhead_103 : decode m_Rows_spinsAhead.2.1 103 = .ok (.ireturn, 1) := by decide +kernel
theorem d_Rows_spinsAhead_104 : decode m_Rows_spinsAhead.2.1 104 = .ok (.aload_n 0, 1) := by decide +kernel
theorem d_Rows_spinsAhead_105 : decode m_Rows_spinsAhead.2.1 105 = .ok (.getfield 9, 3) := by decide +kernel
theorem d_Rows_spinsAhead_108 : decode m_Rows_spinsAhead.2.1 108 = .ok (.iconst 2, 1) := by decide +kernel
theorem d_Rows_spinsAhead_109 : decode m_Rows_spinsAhead.2.1 109 = .ok (.iload_n 1, 1) := by decide +kernel
theorem d_Rows_spinsAhead_110 : decode m_Rows_spinsAhead.2.1 110 = .ok (.imul, 1) := by decide +kernel
theorem d_Rows_spinsAhead_111 : decode m_Rows_spinsAhead.2.1 111 = .ok (.iconst 1, 1) := by decide +kernel
theorem d_Rows_spinsAhead_112 : decode m_Rows_spinsAhead.2.1 112 = .ok (.iadd, 1) := by decide +kernel
theorem d_Rows_spinsAhead_113 : decode m_Rows_spinsAhead.2.1 113 = .ok (.invokevirtual 19, 3) := by decide +kernel
theorem d_Rows_spinsAhead_116 : decode m_Rows_spinsAhead.2.1 116 = .ok (.aload_n 0, 1) := by decide +kernel
theorem d_Rows_spinsAhead_117 : decode m_Rows_spinsAhead.2.1 117 = .ok (.getfield 9, 3) := by decide +kernel
theorem d_Rows_spinsAhead_120 : decode m_Rows_spinsAhead.2.1 120 = .ok (.iconst 2, 1) := by decide +kernel
theorem d_Rows_spinsAhead_121 : decode m_Rows_spinsAhead.2.1 121 = .ok (.iload_n 2, 1) := by decide +kernel
theorem d_Rows_spinsAhead_122 : decode m_Rows_spinsAhead.2.1 122 = .ok (.imul, 1) := by decide +kernel
theorem d_Rows_spinsAhead_123 : decode m_Rows_spinsAhead.2.1 123 = .ok (.iconst 1, 1) := by decide +kernel
theorem d_Rows_spinsAhead_124 : decode m_Rows_spinsAhead.2.1 124 = .ok (.iadd, 1) := by decide +kernel
theorem d_Rows_spinsAhead_125 : decode m_Rows_spinsAhead.2.1 125 = .ok (.invokevirtual 19, 3) := by decide +kernel
theorem d_Rows_spinsAhead_128 : decode m_Rows_spinsAhead.2.1 128 = .ok (.if_icmp .le 7, 3) := by decide +kernel
theorem d_Rows_spinsAhead_131 : decode m_Rows_spinsAhead.2.1 131 = .ok (.iconst 1, 1) := by decide +kernel
theorem d_Rows_spinsAhead_132 : decode m_Rows_spinsAhead.2.1 132 = .ok (.goto 4, 3) := by decide +kernel
theorem d_Rows_spinsAhead_135 : decode m_Rows_spinsAhead.2.1 135 = .ok (.iconst 0, 1) := by decide +kernel
theorem d_Rows_spinsAhead_136 : decode m_Rows_spinsAhead.2.1 136 = .ok (.ireturn, 1) := by decide +kernel
def f_Rows_spinsAhead_61 (S : St) (l1 : Int32) (l2 : Int32) (l3 : Int32) (s0 : Int32) : Option (Int32) :=
    if l3 = s0 then (
    if l3 = 0 then (
    (f_Tape_at S ((2 * l1) + 1)).bind fun v_113 =>
    (f_Tape_at S ((2 * l2) + 1)).bind fun v_125 =>
    if v_113 ≤ v_125 then (
    some (0 : Int32))
    else (
    some (1 : Int32)))
    else (
    (f_Tape_at S (2 * l1)).bind fun v_82 =>
    (f_Tape_at S (2 * l2)).bind fun v_92 =>
    if v_92 ≤ v_82 then (
    some (0 : Int32))
    else (
    some (1 : Int32))))
    else (
    if l3 = 0 ∨ l3 = 1 then (
    some l3) else none)
set_option maxHeartbeats 4000000 in
set_option maxRecDepth 20000 in
theorem t_Rows_spinsAhead_61  (S : St) (l1 : Int32) (l2 : Int32) (l3 : Int32) (s0 : Int32) (w : Int32) (h : f_Rows_spinsAhead_61 S l1 l2 l3 s0 = some w) : G SX m_Rows_spinsAhead 2 (some w) S 61 [(0, .ref 56), (1, .int l1), (2, .int l2), (3, .int l3)] [.int s0] S := by
  unfold f_Rows_spinsAhead_61 at h
  refine G_istore [(4, .int s0), (0, .ref 56), (1, .int l1), (2, .int l2), (3, .int l3)] rfl rfl (by decide) d_Rows_spinsAhead_61 ?_
  refine G_iload_n 4 rfl d_Rows_spinsAhead_63 ?_
  refine G_iload 0 rfl d_Rows_spinsAhead_64 ?_
  refine G_icmp_eq 71 (by decide) d_Rows_spinsAhead_66 (fun c_66 => ?_) (fun c_66 => ?_)
  · replace h := ob_t h c_66
    refine G_iload_n 4 rfl d_Rows_spinsAhead_71 ?_
    refine G_if_eq 104 (by decide) d_Rows_spinsAhead_72 (fun c_72 => ?_) (fun c_72 => ?_)
    · replace h := ob_t h c_72
      refine G_aload_n 1 rfl d_Rows_spinsAhead_104 ?_
      refine G_getR fl_Rows_9 kx_56 sx_56 rfl (by decide) d_Rows_spinsAhead_105 ?_
      refine G_iconst 2 (by decide) d_Rows_spinsAhead_108 ?_
      refine G_iload_n 2 rfl d_Rows_spinsAhead_109 ?_
      refine G_imul d_Rows_spinsAhead_110 ?_
      refine G_iconst 1 (by decide) d_Rows_spinsAhead_111 ?_
      refine G_iadd d_Rows_spinsAhead_112 ?_
      obtain ⟨v_113, q_113, h⟩ := ob_b h
      refine G_callV [.int ((2 * l1) + 1)] [] (t_Tape_at q_113) (by decide) (by decide) mv_Tape_at rfl ml_Rows_19 kx_1 sx_1 cl_8 rfl (Nat.le_of_ble_eq_true rfl) d_Rows_spinsAhead_113 ?_
      refine G_aload_n 1 rfl d_Rows_spinsAhead_116 ?_
      refine G_getR fl_Rows_9 kx_56 sx_56 rfl (by decide) d_Rows_spinsAhead_117 ?_
      refine G_iconst 2 (by decide) d_Rows_spinsAhead_120 ?_
      refine G_iload_n 3 rfl d_Rows_spinsAhead_121 ?_
      refine G_imul d_Rows_spinsAhead_122 ?_
      refine G_iconst 1 (by decide) d_Rows_spinsAhead_123 ?_
      refine G_iadd d_Rows_spinsAhead_124 ?_
      obtain ⟨v_125, q_125, h⟩ := ob_b h
      refine G_callV [.int ((2 * l2) + 1)] [.int v_113] (t_Tape_at q_125) (by decide) (by decide) mv_Tape_at rfl ml_Rows_19 kx_1 sx_1 cl_8 rfl (Nat.le_of_ble_eq_true rfl) d_Rows_spinsAhead_125 ?_
      refine G_icmp_le 135 (by decide) d_Rows_spinsAhead_128 (fun c_128 => ?_) (fun c_128 => ?_)
      · replace h := ob_t h c_128
        refine G_iconst 0 (by decide) d_Rows_spinsAhead_135 ?_
        cases h
        exact G_zret (Or.inl rfl) rfl d_Rows_spinsAhead_136
      · replace h := ob_f h c_128
        refine G_iconst 1 (by decide) d_Rows_spinsAhead_131 ?_
        refine G_goto 136 (by decide) d_Rows_spinsAhead_132 ?_
        cases h
        exact G_zret (Or.inr rfl) rfl d_Rows_spinsAhead_136
    · replace h := ob_f h c_72
      refine G_aload_n 1 rfl d_Rows_spinsAhead_75 ?_
      refine G_getR fl_Rows_9 kx_56 sx_56 rfl (by decide) d_Rows_spinsAhead_76 ?_
      refine G_iconst 2 (by decide) d_Rows_spinsAhead_79 ?_
      refine G_iload_n 2 rfl d_Rows_spinsAhead_80 ?_
      refine G_imul d_Rows_spinsAhead_81 ?_
      obtain ⟨v_82, q_82, h⟩ := ob_b h
      refine G_callV [.int (2 * l1)] [] (t_Tape_at q_82) (by decide) (by decide) mv_Tape_at rfl ml_Rows_19 kx_1 sx_1 cl_8 rfl (Nat.le_of_ble_eq_true rfl) d_Rows_spinsAhead_82 ?_
      refine G_aload_n 1 rfl d_Rows_spinsAhead_85 ?_
      refine G_getR fl_Rows_9 kx_56 sx_56 rfl (by decide) d_Rows_spinsAhead_86 ?_
      refine G_iconst 2 (by decide) d_Rows_spinsAhead_89 ?_
      refine G_iload_n 3 rfl d_Rows_spinsAhead_90 ?_
      refine G_imul d_Rows_spinsAhead_91 ?_
      obtain ⟨v_92, q_92, h⟩ := ob_b h
      refine G_callV [.int (2 * l2)] [.int v_82] (t_Tape_at q_92) (by decide) (by decide) mv_Tape_at rfl ml_Rows_19 kx_1 sx_1 cl_8 rfl (Nat.le_of_ble_eq_true rfl) d_Rows_spinsAhead_92 ?_
      refine G_icmp_ge 102 (by decide) d_Rows_spinsAhead_95 (fun c_95 => ?_) (fun c_95 => ?_)
      · replace h := ob_t h c_95
        refine G_iconst 0 (by decide) d_Rows_spinsAhead_102 ?_
        cases h
        exact G_zret (Or.inl rfl) rfl d_Rows_spinsAhead_103
      · replace h := ob_f h c_95
        refine G_iconst 1 (by decide) d_Rows_spinsAhead_98 ?_
        refine G_goto 103 (by decide) d_Rows_spinsAhead_99 ?_
        cases h
        exact G_zret (Or.inr rfl) rfl d_Rows_spinsAhead_103
  · replace h := ob_f h c_66
    refine G_iload_n 4 rfl d_Rows_spinsAhead_69 ?_
    obtain ⟨g_70, h⟩ := ob_g h
    cases h
    exact G_zret g_70 rfl d_Rows_spinsAhead_70
def f_Rows_spinsAhead_30 (S : St) (l1 : Int32) (l2 : Int32) (s0 : Int32) : Option (Int32) :=
    (f_Tape_at S (2 * l2)).bind fun v_38 =>
    (f_Tape_at S ((2 * l2) + 1)).bind fun v_50 =>
    if v_50 ≤ v_38 then (
    f_Rows_spinsAhead_61 S l1 l2 s0 (0 : Int32))
    else (
    f_Rows_spinsAhead_61 S l1 l2 s0 (1 : Int32))
set_option maxHeartbeats 4000000 in
set_option maxRecDepth 20000 in
theorem t_Rows_spinsAhead_30  (S : St) (l1 : Int32) (l2 : Int32) (s0 : Int32) (w : Int32) (h : f_Rows_spinsAhead_30 S l1 l2 s0 = some w) : G SX m_Rows_spinsAhead 2 (some w) S 30 [(0, .ref 56), (1, .int l1), (2, .int l2)] [.int s0] S := by
  unfold f_Rows_spinsAhead_30 at h
  refine G_istore_n [(3, .int s0), (0, .ref 56), (1, .int l1), (2, .int l2)] rfl rfl (by decide) d_Rows_spinsAhead_30 ?_
  refine G_aload_n 1 rfl d_Rows_spinsAhead_31 ?_
  refine G_getR fl_Rows_9 kx_56 sx_56 rfl (by decide) d_Rows_spinsAhead_32 ?_
  refine G_iconst 2 (by decide) d_Rows_spinsAhead_35 ?_
  refine G_iload_n 3 rfl d_Rows_spinsAhead_36 ?_
  refine G_imul d_Rows_spinsAhead_37 ?_
  obtain ⟨v_38, q_38, h⟩ := ob_b h
  refine G_callV [.int (2 * l2)] [] (t_Tape_at q_38) (by decide) (by decide) mv_Tape_at rfl ml_Rows_19 kx_1 sx_1 cl_8 rfl (Nat.le_of_ble_eq_true rfl) d_Rows_spinsAhead_38 ?_
  refine G_aload_n 1 rfl d_Rows_spinsAhead_41 ?_
  refine G_getR fl_Rows_9 kx_56 sx_56 rfl (by decide) d_Rows_spinsAhead_42 ?_
  refine G_iconst 2 (by decide) d_Rows_spinsAhead_45 ?_
  refine G_iload_n 3 rfl d_Rows_spinsAhead_46 ?_
  refine G_imul d_Rows_spinsAhead_47 ?_
  refine G_iconst 1 (by decide) d_Rows_spinsAhead_48 ?_
  refine G_iadd d_Rows_spinsAhead_49 ?_
  obtain ⟨v_50, q_50, h⟩ := ob_b h
  refine G_callV [.int ((2 * l2) + 1)] [.int v_38] (t_Tape_at q_50) (by decide) (by decide) mv_Tape_at rfl ml_Rows_19 kx_1 sx_1 cl_8 rfl (Nat.le_of_ble_eq_true rfl) d_Rows_spinsAhead_50 ?_
  refine G_icmp_ge 60 (by decide) d_Rows_spinsAhead_53 (fun c_53 => ?_) (fun c_53 => ?_)
  · replace h := ob_t h c_53
    refine G_iconst 0 (by decide) d_Rows_spinsAhead_60 ?_
    exact G_sub _ [1, 2, 3, 0] rfl (t_Rows_spinsAhead_61 S l1 l2 s0 (0 : Int32) _ h)
  · replace h := ob_f h c_53
    refine G_iconst 1 (by decide) d_Rows_spinsAhead_56 ?_
    refine G_goto 61 (by decide) d_Rows_spinsAhead_57 ?_
    exact G_sub _ [1, 2, 3, 0] rfl (t_Rows_spinsAhead_61 S l1 l2 s0 (1 : Int32) _ h)
def f_Rows_spinsAhead (S : St) (l1 : Int32) (l2 : Int32) : Option (Int32) :=
    (f_Tape_at S (2 * l1)).bind fun v_7 =>
    (f_Tape_at S ((2 * l1) + 1)).bind fun v_19 =>
    if v_19 ≤ v_7 then (
    f_Rows_spinsAhead_30 S l1 l2 (0 : Int32))
    else (
    f_Rows_spinsAhead_30 S l1 l2 (1 : Int32))
set_option maxHeartbeats 4000000 in
set_option maxRecDepth 20000 in
theorem t_Rows_spinsAhead  {S : St} {l1 : Int32} {l2 : Int32} {w : Int32} (h : f_Rows_spinsAhead S l1 l2 = some w) : Ct SX m_Rows_spinsAhead 2 [.ref 56, .int l1, .int l2] S (some w) S := by
  unfold f_Rows_spinsAhead at h
  refine Ct.of pn_Rows (Nat.le_of_ble_eq_true rfl) ?_
  show G SX m_Rows_spinsAhead 2 (some w) S 0 [(0, .ref 56), (1, .int l1), (2, .int l2)] [] S
  refine G_aload_n 0 rfl d_Rows_spinsAhead_0 ?_
  refine G_getR fl_Rows_9 kx_56 sx_56 rfl (by decide) d_Rows_spinsAhead_1 ?_
  refine G_iconst 2 (by decide) d_Rows_spinsAhead_4 ?_
  refine G_iload_n 1 rfl d_Rows_spinsAhead_5 ?_
  refine G_imul d_Rows_spinsAhead_6 ?_
  obtain ⟨v_7, q_7, h⟩ := ob_b h
  refine G_callV [.int (2 * l1)] [] (t_Tape_at q_7) (by decide) (by decide) mv_Tape_at rfl ml_Rows_19 kx_1 sx_1 cl_8 rfl (Nat.le_of_ble_eq_true rfl) d_Rows_spinsAhead_7 ?_
  refine G_aload_n 0 rfl d_Rows_spinsAhead_10 ?_
  refine G_getR fl_Rows_9 kx_56 sx_56 rfl (by decide) d_Rows_spinsAhead_11 ?_
  refine G_iconst 2 (by decide) d_Rows_spinsAhead_14 ?_
  refine G_iload_n 1 rfl d_Rows_spinsAhead_15 ?_
  refine G_imul d_Rows_spinsAhead_16 ?_
  refine G_iconst 1 (by decide) d_Rows_spinsAhead_17 ?_
  refine G_iadd d_Rows_spinsAhead_18 ?_
  obtain ⟨v_19, q_19, h⟩ := ob_b h
  refine G_callV [.int ((2 * l1) + 1)] [.int v_7] (t_Tape_at q_19) (by decide) (by decide) mv_Tape_at rfl ml_Rows_19 kx_1 sx_1 cl_8 rfl (Nat.le_of_ble_eq_true rfl) d_Rows_spinsAhead_19 ?_
  refine G_icmp_ge 29 (by decide) d_Rows_spinsAhead_22 (fun c_22 => ?_) (fun c_22 => ?_)
  · replace h := ob_t h c_22
    refine G_iconst 0 (by decide) d_Rows_spinsAhead_29 ?_
    exact G_sub _ [0, 1, 2] rfl (t_Rows_spinsAhead_30 S l1 l2 (0 : Int32) _ h)
  · replace h := ob_f h c_22
    refine G_iconst 1 (by decide) d_Rows_spinsAhead_25 ?_
    refine G_goto 30 (by decide) d_Rows_spinsAhead_26 ?_
    exact G_sub _ [0, 1, 2] rfl (t_Rows_spinsAhead_30 S l1 l2 (1 : Int32) _ h)
theorem d_Rows_nextToSpin_0 : decode m_Rows_nextToSpin.2.1 0 = .ok (.iconst (-1), 1) := by decide +kernel
theorem d_Rows_nextToSpin_1 : decode m_Rows_nextToSpin.2.1 1 = .ok (.istore_n 3, 1) := by decide +kernel
theorem d_Rows_nextToSpin_2 : decode m_Rows_nextToSpin.2.1 2 = .ok (.iconst 0, 1) := by decide +kernel
theorem d_Rows_nextToSpin_3 : decode m_Rows_nextToSpin.2.1 3 = .ok (.istore 4, 2) := by decide +kernel
theorem d_Rows_nextToSpin_5 : decode m_Rows_nextToSpin.2.1 5 = .ok (.iload 4, 2) := by decide +kernel
theorem d_Rows_nextToSpin_7 : decode m_Rows_nextToSpin.2.1 7 = .ok (.iload_n 2, 1) := by decide +kernel
theorem d_Rows_nextToSpin_8 : decode m_Rows_nextToSpin.2.1 8 = .ok (.if_icmp .ge 35, 3) := by decide +kernel
theorem d_Rows_nextToSpin_11 : decode m_Rows_nextToSpin.2.1 11 = .ok (.iload_n 1, 1) := by decide +kernel
theorem d_Rows_nextToSpin_12 : decode m_Rows_nextToSpin.2.1 12 = .ok (.iload 4, 2) := by decide +kernel
theorem d_Rows_nextToSpin_14 : decode m_Rows_nextToSpin.2.1 14 = .ok (.iushr, 1) := by decide +kernel
theorem d_Rows_nextToSpin_15 : decode m_Rows_nextToSpin.2.1 15 = .ok (.iconst 1, 1) := by decide +kernel
theorem d_Rows_nextToSpin_16 : decode m_Rows_nextToSpin.2.1 16 = .ok (.iand, 1) := by decide +kernel
theorem d_Rows_nextToSpin_17 : decode m_Rows_nextToSpin.2.1 17 = .ok (.ifCond .ne 20, 3) := by decide +kernel
theorem d_Rows_nextToSpin_20 : decode m_Rows_nextToSpin.2.1 20 = .ok (.iload_n 3, 1) := by decide +kernel
theorem d_Rows_nextToSpin_21 : decode m_Rows_nextToSpin.2.1 21 = .ok (.ifCond .lt 13, 3) := by decide +kernel
theorem d_Rows_nextToSpin_24 : decode m_Rows_nextToSpin.2.1 24 = .ok (.aload_n 0, 1) := by decide +kernel
theorem d_Rows_nextToSpin_25 : decode m_Rows_nextToSpin.2.1 25 = .ok (.iload 4, 2) := by decide +kernel
theorem d_Rows_nextToSpin_27 : decode m_Rows_nextToSpin.2.1 27 = .ok (.iload_n 3, 1) := by decide +kernel
theorem d_Rows_nextToSpin_28 : decode m_Rows_nextToSpin.2.1 28 = .ok (.invokevirtual 33, 3) := by decide +kernel
theorem d_Rows_nextToSpin_31 : decode m_Rows_nextToSpin.2.1 31 = .ok (.ifCond .eq 6, 3) := by decide +kernel
theorem d_Rows_nextToSpin_34 : decode m_Rows_nextToSpin.2.1 34 = .ok (.iload 4, 2) := by decide +kernel
theorem d_Rows_nextToSpin_36 : decode m_Rows_nextToSpin.2.1 36 = .ok (.istore_n 3, 1) := by decide +kernel
theorem d_Rows_nextToSpin_37 : decode m_Rows_nextToSpin.2.1 37 = .ok (.iinc 4 1, 3) := by decide +kernel
theorem d_Rows_nextToSpin_40 : decode m_Rows_nextToSpin.2.1 40 = .ok (.goto (-35), 3) := by decide +kernel
theorem d_Rows_nextToSpin_43 : decode m_Rows_nextToSpin.2.1 43 = .ok (.iload_n 3, 1) := by decide +kernel
theorem d_Rows_nextToSpin_44 : decode m_Rows_nextToSpin.2.1 44 = .ok (.ireturn, 1) := by decide +kernel
def f_Rows_nextToSpin_37 (k_5 : St → Int32 → Int32 → Int32 → Int32 → Option (Int32)) (S : St) (l1 : Int32) (l2 : Int32) (l3 : Int32) (l4 : Int32) : Option (Int32) :=
    (some (l4 + 1)).bind fun l4_37 =>
    k_5 S l1 l2 l3 l4_37
set_option maxHeartbeats 4000000 in
set_option maxRecDepth 20000 in
theorem t_Rows_nextToSpin_37  {k_5 : St → Int32 → Int32 → Int32 → Int32 → Option (Int32)} (hk_5 : ∀ (S : St) (l1 : Int32) (l2 : Int32) (l3 : Int32) (l4 : Int32) (w : Int32), k_5 S l1 l2 l3 l4 = some w → G SX m_Rows_nextToSpin 3 (some w) S 5 [(0, .ref 56), (1, .int l1), (2, .int l2), (3, .int l3), (4, .int l4)] [] S) (S : St) (l1 : Int32) (l2 : Int32) (l3 : Int32) (l4 : Int32) (w : Int32) (h : f_Rows_nextToSpin_37 k_5 S l1 l2 l3 l4 = some w) : G SX m_Rows_nextToSpin 3 (some w) S 37 [(0, .ref 56), (1, .int l1), (2, .int l2), (3, .int l3), (4, .int l4)] [] S := by
  unfold f_Rows_nextToSpin_37 at h
  obtain ⟨l4_37, e_37, h⟩ := ob_s h
  refine G_iinc 1 4 [(4, .int l4_37), (0, .ref 56), (1, .int l1), (2, .int l2), (3, .int l3)] (by decide) rfl e_37 rfl (by decide) d_Rows_nextToSpin_37 ?_
  refine G_goto 5 (by decide) d_Rows_nextToSpin_40 ?_
  exact G_sub _ [1, 2, 3, 4, 0] rfl (hk_5 S l1 l2 l3 l4_37 _ h)
def f_Rows_nextToSpin_34 (k_5 : St → Int32 → Int32 → Int32 → Int32 → Option (Int32)) (S : St) (l1 : Int32) (l2 : Int32) (l4 : Int32) : Option (Int32) :=
    f_Rows_nextToSpin_37 k_5 S l1 l2 l4 l4
set_option maxHeartbeats 4000000 in
set_option maxRecDepth 20000 in
theorem t_Rows_nextToSpin_34  {k_5 : St → Int32 → Int32 → Int32 → Int32 → Option (Int32)} (hk_5 : ∀ (S : St) (l1 : Int32) (l2 : Int32) (l3 : Int32) (l4 : Int32) (w : Int32), k_5 S l1 l2 l3 l4 = some w → G SX m_Rows_nextToSpin 3 (some w) S 5 [(0, .ref 56), (1, .int l1), (2, .int l2), (3, .int l3), (4, .int l4)] [] S) (S : St) (l1 : Int32) (l2 : Int32) (l4 : Int32) (w : Int32) (h : f_Rows_nextToSpin_34 k_5 S l1 l2 l4 = some w) : G SX m_Rows_nextToSpin 3 (some w) S 34 [(0, .ref 56), (1, .int l1), (2, .int l2), (4, .int l4)] [] S := by
  unfold f_Rows_nextToSpin_34 at h
  refine G_iload 3 rfl d_Rows_nextToSpin_34 ?_
  refine G_istore_n [(3, .int l4), (0, .ref 56), (1, .int l1), (2, .int l2), (4, .int l4)] rfl rfl (by decide) d_Rows_nextToSpin_36 ?_
  exact G_sub _ [1, 2, 3, 0, 4] rfl (t_Rows_nextToSpin_37 hk_5 S l1 l2 l4 l4 _ h)
def f_Rows_nextToSpin_5 : Nat → St → Int32 → Int32 → Int32 → Int32 → Option (Int32)
  | 0, _, _, _, _, _ => none
  | n + 1, S, l1, l2, l3, l4 =>
    if l2 ≤ l4 then (
    some l3)
    else (
    if ((jushr l1 l4) &&& 1) = 0 then (
    if l3 < 0 then (
    f_Rows_nextToSpin_34 (f_Rows_nextToSpin_5 n) S l1 l2 l4)
    else (
    (f_Rows_spinsAhead S l4 l3).bind fun v_28 =>
    if v_28 = 0 then (
    f_Rows_nextToSpin_37 (f_Rows_nextToSpin_5 n) S l1 l2 l3 l4)
    else (
    f_Rows_nextToSpin_34 (f_Rows_nextToSpin_5 n) S l1 l2 l4)))
    else (
    f_Rows_nextToSpin_37 (f_Rows_nextToSpin_5 n) S l1 l2 l3 l4))
set_option maxHeartbeats 4000000 in
set_option maxRecDepth 20000 in
theorem t_Rows_nextToSpin_5  : ∀ (n : Nat) (S : St) (l1 : Int32) (l2 : Int32) (l3 : Int32) (l4 : Int32) (w : Int32), f_Rows_nextToSpin_5 n S l1 l2 l3 l4 = some w → G SX m_Rows_nextToSpin 3 (some w) S 5 [(0, .ref 56), (1, .int l1), (2, .int l2), (3, .int l3), (4, .int l4)] [] S := by
  intro n
  induction n with
  | zero =>
    intro S l1 l2 l3 l4 w h
    rw [f_Rows_nextToSpin_5] at h
    cases h
  | succ n ih =>
    intro S l1 l2 l3 l4 w h
    rw [f_Rows_nextToSpin_5] at h
    refine G_iload 4 rfl d_Rows_nextToSpin_5 ?_
    refine G_iload_n 2 rfl d_Rows_nextToSpin_7 ?_
    refine G_icmp_ge 43 (by decide) d_Rows_nextToSpin_8 (fun c_8 => ?_) (fun c_8 => ?_)
    · replace h := ob_t h c_8
      refine G_iload_n 3 rfl d_Rows_nextToSpin_43 ?_
      cases h
      exact G_iret rfl d_Rows_nextToSpin_44
    · replace h := ob_f h c_8
      refine G_iload_n 1 rfl d_Rows_nextToSpin_11 ?_
      refine G_iload 4 rfl d_Rows_nextToSpin_12 ?_
      refine G_iushr d_Rows_nextToSpin_14 ?_
      refine G_iconst 1 (by decide) d_Rows_nextToSpin_15 ?_
      refine G_iand d_Rows_nextToSpin_16 ?_
      refine G_if_ne 37 (by decide) d_Rows_nextToSpin_17 (fun c_17 => ?_) (fun c_17 => ?_)
      · replace h := ob_f h c_17
        exact G_sub _ [0, 1, 2, 3, 4] rfl (t_Rows_nextToSpin_37 ih S l1 l2 l3 l4 _ h)
      · replace h := ob_t h c_17
        refine G_iload_n 3 rfl d_Rows_nextToSpin_20 ?_
        refine G_if_lt 34 (by decide) d_Rows_nextToSpin_21 (fun c_21 => ?_) (fun c_21 => ?_)
        · replace h := ob_t h c_21
          exact G_sub _ [0, 1, 2, 4] rfl (t_Rows_nextToSpin_34 ih S l1 l2 l4 _ h)
        · replace h := ob_f h c_21
          refine G_aload_n 0 rfl d_Rows_nextToSpin_24 ?_
          refine G_iload 4 rfl d_Rows_nextToSpin_25 ?_
          refine G_iload_n 3 rfl d_Rows_nextToSpin_27 ?_
          obtain ⟨v_28, q_28, h⟩ := ob_b h
          refine G_callV [.int l4, .int l3] [] (t_Rows_spinsAhead q_28) (by decide) (by decide) mv_Rows_spinsAhead rfl ml_Rows_33 kx_56 sx_56 cl_6 rfl (Nat.le_of_ble_eq_true rfl) d_Rows_nextToSpin_28 ?_
          refine G_if_eq 37 (by decide) d_Rows_nextToSpin_31 (fun c_31 => ?_) (fun c_31 => ?_)
          · replace h := ob_t h c_31
            exact G_sub _ [0, 1, 2, 3, 4] rfl (t_Rows_nextToSpin_37 ih S l1 l2 l3 l4 _ h)
          · replace h := ob_f h c_31
            exact G_sub _ [0, 1, 2, 4] rfl (t_Rows_nextToSpin_34 ih S l1 l2 l4 _ h)
def f_Rows_nextToSpin (S : St) (l1 : Int32) (l2 : Int32) : Option (Int32) :=
    (some ((-1) : Int32)).bind fun l3_1 =>
    (some (0 : Int32)).bind fun l4_3 =>
    f_Rows_nextToSpin_5 FU S l1 l2 l3_1 l4_3
set_option maxHeartbeats 4000000 in
set_option maxRecDepth 20000 in
theorem t_Rows_nextToSpin  {S : St} {l1 : Int32} {l2 : Int32} {w : Int32} (h : f_Rows_nextToSpin S l1 l2 = some w) : Ct SX m_Rows_nextToSpin 3 [.ref 56, .int l1, .int l2] S (some w) S := by
  unfold f_Rows_nextToSpin at h
  refine Ct.of pn_Rows (Nat.le_of_ble_eq_true rfl) ?_
  show G SX m_Rows_nextToSpin 3 (some w) S 0 [(0, .ref 56), (1, .int l1), (2, .int l2)] [] S
  refine G_iconst (-1) (by decide) d_Rows_nextToSpin_0 ?_
  obtain ⟨l3_1, e_1, h⟩ := ob_s h
  refine G_istore_n [(3, .int l3_1), (0, .ref 56), (1, .int l1), (2, .int l2)] e_1 rfl (by decide) d_Rows_nextToSpin_1 ?_
  refine G_iconst 0 (by decide) d_Rows_nextToSpin_2 ?_
  obtain ⟨l4_3, e_3, h⟩ := ob_s h
  refine G_istore [(4, .int l4_3), (3, .int l3_1), (0, .ref 56), (1, .int l1), (2, .int l2)] e_3 rfl (by decide) d_Rows_nextToSpin_3 ?_
  exact G_sub _ [2, 3, 4, 1, 0] rfl (t_Rows_nextToSpin_5 FU S l1 l2 l3_1 l4_3 _ h)
theorem d_Rows_hoursBehind_0 : decode m_Rows_hoursBehind.2.1 0 = .ok (.aload_n 0, 1) := by decide +kernel
theorem d_Rows_hoursBehind_1 : decode m_Rows_hoursBehind.2.1 1 = .ok (.getfield 9, 3) := by decide +kernel
theorem d_Rows_hoursBehind_4 : decode m_Rows_hoursBehind.2.1 4 = .ok (.iconst 2, 1) := by decide +kernel
theorem d_Rows_hoursBehind_5 : decode m_Rows_hoursBehind.2.1 5 = .ok (.iload_n 1, 1) := by decide +kernel
theorem d_Rows_hoursBehind_6 : decode m_Rows_hoursBehind.2.1 6 = .ok (.imul, 1) := by decide +kernel
theorem d_Rows_hoursBehind_7 : decode m_Rows_hoursBehind.2.1 7 = .ok (.invokevirtual 19, 3) := by decide +kernel
theorem d_Rows_hoursBehind_10 : decode m_Rows_hoursBehind.2.1 10 = .ok (.istore_n 3, 1) := by decide +kernel
theorem d_Rows_hoursBehind_11 : decode m_Rows_hoursBehind.2.1 11 = .ok (.iload_n 3, 1) := by decide +kernel
theorem d_Rows_hoursBehind_12 : decode m_Rows_hoursBehind.2.1 12 = .ok (.aload_n 0, 1) := by decide +kernel
theorem d_Rows_hoursBehind_13 : decode m_Rows_hoursBehind.2.1 13 = .ok (.getfield 9, 3) := by decide +kernel
theorem d_Rows_hoursBehind_16 : decode m_Rows_hoursBehind.2.1 16 = .ok (.iconst 2, 1) := by decide +kernel
theorem d_Rows_hoursBehind_17 : decode m_Rows_hoursBehind.2.1 17 = .ok (.iload_n 1, 1) := by decide +kernel
theorem d_Rows_hoursBehind_18 : decode m_Rows_hoursBehind.2.1 18 = .ok (.imul, 1) := by decide +kernel
theorem d_Rows_hoursBehind_19 : decode m_Rows_hoursBehind.2.1 19 = .ok (.iconst 1, 1) := by decide +kernel
theorem d_Rows_hoursBehind_20 : decode m_Rows_hoursBehind.2.1 20 = .ok (.iadd, 1) := by decide +kernel
theorem d_Rows_hoursBehind_21 : decode m_Rows_hoursBehind.2.1 21 = .ok (.invokevirtual 19, 3) := by decide +kernel
theorem d_Rows_hoursBehind_24 : decode m_Rows_hoursBehind.2.1 24 = .ok (.iadd, 1) := by decide +kernel
theorem d_Rows_hoursBehind_25 : decode m_Rows_hoursBehind.2.1 25 = .ok (.istore 4, 2) := by decide +kernel
theorem d_Rows_hoursBehind_27 : decode m_Rows_hoursBehind.2.1 27 = .ok (.iconst 1, 1) := by decide +kernel
theorem d_Rows_hoursBehind_28 : decode m_Rows_hoursBehind.2.1 28 = .ok (.iload_n 1, 1) := by decide +kernel
theorem d_Rows_hoursBehind_29 : decode m_Rows_hoursBehind.2.1 29 = .ok (.ishl, 1) := by decide +kernel
theorem d_Rows_hoursBehind_30 : decode m_Rows_hoursBehind.2.1 30 = .ok (.istore 5, 2) := by decide +kernel
theorem d_Rows_hoursBehind_32 : decode m_Rows_hoursBehind.2.1 32 = .ok (.iconst 1, 1) := by decide +kernel
theorem d_Rows_hoursBehind_33 : decode m_Rows_hoursBehind.2.1 33 = .ok (.istore 6, 2) := by decide +kernel
theorem d_Rows_hoursBehind_35 : decode m_Rows_hoursBehind.2.1 35 = .ok (.iload 6, 2) := by decide +kernel
theorem d_Rows_hoursBehind_37 : decode m_Rows_hoursBehind.2.1 37 = .ok (.iload_n 2, 1) := by decide +kernel
theorem d_Rows_hoursBehind_38 : decode m_Rows_hoursBehind.2.1 38 = .ok (.if_icmp .ge 63, 3) := by decide +kernel
theorem d_Rows_hoursBehind_41 : decode m_Rows_hoursBehind.2.1 41 = .ok (.aload_n 0, 1) := by decide +kernel
theorem d_Rows_hoursBehind_42 : decode m_Rows_hoursBehind.2.1 42 = .ok (.iload 5, 2) := by decide +kernel
theorem d_Rows_hoursBehind_44 : decode m_Rows_hoursBehind.2.1 44 = .ok (.iload_n 2, 1) := by decide +kernel
theorem d_Rows_hoursBehind_45 : decode m_Rows_hoursBehind.2.1 45 = .ok (.invokevirtual 25, 3) := by decide +kernel
theorem d_Rows_hoursBehind_48 : decode m_Rows_hoursBehind.2.1 48 = .ok (.istore 7, 2) := by decide +kernel
theorem d_Rows_hoursBehind_50 : decode m_Rows_hoursBehind.2.1 50 = .ok (.iload 5, 2) := by decide +kernel
theorem d_Rows_hoursBehind_52 : decode m_Rows_hoursBehind.2.1 52 = .ok (.iconst 1, 1) := by decide +kernel
theorem d_Rows_hoursBehind_53 : decode m_Rows_hoursBehind.2.1 53 = .ok (.iload 7, 2) := by decide +kernel
theorem d_Rows_hoursBehind_55 : decode m_Rows_hoursBehind.2.1 55 = .ok (.ishl, 1) := by decide +kernel
theorem d_Rows_hoursBehind_56 : decode m_Rows_hoursBehind.2.1 56 = .ok (.ior, 1) := by decide +kernel
theorem d_Rows_hoursBehind_57 : decode m_Rows_hoursBehind.2.1 57 = .ok (.istore 5, 2) := by decide +kernel
theorem d_Rows_hoursBehind_59 : decode m_Rows_hoursBehind.2.1 59 = .ok (.iload_n 3, 1) := by decide +kernel
theorem d_Rows_hoursBehind_60 : decode m_Rows_hoursBehind.2.1 60 = .ok (.aload_n 0, 1) := by decide +kernel
theorem d_Rows_hoursBehind_61 : decode m_Rows_hoursBehind.2.1 61 = .ok (.getfield 9, 3) := by decide +kernel
theorem d_Rows_hoursBehind_64 : decode m_Rows_hoursBehind.2.1 64 = .ok (.iconst 2, 1) := by decide +kernel
theorem d_Rows_hoursBehind_65 : decode m_Rows_hoursBehind.2.1 65 = .ok (.iload 7, 2) := by decide +kernel
theorem d_Rows_hoursBehind_67 : decode m_Rows_hoursBehind.2.1 67 = .ok (.imul, 1) := by decide +kernel
theorem d_Rows_hoursBehind_68 : decode m_Rows_hoursBehind.2.1 68 = .ok (.invokevirtual 19, 3) := by decide +kernel
theorem d_Rows_hoursBehind_71 : decode m_Rows_hoursBehind.2.1 71 = .ok (.iadd, 1) := by decide +kernel
theorem d_Rows_hoursBehind_72 : decode m_Rows_hoursBehind.2.1 72 = .ok (.istore_n 3, 1) := by decide +kernel
theorem d_Rows_hoursBehind_73 : decode m_Rows_hoursBehind.2.1 73 = .ok (.iload_n 3, 1) := by decide +kernel
theorem d_Rows_hoursBehind_74 : decode m_Rows_hoursBehind.2.1 74 = .ok (.iload 4, 2) := by decide +kernel
theorem d_Rows_hoursBehind_76 : decode m_Rows_hoursBehind.2.1 76 = .ok (.invokestatic 28, 3) := by decide +kernel
theorem d_Rows_hoursBehind_79 : decode m_Rows_hoursBehind.2.1 79 = .ok (.aload_n 0, 1) := by decide +kernel
theorem d_Rows_hoursBehind_80 : decode m_Rows_hoursBehind.2.1 80 = .ok (.getfield 9, 3) := by decide +kernel
theorem d_Rows_hoursBehind_83 : decode m_Rows_hoursBehind.2.1 83 = .ok (.iconst 2, 1) := by decide +kernel
theorem d_Rows_hoursBehind_84 : decode m_Rows_hoursBehind.2.1 84 = .ok (.iload 7, 2) := by decide +kernel
theorem d_Rows_hoursBehind_86 : decode m_Rows_hoursBehind.2.1 86 = .ok (.imul, 1) := by decide +kernel
theorem d_Rows_hoursBehind_87 : decode m_Rows_hoursBehind.2.1 87 = .ok (.iconst 1, 1) := by decide +kernel
theorem d_Rows_hoursBehind_88 : decode m_Rows_hoursBehind.2.1 88 = .ok (.iadd, 1) := by decide +kernel
theorem d_Rows_hoursBehind_89 : decode m_Rows_hoursBehind.2.1 89 = .ok (.invokevirtual 19, 3) := by decide +kernel
theorem d_Rows_hoursBehind_92 : decode m_Rows_hoursBehind.2.1 92 = .ok (.iadd, 1) := by decide +kernel
theorem d_Rows_hoursBehind_93 : decode m_Rows_hoursBehind.2.1 93 = .ok (.istore 4, 2) := by decide +kernel
theorem d_Rows_hoursBehind_95 : decode m_Rows_hoursBehind.2.1 95 = .ok (.iinc 6 1, 3) := by decide +kernel
theorem d_Rows_hoursBehind_98 : decode m_Rows_hoursBehind.2.1 98 = .ok (.goto (-63), 3) := by decide +kernel
theorem d_Rows_hoursBehind_101 : decode m_Rows_hoursBehind.2.1 101 = .ok (.iload 4, 2) := by decide +kernel
theorem d_Rows_hoursBehind_103 : decode m_Rows_hoursBehind.2.1 103 = .ok (.ireturn, 1) := by decide +kernel
def f_Rows_hoursBehind_35 : Nat → St → Int32 → Int32 → Int32 → Int32 → Int32 → Option (Int32)
  | 0, _, _, _, _, _, _ => none
  | n + 1, S, l2, l3, l4, l5, l6 =>
    if l2 ≤ l6 then (
    some l4)
    else (
    (f_Rows_nextToSpin S l5 l2).bind fun v_45 =>
    (some (l5 ||| (jshl 1 v_45))).bind fun l5_57 =>
    (f_Tape_at S (2 * v_45)).bind fun v_68 =>
    (some (l3 + v_68)).bind fun l3_72 =>
    (f_Tape_at S ((2 * v_45) + 1)).bind fun v_89 =>
    (some ((jmax l3_72 l4) + v_89)).bind fun l4_93 =>
    (some (l6 + 1)).bind fun l6_95 =>
    f_Rows_hoursBehind_35 n S l2 l3_72 l4_93 l5_57 l6_95)
set_option maxHeartbeats 4000000 in
set_option maxRecDepth 20000 in
theorem t_Rows_hoursBehind_35  : ∀ (n : Nat) (S : St) (l2 : Int32) (l3 : Int32) (l4 : Int32) (l5 : Int32) (l6 : Int32) (w : Int32), f_Rows_hoursBehind_35 n S l2 l3 l4 l5 l6 = some w → G SX m_Rows_hoursBehind 4 (some w) S 35 [(0, .ref 56), (2, .int l2), (3, .int l3), (4, .int l4), (5, .int l5), (6, .int l6)] [] S := by
  intro n
  induction n with
  | zero =>
    intro S l2 l3 l4 l5 l6 w h
    rw [f_Rows_hoursBehind_35] at h
    cases h
  | succ n ih =>
    intro S l2 l3 l4 l5 l6 w h
    rw [f_Rows_hoursBehind_35] at h
    refine G_iload 5 rfl d_Rows_hoursBehind_35 ?_
    refine G_iload_n 1 rfl d_Rows_hoursBehind_37 ?_
    refine G_icmp_ge 101 (by decide) d_Rows_hoursBehind_38 (fun c_38 => ?_) (fun c_38 => ?_)
    · replace h := ob_t h c_38
      refine G_iload 3 rfl d_Rows_hoursBehind_101 ?_
      cases h
      exact G_iret rfl d_Rows_hoursBehind_103
    · replace h := ob_f h c_38
      refine G_aload_n 0 rfl d_Rows_hoursBehind_41 ?_
      refine G_iload 4 rfl d_Rows_hoursBehind_42 ?_
      refine G_iload_n 1 rfl d_Rows_hoursBehind_44 ?_
      obtain ⟨v_45, q_45, h⟩ := ob_b h
      refine G_callV [.int l5, .int l2] [] (t_Rows_nextToSpin q_45) (by decide) (by decide) mv_Rows_nextToSpin rfl ml_Rows_25 kx_56 sx_56 cl_6 rfl (Nat.le_of_ble_eq_true rfl) d_Rows_hoursBehind_45 ?_
      refine G_istore [(7, .int v_45), (0, .ref 56), (2, .int l2), (3, .int l3), (4, .int l4), (5, .int l5), (6, .int l6)] rfl rfl (by decide) d_Rows_hoursBehind_48 ?_
      refine G_iload 5 rfl d_Rows_hoursBehind_50 ?_
      refine G_iconst 1 (by decide) d_Rows_hoursBehind_52 ?_
      refine G_iload 0 rfl d_Rows_hoursBehind_53 ?_
      refine G_ishl d_Rows_hoursBehind_55 ?_
      refine G_ior d_Rows_hoursBehind_56 ?_
      obtain ⟨l5_57, e_57, h⟩ := ob_s h
      refine G_istore [(5, .int l5_57), (7, .int v_45), (0, .ref 56), (2, .int l2), (3, .int l3), (4, .int l4), (6, .int l6)] e_57 rfl (by decide) d_Rows_hoursBehind_57 ?_
      refine G_iload_n 4 rfl d_Rows_hoursBehind_59 ?_
      refine G_aload_n 2 rfl d_Rows_hoursBehind_60 ?_
      refine G_getR fl_Rows_9 kx_56 sx_56 rfl (by decide) d_Rows_hoursBehind_61 ?_
      refine G_iconst 2 (by decide) d_Rows_hoursBehind_64 ?_
      refine G_iload 1 rfl d_Rows_hoursBehind_65 ?_
      refine G_imul d_Rows_hoursBehind_67 ?_
      obtain ⟨v_68, q_68, h⟩ := ob_b h
      refine G_callV [.int (2 * v_45)] [.int l3] (t_Tape_at q_68) (by decide) (by decide) mv_Tape_at rfl ml_Rows_19 kx_1 sx_1 cl_8 rfl (Nat.le_of_ble_eq_true rfl) d_Rows_hoursBehind_68 ?_
      refine G_iadd d_Rows_hoursBehind_71 ?_
      obtain ⟨l3_72, e_72, h⟩ := ob_s h
      refine G_istore_n [(3, .int l3_72), (5, .int l5_57), (7, .int v_45), (0, .ref 56), (2, .int l2), (4, .int l4), (6, .int l6)] e_72 rfl (by decide) d_Rows_hoursBehind_72 ?_
      refine G_iload_n 0 rfl d_Rows_hoursBehind_73 ?_
      refine G_iload 5 rfl d_Rows_hoursBehind_74 ?_
      refine G_mmax ms_Rows_28 (by decide) (Nat.le_of_ble_eq_true rfl) d_Rows_hoursBehind_76 ?_
      refine G_aload_n 3 rfl d_Rows_hoursBehind_79 ?_
      refine G_getR fl_Rows_9 kx_56 sx_56 rfl (by decide) d_Rows_hoursBehind_80 ?_
      refine G_iconst 2 (by decide) d_Rows_hoursBehind_83 ?_
      refine G_iload 2 rfl d_Rows_hoursBehind_84 ?_
      refine G_imul d_Rows_hoursBehind_86 ?_
      refine G_iconst 1 (by decide) d_Rows_hoursBehind_87 ?_
      refine G_iadd d_Rows_hoursBehind_88 ?_
      obtain ⟨v_89, q_89, h⟩ := ob_b h
      refine G_callV [.int ((2 * v_45) + 1)] [.int (jmax l3_72 l4)] (t_Tape_at q_89) (by decide) (by decide) mv_Tape_at rfl ml_Rows_19 kx_1 sx_1 cl_8 rfl (Nat.le_of_ble_eq_true rfl) d_Rows_hoursBehind_89 ?_
      refine G_iadd d_Rows_hoursBehind_92 ?_
      obtain ⟨l4_93, e_93, h⟩ := ob_s h
      refine G_istore [(4, .int l4_93), (3, .int l3_72), (5, .int l5_57), (7, .int v_45), (0, .ref 56), (2, .int l2), (6, .int l6)] e_93 rfl (by decide) d_Rows_hoursBehind_93 ?_
      obtain ⟨l6_95, e_95, h⟩ := ob_s h
      refine G_iinc 1 6 [(6, .int l6_95), (4, .int l4_93), (3, .int l3_72), (5, .int l5_57), (7, .int v_45), (0, .ref 56), (2, .int l2)] (by decide) rfl e_95 rfl (by decide) d_Rows_hoursBehind_95 ?_
      refine G_goto 35 (by decide) d_Rows_hoursBehind_98 ?_
      exact G_sub _ [5, 6, 2, 1, 3, 0] rfl (ih S l2 l3_72 l4_93 l5_57 l6_95 _ h)
def f_Rows_hoursBehind (S : St) (l1 : Int32) (l2 : Int32) : Option (Int32) :=
    (f_Tape_at S (2 * l1)).bind fun v_7 =>
    (f_Tape_at S ((2 * l1) + 1)).bind fun v_21 =>
    (some (v_7 + v_21)).bind fun l4_25 =>
    (some (jshl 1 l1)).bind fun l5_30 =>
    (some (1 : Int32)).bind fun l6_33 =>
    f_Rows_hoursBehind_35 FU S l2 v_7 l4_25 l5_30 l6_33
set_option maxHeartbeats 4000000 in
set_option maxRecDepth 20000 in
theorem t_Rows_hoursBehind  {S : St} {l1 : Int32} {l2 : Int32} {w : Int32} (h : f_Rows_hoursBehind S l1 l2 = some w) : Ct SX m_Rows_hoursBehind 4 [.ref 56, .int l1, .int l2] S (some w) S := by
  unfold f_Rows_hoursBehind at h
  refine Ct.of pn_Rows (Nat.le_of_ble_eq_true rfl) ?_
  show G SX m_Rows_hoursBehind 4 (some w) S 0 [(0, .ref 56), (1, .int l1), (2, .int l2)] [] S
  refine G_aload_n 0 rfl d_Rows_hoursBehind_0 ?_
  refine G_getR fl_Rows_9 kx_56 sx_56 rfl (by decide) d_Rows_hoursBehind_1 ?_
  refine G_iconst 2 (by decide) d_Rows_hoursBehind_4 ?_
  refine G_iload_n 1 rfl d_Rows_hoursBehind_5 ?_
  refine G_imul d_Rows_hoursBehind_6 ?_
  obtain ⟨v_7, q_7, h⟩ := ob_b h
  refine G_callV [.int (2 * l1)] [] (t_Tape_at q_7) (by decide) (by decide) mv_Tape_at rfl ml_Rows_19 kx_1 sx_1 cl_8 rfl (Nat.le_of_ble_eq_true rfl) d_Rows_hoursBehind_7 ?_
  refine G_istore_n [(3, .int v_7), (0, .ref 56), (1, .int l1), (2, .int l2)] rfl rfl (by decide) d_Rows_hoursBehind_10 ?_
  refine G_iload_n 0 rfl d_Rows_hoursBehind_11 ?_
  refine G_aload_n 1 rfl d_Rows_hoursBehind_12 ?_
  refine G_getR fl_Rows_9 kx_56 sx_56 rfl (by decide) d_Rows_hoursBehind_13 ?_
  refine G_iconst 2 (by decide) d_Rows_hoursBehind_16 ?_
  refine G_iload_n 2 rfl d_Rows_hoursBehind_17 ?_
  refine G_imul d_Rows_hoursBehind_18 ?_
  refine G_iconst 1 (by decide) d_Rows_hoursBehind_19 ?_
  refine G_iadd d_Rows_hoursBehind_20 ?_
  obtain ⟨v_21, q_21, h⟩ := ob_b h
  refine G_callV [.int ((2 * l1) + 1)] [.int v_7] (t_Tape_at q_21) (by decide) (by decide) mv_Tape_at rfl ml_Rows_19 kx_1 sx_1 cl_8 rfl (Nat.le_of_ble_eq_true rfl) d_Rows_hoursBehind_21 ?_
  refine G_iadd d_Rows_hoursBehind_24 ?_
  obtain ⟨l4_25, e_25, h⟩ := ob_s h
  refine G_istore [(4, .int l4_25), (3, .int v_7), (0, .ref 56), (1, .int l1), (2, .int l2)] e_25 rfl (by decide) d_Rows_hoursBehind_25 ?_
  refine G_iconst 1 (by decide) d_Rows_hoursBehind_27 ?_
  refine G_iload_n 3 rfl d_Rows_hoursBehind_28 ?_
  refine G_ishl d_Rows_hoursBehind_29 ?_
  obtain ⟨l5_30, e_30, h⟩ := ob_s h
  refine G_istore [(5, .int l5_30), (4, .int l4_25), (3, .int v_7), (0, .ref 56), (1, .int l1), (2, .int l2)] e_30 rfl (by decide) d_Rows_hoursBehind_30 ?_
  refine G_iconst 1 (by decide) d_Rows_hoursBehind_32 ?_
  obtain ⟨l6_33, e_33, h⟩ := ob_s h
  refine G_istore [(6, .int l6_33), (5, .int l5_30), (4, .int l4_25), (3, .int v_7), (0, .ref 56), (1, .int l1), (2, .int l2)] e_33 rfl (by decide) d_Rows_hoursBehind_33 ?_
  exact G_sub _ [4, 6, 3, 2, 1, 0] rfl (t_Rows_hoursBehind_35 FU S l2 v_7 l4_25 l5_30 l6_33 _ h)
theorem d_Rows_bestFirst_0 : decode m_Rows_bestFirst.2.1 0 = .ok (.iconst 0, 1) := by decide +kernel
theorem d_Rows_bestFirst_1 : decode m_Rows_bestFirst.2.1 1 = .ok (.istore_n 2, 1) := by decide +kernel
theorem d_Rows_bestFirst_2 : decode m_Rows_bestFirst.2.1 2 = .ok (.aload_n 0, 1) := by decide +kernel
theorem d_Rows_bestFirst_3 : decode m_Rows_bestFirst.2.1 3 = .ok (.iconst 0, 1) := by decide +kernel
theorem d_Rows_bestFirst_4 : decode m_Rows_bestFirst.2.1 4 = .ok (.iload_n 1, 1) := by decide +kernel
theorem d_Rows_bestFirst_5 : decode m_Rows_bestFirst.2.1 5 = .ok (.invokevirtual 15, 3) := by decide +kernel
theorem d_Rows_bestFirst_8 : decode m_Rows_bestFirst.2.1 8 = .ok (.istore_n 3, 1) := by decide +kernel
theorem d_Rows_bestFirst_9 : decode m_Rows_bestFirst.2.1 9 = .ok (.iconst 1, 1) := by decide +kernel
theorem d_Rows_bestFirst_10 : decode m_Rows_bestFirst.2.1 10 = .ok (.istore 4, 2) := by decide +kernel
theorem d_Rows_bestFirst_12 : decode m_Rows_bestFirst.2.1 12 = .ok (.iload 4, 2) := by decide +kernel
theorem d_Rows_bestFirst_14 : decode m_Rows_bestFirst.2.1 14 = .ok (.iload_n 1, 1) := by decide +kernel
theorem d_Rows_bestFirst_15 : decode m_Rows_bestFirst.2.1 15 = .ok (.if_icmp .ge 30, 3) := by decide +kernel
theorem d_Rows_bestFirst_18 : decode m_Rows_bestFirst.2.1 18 = .ok (.aload_n 0, 1) := by decide +kernel
theorem d_Rows_bestFirst_19 : decode m_Rows_bestFirst.2.1 19 = .ok (.iload 4, 2) := by decide +kernel
theorem d_Rows_bestFirst_21 : decode m_Rows_bestFirst.2.1 21 = .ok (.iload_n 1, 1) := by decide +kernel
theorem d_Rows_bestFirst_22 : decode m_Rows_bestFirst.2.1 22 = .ok (.invokevirtual 15, 3) := by decide +kernel
theorem d_Rows_bestFirst_25 : decode m_Rows_bestFirst.2.1 25 = .ok (.istore 5, 2) := by decide +kernel
theorem d_Rows_bestFirst_27 : decode m_Rows_bestFirst.2.1 27 = .ok (.iload 5, 2) := by decide +kernel
theorem d_Rows_bestFirst_29 : decode m_Rows_bestFirst.2.1 29 = .ok (.iload_n 3, 1) := by decide +kernel
theorem d_Rows_bestFirst_30 : decode m_Rows_bestFirst.2.1 30 = .ok (.if_icmp .ge 9, 3) := by decide +kernel
theorem d_Rows_bestFirst_33 : decode m_Rows_bestFirst.2.1 33 = .ok (.iload 4, 2) := by decide +kernel
theorem d_Rows_bestFirst_35 : decode m_Rows_bestFirst.2.1 35 = .ok (.istore_n 2, 1) := by decide +kernel
theorem d_Rows_bestFirst_36 : decode m_Rows_bestFirst.2.1 36 = .ok (.iload 5, 2) := by decide +kernel
theorem d_Rows_bestFirst_38 : decode m_Rows_bestFirst.2.1 38 = .ok (.istore_n 3, 1) := by decide +kernel
theorem d_Rows_bestFirst_39 : decode m_Rows_bestFirst.2.1 39 = .ok (.iinc 4 1, 3) := by decide +kernel
theorem d_Rows_bestFirst_42 : decode m_Rows_bestFirst.2.1 42 = .ok (.goto (-30), 3) := by decide +kernel
theorem d_Rows_bestFirst_45 : decode m_Rows_bestFirst.2.1 45 = .ok (.iload_n 2, 1) := by decide +kernel
theorem d_Rows_bestFirst_46 : decode m_Rows_bestFirst.2.1 46 = .ok (.ireturn, 1) := by decide +kernel
def f_Rows_bestFirst_39 (k_12 : St → Int32 → Int32 → Int32 → Int32 → Option (Int32)) (S : St) (l1 : Int32) (l2 : Int32) (l3 : Int32) (l4 : Int32) : Option (Int32) :=
    (some (l4 + 1)).bind fun l4_39 =>
    k_12 S l1 l2 l3 l4_39
set_option maxHeartbeats 4000000 in
set_option maxRecDepth 20000 in
theorem t_Rows_bestFirst_39  {k_12 : St → Int32 → Int32 → Int32 → Int32 → Option (Int32)} (hk_12 : ∀ (S : St) (l1 : Int32) (l2 : Int32) (l3 : Int32) (l4 : Int32) (w : Int32), k_12 S l1 l2 l3 l4 = some w → G SX m_Rows_bestFirst 5 (some w) S 12 [(0, .ref 56), (1, .int l1), (2, .int l2), (3, .int l3), (4, .int l4)] [] S) (S : St) (l1 : Int32) (l2 : Int32) (l3 : Int32) (l4 : Int32) (w : Int32) (h : f_Rows_bestFirst_39 k_12 S l1 l2 l3 l4 = some w) : G SX m_Rows_bestFirst 5 (some w) S 39 [(0, .ref 56), (1, .int l1), (2, .int l2), (3, .int l3), (4, .int l4)] [] S := by
  unfold f_Rows_bestFirst_39 at h
  obtain ⟨l4_39, e_39, h⟩ := ob_s h
  refine G_iinc 1 4 [(4, .int l4_39), (0, .ref 56), (1, .int l1), (2, .int l2), (3, .int l3)] (by decide) rfl e_39 rfl (by decide) d_Rows_bestFirst_39 ?_
  refine G_goto 12 (by decide) d_Rows_bestFirst_42 ?_
  exact G_sub _ [1, 2, 3, 4, 0] rfl (hk_12 S l1 l2 l3 l4_39 _ h)
def f_Rows_bestFirst_12 : Nat → St → Int32 → Int32 → Int32 → Int32 → Option (Int32)
  | 0, _, _, _, _, _ => none
  | n + 1, S, l1, l2, l3, l4 =>
    if l1 ≤ l4 then (
    some l2)
    else (
    (f_Rows_hoursBehind S l4 l1).bind fun v_22 =>
    if l3 ≤ v_22 then (
    f_Rows_bestFirst_39 (f_Rows_bestFirst_12 n) S l1 l2 l3 l4)
    else (
    f_Rows_bestFirst_39 (f_Rows_bestFirst_12 n) S l1 l4 v_22 l4))
set_option maxHeartbeats 4000000 in
set_option maxRecDepth 20000 in
theorem t_Rows_bestFirst_12  : ∀ (n : Nat) (S : St) (l1 : Int32) (l2 : Int32) (l3 : Int32) (l4 : Int32) (w : Int32), f_Rows_bestFirst_12 n S l1 l2 l3 l4 = some w → G SX m_Rows_bestFirst 5 (some w) S 12 [(0, .ref 56), (1, .int l1), (2, .int l2), (3, .int l3), (4, .int l4)] [] S := by
  intro n
  induction n with
  | zero =>
    intro S l1 l2 l3 l4 w h
    rw [f_Rows_bestFirst_12] at h
    cases h
  | succ n ih =>
    intro S l1 l2 l3 l4 w h
    rw [f_Rows_bestFirst_12] at h
    refine G_iload 4 rfl d_Rows_bestFirst_12 ?_
    refine G_iload_n 1 rfl d_Rows_bestFirst_14 ?_
    refine G_icmp_ge 45 (by decide) d_Rows_bestFirst_15 (fun c_15 => ?_) (fun c_15 => ?_)
    · replace h := ob_t h c_15
      refine G_iload_n 2 rfl d_Rows_bestFirst_45 ?_
      cases h
      exact G_iret rfl d_Rows_bestFirst_46
    · replace h := ob_f h c_15
      refine G_aload_n 0 rfl d_Rows_bestFirst_18 ?_
      refine G_iload 4 rfl d_Rows_bestFirst_19 ?_
      refine G_iload_n 1 rfl d_Rows_bestFirst_21 ?_
      obtain ⟨v_22, q_22, h⟩ := ob_b h
      refine G_callV [.int l4, .int l1] [] (t_Rows_hoursBehind q_22) (by decide) (by decide) mv_Rows_hoursBehind rfl ml_Rows_15 kx_56 sx_56 cl_6 rfl (Nat.le_of_ble_eq_true rfl) d_Rows_bestFirst_22 ?_
      refine G_istore [(5, .int v_22), (0, .ref 56), (1, .int l1), (2, .int l2), (3, .int l3), (4, .int l4)] rfl rfl (by decide) d_Rows_bestFirst_25 ?_
      refine G_iload 0 rfl d_Rows_bestFirst_27 ?_
      refine G_iload_n 4 rfl d_Rows_bestFirst_29 ?_
      refine G_icmp_ge 39 (by decide) d_Rows_bestFirst_30 (fun c_30 => ?_) (fun c_30 => ?_)
      · replace h := ob_t h c_30
        exact G_sub _ [1, 2, 3, 4, 5] rfl (t_Rows_bestFirst_39 ih S l1 l2 l3 l4 _ h)
      · replace h := ob_f h c_30
        refine G_iload 5 rfl d_Rows_bestFirst_33 ?_
        refine G_istore_n [(2, .int l4), (5, .int v_22), (0, .ref 56), (1, .int l1), (3, .int l3), (4, .int l4)] rfl rfl (by decide) d_Rows_bestFirst_35 ?_
        refine G_iload 1 rfl d_Rows_bestFirst_36 ?_
        refine G_istore_n [(3, .int v_22), (2, .int l4), (5, .int v_22), (0, .ref 56), (1, .int l1), (4, .int l4)] rfl rfl (by decide) d_Rows_bestFirst_38 ?_
        exact G_sub _ [3, 4, 1, 0, 5] rfl (t_Rows_bestFirst_39 ih S l1 l4 v_22 l4 _ h)
def f_Rows_bestFirst (S : St) (l1 : Int32) : Option (Int32) :=
    (some (0 : Int32)).bind fun l2_1 =>
    (f_Rows_hoursBehind S (0 : Int32) l1).bind fun v_5 =>
    (some (1 : Int32)).bind fun l4_10 =>
    f_Rows_bestFirst_12 FU S l1 l2_1 v_5 l4_10
set_option maxHeartbeats 4000000 in
set_option maxRecDepth 20000 in
theorem t_Rows_bestFirst  {S : St} {l1 : Int32} {w : Int32} (h : f_Rows_bestFirst S l1 = some w) : Ct SX m_Rows_bestFirst 5 [.ref 56, .int l1] S (some w) S := by
  unfold f_Rows_bestFirst at h
  refine Ct.of pn_Rows (Nat.le_of_ble_eq_true rfl) ?_
  show G SX m_Rows_bestFirst 5 (some w) S 0 [(0, .ref 56), (1, .int l1)] [] S
  refine G_iconst 0 (by decide) d_Rows_bestFirst_0 ?_
  obtain ⟨l2_1, e_1, h⟩ := ob_s h
  refine G_istore_n [(2, .int l2_1), (0, .ref 56), (1, .int l1)] e_1 rfl (by decide) d_Rows_bestFirst_1 ?_
  refine G_aload_n 1 rfl d_Rows_bestFirst_2 ?_
  refine G_iconst 0 (by decide) d_Rows_bestFirst_3 ?_
  refine G_iload_n 2 rfl d_Rows_bestFirst_4 ?_
  obtain ⟨v_5, q_5, h⟩ := ob_b h
  refine G_callV [.int 0, .int l1] [] (t_Rows_hoursBehind q_5) (by decide) (by decide) mv_Rows_hoursBehind rfl ml_Rows_15 kx_56 sx_56 cl_6 rfl (Nat.le_of_ble_eq_true rfl) d_Rows_bestFirst_5 ?_
  refine G_istore_n [(3, .int v_5), (2, .int l2_1), (0, .ref 56), (1, .int l1)] rfl rfl (by decide) d_Rows_bestFirst_8 ?_
  refine G_iconst 1 (by decide) d_Rows_bestFirst_9 ?_
  obtain ⟨l4_10, e_10, h⟩ := ob_s h
  refine G_istore [(4, .int l4_10), (3, .int v_5), (2, .int l2_1), (0, .ref 56), (1, .int l1)] e_10 rfl (by decide) d_Rows_bestFirst_10 ?_
  exact G_sub _ [3, 4, 2, 1, 0] rfl (t_Rows_bestFirst_12 FU S l1 l2_1 v_5 l4_10 _ h)
theorem d_Rows_farthestFrom_0 : decode m_Rows_farthestFrom.2.1 0 = .ok (.iload_n 2, 1) := by decide +kernel
theorem d_Rows_farthestFrom_1 : decode m_Rows_farthestFrom.2.1 1 = .ok (.istore_n 3, 1) := by decide +kernel
theorem d_Rows_farthestFrom_2 : decode m_Rows_farthestFrom.2.1 2 = .ok (.iconst 0, 1) := by decide +kernel
theorem d_Rows_farthestFrom_3 : decode m_Rows_farthestFrom.2.1 3 = .ok (.istore 4, 2) := by decide +kernel
theorem d_Rows_farthestFrom_5 : decode m_Rows_farthestFrom.2.1 5 = .ok (.iload 4, 2) := by decide +kernel
theorem d_Rows_farthestFrom_7 : decode m_Rows_farthestFrom.2.1 7 = .ok (.iload_n 1, 1) := by decide +kernel
theorem d_Rows_farthestFrom_8 : decode m_Rows_farthestFrom.2.1 8 = .ok (.if_icmp .ge 42, 3) := by decide +kernel
theorem d_Rows_farthestFrom_11 : decode m_Rows_farthestFrom.2.1 11 = .ok (.aload_n 0, 1) := by decide +kernel
theorem d_Rows_farthestFrom_12 : decode m_Rows_farthestFrom.2.1 12 = .ok (.getfield 9, 3) := by decide +kernel
theorem d_Rows_farthestFrom_15 : decode m_Rows_farthestFrom.2.1 15 = .ok (.iconst 2, 1) := by decide +kernel
theorem d_Rows_farthestFrom_16 : decode m_Rows_farthestFrom.2.1 16 = .ok (.iload 4, 2) := by decide +kernel
theorem d_Rows_farthestFrom_18 : decode m_Rows_farthestFrom.2.1 18 = .ok (.imul, 1) := by decide +kernel
theorem d_Rows_farthestFrom_19 : decode m_Rows_farthestFrom.2.1 19 = .ok (.invokevirtual 19, 3) := by decide +kernel
theorem d_Rows_farthestFrom_22 : decode m_Rows_farthestFrom.2.1 22 = .ok (.iload_n 2, 1) := by decide +kernel
theorem d_Rows_farthestFrom_23 : decode m_Rows_farthestFrom.2.1 23 = .ok (.if_icmp .gt 21, 3) := by decide +kernel
theorem d_Rows_farthestFrom_26 : decode m_Rows_farthestFrom.2.1 26 = .ok (.iload_n 3, 1) := by decide +kernel
theorem d_Rows_farthestFrom_27 : decode m_Rows_farthestFrom.2.1 27 = .ok (.aload_n 0, 1) := by decide +kernel
theorem d_Rows_farthestFrom_28 : decode m_Rows_farthestFrom.2.1 28 = .ok (.getfield 9, 3) := by decide +kernel
theorem d_Rows_farthestFrom_31 : decode m_Rows_farthestFrom.2.1 31 = .ok (.iconst 2, 1) := by decide +kernel
theorem d_Rows_farthestFrom_32 : decode m_Rows_farthestFrom.2.1 32 = .ok (.iload 4, 2) := by decide +kernel
theorem d_Rows_farthestFrom_34 : decode m_Rows_farthestFrom.2.1 34 = .ok (.imul, 1) := by decide +kernel
theorem d_Rows_farthestFrom_35 : decode m_Rows_farthestFrom.2.1 35 = .ok (.iconst 1, 1) := by decide +kernel
theorem d_Rows_farthestFrom_36 : decode m_Rows_farthestFrom.2.1 36 = .ok (.iadd, 1) := by decide +kernel
theorem d_Rows_farthestFrom_37 : decode m_Rows_farthestFrom.2.1 37 = .ok (.invokevirtual 19, 3) := by decide +kernel
theorem d_Rows_farthestFrom_40 : decode m_Rows_farthestFrom.2.1 40 = .ok (.invokestatic 28, 3) := by decide +kernel
theorem d_Rows_farthestFrom_43 : decode m_Rows_farthestFrom.2.1 43 = .ok (.istore_n 3, 1) := by decide +kernel
theorem d_Rows_farthestFrom_44 : decode m_Rows_farthestFrom.2.1 44 = .ok (.iinc 4 1, 3) := by decide +kernel
theorem d_Rows_farthestFrom_47 : decode m_Rows_farthestFrom.2.1 47 = .ok (.goto (-42), 3) := by decide +kernel
theorem d_Rows_farthestFrom_50 : decode m_Rows_farthestFrom.2.1 50 = .ok (.iload_n 3, 1) := by decide +kernel
theorem d_Rows_farthestFrom_51 : decode m_Rows_farthestFrom.2.1 51 = .ok (.ireturn, 1) := by decide +kernel
def f_Rows_farthestFrom_44 (k_5 : St → Int32 → Int32 → Int32 → Int32 → Option (Int32)) (S : St) (l1 : Int32) (l2 : Int32) (l3 : Int32) (l4 : Int32) : Option (Int32) :=
    (some (l4 + 1)).bind fun l4_44 =>
    k_5 S l1 l2 l3 l4_44
set_option maxHeartbeats 4000000 in
set_option maxRecDepth 20000 in
theorem t_Rows_farthestFrom_44  {k_5 : St → Int32 → Int32 → Int32 → Int32 → Option (Int32)} (hk_5 : ∀ (S : St) (l1 : Int32) (l2 : Int32) (l3 : Int32) (l4 : Int32) (w : Int32), k_5 S l1 l2 l3 l4 = some w → G SX m_Rows_farthestFrom 2 (some w) S 5 [(0, .ref 56), (1, .int l1), (2, .int l2), (3, .int l3), (4, .int l4)] [] S) (S : St) (l1 : Int32) (l2 : Int32) (l3 : Int32) (l4 : Int32) (w : Int32) (h : f_Rows_farthestFrom_44 k_5 S l1 l2 l3 l4 = some w) : G SX m_Rows_farthestFrom 2 (some w) S 44 [(0, .ref 56), (1, .int l1), (2, .int l2), (3, .int l3), (4, .int l4)] [] S := by
  unfold f_Rows_farthestFrom_44 at h
  obtain ⟨l4_44, e_44, h⟩ := ob_s h
  refine G_iinc 1 4 [(4, .int l4_44), (0, .ref 56), (1, .int l1), (2, .int l2), (3, .int l3)] (by decide) rfl e_44 rfl (by decide) d_Rows_farthestFrom_44 ?_
  refine G_goto 5 (by decide) d_Rows_farthestFrom_47 ?_
  exact G_sub _ [1, 2, 3, 4, 0] rfl (hk_5 S l1 l2 l3 l4_44 _ h)
def f_Rows_farthestFrom_5 : Nat → St → Int32 → Int32 → Int32 → Int32 → Option (Int32)
  | 0, _, _, _, _, _ => none
  | n + 1, S, l1, l2, l3, l4 =>
    if l1 ≤ l4 then (
    some l3)
    else (
    (f_Tape_at S (2 * l4)).bind fun v_19 =>
    if l2 < v_19 then (
    f_Rows_farthestFrom_44 (f_Rows_farthestFrom_5 n) S l1 l2 l3 l4)
    else (
    (f_Tape_at S ((2 * l4) + 1)).bind fun v_37 =>
    (some (jmax l3 v_37)).bind fun l3_43 =>
    f_Rows_farthestFrom_44 (f_Rows_farthestFrom_5 n) S l1 l2 l3_43 l4))
set_option maxHeartbeats 4000000 in
set_option maxRecDepth 20000 in
theorem t_Rows_farthestFrom_5  : ∀ (n : Nat) (S : St) (l1 : Int32) (l2 : Int32) (l3 : Int32) (l4 : Int32) (w : Int32), f_Rows_farthestFrom_5 n S l1 l2 l3 l4 = some w → G SX m_Rows_farthestFrom 2 (some w) S 5 [(0, .ref 56), (1, .int l1), (2, .int l2), (3, .int l3), (4, .int l4)] [] S := by
  intro n
  induction n with
  | zero =>
    intro S l1 l2 l3 l4 w h
    rw [f_Rows_farthestFrom_5] at h
    cases h
  | succ n ih =>
    intro S l1 l2 l3 l4 w h
    rw [f_Rows_farthestFrom_5] at h
    refine G_iload 4 rfl d_Rows_farthestFrom_5 ?_
    refine G_iload_n 1 rfl d_Rows_farthestFrom_7 ?_
    refine G_icmp_ge 50 (by decide) d_Rows_farthestFrom_8 (fun c_8 => ?_) (fun c_8 => ?_)
    · replace h := ob_t h c_8
      refine G_iload_n 3 rfl d_Rows_farthestFrom_50 ?_
      cases h
      exact G_iret rfl d_Rows_farthestFrom_51
    · replace h := ob_f h c_8
      refine G_aload_n 0 rfl d_Rows_farthestFrom_11 ?_
      refine G_getR fl_Rows_9 kx_56 sx_56 rfl (by decide) d_Rows_farthestFrom_12 ?_
      refine G_iconst 2 (by decide) d_Rows_farthestFrom_15 ?_
      refine G_iload 4 rfl d_Rows_farthestFrom_16 ?_
      refine G_imul d_Rows_farthestFrom_18 ?_
      obtain ⟨v_19, q_19, h⟩ := ob_b h
      refine G_callV [.int (2 * l4)] [] (t_Tape_at q_19) (by decide) (by decide) mv_Tape_at rfl ml_Rows_19 kx_1 sx_1 cl_8 rfl (Nat.le_of_ble_eq_true rfl) d_Rows_farthestFrom_19 ?_
      refine G_iload_n 2 rfl d_Rows_farthestFrom_22 ?_
      refine G_icmp_gt 44 (by decide) d_Rows_farthestFrom_23 (fun c_23 => ?_) (fun c_23 => ?_)
      · replace h := ob_t h c_23
        exact G_sub _ [0, 1, 2, 3, 4] rfl (t_Rows_farthestFrom_44 ih S l1 l2 l3 l4 _ h)
      · replace h := ob_f h c_23
        refine G_iload_n 3 rfl d_Rows_farthestFrom_26 ?_
        refine G_aload_n 0 rfl d_Rows_farthestFrom_27 ?_
        refine G_getR fl_Rows_9 kx_56 sx_56 rfl (by decide) d_Rows_farthestFrom_28 ?_
        refine G_iconst 2 (by decide) d_Rows_farthestFrom_31 ?_
        refine G_iload 4 rfl d_Rows_farthestFrom_32 ?_
        refine G_imul d_Rows_farthestFrom_34 ?_
        refine G_iconst 1 (by decide) d_Rows_farthestFrom_35 ?_
        refine G_iadd d_Rows_farthestFrom_36 ?_
        obtain ⟨v_37, q_37, h⟩ := ob_b h
        refine G_callV [.int ((2 * l4) + 1)] [.int l3] (t_Tape_at q_37) (by decide) (by decide) mv_Tape_at rfl ml_Rows_19 kx_1 sx_1 cl_8 rfl (Nat.le_of_ble_eq_true rfl) d_Rows_farthestFrom_37 ?_
        refine G_mmax ms_Rows_28 (by decide) (Nat.le_of_ble_eq_true rfl) d_Rows_farthestFrom_40 ?_
        obtain ⟨l3_43, e_43, h⟩ := ob_s h
        refine G_istore_n [(3, .int l3_43), (0, .ref 56), (1, .int l1), (2, .int l2), (4, .int l4)] e_43 rfl (by decide) d_Rows_farthestFrom_43 ?_
        exact G_sub _ [1, 2, 3, 0, 4] rfl (t_Rows_farthestFrom_44 ih S l1 l2 l3_43 l4 _ h)
def f_Rows_farthestFrom (S : St) (l1 : Int32) (l2 : Int32) : Option (Int32) :=
    (some (0 : Int32)).bind fun l4_3 =>
    f_Rows_farthestFrom_5 FU S l1 l2 l2 l4_3
set_option maxHeartbeats 4000000 in
set_option maxRecDepth 20000 in
theorem t_Rows_farthestFrom  {S : St} {l1 : Int32} {l2 : Int32} {w : Int32} (h : f_Rows_farthestFrom S l1 l2 = some w) : Ct SX m_Rows_farthestFrom 2 [.ref 56, .int l1, .int l2] S (some w) S := by
  unfold f_Rows_farthestFrom at h
  refine Ct.of pn_Rows (Nat.le_of_ble_eq_true rfl) ?_
  show G SX m_Rows_farthestFrom 2 (some w) S 0 [(0, .ref 56), (1, .int l1), (2, .int l2)] [] S
  refine G_iload_n 2 rfl d_Rows_farthestFrom_0 ?_
  refine G_istore_n [(3, .int l2), (0, .ref 56), (1, .int l1), (2, .int l2)] rfl rfl (by decide) d_Rows_farthestFrom_1 ?_
  refine G_iconst 0 (by decide) d_Rows_farthestFrom_2 ?_
  obtain ⟨l4_3, e_3, h⟩ := ob_s h
  refine G_istore [(4, .int l4_3), (3, .int l2), (0, .ref 56), (1, .int l1), (2, .int l2)] e_3 rfl (by decide) d_Rows_farthestFrom_3 ?_
  exact G_sub _ [2, 3, 4, 1, 0] rfl (t_Rows_farthestFrom_5 FU S l1 l2 l2 l4_3 _ h)
theorem d_Rows_fewestWicks_0 : decode m_Rows_fewestWicks.2.1 0 = .ok (.iconst 0, 1) := by decide +kernel
theorem d_Rows_fewestWicks_1 : decode m_Rows_fewestWicks.2.1 1 = .ok (.istore_n 3, 1) := by decide +kernel
theorem d_Rows_fewestWicks_2 : decode m_Rows_fewestWicks.2.1 2 = .ok (.iload_n 3, 1) := by decide +kernel
theorem d_Rows_fewestWicks_3 : decode m_Rows_fewestWicks.2.1 3 = .ok (.iload_n 1, 1) := by decide +kernel
theorem d_Rows_fewestWicks_4 : decode m_Rows_fewestWicks.2.1 4 = .ok (.if_icmp .ge 37, 3) := by decide +kernel
theorem d_Rows_fewestWicks_7 : decode m_Rows_fewestWicks.2.1 7 = .ok (.aload_n 0, 1) := by decide +kernel
theorem d_Rows_fewestWicks_8 : decode m_Rows_fewestWicks.2.1 8 = .ok (.getfield 9, 3) := by decide +kernel
theorem d_Rows_fewestWicks_11 : decode m_Rows_fewestWicks.2.1 11 = .ok (.iconst 2, 1) := by decide +kernel
theorem d_Rows_fewestWicks_12 : decode m_Rows_fewestWicks.2.1 12 = .ok (.iload_n 3, 1) := by decide +kernel
theorem d_Rows_fewestWicks_13 : decode m_Rows_fewestWicks.2.1 13 = .ok (.imul, 1) := by decide +kernel
theorem d_Rows_fewestWicks_14 : decode m_Rows_fewestWicks.2.1 14 = .ok (.iconst 1, 1) := by decide +kernel
theorem d_Rows_fewestWicks_15 : decode m_Rows_fewestWicks.2.1 15 = .ok (.iadd, 1) := by decide +kernel
theorem d_Rows_fewestWicks_16 : decode m_Rows_fewestWicks.2.1 16 = .ok (.invokevirtual 19, 3) := by decide +kernel
theorem d_Rows_fewestWicks_19 : decode m_Rows_fewestWicks.2.1 19 = .ok (.aload_n 0, 1) := by decide +kernel
theorem d_Rows_fewestWicks_20 : decode m_Rows_fewestWicks.2.1 20 = .ok (.getfield 9, 3) := by decide +kernel
theorem d_Rows_fewestWicks_23 : decode m_Rows_fewestWicks.2.1 23 = .ok (.iconst 2, 1) := by decide +kernel
theorem d_Rows_fewestWicks_24 : decode m_Rows_fewestWicks.2.1 24 = .ok (.iload_n 3, 1) := by decide +kernel
theorem d_Rows_fewestWicks_25 : decode m_Rows_fewestWicks.2.1 25 = .ok (.imul, 1) := by decide +kernel
theorem d_Rows_fewestWicks_26 : decode m_Rows_fewestWicks.2.1 26 = .ok (.invokevirtual 19, 3) := by decide +kernel
theorem d_Rows_fewestWicks_29 : decode m_Rows_fewestWicks.2.1 29 = .ok (.if_icmp .gt 6, 3) := by decide +kernel
theorem d_Rows_fewestWicks_32 : decode m_Rows_fewestWicks.2.1 32 = .ok (.bipush (-3), 2) := by decide +kernel
theorem d_Rows_fewestWicks_34 : decode m_Rows_fewestWicks.2.1 34 = .ok (.ireturn, 1) := by decide +kernel
theorem d_Rows_fewestWicks_35 : decode m_Rows_fewestWicks.2.1 35 = .ok (.iinc 3 1, 3) := by decide +kernel
theorem d_Rows_fewestWicks_38 : decode m_Rows_fewestWicks.2.1 38 = .ok (.goto (-36), 3) := by decide +kernel
theorem d_Rows_fewestWicks_41 : decode m_Rows_fewestWicks.2.1 41 = .ok (.iconst 0, 1) := by decide +kernel
theorem d_Rows_fewestWicks_42 : decode m_Rows_fewestWicks.2.1 42 = .ok (.istore_n 3, 1) := by decide +kernel
theorem d_Rows_fewestWicks_43 : decode m_Rows_fewestWicks.2.1 43 = .ok (.iconst 0, 1) := by decide +kernel
theorem d_Rows_fewestWicks_44 : decode m_Rows_fewestWicks.2.1 44 = .ok (.istore 4, 2) := by decide +kernel
theorem d_Rows_fewestWicks_46 : decode m_Rows_fewestWicks.2.1 46 = .ok (.iload 4, 2) := by decide +kernel
theorem d_Rows_fewestWicks_48 : decode m_Rows_fewestWicks.2.1 48 = .ok (.iload_n 1, 1) := by decide +kernel
theorem d_Rows_fewestWicks_49 : decode m_Rows_fewestWicks.2.1 49 = .ok (.if_icmp .gt 24, 3) := by decide +kernel
theorem d_Rows_fewestWicks_52 : decode m_Rows_fewestWicks.2.1 52 = .ok (.iload_n 3, 1) := by decide +kernel
theorem d_Rows_fewestWicks_53 : decode m_Rows_fewestWicks.2.1 53 = .ok (.iload_n 2, 1) := by decide +kernel
theorem d_Rows_fewestWicks_54 : decode m_Rows_fewestWicks.2.1 54 = .ok (.if_icmp .lt 6, 3) := by decide +kernel
theorem d_Rows_fewestWicks_57 : decode m_Rows_fewestWicks.2.1 57 = .ok (.iload 4, 2) := by decide +kernel
theorem d_Rows_fewestWicks_59 : decode m_Rows_fewestWicks.2.1 59 = .ok (.ireturn, 1) := by decide +kernel
theorem d_Rows_fewestWicks_60 : decode m_Rows_fewestWicks.2.1 60 = .ok (.aload_n 0, 1) := by decide +kernel
theorem d_Rows_fewestWicks_61 : decode m_Rows_fewestWicks.2.1 61 = .ok (.iload_n 1, 1) := by decide +kernel
theorem d_Rows_fewestWicks_62 : decode m_Rows_fewestWicks.2.1 62 = .ok (.iload_n 3, 1) := by decide +kernel
theorem d_Rows_fewestWicks_63 : decode m_Rows_fewestWicks.2.1 63 = .ok (.invokevirtual 37, 3) := by decide +kernel
theorem d_Rows_fewestWicks_66 : decode m_Rows_fewestWicks.2.1 66 = .ok (.istore_n 3, 1) := by decide +kernel
theorem d_Rows_fewestWicks_67 : decode m_Rows_fewestWicks.2.1 67 = .ok (.iinc 4 1, 3) := by decide +kernel
theorem d_Rows_fewestWicks_70 : decode m_Rows_fewestWicks.2.1 70 = .ok (.goto (-24), 3) := by decide +kernel
theorem d_Rows_fewestWicks_73 : decode m_Rows_fewestWicks.2.1 73 = .ok (.bipush (-2), 2) := by decide +kernel
theorem d_Rows_fewestWicks_75 : decode m_Rows_fewestWicks.2.1 75 = .ok (.ireturn, 1) := by decide +kernel
def f_Rows_fewestWicks_46 : Nat → St → Int32 → Int32 → Int32 → Int32 → Option (Int32)
  | 0, _, _, _, _, _ => none
  | n + 1, S, l1, l2, l3, l4 =>
    if l1 < l4 then (
    some ((-2) : Int32))
    else (
    if l3 < l2 then (
    (f_Rows_farthestFrom S l1 l3).bind fun v_63 =>
    (some (l4 + 1)).bind fun l4_67 =>
    f_Rows_fewestWicks_46 n S l1 l2 v_63 l4_67)
    else (
    some l4))
set_option maxHeartbeats 4000000 in
set_option maxRecDepth 20000 in
theorem t_Rows_fewestWicks_46  : ∀ (n : Nat) (S : St) (l1 : Int32) (l2 : Int32) (l3 : Int32) (l4 : Int32) (w : Int32), f_Rows_fewestWicks_46 n S l1 l2 l3 l4 = some w → G SX m_Rows_fewestWicks 3 (some w) S 46 [(0, .ref 56), (1, .int l1), (2, .int l2), (3, .int l3), (4, .int l4)] [] S := by
  intro n
  induction n with
  | zero =>
    intro S l1 l2 l3 l4 w h
    rw [f_Rows_fewestWicks_46] at h
    cases h
  | succ n ih =>
    intro S l1 l2 l3 l4 w h
    rw [f_Rows_fewestWicks_46] at h
    refine G_iload 4 rfl d_Rows_fewestWicks_46 ?_
    refine G_iload_n 1 rfl d_Rows_fewestWicks_48 ?_
    refine G_icmp_gt 73 (by decide) d_Rows_fewestWicks_49 (fun c_49 => ?_) (fun c_49 => ?_)
    · replace h := ob_t h c_49
      refine G_bipush (-2) (by decide) d_Rows_fewestWicks_73 ?_
      cases h
      exact G_iret rfl d_Rows_fewestWicks_75
    · replace h := ob_f h c_49
      refine G_iload_n 3 rfl d_Rows_fewestWicks_52 ?_
      refine G_iload_n 2 rfl d_Rows_fewestWicks_53 ?_
      refine G_icmp_lt 60 (by decide) d_Rows_fewestWicks_54 (fun c_54 => ?_) (fun c_54 => ?_)
      · replace h := ob_t h c_54
        refine G_aload_n 0 rfl d_Rows_fewestWicks_60 ?_
        refine G_iload_n 1 rfl d_Rows_fewestWicks_61 ?_
        refine G_iload_n 3 rfl d_Rows_fewestWicks_62 ?_
        obtain ⟨v_63, q_63, h⟩ := ob_b h
        refine G_callV [.int l1, .int l3] [] (t_Rows_farthestFrom q_63) (by decide) (by decide) mv_Rows_farthestFrom rfl ml_Rows_37 kx_56 sx_56 cl_6 rfl (Nat.le_of_ble_eq_true rfl) d_Rows_fewestWicks_63 ?_
        refine G_istore_n [(3, .int v_63), (0, .ref 56), (1, .int l1), (2, .int l2), (4, .int l4)] rfl rfl (by decide) d_Rows_fewestWicks_66 ?_
        obtain ⟨l4_67, e_67, h⟩ := ob_s h
        refine G_iinc 1 4 [(4, .int l4_67), (3, .int v_63), (0, .ref 56), (1, .int l1), (2, .int l2)] (by decide) rfl e_67 rfl (by decide) d_Rows_fewestWicks_67 ?_
        refine G_goto 46 (by decide) d_Rows_fewestWicks_70 ?_
        exact G_sub _ [2, 3, 4, 1, 0] rfl (ih S l1 l2 v_63 l4_67 _ h)
      · replace h := ob_f h c_54
        refine G_iload 4 rfl d_Rows_fewestWicks_57 ?_
        cases h
        exact G_iret rfl d_Rows_fewestWicks_59
def f_Rows_fewestWicks_2 : Nat → St → Int32 → Int32 → Int32 → Option (Int32)
  | 0, _, _, _, _ => none
  | n + 1, S, l1, l2, l3 =>
    if l1 ≤ l3 then (
    (some (0 : Int32)).bind fun l3_42 =>
    (some (0 : Int32)).bind fun l4_44 =>
    f_Rows_fewestWicks_46 FU S l1 l2 l3_42 l4_44)
    else (
    (f_Tape_at S ((2 * l3) + 1)).bind fun v_16 =>
    (f_Tape_at S (2 * l3)).bind fun v_26 =>
    if v_26 < v_16 then (
    (some (l3 + 1)).bind fun l3_35 =>
    f_Rows_fewestWicks_2 n S l1 l2 l3_35)
    else (
    some ((-3) : Int32)))
set_option maxHeartbeats 4000000 in
set_option maxRecDepth 20000 in
theorem t_Rows_fewestWicks_2  : ∀ (n : Nat) (S : St) (l1 : Int32) (l2 : Int32) (l3 : Int32) (w : Int32), f_Rows_fewestWicks_2 n S l1 l2 l3 = some w → G SX m_Rows_fewestWicks 3 (some w) S 2 [(0, .ref 56), (1, .int l1), (2, .int l2), (3, .int l3)] [] S := by
  intro n
  induction n with
  | zero =>
    intro S l1 l2 l3 w h
    rw [f_Rows_fewestWicks_2] at h
    cases h
  | succ n ih =>
    intro S l1 l2 l3 w h
    rw [f_Rows_fewestWicks_2] at h
    refine G_iload_n 3 rfl d_Rows_fewestWicks_2 ?_
    refine G_iload_n 1 rfl d_Rows_fewestWicks_3 ?_
    refine G_icmp_ge 41 (by decide) d_Rows_fewestWicks_4 (fun c_4 => ?_) (fun c_4 => ?_)
    · replace h := ob_t h c_4
      refine G_iconst 0 (by decide) d_Rows_fewestWicks_41 ?_
      obtain ⟨l3_42, e_42, h⟩ := ob_s h
      refine G_istore_n [(3, .int l3_42), (0, .ref 56), (1, .int l1), (2, .int l2)] e_42 rfl (by decide) d_Rows_fewestWicks_42 ?_
      refine G_iconst 0 (by decide) d_Rows_fewestWicks_43 ?_
      obtain ⟨l4_44, e_44, h⟩ := ob_s h
      refine G_istore [(4, .int l4_44), (3, .int l3_42), (0, .ref 56), (1, .int l1), (2, .int l2)] e_44 rfl (by decide) d_Rows_fewestWicks_44 ?_
      exact G_sub _ [2, 3, 4, 1, 0] rfl (t_Rows_fewestWicks_46 FU S l1 l2 l3_42 l4_44 _ h)
    · replace h := ob_f h c_4
      refine G_aload_n 0 rfl d_Rows_fewestWicks_7 ?_
      refine G_getR fl_Rows_9 kx_56 sx_56 rfl (by decide) d_Rows_fewestWicks_8 ?_
      refine G_iconst 2 (by decide) d_Rows_fewestWicks_11 ?_
      refine G_iload_n 3 rfl d_Rows_fewestWicks_12 ?_
      refine G_imul d_Rows_fewestWicks_13 ?_
      refine G_iconst 1 (by decide) d_Rows_fewestWicks_14 ?_
      refine G_iadd d_Rows_fewestWicks_15 ?_
      obtain ⟨v_16, q_16, h⟩ := ob_b h
      refine G_callV [.int ((2 * l3) + 1)] [] (t_Tape_at q_16) (by decide) (by decide) mv_Tape_at rfl ml_Rows_19 kx_1 sx_1 cl_8 rfl (Nat.le_of_ble_eq_true rfl) d_Rows_fewestWicks_16 ?_
      refine G_aload_n 0 rfl d_Rows_fewestWicks_19 ?_
      refine G_getR fl_Rows_9 kx_56 sx_56 rfl (by decide) d_Rows_fewestWicks_20 ?_
      refine G_iconst 2 (by decide) d_Rows_fewestWicks_23 ?_
      refine G_iload_n 3 rfl d_Rows_fewestWicks_24 ?_
      refine G_imul d_Rows_fewestWicks_25 ?_
      obtain ⟨v_26, q_26, h⟩ := ob_b h
      refine G_callV [.int (2 * l3)] [.int v_16] (t_Tape_at q_26) (by decide) (by decide) mv_Tape_at rfl ml_Rows_19 kx_1 sx_1 cl_8 rfl (Nat.le_of_ble_eq_true rfl) d_Rows_fewestWicks_26 ?_
      refine G_icmp_gt 35 (by decide) d_Rows_fewestWicks_29 (fun c_29 => ?_) (fun c_29 => ?_)
      · replace h := ob_t h c_29
        obtain ⟨l3_35, e_35, h⟩ := ob_s h
        refine G_iinc 1 3 [(3, .int l3_35), (0, .ref 56), (1, .int l1), (2, .int l2)] (by decide) rfl e_35 rfl (by decide) d_Rows_fewestWicks_35 ?_
        refine G_goto 2 (by decide) d_Rows_fewestWicks_38 ?_
        exact G_sub _ [1, 2, 3, 0] rfl (ih S l1 l2 l3_35 _ h)
      · replace h := ob_f h c_29
        refine G_bipush (-3) (by decide) d_Rows_fewestWicks_32 ?_
        cases h
        exact G_iret rfl d_Rows_fewestWicks_34
def f_Rows_fewestWicks (S : St) (l1 : Int32) (l2 : Int32) : Option (Int32) :=
    (some (0 : Int32)).bind fun l3_1 =>
    f_Rows_fewestWicks_2 FU S l1 l2 l3_1
set_option maxHeartbeats 4000000 in
set_option maxRecDepth 20000 in
theorem t_Rows_fewestWicks  {S : St} {l1 : Int32} {l2 : Int32} {w : Int32} (h : f_Rows_fewestWicks S l1 l2 = some w) : Ct SX m_Rows_fewestWicks 3 [.ref 56, .int l1, .int l2] S (some w) S := by
  unfold f_Rows_fewestWicks at h
  refine Ct.of pn_Rows (Nat.le_of_ble_eq_true rfl) ?_
  show G SX m_Rows_fewestWicks 3 (some w) S 0 [(0, .ref 56), (1, .int l1), (2, .int l2)] [] S
  refine G_iconst 0 (by decide) d_Rows_fewestWicks_0 ?_
  obtain ⟨l3_1, e_1, h⟩ := ob_s h
  refine G_istore_n [(3, .int l3_1), (0, .ref 56), (1, .int l1), (2, .int l2)] e_1 rfl (by decide) d_Rows_fewestWicks_1 ?_
  exact G_sub _ [1, 2, 3, 0] rfl (t_Rows_fewestWicks_2 FU S l1 l2 l3_1 _ h)
theorem d_Rows_dayIfKnowing_0 : decode m_Rows_dayIfKnowing.2.1 0 = .ok (.iload_n 1, 1) := by decide +kernel
theorem d_Rows_dayIfKnowing_1 : decode m_Rows_dayIfKnowing.2.1 1 = .ok (.iconst 1, 1) := by decide +kernel
theorem d_Rows_dayIfKnowing_2 : decode m_Rows_dayIfKnowing.2.1 2 = .ok (.isub, 1) := by decide +kernel
theorem d_Rows_dayIfKnowing_3 : decode m_Rows_dayIfKnowing.2.1 3 = .ok (.istore_n 3, 1) := by decide +kernel
theorem d_Rows_dayIfKnowing_4 : decode m_Rows_dayIfKnowing.2.1 4 = .ok (.iload_n 1, 1) := by decide +kernel
theorem d_Rows_dayIfKnowing_5 : decode m_Rows_dayIfKnowing.2.1 5 = .ok (.iconst 2, 1) := by decide +kernel
theorem d_Rows_dayIfKnowing_6 : decode m_Rows_dayIfKnowing.2.1 6 = .ok (.isub, 1) := by decide +kernel
theorem d_Rows_dayIfKnowing_7 : decode m_Rows_dayIfKnowing.2.1 7 = .ok (.istore 4, 2) := by decide +kernel
theorem d_Rows_dayIfKnowing_9 : decode m_Rows_dayIfKnowing.2.1 9 = .ok (.iload 4, 2) := by decide +kernel
theorem d_Rows_dayIfKnowing_11 : decode m_Rows_dayIfKnowing.2.1 11 = .ok (.ifCond .lt 37, 3) := by decide +kernel
theorem d_Rows_dayIfKnowing_14 : decode m_Rows_dayIfKnowing.2.1 14 = .ok (.bipush 10, 2) := by decide +kernel
theorem d_Rows_dayIfKnowing_16 : decode m_Rows_dayIfKnowing.2.1 16 = .ok (.aload_n 0, 1) := by decide +kernel
theorem d_Rows_dayIfKnowing_17 : decode m_Rows_dayIfKnowing.2.1 17 = .ok (.getfield 9, 3) := by decide +kernel
theorem d_Rows_dayIfKnowing_20 : decode m_Rows_dayIfKnowing.2.1 20 = .ok (.iload 4, 2) := by decide +kernel
theorem d_Rows_dayIfKnowing_22 : decode m_Rows_dayIfKnowing.2.1 22 = .ok (.invokevirtual 19, 3) := by decide +kernel
theorem d_Rows_dayIfKnowing_25 : decode m_Rows_dayIfKnowing.2.1 25 = .ok (.imul, 1) := by decide +kernel
theorem d_Rows_dayIfKnowing_26 : decode m_Rows_dayIfKnowing.2.1 26 = .ok (.iload_n 2, 1) := by decide +kernel
theorem d_Rows_dayIfKnowing_27 : decode m_Rows_dayIfKnowing.2.1 27 = .ok (.aload_n 0, 1) := by decide +kernel
theorem d_Rows_dayIfKnowing_28 : decode m_Rows_dayIfKnowing.2.1 28 = .ok (.getfield 9, 3) := by decide +kernel
theorem d_Rows_dayIfKnowing_31 : decode m_Rows_dayIfKnowing.2.1 31 = .ok (.iload_n 3, 1) := by decide +kernel
theorem d_Rows_dayIfKnowing_32 : decode m_Rows_dayIfKnowing.2.1 32 = .ok (.invokevirtual 19, 3) := by decide +kernel
theorem d_Rows_dayIfKnowing_35 : decode m_Rows_dayIfKnowing.2.1 35 = .ok (.imul, 1) := by decide +kernel
theorem d_Rows_dayIfKnowing_36 : decode m_Rows_dayIfKnowing.2.1 36 = .ok (.if_icmp .gt 6, 3) := by decide +kernel
theorem d_Rows_dayIfKnowing_39 : decode m_Rows_dayIfKnowing.2.1 39 = .ok (.iload 4, 2) := by decide +kernel
theorem d_Rows_dayIfKnowing_41 : decode m_Rows_dayIfKnowing.2.1 41 = .ok (.istore_n 3, 1) := by decide +kernel
theorem d_Rows_dayIfKnowing_42 : decode m_Rows_dayIfKnowing.2.1 42 = .ok (.iinc 4 (-1), 3) := by decide +kernel
theorem d_Rows_dayIfKnowing_45 : decode m_Rows_dayIfKnowing.2.1 45 = .ok (.goto (-36), 3) := by decide +kernel
theorem d_Rows_dayIfKnowing_48 : decode m_Rows_dayIfKnowing.2.1 48 = .ok (.iload_n 3, 1) := by decide +kernel
theorem d_Rows_dayIfKnowing_49 : decode m_Rows_dayIfKnowing.2.1 49 = .ok (.ireturn, 1) := by decide +kernel
def f_Rows_dayIfKnowing_42 (k_9 : St → Int32 → Int32 → Int32 → Option (Int32)) (S : St) (l2 : Int32) (l3 : Int32) (l4 : Int32) : Option (Int32) :=
    (some (l4 + (-1))).bind fun l4_42 =>
    k_9 S l2 l3 l4_42
set_option maxHeartbeats 4000000 in
set_option maxRecDepth 20000 in
theorem t_Rows_dayIfKnowing_42  {k_9 : St → Int32 → Int32 → Int32 → Option (Int32)} (hk_9 : ∀ (S : St) (l2 : Int32) (l3 : Int32) (l4 : Int32) (w : Int32), k_9 S l2 l3 l4 = some w → G SX m_Rows_dayIfKnowing 2 (some w) S 9 [(0, .ref 56), (2, .int l2), (3, .int l3), (4, .int l4)] [] S) (S : St) (l2 : Int32) (l3 : Int32) (l4 : Int32) (w : Int32) (h : f_Rows_dayIfKnowing_42 k_9 S l2 l3 l4 = some w) : G SX m_Rows_dayIfKnowing 2 (some w) S 42 [(0, .ref 56), (2, .int l2), (3, .int l3), (4, .int l4)] [] S := by
  unfold f_Rows_dayIfKnowing_42 at h
  obtain ⟨l4_42, e_42, h⟩ := ob_s h
  refine G_iinc (-1) 3 [(4, .int l4_42), (0, .ref 56), (2, .int l2), (3, .int l3)] (by decide) rfl e_42 rfl (by decide) d_Rows_dayIfKnowing_42 ?_
  refine G_goto 9 (by decide) d_Rows_dayIfKnowing_45 ?_
  exact G_sub _ [1, 2, 3, 0] rfl (hk_9 S l2 l3 l4_42 _ h)
def f_Rows_dayIfKnowing_9 : Nat → St → Int32 → Int32 → Int32 → Option (Int32)
  | 0, _, _, _, _ => none
  | n + 1, S, l2, l3, l4 =>
    if l4 < 0 then (
    some l3)
    else (
    (f_Tape_at S l4).bind fun v_22 =>
    (f_Tape_at S l3).bind fun v_32 =>
    if (l2 * v_32) < (10 * v_22) then (
    f_Rows_dayIfKnowing_42 (f_Rows_dayIfKnowing_9 n) S l2 l3 l4)
    else (
    f_Rows_dayIfKnowing_42 (f_Rows_dayIfKnowing_9 n) S l2 l4 l4))
set_option maxHeartbeats 4000000 in
set_option maxRecDepth 20000 in
theorem t_Rows_dayIfKnowing_9  : ∀ (n : Nat) (S : St) (l2 : Int32) (l3 : Int32) (l4 : Int32) (w : Int32), f_Rows_dayIfKnowing_9 n S l2 l3 l4 = some w → G SX m_Rows_dayIfKnowing 2 (some w) S 9 [(0, .ref 56), (2, .int l2), (3, .int l3), (4, .int l4)] [] S := by
  intro n
  induction n with
  | zero =>
    intro S l2 l3 l4 w h
    rw [f_Rows_dayIfKnowing_9] at h
    cases h
  | succ n ih =>
    intro S l2 l3 l4 w h
    rw [f_Rows_dayIfKnowing_9] at h
    refine G_iload 3 rfl d_Rows_dayIfKnowing_9 ?_
    refine G_if_lt 48 (by decide) d_Rows_dayIfKnowing_11 (fun c_11 => ?_) (fun c_11 => ?_)
    · replace h := ob_t h c_11
      refine G_iload_n 2 rfl d_Rows_dayIfKnowing_48 ?_
      cases h
      exact G_iret rfl d_Rows_dayIfKnowing_49
    · replace h := ob_f h c_11
      refine G_bipush 10 (by decide) d_Rows_dayIfKnowing_14 ?_
      refine G_aload_n 0 rfl d_Rows_dayIfKnowing_16 ?_
      refine G_getR fl_Rows_9 kx_56 sx_56 rfl (by decide) d_Rows_dayIfKnowing_17 ?_
      refine G_iload 3 rfl d_Rows_dayIfKnowing_20 ?_
      obtain ⟨v_22, q_22, h⟩ := ob_b h
      refine G_callV [.int l4] [.int 10] (t_Tape_at q_22) (by decide) (by decide) mv_Tape_at rfl ml_Rows_19 kx_1 sx_1 cl_8 rfl (Nat.le_of_ble_eq_true rfl) d_Rows_dayIfKnowing_22 ?_
      refine G_imul d_Rows_dayIfKnowing_25 ?_
      refine G_iload_n 1 rfl d_Rows_dayIfKnowing_26 ?_
      refine G_aload_n 0 rfl d_Rows_dayIfKnowing_27 ?_
      refine G_getR fl_Rows_9 kx_56 sx_56 rfl (by decide) d_Rows_dayIfKnowing_28 ?_
      refine G_iload_n 2 rfl d_Rows_dayIfKnowing_31 ?_
      obtain ⟨v_32, q_32, h⟩ := ob_b h
      refine G_callV [.int l3] [.int l2, .int (10 * v_22)] (t_Tape_at q_32) (by decide) (by decide) mv_Tape_at rfl ml_Rows_19 kx_1 sx_1 cl_8 rfl (Nat.le_of_ble_eq_true rfl) d_Rows_dayIfKnowing_32 ?_
      refine G_imul d_Rows_dayIfKnowing_35 ?_
      refine G_icmp_gt 42 (by decide) d_Rows_dayIfKnowing_36 (fun c_36 => ?_) (fun c_36 => ?_)
      · replace h := ob_t h c_36
        exact G_sub _ [0, 1, 2, 3] rfl (t_Rows_dayIfKnowing_42 ih S l2 l3 l4 _ h)
      · replace h := ob_f h c_36
        refine G_iload 3 rfl d_Rows_dayIfKnowing_39 ?_
        refine G_istore_n [(3, .int l4), (0, .ref 56), (2, .int l2), (4, .int l4)] rfl rfl (by decide) d_Rows_dayIfKnowing_41 ?_
        exact G_sub _ [1, 2, 0, 3] rfl (t_Rows_dayIfKnowing_42 ih S l2 l4 l4 _ h)
def f_Rows_dayIfKnowing (S : St) (l1 : Int32) (l2 : Int32) : Option (Int32) :=
    (some (l1 - 1)).bind fun l3_3 =>
    (some (l1 - 2)).bind fun l4_7 =>
    f_Rows_dayIfKnowing_9 FU S l2 l3_3 l4_7
set_option maxHeartbeats 4000000 in
set_option maxRecDepth 20000 in
theorem t_Rows_dayIfKnowing  {S : St} {l1 : Int32} {l2 : Int32} {w : Int32} (h : f_Rows_dayIfKnowing S l1 l2 = some w) : Ct SX m_Rows_dayIfKnowing 2 [.ref 56, .int l1, .int l2] S (some w) S := by
  unfold f_Rows_dayIfKnowing at h
  refine Ct.of pn_Rows (Nat.le_of_ble_eq_true rfl) ?_
  show G SX m_Rows_dayIfKnowing 2 (some w) S 0 [(0, .ref 56), (1, .int l1), (2, .int l2)] [] S
  refine G_iload_n 1 rfl d_Rows_dayIfKnowing_0 ?_
  refine G_iconst 1 (by decide) d_Rows_dayIfKnowing_1 ?_
  refine G_isub d_Rows_dayIfKnowing_2 ?_
  obtain ⟨l3_3, e_3, h⟩ := ob_s h
  refine G_istore_n [(3, .int l3_3), (0, .ref 56), (1, .int l1), (2, .int l2)] e_3 rfl (by decide) d_Rows_dayIfKnowing_3 ?_
  refine G_iload_n 2 rfl d_Rows_dayIfKnowing_4 ?_
  refine G_iconst 2 (by decide) d_Rows_dayIfKnowing_5 ?_
  refine G_isub d_Rows_dayIfKnowing_6 ?_
  obtain ⟨l4_7, e_7, h⟩ := ob_s h
  refine G_istore [(4, .int l4_7), (3, .int l3_3), (0, .ref 56), (1, .int l1), (2, .int l2)] e_7 rfl (by decide) d_Rows_dayIfKnowing_7 ?_
  exact G_sub _ [2, 4, 1, 0] rfl (t_Rows_dayIfKnowing_9 FU S l2 l3_3 l4_7 _ h)
theorem d_Rows_dayIfNotKnowing_0 : decode m_Rows_dayIfNotKnowing.2.1 0 = .ok (.iload_n 1, 1) := by decide +kernel
theorem d_Rows_dayIfNotKnowing_1 : decode m_Rows_dayIfNotKnowing.2.1 1 = .ok (.iconst 1, 1) := by decide +kernel
theorem d_Rows_dayIfNotKnowing_2 : decode m_Rows_dayIfNotKnowing.2.1 2 = .ok (.isub, 1) := by decide +kernel
theorem d_Rows_dayIfNotKnowing_3 : decode m_Rows_dayIfNotKnowing.2.1 3 = .ok (.istore_n 3, 1) := by decide +kernel
theorem d_Rows_dayIfNotKnowing_4 : decode m_Rows_dayIfNotKnowing.2.1 4 = .ok (.aload_n 0, 1) := by decide +kernel
theorem d_Rows_dayIfNotKnowing_5 : decode m_Rows_dayIfNotKnowing.2.1 5 = .ok (.getfield 9, 3) := by decide +kernel
theorem d_Rows_dayIfNotKnowing_8 : decode m_Rows_dayIfNotKnowing.2.1 8 = .ok (.iload_n 1, 1) := by decide +kernel
theorem d_Rows_dayIfNotKnowing_9 : decode m_Rows_dayIfNotKnowing.2.1 9 = .ok (.iconst 1, 1) := by decide +kernel
theorem d_Rows_dayIfNotKnowing_10 : decode m_Rows_dayIfNotKnowing.2.1 10 = .ok (.isub, 1) := by decide +kernel
theorem d_Rows_dayIfNotKnowing_11 : decode m_Rows_dayIfNotKnowing.2.1 11 = .ok (.invokevirtual 19, 3) := by decide +kernel
theorem d_Rows_dayIfNotKnowing_14 : decode m_Rows_dayIfNotKnowing.2.1 14 = .ok (.istore 4, 2) := by decide +kernel
theorem d_Rows_dayIfNotKnowing_16 : decode m_Rows_dayIfNotKnowing.2.1 16 = .ok (.iload_n 1, 1) := by decide +kernel
theorem d_Rows_dayIfNotKnowing_17 : decode m_Rows_dayIfNotKnowing.2.1 17 = .ok (.iconst 2, 1) := by decide +kernel
theorem d_Rows_dayIfNotKnowing_18 : decode m_Rows_dayIfNotKnowing.2.1 18 = .ok (.isub, 1) := by decide +kernel
theorem d_Rows_dayIfNotKnowing_19 : decode m_Rows_dayIfNotKnowing.2.1 19 = .ok (.istore 5, 2) := by decide +kernel
theorem d_Rows_dayIfNotKnowing_21 : decode m_Rows_dayIfNotKnowing.2.1 21 = .ok (.iload 5, 2) := by decide +kernel
theorem d_Rows_dayIfNotKnowing_23 : decode m_Rows_dayIfNotKnowing.2.1 23 = .ok (.ifCond .lt 47, 3) := by decide +kernel
theorem d_Rows_dayIfNotKnowing_26 : decode m_Rows_dayIfNotKnowing.2.1 26 = .ok (.bipush 10, 2) := by decide +kernel
theorem d_Rows_dayIfNotKnowing_28 : decode m_Rows_dayIfNotKnowing.2.1 28 = .ok (.aload_n 0, 1) := by decide +kernel
theorem d_Rows_dayIfNotKnowing_29 : decode m_Rows_dayIfNotKnowing.2.1 29 = .ok (.getfield 9, 3) := by decide +kernel
theorem d_Rows_dayIfNotKnowing_32 : decode m_Rows_dayIfNotKnowing.2.1 32 = .ok (.iload 5, 2) := by decide +kernel
theorem d_Rows_dayIfNotKnowing_34 : decode m_Rows_dayIfNotKnowing.2.1 34 = .ok (.invokevirtual 19, 3) := by decide +kernel
theorem d_Rows_dayIfNotKnowing_37 : decode m_Rows_dayIfNotKnowing.2.1 37 = .ok (.imul, 1) := by decide +kernel
theorem d_Rows_dayIfNotKnowing_38 : decode m_Rows_dayIfNotKnowing.2.1 38 = .ok (.iload_n 2, 1) := by decide +kernel
theorem d_Rows_dayIfNotKnowing_39 : decode m_Rows_dayIfNotKnowing.2.1 39 = .ok (.iload 4, 2) := by decide +kernel
theorem d_Rows_dayIfNotKnowing_41 : decode m_Rows_dayIfNotKnowing.2.1 41 = .ok (.imul, 1) := by decide +kernel
theorem d_Rows_dayIfNotKnowing_42 : decode m_Rows_dayIfNotKnowing.2.1 42 = .ok (.if_icmp .gt 6, 3) := by decide +kernel
theorem d_Rows_dayIfNotKnowing_45 : decode m_Rows_dayIfNotKnowing.2.1 45 = .ok (.iload 5, 2) := by decide +kernel
theorem d_Rows_dayIfNotKnowing_47 : decode m_Rows_dayIfNotKnowing.2.1 47 = .ok (.istore_n 3, 1) := by decide +kernel
theorem d_Rows_dayIfNotKnowing_48 : decode m_Rows_dayIfNotKnowing.2.1 48 = .ok (.iload 4, 2) := by decide +kernel
theorem d_Rows_dayIfNotKnowing_50 : decode m_Rows_dayIfNotKnowing.2.1 50 = .ok (.aload_n 0, 1) := by decide +kernel
theorem d_Rows_dayIfNotKnowing_51 : decode m_Rows_dayIfNotKnowing.2.1 51 = .ok (.getfield 9, 3) := by decide +kernel
theorem d_Rows_dayIfNotKnowing_54 : decode m_Rows_dayIfNotKnowing.2.1 54 = .ok (.iload 5, 2) := by decide +kernel
theorem d_Rows_dayIfNotKnowing_56 : decode m_Rows_dayIfNotKnowing.2.1 56 = .ok (.invokevirtual 19, 3) := by decide +kernel
theorem d_Rows_dayIfNotKnowing_59 : decode m_Rows_dayIfNotKnowing.2.1 59 = .ok (.invokestatic 40, 3) := by decide +kernel
theorem d_Rows_dayIfNotKnowing_62 : decode m_Rows_dayIfNotKnowing.2.1 62 = .ok (.istore 4, 2) := by decide +kernel
theorem d_Rows_dayIfNotKnowing_64 : decode m_Rows_dayIfNotKnowing.2.1 64 = .ok (.iinc 5 (-1), 3) := by decide +kernel
theorem d_Rows_dayIfNotKnowing_67 : decode m_Rows_dayIfNotKnowing.2.1 67 = .ok (.goto (-46), 3) := by decide +kernel
theorem d_Rows_dayIfNotKnowing_70 : decode m_Rows_dayIfNotKnowing.2.1 70 = .ok (.iload_n 3, 1) := by decide +kernel
theorem d_Rows_dayIfNotKnowing_71 : decode m_Rows_dayIfNotKnowing.2.1 71 = .ok (.ireturn, 1) := by decide +kernel
def f_Rows_dayIfNotKnowing_48 (k_21 : St → Int32 → Int32 → Int32 → Int32 → Option (Int32)) (S : St) (l2 : Int32) (l3 : Int32) (l4 : Int32) (l5 : Int32) : Option (Int32) :=
    (f_Tape_at S l5).bind fun v_56 =>
    (some (jmin l4 v_56)).bind fun l4_62 =>
    (some (l5 + (-1))).bind fun l5_64 =>
    k_21 S l2 l3 l4_62 l5_64
set_option maxHeartbeats 4000000 in
set_option maxRecDepth 20000 in
theorem t_Rows_dayIfNotKnowing_48  {k_21 : St → Int32 → Int32 → Int32 → Int32 → Option (Int32)} (hk_21 : ∀ (S : St) (l2 : Int32) (l3 : Int32) (l4 : Int32) (l5 : Int32) (w : Int32), k_21 S l2 l3 l4 l5 = some w → G SX m_Rows_dayIfNotKnowing 2 (some w) S 21 [(0, .ref 56), (2, .int l2), (3, .int l3), (4, .int l4), (5, .int l5)] [] S) (S : St) (l2 : Int32) (l3 : Int32) (l4 : Int32) (l5 : Int32) (w : Int32) (h : f_Rows_dayIfNotKnowing_48 k_21 S l2 l3 l4 l5 = some w) : G SX m_Rows_dayIfNotKnowing 2 (some w) S 48 [(0, .ref 56), (2, .int l2), (3, .int l3), (4, .int l4), (5, .int l5)] [] S := by
  unfold f_Rows_dayIfNotKnowing_48 at h
  refine G_iload 3 rfl d_Rows_dayIfNotKnowing_48 ?_
  refine G_aload_n 0 rfl d_Rows_dayIfNotKnowing_50 ?_
  refine G_getR fl_Rows_9 kx_56 sx_56 rfl (by decide) d_Rows_dayIfNotKnowing_51 ?_
  refine G_iload 4 rfl d_Rows_dayIfNotKnowing_54 ?_
  obtain ⟨v_56, q_56, h⟩ := ob_b h
  refine G_callV [.int l5] [.int l4] (t_Tape_at q_56) (by decide) (by decide) mv_Tape_at rfl ml_Rows_19 kx_1 sx_1 cl_8 rfl (Nat.le_of_ble_eq_true rfl) d_Rows_dayIfNotKnowing_56 ?_
  refine G_mmin ms_Rows_40 (by decide) (Nat.le_of_ble_eq_true rfl) d_Rows_dayIfNotKnowing_59 ?_
  obtain ⟨l4_62, e_62, h⟩ := ob_s h
  refine G_istore [(4, .int l4_62), (0, .ref 56), (2, .int l2), (3, .int l3), (5, .int l5)] e_62 rfl (by decide) d_Rows_dayIfNotKnowing_62 ?_
  obtain ⟨l5_64, e_64, h⟩ := ob_s h
  refine G_iinc (-1) 4 [(5, .int l5_64), (4, .int l4_62), (0, .ref 56), (2, .int l2), (3, .int l3)] (by decide) rfl e_64 rfl (by decide) d_Rows_dayIfNotKnowing_64 ?_
  refine G_goto 21 (by decide) d_Rows_dayIfNotKnowing_67 ?_
  exact G_sub _ [2, 3, 4, 1, 0] rfl (hk_21 S l2 l3 l4_62 l5_64 _ h)
def f_Rows_dayIfNotKnowing_21 : Nat → St → Int32 → Int32 → Int32 → Int32 → Option (Int32)
  | 0, _, _, _, _, _ => none
  | n + 1, S, l2, l3, l4, l5 =>
    if l5 < 0 then (
    some l3)
    else (
    (f_Tape_at S l5).bind fun v_34 =>
    if (l2 * l4) < (10 * v_34) then (
    f_Rows_dayIfNotKnowing_48 (f_Rows_dayIfNotKnowing_21 n) S l2 l3 l4 l5)
    else (
    f_Rows_dayIfNotKnowing_48 (f_Rows_dayIfNotKnowing_21 n) S l2 l5 l4 l5))
set_option maxHeartbeats 4000000 in
set_option maxRecDepth 20000 in
theorem t_Rows_dayIfNotKnowing_21  : ∀ (n : Nat) (S : St) (l2 : Int32) (l3 : Int32) (l4 : Int32) (l5 : Int32) (w : Int32), f_Rows_dayIfNotKnowing_21 n S l2 l3 l4 l5 = some w → G SX m_Rows_dayIfNotKnowing 2 (some w) S 21 [(0, .ref 56), (2, .int l2), (3, .int l3), (4, .int l4), (5, .int l5)] [] S := by
  intro n
  induction n with
  | zero =>
    intro S l2 l3 l4 l5 w h
    rw [f_Rows_dayIfNotKnowing_21] at h
    cases h
  | succ n ih =>
    intro S l2 l3 l4 l5 w h
    rw [f_Rows_dayIfNotKnowing_21] at h
    refine G_iload 4 rfl d_Rows_dayIfNotKnowing_21 ?_
    refine G_if_lt 70 (by decide) d_Rows_dayIfNotKnowing_23 (fun c_23 => ?_) (fun c_23 => ?_)
    · replace h := ob_t h c_23
      refine G_iload_n 2 rfl d_Rows_dayIfNotKnowing_70 ?_
      cases h
      exact G_iret rfl d_Rows_dayIfNotKnowing_71
    · replace h := ob_f h c_23
      refine G_bipush 10 (by decide) d_Rows_dayIfNotKnowing_26 ?_
      refine G_aload_n 0 rfl d_Rows_dayIfNotKnowing_28 ?_
      refine G_getR fl_Rows_9 kx_56 sx_56 rfl (by decide) d_Rows_dayIfNotKnowing_29 ?_
      refine G_iload 4 rfl d_Rows_dayIfNotKnowing_32 ?_
      obtain ⟨v_34, q_34, h⟩ := ob_b h
      refine G_callV [.int l5] [.int 10] (t_Tape_at q_34) (by decide) (by decide) mv_Tape_at rfl ml_Rows_19 kx_1 sx_1 cl_8 rfl (Nat.le_of_ble_eq_true rfl) d_Rows_dayIfNotKnowing_34 ?_
      refine G_imul d_Rows_dayIfNotKnowing_37 ?_
      refine G_iload_n 1 rfl d_Rows_dayIfNotKnowing_38 ?_
      refine G_iload 3 rfl d_Rows_dayIfNotKnowing_39 ?_
      refine G_imul d_Rows_dayIfNotKnowing_41 ?_
      refine G_icmp_gt 48 (by decide) d_Rows_dayIfNotKnowing_42 (fun c_42 => ?_) (fun c_42 => ?_)
      · replace h := ob_t h c_42
        exact G_sub _ [0, 1, 2, 3, 4] rfl (t_Rows_dayIfNotKnowing_48 ih S l2 l3 l4 l5 _ h)
      · replace h := ob_f h c_42
        refine G_iload 4 rfl d_Rows_dayIfNotKnowing_45 ?_
        refine G_istore_n [(3, .int l5), (0, .ref 56), (2, .int l2), (4, .int l4), (5, .int l5)] rfl rfl (by decide) d_Rows_dayIfNotKnowing_47 ?_
        exact G_sub _ [1, 2, 0, 3, 4] rfl (t_Rows_dayIfNotKnowing_48 ih S l2 l5 l4 l5 _ h)
def f_Rows_dayIfNotKnowing (S : St) (l1 : Int32) (l2 : Int32) : Option (Int32) :=
    (some (l1 - 1)).bind fun l3_3 =>
    (f_Tape_at S (l1 - 1)).bind fun v_11 =>
    (some (l1 - 2)).bind fun l5_19 =>
    f_Rows_dayIfNotKnowing_21 FU S l2 l3_3 v_11 l5_19
set_option maxHeartbeats 4000000 in
set_option maxRecDepth 20000 in
theorem t_Rows_dayIfNotKnowing  {S : St} {l1 : Int32} {l2 : Int32} {w : Int32} (h : f_Rows_dayIfNotKnowing S l1 l2 = some w) : Ct SX m_Rows_dayIfNotKnowing 2 [.ref 56, .int l1, .int l2] S (some w) S := by
  unfold f_Rows_dayIfNotKnowing at h
  refine Ct.of pn_Rows (Nat.le_of_ble_eq_true rfl) ?_
  show G SX m_Rows_dayIfNotKnowing 2 (some w) S 0 [(0, .ref 56), (1, .int l1), (2, .int l2)] [] S
  refine G_iload_n 1 rfl d_Rows_dayIfNotKnowing_0 ?_
  refine G_iconst 1 (by decide) d_Rows_dayIfNotKnowing_1 ?_
  refine G_isub d_Rows_dayIfNotKnowing_2 ?_
  obtain ⟨l3_3, e_3, h⟩ := ob_s h
  refine G_istore_n [(3, .int l3_3), (0, .ref 56), (1, .int l1), (2, .int l2)] e_3 rfl (by decide) d_Rows_dayIfNotKnowing_3 ?_
  refine G_aload_n 1 rfl d_Rows_dayIfNotKnowing_4 ?_
  refine G_getR fl_Rows_9 kx_56 sx_56 rfl (by decide) d_Rows_dayIfNotKnowing_5 ?_
  refine G_iload_n 2 rfl d_Rows_dayIfNotKnowing_8 ?_
  refine G_iconst 1 (by decide) d_Rows_dayIfNotKnowing_9 ?_
  refine G_isub d_Rows_dayIfNotKnowing_10 ?_
  obtain ⟨v_11, q_11, h⟩ := ob_b h
  refine G_callV [.int (l1 - 1)] [] (t_Tape_at q_11) (by decide) (by decide) mv_Tape_at rfl ml_Rows_19 kx_1 sx_1 cl_8 rfl (Nat.le_of_ble_eq_true rfl) d_Rows_dayIfNotKnowing_11 ?_
  refine G_istore [(4, .int v_11), (3, .int l3_3), (0, .ref 56), (1, .int l1), (2, .int l2)] rfl rfl (by decide) d_Rows_dayIfNotKnowing_14 ?_
  refine G_iload_n 3 rfl d_Rows_dayIfNotKnowing_16 ?_
  refine G_iconst 2 (by decide) d_Rows_dayIfNotKnowing_17 ?_
  refine G_isub d_Rows_dayIfNotKnowing_18 ?_
  obtain ⟨l5_19, e_19, h⟩ := ob_s h
  refine G_istore [(5, .int l5_19), (4, .int v_11), (3, .int l3_3), (0, .ref 56), (1, .int l1), (2, .int l2)] e_19 rfl (by decide) d_Rows_dayIfNotKnowing_19 ?_
  exact G_sub _ [3, 5, 2, 1, 0] rfl (t_Rows_dayIfNotKnowing_21 FU S l2 l3_3 v_11 l5_19 _ h)
theorem d_Rows_sufficesFor_0 : decode m_Rows_sufficesFor.2.1 0 = .ok (.iconst 0, 1) := by decide +kernel
theorem d_Rows_sufficesFor_1 : decode m_Rows_sufficesFor.2.1 1 = .ok (.istore 4, 2) := by decide +kernel
theorem d_Rows_sufficesFor_3 : decode m_Rows_sufficesFor.2.1 3 = .ok (.iconst 0, 1) := by decide +kernel
theorem d_Rows_sufficesFor_4 : decode m_Rows_sufficesFor.2.1 4 = .ok (.istore 5, 2) := by decide +kernel
theorem d_Rows_sufficesFor_6 : decode m_Rows_sufficesFor.2.1 6 = .ok (.iload 5, 2) := by decide +kernel
theorem d_Rows_sufficesFor_8 : decode m_Rows_sufficesFor.2.1 8 = .ok (.iload_n 1, 1) := by decide +kernel
theorem d_Rows_sufficesFor_9 : decode m_Rows_sufficesFor.2.1 9 = .ok (.if_icmp .ge 27, 3) := by decide +kernel
theorem d_Rows_sufficesFor_12 : decode m_Rows_sufficesFor.2.1 12 = .ok (.iload 4, 2) := by decide +kernel
theorem d_Rows_sufficesFor_14 : decode m_Rows_sufficesFor.2.1 14 = .ok (.aload_n 0, 1) := by decide +kernel
theorem d_Rows_sufficesFor_15 : decode m_Rows_sufficesFor.2.1 15 = .ok (.getfield 9, 3) := by decide +kernel
theorem d_Rows_sufficesFor_18 : decode m_Rows_sufficesFor.2.1 18 = .ok (.iload 5, 2) := by decide +kernel
theorem d_Rows_sufficesFor_20 : decode m_Rows_sufficesFor.2.1 20 = .ok (.invokevirtual 19, 3) := by decide +kernel
theorem d_Rows_sufficesFor_23 : decode m_Rows_sufficesFor.2.1 23 = .ok (.iload_n 3, 1) := by decide +kernel
theorem d_Rows_sufficesFor_24 : decode m_Rows_sufficesFor.2.1 24 = .ok (.invokestatic 40, 3) := by decide +kernel
theorem d_Rows_sufficesFor_27 : decode m_Rows_sufficesFor.2.1 27 = .ok (.iadd, 1) := by decide +kernel
theorem d_Rows_sufficesFor_28 : decode m_Rows_sufficesFor.2.1 28 = .ok (.istore 4, 2) := by decide +kernel
theorem d_Rows_sufficesFor_30 : decode m_Rows_sufficesFor.2.1 30 = .ok (.iinc 5 1, 3) := by decide +kernel
theorem d_Rows_sufficesFor_33 : decode m_Rows_sufficesFor.2.1 33 = .ok (.goto (-27), 3) := by decide +kernel
theorem d_Rows_sufficesFor_36 : decode m_Rows_sufficesFor.2.1 36 = .ok (.iload 4, 2) := by decide +kernel
theorem d_Rows_sufficesFor_38 : decode m_Rows_sufficesFor.2.1 38 = .ok (.iload_n 2, 1) := by decide +kernel
theorem d_Rows_sufficesFor_39 : decode m_Rows_sufficesFor.2.1 39 = .ok (.iload_n 3, 1) := by decide +kernel
theorem d_Rows_sufficesFor_40 : decode m_Rows_sufficesFor.2.1 40 = .ok (.imul, 1) := by decide +kernel
theorem d_Rows_sufficesFor_41 : decode m_Rows_sufficesFor.2.1 41 = .ok (.if_icmp .lt 7, 3) := by decide +kernel
theorem d_Rows_sufficesFor_44 : decode m_Rows_sufficesFor.2.1 44 = .ok (.iconst 1, 1) := by decide +kernel
theorem d_Rows_sufficesFor_45 : decode m_Rows_sufficesFor.2.1 45 = .ok (.goto 4, 3) := by decide +kernel
theorem d_Rows_sufficesFor_48 : decode m_Rows_sufficesFor.2.1 48 = .ok (.iconst 0, 1) := by decide +kernel
theorem d_Rows_sufficesFor_49 : decode m_Rows_sufficesFor.2.1 49 = .ok (.ireturn, 1) := by decide +kernel
def f_Rows_sufficesFor_6 : Nat → St → Int32 → Int32 → Int32 → Int32 → Int32 → Option (Int32)
  | 0, _, _, _, _, _, _ => none
  | n + 1, S, l1, l2, l3, l4, l5 =>
    if l1 ≤ l5 then (
    if l4 < (l2 * l3) then (
    some (0 : Int32))
    else (
    some (1 : Int32)))
    else (
    (f_Tape_at S l5).bind fun v_20 =>
    (some (l4 + (jmin v_20 l3))).bind fun l4_28 =>
    (some (l5 + 1)).bind fun l5_30 =>
    f_Rows_sufficesFor_6 n S l1 l2 l3 l4_28 l5_30)
set_option maxHeartbeats 4000000 in
set_option maxRecDepth 20000 in
theorem t_Rows_sufficesFor_6  : ∀ (n : Nat) (S : St) (l1 : Int32) (l2 : Int32) (l3 : Int32) (l4 : Int32) (l5 : Int32) (w : Int32), f_Rows_sufficesFor_6 n S l1 l2 l3 l4 l5 = some w → G SX m_Rows_sufficesFor 2 (some w) S 6 [(0, .ref 56), (1, .int l1), (2, .int l2), (3, .int l3), (4, .int l4), (5, .int l5)] [] S := by
  intro n
  induction n with
  | zero =>
    intro S l1 l2 l3 l4 l5 w h
    rw [f_Rows_sufficesFor_6] at h
    cases h
  | succ n ih =>
    intro S l1 l2 l3 l4 l5 w h
    rw [f_Rows_sufficesFor_6] at h
    refine G_iload 5 rfl d_Rows_sufficesFor_6 ?_
    refine G_iload_n 1 rfl d_Rows_sufficesFor_8 ?_
    refine G_icmp_ge 36 (by decide) d_Rows_sufficesFor_9 (fun c_9 => ?_) (fun c_9 => ?_)
    · replace h := ob_t h c_9
      refine G_iload 4 rfl d_Rows_sufficesFor_36 ?_
      refine G_iload_n 2 rfl d_Rows_sufficesFor_38 ?_
      refine G_iload_n 3 rfl d_Rows_sufficesFor_39 ?_
      refine G_imul d_Rows_sufficesFor_40 ?_
      refine G_icmp_lt 48 (by decide) d_Rows_sufficesFor_41 (fun c_41 => ?_) (fun c_41 => ?_)
      · replace h := ob_t h c_41
        refine G_iconst 0 (by decide) d_Rows_sufficesFor_48 ?_
        cases h
        exact G_zret (Or.inl rfl) rfl d_Rows_sufficesFor_49
      · replace h := ob_f h c_41
        refine G_iconst 1 (by decide) d_Rows_sufficesFor_44 ?_
        refine G_goto 49 (by decide) d_Rows_sufficesFor_45 ?_
        cases h
        exact G_zret (Or.inr rfl) rfl d_Rows_sufficesFor_49
    · replace h := ob_f h c_9
      refine G_iload 4 rfl d_Rows_sufficesFor_12 ?_
      refine G_aload_n 0 rfl d_Rows_sufficesFor_14 ?_
      refine G_getR fl_Rows_9 kx_56 sx_56 rfl (by decide) d_Rows_sufficesFor_15 ?_
      refine G_iload 5 rfl d_Rows_sufficesFor_18 ?_
      obtain ⟨v_20, q_20, h⟩ := ob_b h
      refine G_callV [.int l5] [.int l4] (t_Tape_at q_20) (by decide) (by decide) mv_Tape_at rfl ml_Rows_19 kx_1 sx_1 cl_8 rfl (Nat.le_of_ble_eq_true rfl) d_Rows_sufficesFor_20 ?_
      refine G_iload_n 3 rfl d_Rows_sufficesFor_23 ?_
      refine G_mmin ms_Rows_40 (by decide) (Nat.le_of_ble_eq_true rfl) d_Rows_sufficesFor_24 ?_
      refine G_iadd d_Rows_sufficesFor_27 ?_
      obtain ⟨l4_28, e_28, h⟩ := ob_s h
      refine G_istore [(4, .int l4_28), (0, .ref 56), (1, .int l1), (2, .int l2), (3, .int l3), (5, .int l5)] e_28 rfl (by decide) d_Rows_sufficesFor_28 ?_
      obtain ⟨l5_30, e_30, h⟩ := ob_s h
      refine G_iinc 1 5 [(5, .int l5_30), (4, .int l4_28), (0, .ref 56), (1, .int l1), (2, .int l2), (3, .int l3)] (by decide) rfl e_30 rfl (by decide) d_Rows_sufficesFor_30 ?_
      refine G_goto 6 (by decide) d_Rows_sufficesFor_33 ?_
      exact G_sub _ [2, 3, 4, 5, 1, 0] rfl (ih S l1 l2 l3 l4_28 l5_30 _ h)
def f_Rows_sufficesFor (S : St) (l1 : Int32) (l2 : Int32) (l3 : Int32) : Option (Int32) :=
    (some (0 : Int32)).bind fun l4_1 =>
    (some (0 : Int32)).bind fun l5_4 =>
    f_Rows_sufficesFor_6 FU S l1 l2 l3 l4_1 l5_4
set_option maxHeartbeats 4000000 in
set_option maxRecDepth 20000 in
theorem t_Rows_sufficesFor  {S : St} {l1 : Int32} {l2 : Int32} {l3 : Int32} {w : Int32} (h : f_Rows_sufficesFor S l1 l2 l3 = some w) : Ct SX m_Rows_sufficesFor 2 [.ref 56, .int l1, .int l2, .int l3] S (some w) S := by
  unfold f_Rows_sufficesFor at h
  refine Ct.of pn_Rows (Nat.le_of_ble_eq_true rfl) ?_
  show G SX m_Rows_sufficesFor 2 (some w) S 0 [(0, .ref 56), (1, .int l1), (2, .int l2), (3, .int l3)] [] S
  refine G_iconst 0 (by decide) d_Rows_sufficesFor_0 ?_
  obtain ⟨l4_1, e_1, h⟩ := ob_s h
  refine G_istore [(4, .int l4_1), (0, .ref 56), (1, .int l1), (2, .int l2), (3, .int l3)] e_1 rfl (by decide) d_Rows_sufficesFor_1 ?_
  refine G_iconst 0 (by decide) d_Rows_sufficesFor_3 ?_
  obtain ⟨l5_4, e_4, h⟩ := ob_s h
  refine G_istore [(5, .int l5_4), (4, .int l4_1), (0, .ref 56), (1, .int l1), (2, .int l2), (3, .int l3)] e_4 rfl (by decide) d_Rows_sufficesFor_4 ?_
  exact G_sub _ [2, 3, 4, 5, 1, 0] rfl (t_Rows_sufficesFor_6 FU S l1 l2 l3 l4_1 l5_4 _ h)
theorem d_Rows_longestCord_0 : decode m_Rows_longestCord.2.1 0 = .ok (.iconst 0, 1) := by decide +kernel
theorem d_Rows_longestCord_1 : decode m_Rows_longestCord.2.1 1 = .ok (.istore_n 3, 1) := by decide +kernel
theorem d_Rows_longestCord_2 : decode m_Rows_longestCord.2.1 2 = .ok (.sipush 2048, 3) := by decide +kernel
theorem d_Rows_longestCord_5 : decode m_Rows_longestCord.2.1 5 = .ok (.istore 4, 2) := by decide +kernel
theorem d_Rows_longestCord_7 : decode m_Rows_longestCord.2.1 7 = .ok (.iload 4, 2) := by decide +kernel
theorem d_Rows_longestCord_9 : decode m_Rows_longestCord.2.1 9 = .ok (.ifCond .le 30, 3) := by decide +kernel
theorem d_Rows_longestCord_12 : decode m_Rows_longestCord.2.1 12 = .ok (.aload_n 0, 1) := by decide +kernel
theorem d_Rows_longestCord_13 : decode m_Rows_longestCord.2.1 13 = .ok (.iload_n 1, 1) := by decide +kernel
theorem d_Rows_longestCord_14 : decode m_Rows_longestCord.2.1 14 = .ok (.iload_n 2, 1) := by decide +kernel
theorem d_Rows_longestCord_15 : decode m_Rows_longestCord.2.1 15 = .ok (.iload_n 3, 1) := by decide +kernel
theorem d_Rows_longestCord_16 : decode m_Rows_longestCord.2.1 16 = .ok (.iload 4, 2) := by decide +kernel
theorem d_Rows_longestCord_18 : decode m_Rows_longestCord.2.1 18 = .ok (.iadd, 1) := by decide +kernel
theorem d_Rows_longestCord_19 : decode m_Rows_longestCord.2.1 19 = .ok (.invokevirtual 43, 3) := by decide +kernel
theorem d_Rows_longestCord_22 : decode m_Rows_longestCord.2.1 22 = .ok (.ifCond .eq 8, 3) := by decide +kernel
theorem d_Rows_longestCord_25 : decode m_Rows_longestCord.2.1 25 = .ok (.iload_n 3, 1) := by decide +kernel
theorem d_Rows_longestCord_26 : decode m_Rows_longestCord.2.1 26 = .ok (.iload 4, 2) := by decide +kernel
theorem d_Rows_longestCord_28 : decode m_Rows_longestCord.2.1 28 = .ok (.iadd, 1) := by decide +kernel
theorem d_Rows_longestCord_29 : decode m_Rows_longestCord.2.1 29 = .ok (.istore_n 3, 1) := by decide +kernel
theorem d_Rows_longestCord_30 : decode m_Rows_longestCord.2.1 30 = .ok (.iload 4, 2) := by decide +kernel
theorem d_Rows_longestCord_32 : decode m_Rows_longestCord.2.1 32 = .ok (.iconst 1, 1) := by decide +kernel
theorem d_Rows_longestCord_33 : decode m_Rows_longestCord.2.1 33 = .ok (.ishr, 1) := by decide +kernel
theorem d_Rows_longestCord_34 : decode m_Rows_longestCord.2.1 34 = .ok (.istore 4, 2) := by decide +kernel
theorem d_Rows_longestCord_36 : decode m_Rows_longestCord.2.1 36 = .ok (.goto (-29), 3) := by decide +kernel
theorem d_Rows_longestCord_39 : decode m_Rows_longestCord.2.1 39 = .ok (.iload_n 3, 1) := by decide +kernel
theorem d_Rows_longestCord_40 : decode m_Rows_longestCord.2.1 40 = .ok (.ireturn, 1) := by decide +kernel
def f_Rows_longestCord_30 (k_7 : St → Int32 → Int32 → Int32 → Int32 → Option (Int32)) (S : St) (l1 : Int32) (l2 : Int32) (l3 : Int32) (l4 : Int32) : Option (Int32) :=
    (some (jshr l4 1)).bind fun l4_34 =>
    k_7 S l1 l2 l3 l4_34
set_option maxHeartbeats 4000000 in
set_option maxRecDepth 20000 in
theorem t_Rows_longestCord_30  {k_7 : St → Int32 → Int32 → Int32 → Int32 → Option (Int32)} (hk_7 : ∀ (S : St) (l1 : Int32) (l2 : Int32) (l3 : Int32) (l4 : Int32) (w : Int32), k_7 S l1 l2 l3 l4 = some w → G SX m_Rows_longestCord 3 (some w) S 7 [(0, .ref 56), (1, .int l1), (2, .int l2), (3, .int l3), (4, .int l4)] [] S) (S : St) (l1 : Int32) (l2 : Int32) (l3 : Int32) (l4 : Int32) (w : Int32) (h : f_Rows_longestCord_30 k_7 S l1 l2 l3 l4 = some w) : G SX m_Rows_longestCord 3 (some w) S 30 [(0, .ref 56), (1, .int l1), (2, .int l2), (3, .int l3), (4, .int l4)] [] S := by
  unfold f_Rows_longestCord_30 at h
  refine G_iload 4 rfl d_Rows_longestCord_30 ?_
  refine G_iconst 1 (by decide) d_Rows_longestCord_32 ?_
  refine G_ishr d_Rows_longestCord_33 ?_
  obtain ⟨l4_34, e_34, h⟩ := ob_s h
  refine G_istore [(4, .int l4_34), (0, .ref 56), (1, .int l1), (2, .int l2), (3, .int l3)] e_34 rfl (by decide) d_Rows_longestCord_34 ?_
  refine G_goto 7 (by decide) d_Rows_longestCord_36 ?_
  exact G_sub _ [1, 2, 3, 4, 0] rfl (hk_7 S l1 l2 l3 l4_34 _ h)
def f_Rows_longestCord_7 : Nat → St → Int32 → Int32 → Int32 → Int32 → Option (Int32)
  | 0, _, _, _, _, _ => none
  | n + 1, S, l1, l2, l3, l4 =>
    if l4 ≤ 0 then (
    some l3)
    else (
    (f_Rows_sufficesFor S l1 l2 (l3 + l4)).bind fun v_19 =>
    if v_19 = 0 then (
    f_Rows_longestCord_30 (f_Rows_longestCord_7 n) S l1 l2 l3 l4)
    else (
    (some (l3 + l4)).bind fun l3_29 =>
    f_Rows_longestCord_30 (f_Rows_longestCord_7 n) S l1 l2 l3_29 l4))
set_option maxHeartbeats 4000000 in
set_option maxRecDepth 20000 in
theorem t_Rows_longestCord_7  : ∀ (n : Nat) (S : St) (l1 : Int32) (l2 : Int32) (l3 : Int32) (l4 : Int32) (w : Int32), f_Rows_longestCord_7 n S l1 l2 l3 l4 = some w → G SX m_Rows_longestCord 3 (some w) S 7 [(0, .ref 56), (1, .int l1), (2, .int l2), (3, .int l3), (4, .int l4)] [] S := by
  intro n
  induction n with
  | zero =>
    intro S l1 l2 l3 l4 w h
    rw [f_Rows_longestCord_7] at h
    cases h
  | succ n ih =>
    intro S l1 l2 l3 l4 w h
    rw [f_Rows_longestCord_7] at h
    refine G_iload 4 rfl d_Rows_longestCord_7 ?_
    refine G_if_le 39 (by decide) d_Rows_longestCord_9 (fun c_9 => ?_) (fun c_9 => ?_)
    · replace h := ob_t h c_9
      refine G_iload_n 3 rfl d_Rows_longestCord_39 ?_
      cases h
      exact G_iret rfl d_Rows_longestCord_40
    · replace h := ob_f h c_9
      refine G_aload_n 0 rfl d_Rows_longestCord_12 ?_
      refine G_iload_n 1 rfl d_Rows_longestCord_13 ?_
      refine G_iload_n 2 rfl d_Rows_longestCord_14 ?_
      refine G_iload_n 3 rfl d_Rows_longestCord_15 ?_
      refine G_iload 4 rfl d_Rows_longestCord_16 ?_
      refine G_iadd d_Rows_longestCord_18 ?_
      obtain ⟨v_19, q_19, h⟩ := ob_b h
      refine G_callV [.int l1, .int l2, .int (l3 + l4)] [] (t_Rows_sufficesFor q_19) (by decide) (by decide) mv_Rows_sufficesFor rfl ml_Rows_43 kx_56 sx_56 cl_6 rfl (Nat.le_of_ble_eq_true rfl) d_Rows_longestCord_19 ?_
      refine G_if_eq 30 (by decide) d_Rows_longestCord_22 (fun c_22 => ?_) (fun c_22 => ?_)
      · replace h := ob_t h c_22
        exact G_sub _ [0, 1, 2, 3, 4] rfl (t_Rows_longestCord_30 ih S l1 l2 l3 l4 _ h)
      · replace h := ob_f h c_22
        refine G_iload_n 3 rfl d_Rows_longestCord_25 ?_
        refine G_iload 4 rfl d_Rows_longestCord_26 ?_
        refine G_iadd d_Rows_longestCord_28 ?_
        obtain ⟨l3_29, e_29, h⟩ := ob_s h
        refine G_istore_n [(3, .int l3_29), (0, .ref 56), (1, .int l1), (2, .int l2), (4, .int l4)] e_29 rfl (by decide) d_Rows_longestCord_29 ?_
        exact G_sub _ [1, 2, 3, 0, 4] rfl (t_Rows_longestCord_30 ih S l1 l2 l3_29 l4 _ h)
def f_Rows_longestCord (S : St) (l1 : Int32) (l2 : Int32) : Option (Int32) :=
    (some (0 : Int32)).bind fun l3_1 =>
    (some (2048 : Int32)).bind fun l4_5 =>
    f_Rows_longestCord_7 FU S l1 l2 l3_1 l4_5
set_option maxHeartbeats 4000000 in
set_option maxRecDepth 20000 in
theorem t_Rows_longestCord  {S : St} {l1 : Int32} {l2 : Int32} {w : Int32} (h : f_Rows_longestCord S l1 l2 = some w) : Ct SX m_Rows_longestCord 3 [.ref 56, .int l1, .int l2] S (some w) S := by
  unfold f_Rows_longestCord at h
  refine Ct.of pn_Rows (Nat.le_of_ble_eq_true rfl) ?_
  show G SX m_Rows_longestCord 3 (some w) S 0 [(0, .ref 56), (1, .int l1), (2, .int l2)] [] S
  refine G_iconst 0 (by decide) d_Rows_longestCord_0 ?_
  obtain ⟨l3_1, e_1, h⟩ := ob_s h
  refine G_istore_n [(3, .int l3_1), (0, .ref 56), (1, .int l1), (2, .int l2)] e_1 rfl (by decide) d_Rows_longestCord_1 ?_
  refine G_sipush 2048 (by decide) d_Rows_longestCord_2 ?_
  obtain ⟨l4_5, e_5, h⟩ := ob_s h
  refine G_istore [(4, .int l4_5), (3, .int l3_1), (0, .ref 56), (1, .int l1), (2, .int l2)] e_5 rfl (by decide) d_Rows_longestCord_5 ?_
  exact G_sub _ [2, 3, 4, 1, 0] rfl (t_Rows_longestCord_7 FU S l1 l2 l3_1 l4_5 _ h)
theorem d_Rows_difference_0 : decode m_Rows_difference.2.1 0 = .ok (.iconst 0, 1) := by decide +kernel
theorem d_Rows_difference_1 : decode m_Rows_difference.2.1 1 = .ok (.istore_n 3, 1) := by decide +kernel
theorem d_Rows_difference_2 : decode m_Rows_difference.2.1 2 = .ok (.iconst 0, 1) := by decide +kernel
theorem d_Rows_difference_3 : decode m_Rows_difference.2.1 3 = .ok (.istore 4, 2) := by decide +kernel
theorem d_Rows_difference_5 : decode m_Rows_difference.2.1 5 = .ok (.iload 4, 2) := by decide +kernel
theorem d_Rows_difference_7 : decode m_Rows_difference.2.1 7 = .ok (.iload_n 1, 1) := by decide +kernel
theorem d_Rows_difference_8 : decode m_Rows_difference.2.1 8 = .ok (.if_icmp .ge 40, 3) := by decide +kernel
theorem d_Rows_difference_11 : decode m_Rows_difference.2.1 11 = .ok (.iload_n 3, 1) := by decide +kernel
theorem d_Rows_difference_12 : decode m_Rows_difference.2.1 12 = .ok (.iload 4, 2) := by decide +kernel
theorem d_Rows_difference_14 : decode m_Rows_difference.2.1 14 = .ok (.iload_n 2, 1) := by decide +kernel
theorem d_Rows_difference_15 : decode m_Rows_difference.2.1 15 = .ok (.if_icmp .ge 15, 3) := by decide +kernel
theorem d_Rows_difference_18 : decode m_Rows_difference.2.1 18 = .ok (.aload_n 0, 1) := by decide +kernel
theorem d_Rows_difference_19 : decode m_Rows_difference.2.1 19 = .ok (.getfield 9, 3) := by decide +kernel
theorem d_Rows_difference_22 : decode m_Rows_difference.2.1 22 = .ok (.iload 4, 2) := by decide +kernel
theorem d_Rows_difference_24 : decode m_Rows_difference.2.1 24 = .ok (.invokevirtual 19, 3) := by decide +kernel
theorem d_Rows_difference_27 : decode m_Rows_difference.2.1 27 = .ok (.goto 13, 3) := by decide +kernel
theorem d_Rows_difference_30 : decode m_Rows_difference.2.1 30 = .ok (.aload_n 0, 1) := by decide +kernel
theorem d_Rows_difference_31 : decode m_Rows_difference.2.1 31 = .ok (.getfield 9, 3) := by decide +kernel
theorem d_Rows_difference_34 : decode m_Rows_difference.2.1 34 = .ok (.iload 4, 2) := by decide +kernel
theorem d_Rows_difference_36 : decode m_Rows_difference.2.1 36 = .ok (.invokevirtual 19, 3) := by decide +kernel
theorem d_Rows_difference_39 : decode m_Rows_difference.2.1 39 = .ok (.ineg, 1) := by decide +kernel
theorem d_Rows_difference_40 : decode m_Rows_difference.2.1 40 = .ok (.iadd, 1) := by decide +kernel
theorem d_Rows_difference_41 : decode m_Rows_difference.2.1 41 = .ok (.istore_n 3, 1) := by decide +kernel
theorem d_Rows_difference_42 : decode m_Rows_difference.2.1 42 = .ok (.iinc 4 1, 3) := by decide +kernel
theorem d_Rows_difference_45 : decode m_Rows_difference.2.1 45 = .ok (.goto (-40), 3) := by decide +kernel
theorem d_Rows_difference_48 : decode m_Rows_difference.2.1 48 = .ok (.iload_n 3, 1) := by decide +kernel
theorem d_Rows_difference_49 : decode m_Rows_difference.2.1 49 = .ok (.invokestatic 50, 3) := by decide +kernel
theorem d_Rows_difference_52 : decode m_Rows_difference.2.1 52 = .ok (.ireturn, 1) := by decide +kernel
def f_Rows_difference_40 (k_5 : St → Int32 → Int32 → Int32 → Int32 → Option (Int32)) (S : St) (l1 : Int32) (l2 : Int32) (l4 : Int32) (s0 : Int32) (s1 : Int32) : Option (Int32) :=
    (some (s1 + s0)).bind fun l3_41 =>
    (some (l4 + 1)).bind fun l4_42 =>
    k_5 S l1 l2 l3_41 l4_42
set_option maxHeartbeats 4000000 in
set_option maxRecDepth 20000 in
theorem t_Rows_difference_40  {k_5 : St → Int32 → Int32 → Int32 → Int32 → Option (Int32)} (hk_5 : ∀ (S : St) (l1 : Int32) (l2 : Int32) (l3 : Int32) (l4 : Int32) (w : Int32), k_5 S l1 l2 l3 l4 = some w → G SX m_Rows_difference 2 (some w) S 5 [(0, .ref 56), (1, .int l1), (2, .int l2), (3, .int l3), (4, .int l4)] [] S) (S : St) (l1 : Int32) (l2 : Int32) (l4 : Int32) (s0 : Int32) (s1 : Int32) (w : Int32) (h : f_Rows_difference_40 k_5 S l1 l2 l4 s0 s1 = some w) : G SX m_Rows_difference 2 (some w) S 40 [(0, .ref 56), (1, .int l1), (2, .int l2), (4, .int l4)] [.int s0, .int s1] S := by
  unfold f_Rows_difference_40 at h
  refine G_iadd d_Rows_difference_40 ?_
  obtain ⟨l3_41, e_41, h⟩ := ob_s h
  refine G_istore_n [(3, .int l3_41), (0, .ref 56), (1, .int l1), (2, .int l2), (4, .int l4)] e_41 rfl (by decide) d_Rows_difference_41 ?_
  obtain ⟨l4_42, e_42, h⟩ := ob_s h
  refine G_iinc 1 4 [(4, .int l4_42), (3, .int l3_41), (0, .ref 56), (1, .int l1), (2, .int l2)] (by decide) rfl e_42 rfl (by decide) d_Rows_difference_42 ?_
  refine G_goto 5 (by decide) d_Rows_difference_45 ?_
  exact G_sub _ [2, 3, 4, 1, 0] rfl (hk_5 S l1 l2 l3_41 l4_42 _ h)
def f_Rows_difference_5 : Nat → St → Int32 → Int32 → Int32 → Int32 → Option (Int32)
  | 0, _, _, _, _, _ => none
  | n + 1, S, l1, l2, l3, l4 =>
    if l1 ≤ l4 then (
    some (jabs l3))
    else (
    if l2 ≤ l4 then (
    (f_Tape_at S l4).bind fun v_36 =>
    f_Rows_difference_40 (f_Rows_difference_5 n) S l1 l2 l4 (-v_36) l3)
    else (
    (f_Tape_at S l4).bind fun v_24 =>
    f_Rows_difference_40 (f_Rows_difference_5 n) S l1 l2 l4 v_24 l3))
set_option maxHeartbeats 4000000 in
set_option maxRecDepth 20000 in
theorem t_Rows_difference_5  : ∀ (n : Nat) (S : St) (l1 : Int32) (l2 : Int32) (l3 : Int32) (l4 : Int32) (w : Int32), f_Rows_difference_5 n S l1 l2 l3 l4 = some w → G SX m_Rows_difference 2 (some w) S 5 [(0, .ref 56), (1, .int l1), (2, .int l2), (3, .int l3), (4, .int l4)] [] S := by
  intro n
  induction n with
  | zero =>
    intro S l1 l2 l3 l4 w h
    rw [f_Rows_difference_5] at h
    cases h
  | succ n ih =>
    intro S l1 l2 l3 l4 w h
    rw [f_Rows_difference_5] at h
    refine G_iload 4 rfl d_Rows_difference_5 ?_
    refine G_iload_n 1 rfl d_Rows_difference_7 ?_
    refine G_icmp_ge 48 (by decide) d_Rows_difference_8 (fun c_8 => ?_) (fun c_8 => ?_)
    · replace h := ob_t h c_8
      refine G_iload_n 3 rfl d_Rows_difference_48 ?_
      refine G_mabs ms_Rows_50 (by decide) (Nat.le_of_ble_eq_true rfl) d_Rows_difference_49 ?_
      cases h
      exact G_iret rfl d_Rows_difference_52
    · replace h := ob_f h c_8
      refine G_iload_n 3 rfl d_Rows_difference_11 ?_
      refine G_iload 4 rfl d_Rows_difference_12 ?_
      refine G_iload_n 2 rfl d_Rows_difference_14 ?_
      refine G_icmp_ge 30 (by decide) d_Rows_difference_15 (fun c_15 => ?_) (fun c_15 => ?_)
      · replace h := ob_t h c_15
        refine G_aload_n 0 rfl d_Rows_difference_30 ?_
        refine G_getR fl_Rows_9 kx_56 sx_56 rfl (by decide) d_Rows_difference_31 ?_
        refine G_iload 4 rfl d_Rows_difference_34 ?_
        obtain ⟨v_36, q_36, h⟩ := ob_b h
        refine G_callV [.int l4] [.int l3] (t_Tape_at q_36) (by decide) (by decide) mv_Tape_at rfl ml_Rows_19 kx_1 sx_1 cl_8 rfl (Nat.le_of_ble_eq_true rfl) d_Rows_difference_36 ?_
        refine G_ineg d_Rows_difference_39 ?_
        exact G_sub _ [0, 1, 2, 4] rfl (t_Rows_difference_40 ih S l1 l2 l4 (-v_36) l3 _ h)
      · replace h := ob_f h c_15
        refine G_aload_n 0 rfl d_Rows_difference_18 ?_
        refine G_getR fl_Rows_9 kx_56 sx_56 rfl (by decide) d_Rows_difference_19 ?_
        refine G_iload 4 rfl d_Rows_difference_22 ?_
        obtain ⟨v_24, q_24, h⟩ := ob_b h
        refine G_callV [.int l4] [.int l3] (t_Tape_at q_24) (by decide) (by decide) mv_Tape_at rfl ml_Rows_19 kx_1 sx_1 cl_8 rfl (Nat.le_of_ble_eq_true rfl) d_Rows_difference_24 ?_
        refine G_goto 40 (by decide) d_Rows_difference_27 ?_
        exact G_sub _ [0, 1, 2, 4] rfl (t_Rows_difference_40 ih S l1 l2 l4 v_24 l3 _ h)
def f_Rows_difference (S : St) (l1 : Int32) (l2 : Int32) : Option (Int32) :=
    (some (0 : Int32)).bind fun l3_1 =>
    (some (0 : Int32)).bind fun l4_3 =>
    f_Rows_difference_5 FU S l1 l2 l3_1 l4_3
set_option maxHeartbeats 4000000 in
set_option maxRecDepth 20000 in
theorem t_Rows_difference  {S : St} {l1 : Int32} {l2 : Int32} {w : Int32} (h : f_Rows_difference S l1 l2 = some w) : Ct SX m_Rows_difference 2 [.ref 56, .int l1, .int l2] S (some w) S := by
  unfold f_Rows_difference at h
  refine Ct.of pn_Rows (Nat.le_of_ble_eq_true rfl) ?_
  show G SX m_Rows_difference 2 (some w) S 0 [(0, .ref 56), (1, .int l1), (2, .int l2)] [] S
  refine G_iconst 0 (by decide) d_Rows_difference_0 ?_
  obtain ⟨l3_1, e_1, h⟩ := ob_s h
  refine G_istore_n [(3, .int l3_1), (0, .ref 56), (1, .int l1), (2, .int l2)] e_1 rfl (by decide) d_Rows_difference_1 ?_
  refine G_iconst 0 (by decide) d_Rows_difference_2 ?_
  obtain ⟨l4_3, e_3, h⟩ := ob_s h
  refine G_istore [(4, .int l4_3), (3, .int l3_1), (0, .ref 56), (1, .int l1), (2, .int l2)] e_3 rfl (by decide) d_Rows_difference_3 ?_
  exact G_sub _ [2, 3, 4, 1, 0] rfl (t_Rows_difference_5 FU S l1 l2 l3_1 l4_3 _ h)
theorem d_Rows_evenestCut_0 : decode m_Rows_evenestCut.2.1 0 = .ok (.iconst 1, 1) := by decide +kernel
theorem d_Rows_evenestCut_1 : decode m_Rows_evenestCut.2.1 1 = .ok (.istore_n 2, 1) := by decide +kernel
theorem d_Rows_evenestCut_2 : decode m_Rows_evenestCut.2.1 2 = .ok (.iconst 2, 1) := by decide +kernel
theorem d_Rows_evenestCut_3 : decode m_Rows_evenestCut.2.1 3 = .ok (.istore_n 3, 1) := by decide +kernel
theorem d_Rows_evenestCut_4 : decode m_Rows_evenestCut.2.1 4 = .ok (.iload_n 3, 1) := by decide +kernel
theorem d_Rows_evenestCut_5 : decode m_Rows_evenestCut.2.1 5 = .ok (.iload_n 1, 1) := by decide +kernel
theorem d_Rows_evenestCut_6 : decode m_Rows_evenestCut.2.1 6 = .ok (.if_icmp .ge 26, 3) := by decide +kernel
theorem d_Rows_evenestCut_9 : decode m_Rows_evenestCut.2.1 9 = .ok (.aload_n 0, 1) := by decide +kernel
theorem d_Rows_evenestCut_10 : decode m_Rows_evenestCut.2.1 10 = .ok (.iload_n 1, 1) := by decide +kernel
theorem d_Rows_evenestCut_11 : decode m_Rows_evenestCut.2.1 11 = .ok (.iload_n 3, 1) := by decide +kernel
theorem d_Rows_evenestCut_12 : decode m_Rows_evenestCut.2.1 12 = .ok (.invokevirtual 47, 3) := by decide +kernel
theorem d_Rows_evenestCut_15 : decode m_Rows_evenestCut.2.1 15 = .ok (.aload_n 0, 1) := by decide +kernel
theorem d_Rows_evenestCut_16 : decode m_Rows_evenestCut.2.1 16 = .ok (.iload_n 1, 1) := by decide +kernel
theorem d_Rows_evenestCut_17 : decode m_Rows_evenestCut.2.1 17 = .ok (.iload_n 2, 1) := by decide +kernel
theorem d_Rows_evenestCut_18 : decode m_Rows_evenestCut.2.1 18 = .ok (.invokevirtual 47, 3) := by decide +kernel
theorem d_Rows_evenestCut_21 : decode m_Rows_evenestCut.2.1 21 = .ok (.if_icmp .ge 5, 3) := by decide +kernel
theorem d_Rows_evenestCut_24 : decode m_Rows_evenestCut.2.1 24 = .ok (.iload_n 3, 1) := by decide +kernel
theorem d_Rows_evenestCut_25 : decode m_Rows_evenestCut.2.1 25 = .ok (.istore_n 2, 1) := by decide +kernel
theorem d_Rows_evenestCut_26 : decode m_Rows_evenestCut.2.1 26 = .ok (.iinc 3 1, 3) := by decide +kernel
theorem d_Rows_evenestCut_29 : decode m_Rows_evenestCut.2.1 29 = .ok (.goto (-25), 3) := by decide +kernel
theorem d_Rows_evenestCut_32 : decode m_Rows_evenestCut.2.1 32 = .ok (.iload_n 2, 1) := by decide +kernel
theorem d_Rows_evenestCut_33 : decode m_Rows_evenestCut.2.1 33 = .ok (.ireturn, 1) := by decide +kernel
def f_Rows_evenestCut_26 (k_4 : St → Int32 → Int32 → Int32 → Option (Int32)) (S : St) (l1 : Int32) (l2 : Int32) (l3 : Int32) : Option (Int32) :=
    (some (l3 + 1)).bind fun l3_26 =>
    k_4 S l1 l2 l3_26
set_option maxHeartbeats 4000000 in
set_option maxRecDepth 20000 in
theorem t_Rows_evenestCut_26  {k_4 : St → Int32 → Int32 → Int32 → Option (Int32)} (hk_4 : ∀ (S : St) (l1 : Int32) (l2 : Int32) (l3 : Int32) (w : Int32), k_4 S l1 l2 l3 = some w → G SX m_Rows_evenestCut 3 (some w) S 4 [(0, .ref 56), (1, .int l1), (2, .int l2), (3, .int l3)] [] S) (S : St) (l1 : Int32) (l2 : Int32) (l3 : Int32) (w : Int32) (h : f_Rows_evenestCut_26 k_4 S l1 l2 l3 = some w) : G SX m_Rows_evenestCut 3 (some w) S 26 [(0, .ref 56), (1, .int l1), (2, .int l2), (3, .int l3)] [] S := by
  unfold f_Rows_evenestCut_26 at h
  obtain ⟨l3_26, e_26, h⟩ := ob_s h
  refine G_iinc 1 3 [(3, .int l3_26), (0, .ref 56), (1, .int l1), (2, .int l2)] (by decide) rfl e_26 rfl (by decide) d_Rows_evenestCut_26 ?_
  refine G_goto 4 (by decide) d_Rows_evenestCut_29 ?_
  exact G_sub _ [1, 2, 3, 0] rfl (hk_4 S l1 l2 l3_26 _ h)
def f_Rows_evenestCut_4 : Nat → St → Int32 → Int32 → Int32 → Option (Int32)
  | 0, _, _, _, _ => none
  | n + 1, S, l1, l2, l3 =>
    if l1 ≤ l3 then (
    some l2)
    else (
    (f_Rows_difference S l1 l3).bind fun v_12 =>
    (f_Rows_difference S l1 l2).bind fun v_18 =>
    if v_18 ≤ v_12 then (
    f_Rows_evenestCut_26 (f_Rows_evenestCut_4 n) S l1 l2 l3)
    else (
    f_Rows_evenestCut_26 (f_Rows_evenestCut_4 n) S l1 l3 l3))
set_option maxHeartbeats 4000000 in
set_option maxRecDepth 20000 in
theorem t_Rows_evenestCut_4  : ∀ (n : Nat) (S : St) (l1 : Int32) (l2 : Int32) (l3 : Int32) (w : Int32), f_Rows_evenestCut_4 n S l1 l2 l3 = some w → G SX m_Rows_evenestCut 3 (some w) S 4 [(0, .ref 56), (1, .int l1), (2, .int l2), (3, .int l3)] [] S := by
  intro n
  induction n with
  | zero =>
    intro S l1 l2 l3 w h
    rw [f_Rows_evenestCut_4] at h
    cases h
  | succ n ih =>
    intro S l1 l2 l3 w h
    rw [f_Rows_evenestCut_4] at h
    refine G_iload_n 3 rfl d_Rows_evenestCut_4 ?_
    refine G_iload_n 1 rfl d_Rows_evenestCut_5 ?_
    refine G_icmp_ge 32 (by decide) d_Rows_evenestCut_6 (fun c_6 => ?_) (fun c_6 => ?_)
    · replace h := ob_t h c_6
      refine G_iload_n 2 rfl d_Rows_evenestCut_32 ?_
      cases h
      exact G_iret rfl d_Rows_evenestCut_33
    · replace h := ob_f h c_6
      refine G_aload_n 0 rfl d_Rows_evenestCut_9 ?_
      refine G_iload_n 1 rfl d_Rows_evenestCut_10 ?_
      refine G_iload_n 3 rfl d_Rows_evenestCut_11 ?_
      obtain ⟨v_12, q_12, h⟩ := ob_b h
      refine G_callV [.int l1, .int l3] [] (t_Rows_difference q_12) (by decide) (by decide) mv_Rows_difference rfl ml_Rows_47 kx_56 sx_56 cl_6 rfl (Nat.le_of_ble_eq_true rfl) d_Rows_evenestCut_12 ?_
      refine G_aload_n 0 rfl d_Rows_evenestCut_15 ?_
      refine G_iload_n 1 rfl d_Rows_evenestCut_16 ?_
      refine G_iload_n 2 rfl d_Rows_evenestCut_17 ?_
      obtain ⟨v_18, q_18, h⟩ := ob_b h
      refine G_callV [.int l1, .int l2] [.int v_12] (t_Rows_difference q_18) (by decide) (by decide) mv_Rows_difference rfl ml_Rows_47 kx_56 sx_56 cl_6 rfl (Nat.le_of_ble_eq_true rfl) d_Rows_evenestCut_18 ?_
      refine G_icmp_ge 26 (by decide) d_Rows_evenestCut_21 (fun c_21 => ?_) (fun c_21 => ?_)
      · replace h := ob_t h c_21
        exact G_sub _ [0, 1, 2, 3] rfl (t_Rows_evenestCut_26 ih S l1 l2 l3 _ h)
      · replace h := ob_f h c_21
        refine G_iload_n 3 rfl d_Rows_evenestCut_24 ?_
        refine G_istore_n [(2, .int l3), (0, .ref 56), (1, .int l1), (3, .int l3)] rfl rfl (by decide) d_Rows_evenestCut_25 ?_
        exact G_sub _ [1, 2, 0, 3] rfl (t_Rows_evenestCut_26 ih S l1 l3 l3 _ h)
def f_Rows_evenestCut (S : St) (l1 : Int32) : Option (Int32) :=
    (some (1 : Int32)).bind fun l2_1 =>
    (some (2 : Int32)).bind fun l3_3 =>
    f_Rows_evenestCut_4 FU S l1 l2_1 l3_3
set_option maxHeartbeats 4000000 in
set_option maxRecDepth 20000 in
theorem t_Rows_evenestCut  {S : St} {l1 : Int32} {w : Int32} (h : f_Rows_evenestCut S l1 = some w) : Ct SX m_Rows_evenestCut 3 [.ref 56, .int l1] S (some w) S := by
  unfold f_Rows_evenestCut at h
  refine Ct.of pn_Rows (Nat.le_of_ble_eq_true rfl) ?_
  show G SX m_Rows_evenestCut 3 (some w) S 0 [(0, .ref 56), (1, .int l1)] [] S
  refine G_iconst 1 (by decide) d_Rows_evenestCut_0 ?_
  obtain ⟨l2_1, e_1, h⟩ := ob_s h
  refine G_istore_n [(2, .int l2_1), (0, .ref 56), (1, .int l1)] e_1 rfl (by decide) d_Rows_evenestCut_1 ?_
  refine G_iconst 2 (by decide) d_Rows_evenestCut_2 ?_
  obtain ⟨l3_3, e_3, h⟩ := ob_s h
  refine G_istore_n [(3, .int l3_3), (2, .int l2_1), (0, .ref 56), (1, .int l1)] e_3 rfl (by decide) d_Rows_evenestCut_3 ?_
  exact G_sub _ [2, 3, 1, 0] rfl (t_Rows_evenestCut_4 FU S l1 l2_1 l3_3 _ h)
theorem d_Rows_beats_0 : decode m_Rows_beats.2.1 0 = .ok (.aload_n 0, 1) := by decide +kernel
theorem d_Rows_beats_1 : decode m_Rows_beats.2.1 1 = .ok (.getfield 9, 3) := by decide +kernel
theorem d_Rows_beats_4 : decode m_Rows_beats.2.1 4 = .ok (.iconst 2, 1) := by decide +kernel
theorem d_Rows_beats_5 : decode m_Rows_beats.2.1 5 = .ok (.iload_n 2, 1) := by decide +kernel
theorem d_Rows_beats_6 : decode m_Rows_beats.2.1 6 = .ok (.imul, 1) := by decide +kernel
theorem d_Rows_beats_7 : decode m_Rows_beats.2.1 7 = .ok (.invokevirtual 19, 3) := by decide +kernel
theorem d_Rows_beats_10 : decode m_Rows_beats.2.1 10 = .ok (.aload_n 0, 1) := by decide +kernel
theorem d_Rows_beats_11 : decode m_Rows_beats.2.1 11 = .ok (.getfield 9, 3) := by decide +kernel
theorem d_Rows_beats_14 : decode m_Rows_beats.2.1 14 = .ok (.iconst 2, 1) := by decide +kernel
theorem d_Rows_beats_15 : decode m_Rows_beats.2.1 15 = .ok (.iload_n 1, 1) := by decide +kernel
theorem d_Rows_beats_16 : decode m_Rows_beats.2.1 16 = .ok (.imul, 1) := by decide +kernel
theorem d_Rows_beats_17 : decode m_Rows_beats.2.1 17 = .ok (.invokevirtual 19, 3) := by decide +kernel
theorem d_Rows_beats_20 : decode m_Rows_beats.2.1 20 = .ok (.isub, 1) := by decide +kernel
theorem d_Rows_beats_21 : decode m_Rows_beats.2.1 21 = .ok (.istore_n 3, 1) := by decide +kernel
theorem d_Rows_beats_22 : decode m_Rows_beats.2.1 22 = .ok (.aload_n 0, 1) := by decide +kernel
theorem d_Rows_beats_23 : decode m_Rows_beats.2.1 23 = .ok (.getfield 9, 3) := by decide +kernel
theorem d_Rows_beats_26 : decode m_Rows_beats.2.1 26 = .ok (.iconst 2, 1) := by decide +kernel
theorem d_Rows_beats_27 : decode m_Rows_beats.2.1 27 = .ok (.iload_n 1, 1) := by decide +kernel
theorem d_Rows_beats_28 : decode m_Rows_beats.2.1 28 = .ok (.imul, 1) := by decide +kernel
theorem d_Rows_beats_29 : decode m_Rows_beats.2.1 29 = .ok (.iconst 1, 1) := by decide +kernel
theorem d_Rows_beats_30 : decode m_Rows_beats.2.1 30 = .ok (.iadd, 1) := by decide +kernel
theorem d_Rows_beats_31 : decode m_Rows_beats.2.1 31 = .ok (.invokevirtual 19, 3) := by decide +kernel
theorem d_Rows_beats_34 : decode m_Rows_beats.2.1 34 = .ok (.aload_n 0, 1) := by decide +kernel
theorem d_Rows_beats_35 : decode m_Rows_beats.2.1 35 = .ok (.getfield 9, 3) := by decide +kernel
theorem d_Rows_beats_38 : decode m_Rows_beats.2.1 38 = .ok (.iconst 2, 1) := by decide +kernel
theorem d_Rows_beats_39 : decode m_Rows_beats.2.1 39 = .ok (.iload_n 2, 1) := by decide +kernel
theorem d_Rows_beats_40 : decode m_Rows_beats.2.1 40 = .ok (.imul, 1) := by decide +kernel
theorem d_Rows_beats_41 : decode m_Rows_beats.2.1 41 = .ok (.iconst 1, 1) := by decide +kernel
theorem d_Rows_beats_42 : decode m_Rows_beats.2.1 42 = .ok (.iadd, 1) := by decide +kernel
theorem d_Rows_beats_43 : decode m_Rows_beats.2.1 43 = .ok (.invokevirtual 19, 3) := by decide +kernel
theorem d_Rows_beats_46 : decode m_Rows_beats.2.1 46 = .ok (.isub, 1) := by decide +kernel
theorem d_Rows_beats_47 : decode m_Rows_beats.2.1 47 = .ok (.istore 4, 2) := by decide +kernel
theorem d_Rows_beats_49 : decode m_Rows_beats.2.1 49 = .ok (.iload_n 3, 1) := by decide +kernel
theorem d_Rows_beats_50 : decode m_Rows_beats.2.1 50 = .ok (.ifCond .lt 19, 3) := by decide +kernel
theorem d_Rows_beats_53 : decode m_Rows_beats.2.1 53 = .ok (.iload 4, 2) := by decide +kernel
theorem d_Rows_beats_55 : decode m_Rows_beats.2.1 55 = .ok (.ifCond .lt 14, 3) := by decide +kernel
theorem d_Rows_beats_58 : decode m_Rows_beats.2.1 58 = .ok (.iload_n 3, 1) := by decide +kernel
theorem d_Rows_beats_59 : decode m_Rows_beats.2.1 59 = .ok (.iload 4, 2) := by decide +kernel
theorem d_Rows_beats_61 : decode m_Rows_beats.2.1 61 = .ok (.iadd, 1) := by decide +kernel
theorem d_Rows_beats_62 : decode m_Rows_beats.2.1 62 = .ok (.ifCond .le 7, 3) := by decide +kernel
theorem d_Rows_beats_65 : decode m_Rows_beats.2.1 65 = .ok (.iconst 1, 1) := by decide +kernel
theorem d_Rows_beats_66 : decode m_Rows_beats.2.1 66 = .ok (.goto 4, 3) := by decide +kernel
theorem d_Rows_beats_69 : decode m_Rows_beats.2.1 69 = .ok (.iconst 0, 1) := by decide +kernel
theorem d_Rows_beats_70 : decode m_Rows_beats.2.1 70 = .ok (.ireturn, 1) := by decide +kernel
def f_Rows_beats (S : St) (l1 : Int32) (l2 : Int32) : Option (Int32) :=
    (f_Tape_at S (2 * l2)).bind fun v_7 =>
    (f_Tape_at S (2 * l1)).bind fun v_17 =>
    (some (v_7 - v_17)).bind fun l3_21 =>
    (f_Tape_at S ((2 * l1) + 1)).bind fun v_31 =>
    (f_Tape_at S ((2 * l2) + 1)).bind fun v_43 =>
    (some (v_31 - v_43)).bind fun l4_47 =>
    if l3_21 < 0 then (
    some (0 : Int32))
    else (
    if l4_47 < 0 then (
    some (0 : Int32))
    else (
    if (l3_21 + l4_47) ≤ 0 then (
    some (0 : Int32))
    else (
    some (1 : Int32))))
set_option maxHeartbeats 4000000 in
set_option maxRecDepth 20000 in
theorem t_Rows_beats  {S : St} {l1 : Int32} {l2 : Int32} {w : Int32} (h : f_Rows_beats S l1 l2 = some w) : Ct SX m_Rows_beats 2 [.ref 56, .int l1, .int l2] S (some w) S := by
  unfold f_Rows_beats at h
  refine Ct.of pn_Rows (Nat.le_of_ble_eq_true rfl) ?_
  show G SX m_Rows_beats 2 (some w) S 0 [(0, .ref 56), (1, .int l1), (2, .int l2)] [] S
  refine G_aload_n 0 rfl d_Rows_beats_0 ?_
  refine G_getR fl_Rows_9 kx_56 sx_56 rfl (by decide) d_Rows_beats_1 ?_
  refine G_iconst 2 (by decide) d_Rows_beats_4 ?_
  refine G_iload_n 2 rfl d_Rows_beats_5 ?_
  refine G_imul d_Rows_beats_6 ?_
  obtain ⟨v_7, q_7, h⟩ := ob_b h
  refine G_callV [.int (2 * l2)] [] (t_Tape_at q_7) (by decide) (by decide) mv_Tape_at rfl ml_Rows_19 kx_1 sx_1 cl_8 rfl (Nat.le_of_ble_eq_true rfl) d_Rows_beats_7 ?_
  refine G_aload_n 0 rfl d_Rows_beats_10 ?_
  refine G_getR fl_Rows_9 kx_56 sx_56 rfl (by decide) d_Rows_beats_11 ?_
  refine G_iconst 2 (by decide) d_Rows_beats_14 ?_
  refine G_iload_n 1 rfl d_Rows_beats_15 ?_
  refine G_imul d_Rows_beats_16 ?_
  obtain ⟨v_17, q_17, h⟩ := ob_b h
  refine G_callV [.int (2 * l1)] [.int v_7] (t_Tape_at q_17) (by decide) (by decide) mv_Tape_at rfl ml_Rows_19 kx_1 sx_1 cl_8 rfl (Nat.le_of_ble_eq_true rfl) d_Rows_beats_17 ?_
  refine G_isub d_Rows_beats_20 ?_
  obtain ⟨l3_21, e_21, h⟩ := ob_s h
  refine G_istore_n [(3, .int l3_21), (0, .ref 56), (1, .int l1), (2, .int l2)] e_21 rfl (by decide) d_Rows_beats_21 ?_
  refine G_aload_n 1 rfl d_Rows_beats_22 ?_
  refine G_getR fl_Rows_9 kx_56 sx_56 rfl (by decide) d_Rows_beats_23 ?_
  refine G_iconst 2 (by decide) d_Rows_beats_26 ?_
  refine G_iload_n 2 rfl d_Rows_beats_27 ?_
  refine G_imul d_Rows_beats_28 ?_
  refine G_iconst 1 (by decide) d_Rows_beats_29 ?_
  refine G_iadd d_Rows_beats_30 ?_
  obtain ⟨v_31, q_31, h⟩ := ob_b h
  refine G_callV [.int ((2 * l1) + 1)] [] (t_Tape_at q_31) (by decide) (by decide) mv_Tape_at rfl ml_Rows_19 kx_1 sx_1 cl_8 rfl (Nat.le_of_ble_eq_true rfl) d_Rows_beats_31 ?_
  refine G_aload_n 1 rfl d_Rows_beats_34 ?_
  refine G_getR fl_Rows_9 kx_56 sx_56 rfl (by decide) d_Rows_beats_35 ?_
  refine G_iconst 2 (by decide) d_Rows_beats_38 ?_
  refine G_iload_n 3 rfl d_Rows_beats_39 ?_
  refine G_imul d_Rows_beats_40 ?_
  refine G_iconst 1 (by decide) d_Rows_beats_41 ?_
  refine G_iadd d_Rows_beats_42 ?_
  obtain ⟨v_43, q_43, h⟩ := ob_b h
  refine G_callV [.int ((2 * l2) + 1)] [.int v_31] (t_Tape_at q_43) (by decide) (by decide) mv_Tape_at rfl ml_Rows_19 kx_1 sx_1 cl_8 rfl (Nat.le_of_ble_eq_true rfl) d_Rows_beats_43 ?_
  refine G_isub d_Rows_beats_46 ?_
  obtain ⟨l4_47, e_47, h⟩ := ob_s h
  refine G_istore [(4, .int l4_47), (3, .int l3_21), (0, .ref 56), (1, .int l1), (2, .int l2)] e_47 rfl (by decide) d_Rows_beats_47 ?_
  refine G_iload_n 1 rfl d_Rows_beats_49 ?_
  refine G_if_lt 69 (by decide) d_Rows_beats_50 (fun c_50 => ?_) (fun c_50 => ?_)
  · replace h := ob_t h c_50
    refine G_iconst 0 (by decide) d_Rows_beats_69 ?_
    cases h
    exact G_zret (Or.inl rfl) rfl d_Rows_beats_70
  · replace h := ob_f h c_50
    refine G_iload 0 rfl d_Rows_beats_53 ?_
    refine G_if_lt 69 (by decide) d_Rows_beats_55 (fun c_55 => ?_) (fun c_55 => ?_)
    · replace h := ob_t h c_55
      refine G_iconst 0 (by decide) d_Rows_beats_69 ?_
      cases h
      exact G_zret (Or.inl rfl) rfl d_Rows_beats_70
    · replace h := ob_f h c_55
      refine G_iload_n 1 rfl d_Rows_beats_58 ?_
      refine G_iload 0 rfl d_Rows_beats_59 ?_
      refine G_iadd d_Rows_beats_61 ?_
      refine G_if_le 69 (by decide) d_Rows_beats_62 (fun c_62 => ?_) (fun c_62 => ?_)
      · replace h := ob_t h c_62
        refine G_iconst 0 (by decide) d_Rows_beats_69 ?_
        cases h
        exact G_zret (Or.inl rfl) rfl d_Rows_beats_70
      · replace h := ob_f h c_62
        refine G_iconst 1 (by decide) d_Rows_beats_65 ?_
        refine G_goto 70 (by decide) d_Rows_beats_66 ?_
        cases h
        exact G_zret (Or.inr rfl) rfl d_Rows_beats_70
theorem d_Rows_unbeaten_0 : decode m_Rows_unbeaten.2.1 0 = .ok (.iconst 0, 1) := by decide +kernel
theorem d_Rows_unbeaten_1 : decode m_Rows_unbeaten.2.1 1 = .ok (.istore_n 2, 1) := by decide +kernel
theorem d_Rows_unbeaten_2 : decode m_Rows_unbeaten.2.1 2 = .ok (.iconst 0, 1) := by decide +kernel
theorem d_Rows_unbeaten_3 : decode m_Rows_unbeaten.2.1 3 = .ok (.istore_n 3, 1) := by decide +kernel
theorem d_Rows_unbeaten_4 : decode m_Rows_unbeaten.2.1 4 = .ok (.iload_n 3, 1) := by decide +kernel
theorem d_Rows_unbeaten_5 : decode m_Rows_unbeaten.2.1 5 = .ok (.iload_n 1, 1) := by decide +kernel
theorem d_Rows_unbeaten_6 : decode m_Rows_unbeaten.2.1 6 = .ok (.if_icmp .ge 49, 3) := by decide +kernel
theorem d_Rows_unbeaten_9 : decode m_Rows_unbeaten.2.1 9 = .ok (.iconst 0, 1) := by decide +kernel
theorem d_Rows_unbeaten_10 : decode m_Rows_unbeaten.2.1 10 = .ok (.istore 4, 2) := by decide +kernel
theorem d_Rows_unbeaten_12 : decode m_Rows_unbeaten.2.1 12 = .ok (.iconst 0, 1) := by decide +kernel
theorem d_Rows_unbeaten_13 : decode m_Rows_unbeaten.2.1 13 = .ok (.istore 5, 2) := by decide +kernel
theorem d_Rows_unbeaten_15 : decode m_Rows_unbeaten.2.1 15 = .ok (.iload 5, 2) := by decide +kernel
theorem d_Rows_unbeaten_17 : decode m_Rows_unbeaten.2.1 17 = .ok (.iload_n 1, 1) := by decide +kernel
theorem d_Rows_unbeaten_18 : decode m_Rows_unbeaten.2.1 18 = .ok (.if_icmp .ge 23, 3) := by decide +kernel
theorem d_Rows_unbeaten_21 : decode m_Rows_unbeaten.2.1 21 = .ok (.iload 4, 2) := by decide +kernel
theorem d_Rows_unbeaten_23 : decode m_Rows_unbeaten.2.1 23 = .ok (.ifCond .ne 18, 3) := by decide +kernel
theorem d_Rows_unbeaten_26 : decode m_Rows_unbeaten.2.1 26 = .ok (.aload_n 0, 1) := by decide +kernel
theorem d_Rows_unbeaten_27 : decode m_Rows_unbeaten.2.1 27 = .ok (.iload 5, 2) := by decide +kernel
theorem d_Rows_unbeaten_29 : decode m_Rows_unbeaten.2.1 29 = .ok (.iload_n 3, 1) := by decide +kernel
theorem d_Rows_unbeaten_30 : decode m_Rows_unbeaten.2.1 30 = .ok (.invokevirtual 53, 3) := by decide +kernel
theorem d_Rows_unbeaten_33 : decode m_Rows_unbeaten.2.1 33 = .ok (.istore 4, 2) := by decide +kernel
theorem d_Rows_unbeaten_35 : decode m_Rows_unbeaten.2.1 35 = .ok (.iinc 5 1, 3) := by decide +kernel
theorem d_Rows_unbeaten_38 : decode m_Rows_unbeaten.2.1 38 = .ok (.goto (-23), 3) := by decide +kernel
theorem d_Rows_unbeaten_41 : decode m_Rows_unbeaten.2.1 41 = .ok (.iload 4, 2) := by decide +kernel
theorem d_Rows_unbeaten_43 : decode m_Rows_unbeaten.2.1 43 = .ok (.ifCond .ne 6, 3) := by decide +kernel
theorem d_Rows_unbeaten_46 : decode m_Rows_unbeaten.2.1 46 = .ok (.iinc 2 1, 3) := by decide +kernel
theorem d_Rows_unbeaten_49 : decode m_Rows_unbeaten.2.1 49 = .ok (.iinc 3 1, 3) := by decide +kernel
theorem d_Rows_unbeaten_52 : decode m_Rows_unbeaten.2.1 52 = .ok (.goto (-48), 3) := by decide +kernel
theorem d_Rows_unbeaten_55 : decode m_Rows_unbeaten.2.1 55 = .ok (.iload_n 2, 1) := by decide +kernel
theorem d_Rows_unbeaten_56 : decode m_Rows_unbeaten.2.1 56 = .ok (.ireturn, 1) := by decide +kernel
def f_Rows_unbeaten_49 (k_4 : St → Int32 → Int32 → Int32 → Option (Int32)) (S : St) (l1 : Int32) (l2 : Int32) (l3 : Int32) : Option (Int32) :=
    (some (l3 + 1)).bind fun l3_49 =>
    k_4 S l1 l2 l3_49
set_option maxHeartbeats 4000000 in
set_option maxRecDepth 20000 in
theorem t_Rows_unbeaten_49  {k_4 : St → Int32 → Int32 → Int32 → Option (Int32)} (hk_4 : ∀ (S : St) (l1 : Int32) (l2 : Int32) (l3 : Int32) (w : Int32), k_4 S l1 l2 l3 = some w → G SX m_Rows_unbeaten 3 (some w) S 4 [(0, .ref 56), (1, .int l1), (2, .int l2), (3, .int l3)] [] S) (S : St) (l1 : Int32) (l2 : Int32) (l3 : Int32) (w : Int32) (h : f_Rows_unbeaten_49 k_4 S l1 l2 l3 = some w) : G SX m_Rows_unbeaten 3 (some w) S 49 [(0, .ref 56), (1, .int l1), (2, .int l2), (3, .int l3)] [] S := by
  unfold f_Rows_unbeaten_49 at h
  obtain ⟨l3_49, e_49, h⟩ := ob_s h
  refine G_iinc 1 3 [(3, .int l3_49), (0, .ref 56), (1, .int l1), (2, .int l2)] (by decide) rfl e_49 rfl (by decide) d_Rows_unbeaten_49 ?_
  refine G_goto 4 (by decide) d_Rows_unbeaten_52 ?_
  exact G_sub _ [1, 2, 3, 0] rfl (hk_4 S l1 l2 l3_49 _ h)
def f_Rows_unbeaten_41 (k_4 : St → Int32 → Int32 → Int32 → Option (Int32)) (S : St) (l1 : Int32) (l2 : Int32) (l3 : Int32) (l4 : Int32) : Option (Int32) :=
    if l4 = 0 then (
    (some (l2 + 1)).bind fun l2_46 =>
    f_Rows_unbeaten_49 k_4 S l1 l2_46 l3)
    else (
    f_Rows_unbeaten_49 k_4 S l1 l2 l3)
set_option maxHeartbeats 4000000 in
set_option maxRecDepth 20000 in
theorem t_Rows_unbeaten_41  {k_4 : St → Int32 → Int32 → Int32 → Option (Int32)} (hk_4 : ∀ (S : St) (l1 : Int32) (l2 : Int32) (l3 : Int32) (w : Int32), k_4 S l1 l2 l3 = some w → G SX m_Rows_unbeaten 3 (some w) S 4 [(0, .ref 56), (1, .int l1), (2, .int l2), (3, .int l3)] [] S) (S : St) (l1 : Int32) (l2 : Int32) (l3 : Int32) (l4 : Int32) (w : Int32) (h : f_Rows_unbeaten_41 k_4 S l1 l2 l3 l4 = some w) : G SX m_Rows_unbeaten 3 (some w) S 41 [(0, .ref 56), (1, .int l1), (2, .int l2), (3, .int l3), (4, .int l4)] [] S := by
  unfold f_Rows_unbeaten_41 at h
  refine G_iload 4 rfl d_Rows_unbeaten_41 ?_
  refine G_if_ne 49 (by decide) d_Rows_unbeaten_43 (fun c_43 => ?_) (fun c_43 => ?_)
  · replace h := ob_f h c_43
    exact G_sub _ [0, 1, 2, 3] rfl (t_Rows_unbeaten_49 hk_4 S l1 l2 l3 _ h)
  · replace h := ob_t h c_43
    obtain ⟨l2_46, e_46, h⟩ := ob_s h
    refine G_iinc 1 2 [(2, .int l2_46), (0, .ref 56), (1, .int l1), (3, .int l3), (4, .int l4)] (by decide) rfl e_46 rfl (by decide) d_Rows_unbeaten_46 ?_
    exact G_sub _ [1, 2, 0, 3] rfl (t_Rows_unbeaten_49 hk_4 S l1 l2_46 l3 _ h)
def f_Rows_unbeaten_15 (k_4 : St → Int32 → Int32 → Int32 → Option (Int32)) : Nat → St → Int32 → Int32 → Int32 → Int32 → Int32 → Option (Int32)
  | 0, _, _, _, _, _, _ => none
  | n + 1, S, l1, l2, l3, l4, l5 =>
    if l1 ≤ l5 then (
    f_Rows_unbeaten_41 k_4 S l1 l2 l3 l4)
    else (
    if l4 = 0 then (
    (f_Rows_beats S l5 l3).bind fun v_30 =>
    (some (l5 + 1)).bind fun l5_35 =>
    f_Rows_unbeaten_15 k_4 n S l1 l2 l3 v_30 l5_35)
    else (
    f_Rows_unbeaten_41 k_4 S l1 l2 l3 l4))
set_option maxHeartbeats 4000000 in
set_option maxRecDepth 20000 in
theorem t_Rows_unbeaten_15  {k_4 : St → Int32 → Int32 → Int32 → Option (Int32)} (hk_4 : ∀ (S : St) (l1 : Int32) (l2 : Int32) (l3 : Int32) (w : Int32), k_4 S l1 l2 l3 = some w → G SX m_Rows_unbeaten 3 (some w) S 4 [(0, .ref 56), (1, .int l1), (2, .int l2), (3, .int l3)] [] S) : ∀ (n : Nat) (S : St) (l1 : Int32) (l2 : Int32) (l3 : Int32) (l4 : Int32) (l5 : Int32) (w : Int32), f_Rows_unbeaten_15 k_4 n S l1 l2 l3 l4 l5 = some w → G SX m_Rows_unbeaten 3 (some w) S 15 [(0, .ref 56), (1, .int l1), (2, .int l2), (3, .int l3), (4, .int l4), (5, .int l5)] [] S := by
  intro n
  induction n with
  | zero =>
    intro S l1 l2 l3 l4 l5 w h
    rw [f_Rows_unbeaten_15] at h
    cases h
  | succ n ih =>
    intro S l1 l2 l3 l4 l5 w h
    rw [f_Rows_unbeaten_15] at h
    refine G_iload 5 rfl d_Rows_unbeaten_15 ?_
    refine G_iload_n 1 rfl d_Rows_unbeaten_17 ?_
    refine G_icmp_ge 41 (by decide) d_Rows_unbeaten_18 (fun c_18 => ?_) (fun c_18 => ?_)
    · replace h := ob_t h c_18
      exact G_sub _ [0, 1, 2, 3, 4] rfl (t_Rows_unbeaten_41 hk_4 S l1 l2 l3 l4 _ h)
    · replace h := ob_f h c_18
      refine G_iload 4 rfl d_Rows_unbeaten_21 ?_
      refine G_if_ne 41 (by decide) d_Rows_unbeaten_23 (fun c_23 => ?_) (fun c_23 => ?_)
      · replace h := ob_f h c_23
        exact G_sub _ [0, 1, 2, 3, 4] rfl (t_Rows_unbeaten_41 hk_4 S l1 l2 l3 l4 _ h)
      · replace h := ob_t h c_23
        refine G_aload_n 0 rfl d_Rows_unbeaten_26 ?_
        refine G_iload 5 rfl d_Rows_unbeaten_27 ?_
        refine G_iload_n 3 rfl d_Rows_unbeaten_29 ?_
        obtain ⟨v_30, q_30, h⟩ := ob_b h
        refine G_callV [.int l5, .int l3] [] (t_Rows_beats q_30) (by decide) (by decide) mv_Rows_beats rfl ml_Rows_53 kx_56 sx_56 cl_6 rfl (Nat.le_of_ble_eq_true rfl) d_Rows_unbeaten_30 ?_
        refine G_istore [(4, .int v_30), (0, .ref 56), (1, .int l1), (2, .int l2), (3, .int l3), (5, .int l5)] rfl rfl (by decide) d_Rows_unbeaten_33 ?_
        obtain ⟨l5_35, e_35, h⟩ := ob_s h
        refine G_iinc 1 5 [(5, .int l5_35), (4, .int v_30), (0, .ref 56), (1, .int l1), (2, .int l2), (3, .int l3)] (by decide) rfl e_35 rfl (by decide) d_Rows_unbeaten_35 ?_
        refine G_goto 15 (by decide) d_Rows_unbeaten_38 ?_
        exact G_sub _ [2, 3, 4, 5, 1, 0] rfl (ih S l1 l2 l3 v_30 l5_35 _ h)
def f_Rows_unbeaten_4 : Nat → St → Int32 → Int32 → Int32 → Option (Int32)
  | 0, _, _, _, _ => none
  | n + 1, S, l1, l2, l3 =>
    if l1 ≤ l3 then (
    some l2)
    else (
    (some (0 : Int32)).bind fun l4_10 =>
    (some (0 : Int32)).bind fun l5_13 =>
    f_Rows_unbeaten_15 (f_Rows_unbeaten_4 n) FU S l1 l2 l3 l4_10 l5_13)
set_option maxHeartbeats 4000000 in
set_option maxRecDepth 20000 in
theorem t_Rows_unbeaten_4  : ∀ (n : Nat) (S : St) (l1 : Int32) (l2 : Int32) (l3 : Int32) (w : Int32), f_Rows_unbeaten_4 n S l1 l2 l3 = some w → G SX m_Rows_unbeaten 3 (some w) S 4 [(0, .ref 56), (1, .int l1), (2, .int l2), (3, .int l3)] [] S := by
  intro n
  induction n with
  | zero =>
    intro S l1 l2 l3 w h
    rw [f_Rows_unbeaten_4] at h
    cases h
  | succ n ih =>
    intro S l1 l2 l3 w h
    rw [f_Rows_unbeaten_4] at h
    refine G_iload_n 3 rfl d_Rows_unbeaten_4 ?_
    refine G_iload_n 1 rfl d_Rows_unbeaten_5 ?_
    refine G_icmp_ge 55 (by decide) d_Rows_unbeaten_6 (fun c_6 => ?_) (fun c_6 => ?_)
    · replace h := ob_t h c_6
      refine G_iload_n 2 rfl d_Rows_unbeaten_55 ?_
      cases h
      exact G_iret rfl d_Rows_unbeaten_56
    · replace h := ob_f h c_6
      refine G_iconst 0 (by decide) d_Rows_unbeaten_9 ?_
      obtain ⟨l4_10, e_10, h⟩ := ob_s h
      refine G_istore [(4, .int l4_10), (0, .ref 56), (1, .int l1), (2, .int l2), (3, .int l3)] e_10 rfl (by decide) d_Rows_unbeaten_10 ?_
      refine G_iconst 0 (by decide) d_Rows_unbeaten_12 ?_
      obtain ⟨l5_13, e_13, h⟩ := ob_s h
      refine G_istore [(5, .int l5_13), (4, .int l4_10), (0, .ref 56), (1, .int l1), (2, .int l2), (3, .int l3)] e_13 rfl (by decide) d_Rows_unbeaten_13 ?_
      exact G_sub _ [2, 3, 4, 5, 1, 0] rfl (t_Rows_unbeaten_15 ih FU S l1 l2 l3 l4_10 l5_13 _ h)
def f_Rows_unbeaten (S : St) (l1 : Int32) : Option (Int32) :=
    (some (0 : Int32)).bind fun l2_1 =>
    (some (0 : Int32)).bind fun l3_3 =>
    f_Rows_unbeaten_4 FU S l1 l2_1 l3_3
set_option maxHeartbeats 4000000 in
set_option maxRecDepth 20000 in
theorem t_Rows_unbeaten  {S : St} {l1 : Int32} {w : Int32} (h : f_Rows_unbeaten S l1 = some w) : Ct SX m_Rows_unbeaten 3 [.ref 56, .int l1] S (some w) S := by
  unfold f_Rows_unbeaten at h
  refine Ct.of pn_Rows (Nat.le_of_ble_eq_true rfl) ?_
  show G SX m_Rows_unbeaten 3 (some w) S 0 [(0, .ref 56), (1, .int l1)] [] S
  refine G_iconst 0 (by decide) d_Rows_unbeaten_0 ?_
  obtain ⟨l2_1, e_1, h⟩ := ob_s h
  refine G_istore_n [(2, .int l2_1), (0, .ref 56), (1, .int l1)] e_1 rfl (by decide) d_Rows_unbeaten_1 ?_
  refine G_iconst 0 (by decide) d_Rows_unbeaten_2 ?_
  obtain ⟨l3_3, e_3, h⟩ := ob_s h
  refine G_istore_n [(3, .int l3_3), (2, .int l2_1), (0, .ref 56), (1, .int l1)] e_3 rfl (by decide) d_Rows_unbeaten_3 ?_
  exact G_sub _ [2, 3, 1, 0] rfl (t_Rows_unbeaten_4 FU S l1 l2_1 l3_3 _ h)
