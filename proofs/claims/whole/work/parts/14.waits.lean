theorem d_W_within_0 : decode m_W_within.2.1 0 = .ok (.iload_n 0, 1) := by decide +kernel
theorem d_W_within_1 : decode m_W_within.2.1 1 = .ok (.iload_n 1, 1) := by decide +kernel
theorem d_W_within_2 : decode m_W_within.2.1 2 = .ok (.if_icmp .lt 12, 3) := by decide +kernel
theorem d_W_within_5 : decode m_W_within.2.1 5 = .ok (.iload_n 0, 1) := by decide +kernel
theorem d_W_within_6 : decode m_W_within.2.1 6 = .ok (.iload_n 2, 1) := by decide +kernel
theorem d_W_within_7 : decode m_W_within.2.1 7 = .ok (.if_icmp .gt 7, 3) := by decide +kernel
theorem d_W_within_10 : decode m_W_within.2.1 10 = .ok (.iconst 1, 1) := by decide +kernel
theorem d_W_within_11 : decode m_W_within.2.1 11 = .ok (.goto 4, 3) := by decide +kernel
theorem d_W_within_14 : decode m_W_within.2.1 14 = .ok (.iconst 0, 1) := by decide +kernel
theorem d_W_within_15 : decode m_W_within.2.1 15 = .ok (.ireturn, 1) := by decide +kernel
def f_W_within (S : St) (l0 : Int32) (l1 : Int32) (l2 : Int32) : Option (Int32) :=
    if l0 < l1 then (
    some (0 : Int32))
    else (
    if l2 < l0 then (
    some (0 : Int32))
    else (
    some (1 : Int32)))
set_option maxHeartbeats 4000000 in
set_option maxRecDepth 20000 in
theorem t_W_within  {S : St} {l0 : Int32} {l1 : Int32} {l2 : Int32} {w : Int32} (h : f_W_within S l0 l1 l2 = some w) : Ct SX m_W_within 1 [.int l0, .int l1, .int l2] S (some w) S := by
  unfold f_W_within at h
  refine Ct.of pn_W (Nat.le_of_ble_eq_true rfl) ?_
  show G SX m_W_within 1 (some w) S 0 [(0, .int l0), (1, .int l1), (2, .int l2)] [] S
  refine G_iload_n 0 rfl d_W_within_0 ?_
  refine G_iload_n 1 rfl d_W_within_1 ?_
  refine G_icmp_lt 14 (by decide) d_W_within_2 (fun c_2 => ?_) (fun c_2 => ?_)
  · replace h := ob_t h c_2
    refine G_iconst 0 (by decide) d_W_within_14 ?_
    cases h
    exact G_zret (Or.inl rfl) rfl d_W_within_15
  · replace h := ob_f h c_2
    refine G_iload_n 0 rfl d_W_within_5 ?_
    refine G_iload_n 2 rfl d_W_within_6 ?_
    refine G_icmp_gt 14 (by decide) d_W_within_7 (fun c_7 => ?_) (fun c_7 => ?_)
    · replace h := ob_t h c_7
      refine G_iconst 0 (by decide) d_W_within_14 ?_
      cases h
      exact G_zret (Or.inl rfl) rfl d_W_within_15
    · replace h := ob_f h c_7
      refine G_iconst 1 (by decide) d_W_within_10 ?_
      refine G_goto 15 (by decide) d_W_within_11 ?_
      cases h
      exact G_zret (Or.inr rfl) rfl d_W_within_15
theorem d_Waits_read_0 : decode m_Waits_read.2.1 0 = .ok (.aload_n 0, 1) := by decide +kernel
theorem d_Waits_read_1 : decode m_Waits_read.2.1 1 = .ok (.getfield 9, 3) := by decide +kernel
theorem d_Waits_read_4 : decode m_Waits_read.2.1 4 = .ok (.iconst 0, 1) := by decide +kernel
theorem d_Waits_read_5 : decode m_Waits_read.2.1 5 = .ok (.invokestatic 28, 3) := by decide +kernel
theorem d_Waits_read_8 : decode m_Waits_read.2.1 8 = .ok (.aload_n 0, 1) := by decide +kernel
theorem d_Waits_read_9 : decode m_Waits_read.2.1 9 = .ok (.getfield 15, 3) := by decide +kernel
theorem d_Waits_read_12 : decode m_Waits_read.2.1 12 = .ok (.iconst 0, 1) := by decide +kernel
theorem d_Waits_read_13 : decode m_Waits_read.2.1 13 = .ok (.invokestatic 28, 3) := by decide +kernel
theorem d_Waits_read_16 : decode m_Waits_read.2.1 16 = .ok (.iconst 0, 1) := by decide +kernel
theorem d_Waits_read_17 : decode m_Waits_read.2.1 17 = .ok (.istore_n 2, 1) := by decide +kernel
theorem d_Waits_read_18 : decode m_Waits_read.2.1 18 = .ok (.iload_n 2, 1) := by decide +kernel
theorem d_Waits_read_19 : decode m_Waits_read.2.1 19 = .ok (.iload_n 1, 1) := by decide +kernel
theorem d_Waits_read_20 : decode m_Waits_read.2.1 20 = .ok (.if_icmp .ge 76, 3) := by decide +kernel
theorem d_Waits_read_23 : decode m_Waits_read.2.1 23 = .ok (.aload_n 0, 1) := by decide +kernel
theorem d_Waits_read_24 : decode m_Waits_read.2.1 24 = .ok (.getfield 24, 3) := by decide +kernel
theorem d_Waits_read_27 : decode m_Waits_read.2.1 27 = .ok (.iconst 2, 1) := by decide +kernel
theorem d_Waits_read_28 : decode m_Waits_read.2.1 28 = .ok (.iload_n 2, 1) := by decide +kernel
theorem d_Waits_read_29 : decode m_Waits_read.2.1 29 = .ok (.imul, 1) := by decide +kernel
theorem d_Waits_read_30 : decode m_Waits_read.2.1 30 = .ok (.invokevirtual 34, 3) := by decide +kernel
theorem d_Waits_read_33 : decode m_Waits_read.2.1 33 = .ok (.istore_n 3, 1) := by decide +kernel
theorem d_Waits_read_34 : decode m_Waits_read.2.1 34 = .ok (.aload_n 0, 1) := by decide +kernel
theorem d_Waits_read_35 : decode m_Waits_read.2.1 35 = .ok (.getfield 24, 3) := by decide +kernel
theorem d_Waits_read_38 : decode m_Waits_read.2.1 38 = .ok (.iconst 2, 1) := by decide +kernel
theorem d_Waits_read_39 : decode m_Waits_read.2.1 39 = .ok (.iload_n 2, 1) := by decide +kernel
theorem d_Waits_read_40 : decode m_Waits_read.2.1 40 = .ok (.imul, 1) := by decide +kernel
theorem d_Waits_read_41 : decode m_Waits_read.2.1 41 = .ok (.iconst 1, 1) := by decide +kernel
theorem d_Waits_read_42 : decode m_Waits_read.2.1 42 = .ok (.iadd, 1) := by decide +kernel
theorem d_Waits_read_43 : decode m_Waits_read.2.1 43 = .ok (.invokevirtual 34, 3) := by decide +kernel
theorem d_Waits_read_46 : decode m_Waits_read.2.1 46 = .ok (.istore 4, 2) := by decide +kernel
theorem d_Waits_read_48 : decode m_Waits_read.2.1 48 = .ok (.iload_n 3, 1) := by decide +kernel
theorem d_Waits_read_49 : decode m_Waits_read.2.1 49 = .ok (.iconst 0, 1) := by decide +kernel
theorem d_Waits_read_50 : decode m_Waits_read.2.1 50 = .ok (.bipush 15, 2) := by decide +kernel
theorem d_Waits_read_52 : decode m_Waits_read.2.1 52 = .ok (.invokestatic 40, 3) := by decide +kernel
theorem d_Waits_read_55 : decode m_Waits_read.2.1 55 = .ok (.ifCond .eq 20, 3) := by decide +kernel
theorem d_Waits_read_58 : decode m_Waits_read.2.1 58 = .ok (.iload 4, 2) := by decide +kernel
theorem d_Waits_read_60 : decode m_Waits_read.2.1 60 = .ok (.iconst 0, 1) := by decide +kernel
theorem d_Waits_read_61 : decode m_Waits_read.2.1 61 = .ok (.bipush 15, 2) := by decide +kernel
theorem d_Waits_read_63 : decode m_Waits_read.2.1 63 = .ok (.invokestatic 40, 3) := by decide +kernel
theorem d_Waits_read_66 : decode m_Waits_read.2.1 66 = .ok (.ifCond .eq 9, 3) := by decide +kernel
theorem d_Waits_read_69 : decode m_Waits_read.2.1 69 = .ok (.iload_n 3, 1) := by decide +kernel
theorem d_Waits_read_70 : decode m_Waits_read.2.1 70 = .ok (.iload 4, 2) := by decide +kernel
theorem d_Waits_read_72 : decode m_Waits_read.2.1 72 = .ok (.if_icmp .ne 5, 3) := by decide +kernel
theorem d_Waits_read_75 : decode m_Waits_read.2.1 75 = .ok (.iconst 0, 1) := by decide +kernel
theorem d_Waits_read_76 : decode m_Waits_read.2.1 76 = .ok (.ireturn, 1) := by decide +kernel
theorem d_Waits_read_77 : decode m_Waits_read.2.1 77 = .ok (.aload_n 0, 1) := by decide +kernel
theorem d_Waits_read_78 : decode m_Waits_read.2.1 78 = .ok (.getfield 9, 3) := by decide +kernel
theorem d_Waits_read_81 : decode m_Waits_read.2.1 81 = .ok (.iload_n 3, 1) := by decide +kernel
theorem d_Waits_read_82 : decode m_Waits_read.2.1 82 = .ok (.dup2, 1) := by decide +kernel
theorem d_Waits_read_83 : decode m_Waits_read.2.1 83 = .ok (.iaload, 1) := by decide +kernel
theorem d_Waits_read_84 : decode m_Waits_read.2.1 84 = .ok (.iconst 1, 1) := by decide +kernel
theorem d_Waits_read_85 : decode m_Waits_read.2.1 85 = .ok (.iload 4, 2) := by decide +kernel
theorem d_Waits_read_87 : decode m_Waits_read.2.1 87 = .ok (.ishl, 1) := by decide +kernel
theorem d_Waits_read_88 : decode m_Waits_read.2.1 88 = .ok (.ior, 1) := by decide +kernel
theorem d_Waits_read_89 : decode m_Waits_read.2.1 89 = .ok (.iastore, 1) := by decide +kernel
theorem d_Waits_read_90 : decode m_Waits_read.2.1 90 = .ok (.iinc 2 1, 3) := by decide +kernel
theorem d_Waits_read_93 : decode m_Waits_read.2.1 93 = .ok (.goto (-75), 3) := by decide +kernel
theorem d_Waits_read_96 : decode m_Waits_read.2.1 96 = .ok (.iconst 1, 1) := by decide +kernel
theorem d_Waits_read_97 : decode m_Waits_read.2.1 97 = .ok (.ireturn, 1) := by decide +kernel
def f_Waits_read_18 : Nat → St → Int32 → Int32 → Option (Int32 × St)
  | 0, _, _, _ => none
  | n + 1, S, l1, l2 =>
    if l1 ≤ l2 then (
    some (1, S))
    else (
    (f_Tape_at S (2 * l2)).bind fun v_30 =>
    (f_Tape_at S ((2 * l2) + 1)).bind fun v_43 =>
    (f_W_within S v_30 (0 : Int32) (15 : Int32)).bind fun v_52 =>
    if v_52 = 0 then (
    some (0, S))
    else (
    (f_W_within S v_43 (0 : Int32) (15 : Int32)).bind fun v_63 =>
    if v_63 = 0 then (
    some (0, S))
    else (
    if v_30 = v_43 then (
    some (0, S))
    else (
    if ig v_30 16 then (
    if ig v_30 16 then (
    (some (sF S 50 v_30.toNatClampNeg ((S 50 v_30.toNatClampNeg) ||| (jshl 1 v_43)))).bind fun S_89 =>
    (some (l2 + 1)).bind fun l2_90 =>
    f_Waits_read_18 n S_89 l1 l2_90) else none) else none))))
set_option maxHeartbeats 4000000 in
set_option maxRecDepth 20000 in
theorem t_Waits_read_18  : ∀ (n : Nat) (S : St) (l1 : Int32) (l2 : Int32) (w : Int32 × St), f_Waits_read_18 n S l1 l2 = some w → G SX m_Waits_read 2 (some w.1) w.2 18 [(0, .ref 49), (1, .int l1), (2, .int l2)] [] S := by
  intro n
  induction n with
  | zero =>
    intro S l1 l2 w h
    rw [f_Waits_read_18] at h
    cases h
  | succ n ih =>
    intro S l1 l2 w h
    rw [f_Waits_read_18] at h
    refine G_iload_n 2 rfl d_Waits_read_18 ?_
    refine G_iload_n 1 rfl d_Waits_read_19 ?_
    refine G_icmp_ge 96 (by decide) d_Waits_read_20 (fun c_20 => ?_) (fun c_20 => ?_)
    · replace h := ob_t h c_20
      refine G_iconst 1 (by decide) d_Waits_read_96 ?_
      cases h
      exact G_zret (Or.inr rfl) rfl d_Waits_read_97
    · replace h := ob_f h c_20
      refine G_aload_n 0 rfl d_Waits_read_23 ?_
      refine G_getR fl_Waits_24 kx_49 sx_49 rfl (by decide) d_Waits_read_24 ?_
      refine G_iconst 2 (by decide) d_Waits_read_27 ?_
      refine G_iload_n 2 rfl d_Waits_read_28 ?_
      refine G_imul d_Waits_read_29 ?_
      obtain ⟨v_30, q_30, h⟩ := ob_b h
      refine G_callV [.int (2 * l2)] [] (t_Tape_at q_30) (by decide) (by decide) mv_Tape_at rfl ml_Waits_34 kx_1 sx_1 cl_8 rfl (Nat.le_of_ble_eq_true rfl) d_Waits_read_30 ?_
      refine G_istore_n [(3, .int v_30), (0, .ref 49), (1, .int l1), (2, .int l2)] rfl rfl (by decide) d_Waits_read_33 ?_
      refine G_aload_n 1 rfl d_Waits_read_34 ?_
      refine G_getR fl_Waits_24 kx_49 sx_49 rfl (by decide) d_Waits_read_35 ?_
      refine G_iconst 2 (by decide) d_Waits_read_38 ?_
      refine G_iload_n 3 rfl d_Waits_read_39 ?_
      refine G_imul d_Waits_read_40 ?_
      refine G_iconst 1 (by decide) d_Waits_read_41 ?_
      refine G_iadd d_Waits_read_42 ?_
      obtain ⟨v_43, q_43, h⟩ := ob_b h
      refine G_callV [.int ((2 * l2) + 1)] [] (t_Tape_at q_43) (by decide) (by decide) mv_Tape_at rfl ml_Waits_34 kx_1 sx_1 cl_8 rfl (Nat.le_of_ble_eq_true rfl) d_Waits_read_43 ?_
      refine G_istore [(4, .int v_43), (3, .int v_30), (0, .ref 49), (1, .int l1), (2, .int l2)] rfl rfl (by decide) d_Waits_read_46 ?_
      refine G_iload_n 1 rfl d_Waits_read_48 ?_
      refine G_iconst 0 (by decide) d_Waits_read_49 ?_
      refine G_bipush 15 (by decide) d_Waits_read_50 ?_
      obtain ⟨v_52, q_52, h⟩ := ob_b h
      refine G_callSN [.int v_30, .int 0, .int 15] [] (t_W_within q_52) (by decide) (by decide) mt_W_within rfl ml_Waits_40 rfl (Nat.le_of_ble_eq_true rfl) d_Waits_read_52 ?_
      refine G_if_eq 75 (by decide) d_Waits_read_55 (fun c_55 => ?_) (fun c_55 => ?_)
      · replace h := ob_t h c_55
        refine G_iconst 0 (by decide) d_Waits_read_75 ?_
        cases h
        exact G_zret (Or.inl rfl) rfl d_Waits_read_76
      · replace h := ob_f h c_55
        refine G_iload 0 rfl d_Waits_read_58 ?_
        refine G_iconst 0 (by decide) d_Waits_read_60 ?_
        refine G_bipush 15 (by decide) d_Waits_read_61 ?_
        obtain ⟨v_63, q_63, h⟩ := ob_b h
        refine G_callSN [.int v_43, .int 0, .int 15] [] (t_W_within q_63) (by decide) (by decide) mt_W_within rfl ml_Waits_40 rfl (Nat.le_of_ble_eq_true rfl) d_Waits_read_63 ?_
        refine G_if_eq 75 (by decide) d_Waits_read_66 (fun c_66 => ?_) (fun c_66 => ?_)
        · replace h := ob_t h c_66
          refine G_iconst 0 (by decide) d_Waits_read_75 ?_
          cases h
          exact G_zret (Or.inl rfl) rfl d_Waits_read_76
        · replace h := ob_f h c_66
          refine G_iload_n 1 rfl d_Waits_read_69 ?_
          refine G_iload 0 rfl d_Waits_read_70 ?_
          refine G_icmp_ne 77 (by decide) d_Waits_read_72 (fun c_72 => ?_) (fun c_72 => ?_)
          · replace h := ob_f h c_72
            refine G_aload_n 2 rfl d_Waits_read_77 ?_
            refine G_getR fl_Waits_9 kx_49 sx_49 rfl (by decide) d_Waits_read_78 ?_
            refine G_iload_n 1 rfl d_Waits_read_81 ?_
            refine G_dup2 rfl rfl d_Waits_read_82 ?_
            obtain ⟨g_83, h⟩ := ob_g h
            refine G_iaload kx_50 sx_50 g_83 d_Waits_read_83 ?_
            refine G_iconst 1 (by decide) d_Waits_read_84 ?_
            refine G_iload 0 rfl d_Waits_read_85 ?_
            refine G_ishl d_Waits_read_87 ?_
            refine G_ior d_Waits_read_88 ?_
            obtain ⟨g_89, h⟩ := ob_g h
            obtain ⟨S_89, e_89, h⟩ := ob_s h
            refine G_iastore e_89 kx_50 sx_50 g_89 d_Waits_read_89 ?_
            obtain ⟨l2_90, e_90, h⟩ := ob_s h
            refine G_iinc 1 4 [(2, .int l2_90), (4, .int v_43), (3, .int v_30), (0, .ref 49), (1, .int l1)] (by decide) rfl e_90 rfl (by decide) d_Waits_read_90 ?_
            refine G_goto 18 (by decide) d_Waits_read_93 ?_
            exact G_sub _ [3, 4, 0] rfl (ih S_89 l1 l2_90 _ h)
          · replace h := ob_t h c_72
            refine G_iconst 0 (by decide) d_Waits_read_75 ?_
            cases h
            exact G_zret (Or.inl rfl) rfl d_Waits_read_76
def f_Waits_read (S : St) (l1 : Int32) : Option (Int32 × St) :=
    (f_JA_fillI S 50 (0 : Int32)).bind fun w_5 =>
    (f_JA_fillI w_5 51 (0 : Int32)).bind fun w_13 =>
    (some (0 : Int32)).bind fun l2_17 =>
    f_Waits_read_18 FU w_13 l1 l2_17
set_option maxHeartbeats 4000000 in
set_option maxRecDepth 20000 in
theorem t_Waits_read  {S : St} {l1 : Int32} {w : Int32 × St} (h : f_Waits_read S l1 = some w) : Ct SX m_Waits_read 2 [.ref 49, .int l1] S (some w.1) w.2 := by
  unfold f_Waits_read at h
  refine Ct.of pn_Waits (Nat.le_of_ble_eq_true rfl) ?_
  show G SX m_Waits_read 2 (some w.1) w.2 0 [(0, .ref 49), (1, .int l1)] [] S
  refine G_aload_n 0 rfl d_Waits_read_0 ?_
  refine G_getR fl_Waits_9 kx_49 sx_49 rfl (by decide) d_Waits_read_1 ?_
  refine G_iconst 0 (by decide) d_Waits_read_4 ?_
  obtain ⟨w_5, q_5, h⟩ := ob_b h
  refine G_callS [.ref 50, .int 0] [] (t_JA_fillI kx_50 sx_50 q_5) (by decide) (by decide) mt_JA_fillI rfl ml_Waits_28 rfl (Nat.le_of_ble_eq_true rfl) d_Waits_read_5 ?_
  refine G_aload_n 0 rfl d_Waits_read_8 ?_
  refine G_getR fl_Waits_15 kx_49 sx_49 rfl (by decide) d_Waits_read_9 ?_
  refine G_iconst 0 (by decide) d_Waits_read_12 ?_
  obtain ⟨w_13, q_13, h⟩ := ob_b h
  refine G_callS [.ref 51, .int 0] [] (t_JA_fillI kx_51 sx_51 q_13) (by decide) (by decide) mt_JA_fillI rfl ml_Waits_28 rfl (Nat.le_of_ble_eq_true rfl) d_Waits_read_13 ?_
  refine G_iconst 0 (by decide) d_Waits_read_16 ?_
  obtain ⟨l2_17, e_17, h⟩ := ob_s h
  refine G_istore_n [(2, .int l2_17), (0, .ref 49), (1, .int l1)] e_17 rfl (by decide) d_Waits_read_17 ?_
  exact G_sub _ [1, 2, 0] rfl (t_Waits_read_18 FU w_13 l1 l2_17 _ h)
theorem d_Waits_forEver_0 : decode m_Waits_forEver.2.1 0 = .ok (.ldc 44, 2) := by decide +kernel
theorem d_Waits_forEver_2 : decode m_Waits_forEver.2.1 2 = .ok (.istore_n 1, 1) := by decide +kernel
theorem d_Waits_forEver_3 : decode m_Waits_forEver.2.1 3 = .ok (.iconst 0, 1) := by decide +kernel
theorem d_Waits_forEver_4 : decode m_Waits_forEver.2.1 4 = .ok (.istore_n 2, 1) := by decide +kernel
theorem d_Waits_forEver_5 : decode m_Waits_forEver.2.1 5 = .ok (.iload_n 2, 1) := by decide +kernel
theorem d_Waits_forEver_6 : decode m_Waits_forEver.2.1 6 = .ok (.bipush 16, 2) := by decide +kernel
theorem d_Waits_forEver_8 : decode m_Waits_forEver.2.1 8 = .ok (.if_icmp .ge 42, 3) := by decide +kernel
theorem d_Waits_forEver_11 : decode m_Waits_forEver.2.1 11 = .ok (.iconst 0, 1) := by decide +kernel
theorem d_Waits_forEver_12 : decode m_Waits_forEver.2.1 12 = .ok (.istore_n 3, 1) := by decide +kernel
theorem d_Waits_forEver_13 : decode m_Waits_forEver.2.1 13 = .ok (.iload_n 3, 1) := by decide +kernel
theorem d_Waits_forEver_14 : decode m_Waits_forEver.2.1 14 = .ok (.bipush 16, 2) := by decide +kernel
theorem d_Waits_forEver_16 : decode m_Waits_forEver.2.1 16 = .ok (.if_icmp .ge 28, 3) := by decide +kernel
theorem d_Waits_forEver_19 : decode m_Waits_forEver.2.1 19 = .ok (.aload_n 0, 1) := by decide +kernel
theorem d_Waits_forEver_20 : decode m_Waits_forEver.2.1 20 = .ok (.getfield 9, 3) := by decide +kernel
theorem d_Waits_forEver_23 : decode m_Waits_forEver.2.1 23 = .ok (.iload_n 3, 1) := by decide +kernel
theorem d_Waits_forEver_24 : decode m_Waits_forEver.2.1 24 = .ok (.iaload, 1) := by decide +kernel
theorem d_Waits_forEver_25 : decode m_Waits_forEver.2.1 25 = .ok (.iload_n 1, 1) := by decide +kernel
theorem d_Waits_forEver_26 : decode m_Waits_forEver.2.1 26 = .ok (.iand, 1) := by decide +kernel
theorem d_Waits_forEver_27 : decode m_Waits_forEver.2.1 27 = .ok (.ifCond .ne 11, 3) := by decide +kernel
theorem d_Waits_forEver_30 : decode m_Waits_forEver.2.1 30 = .ok (.iload_n 1, 1) := by decide +kernel
theorem d_Waits_forEver_31 : decode m_Waits_forEver.2.1 31 = .ok (.iconst 1, 1) := by decide +kernel
theorem d_Waits_forEver_32 : decode m_Waits_forEver.2.1 32 = .ok (.iload_n 3, 1) := by decide +kernel
theorem d_Waits_forEver_33 : decode m_Waits_forEver.2.1 33 = .ok (.ishl, 1) := by decide +kernel
theorem d_Waits_forEver_34 : decode m_Waits_forEver.2.1 34 = .ok (.iconst (-1), 1) := by decide +kernel
theorem d_Waits_forEver_35 : decode m_Waits_forEver.2.1 35 = .ok (.ixor, 1) := by decide +kernel
theorem d_Waits_forEver_36 : decode m_Waits_forEver.2.1 36 = .ok (.iand, 1) := by decide +kernel
theorem d_Waits_forEver_37 : decode m_Waits_forEver.2.1 37 = .ok (.istore_n 1, 1) := by decide +kernel
theorem d_Waits_forEver_38 : decode m_Waits_forEver.2.1 38 = .ok (.iinc 3 1, 3) := by decide +kernel
theorem d_Waits_forEver_41 : decode m_Waits_forEver.2.1 41 = .ok (.goto (-28), 3) := by decide +kernel
theorem d_Waits_forEver_44 : decode m_Waits_forEver.2.1 44 = .ok (.iinc 2 1, 3) := by decide +kernel
theorem d_Waits_forEver_47 : decode m_Waits_forEver.2.1 47 = .ok (.goto (-42), 3) := by decide +kernel
theorem d_Waits_forEver_50 : decode m_Waits_forEver.2.1 50 = .ok (.iload_n 1, 1) := by decide +kernel
theorem d_Waits_forEver_51 : decode m_Waits_forEver.2.1 51 = .ok (.ireturn, 1) := by decide +kernel
def f_Waits_forEver_38 (k_5 : St → Int32 → Int32 → Option (Int32)) (k_13 : St → Int32 → Int32 → Int32 → Option (Int32)) (S : St) (l1 : Int32) (l2 : Int32) (l3 : Int32) : Option (Int32) :=
    (some (l3 + 1)).bind fun l3_38 =>
    k_13 S l1 l2 l3_38
set_option maxHeartbeats 4000000 in
set_option maxRecDepth 20000 in
theorem t_Waits_forEver_38  {k_5 : St → Int32 → Int32 → Option (Int32)} {k_13 : St → Int32 → Int32 → Int32 → Option (Int32)} (hk_5 : ∀ (S : St) (l1 : Int32) (l2 : Int32) (w : Int32), k_5 S l1 l2 = some w → G SX m_Waits_forEver 1 (some w) S 5 [(0, .ref 49), (1, .int l1), (2, .int l2)] [] S) (hk_13 : ∀ (S : St) (l1 : Int32) (l2 : Int32) (l3 : Int32) (w : Int32), k_13 S l1 l2 l3 = some w → G SX m_Waits_forEver 1 (some w) S 13 [(0, .ref 49), (1, .int l1), (2, .int l2), (3, .int l3)] [] S) (S : St) (l1 : Int32) (l2 : Int32) (l3 : Int32) (w : Int32) (h : f_Waits_forEver_38 k_5 k_13 S l1 l2 l3 = some w) : G SX m_Waits_forEver 1 (some w) S 38 [(0, .ref 49), (1, .int l1), (2, .int l2), (3, .int l3)] [] S := by
  unfold f_Waits_forEver_38 at h
  obtain ⟨l3_38, e_38, h⟩ := ob_s h
  refine G_iinc 1 3 [(3, .int l3_38), (0, .ref 49), (1, .int l1), (2, .int l2)] (by decide) rfl e_38 rfl (by decide) d_Waits_forEver_38 ?_
  refine G_goto 13 (by decide) d_Waits_forEver_41 ?_
  exact G_sub _ [1, 2, 3, 0] rfl (hk_13 S l1 l2 l3_38 _ h)
def f_Waits_forEver_13 (k_5 : St → Int32 → Int32 → Option (Int32)) : Nat → St → Int32 → Int32 → Int32 → Option (Int32)
  | 0, _, _, _, _ => none
  | n + 1, S, l1, l2, l3 =>
    if (16 : Int32) ≤ l3 then (
    (some (l2 + 1)).bind fun l2_44 =>
    k_5 S l1 l2_44)
    else (
    if ig l3 16 then (
    if ((S 50 l3.toNatClampNeg) &&& l1) = 0 then (
    (some (l1 &&& ((jshl 1 l3) ^^^ (-1)))).bind fun l1_37 =>
    f_Waits_forEver_38 k_5 (f_Waits_forEver_13 k_5 n) S l1_37 l2 l3)
    else (
    f_Waits_forEver_38 k_5 (f_Waits_forEver_13 k_5 n) S l1 l2 l3)) else none)
set_option maxHeartbeats 4000000 in
set_option maxRecDepth 20000 in
theorem t_Waits_forEver_13  {k_5 : St → Int32 → Int32 → Option (Int32)} (hk_5 : ∀ (S : St) (l1 : Int32) (l2 : Int32) (w : Int32), k_5 S l1 l2 = some w → G SX m_Waits_forEver 1 (some w) S 5 [(0, .ref 49), (1, .int l1), (2, .int l2)] [] S) : ∀ (n : Nat) (S : St) (l1 : Int32) (l2 : Int32) (l3 : Int32) (w : Int32), f_Waits_forEver_13 k_5 n S l1 l2 l3 = some w → G SX m_Waits_forEver 1 (some w) S 13 [(0, .ref 49), (1, .int l1), (2, .int l2), (3, .int l3)] [] S := by
  intro n
  induction n with
  | zero =>
    intro S l1 l2 l3 w h
    rw [f_Waits_forEver_13] at h
    cases h
  | succ n ih =>
    intro S l1 l2 l3 w h
    rw [f_Waits_forEver_13] at h
    refine G_iload_n 3 rfl d_Waits_forEver_13 ?_
    refine G_bipush 16 (by decide) d_Waits_forEver_14 ?_
    refine G_icmp_ge 44 (by decide) d_Waits_forEver_16 (fun c_16 => ?_) (fun c_16 => ?_)
    · replace h := ob_t h c_16
      obtain ⟨l2_44, e_44, h⟩ := ob_s h
      refine G_iinc 1 2 [(2, .int l2_44), (0, .ref 49), (1, .int l1), (3, .int l3)] (by decide) rfl e_44 rfl (by decide) d_Waits_forEver_44 ?_
      refine G_goto 5 (by decide) d_Waits_forEver_47 ?_
      exact G_sub _ [1, 2, 0] rfl (hk_5 S l1 l2_44 _ h)
    · replace h := ob_f h c_16
      refine G_aload_n 0 rfl d_Waits_forEver_19 ?_
      refine G_getR fl_Waits_9 kx_49 sx_49 rfl (by decide) d_Waits_forEver_20 ?_
      refine G_iload_n 3 rfl d_Waits_forEver_23 ?_
      obtain ⟨g_24, h⟩ := ob_g h
      refine G_iaload kx_50 sx_50 g_24 d_Waits_forEver_24 ?_
      refine G_iload_n 1 rfl d_Waits_forEver_25 ?_
      refine G_iand d_Waits_forEver_26 ?_
      refine G_if_ne 38 (by decide) d_Waits_forEver_27 (fun c_27 => ?_) (fun c_27 => ?_)
      · replace h := ob_f h c_27
        exact G_sub _ [0, 1, 2, 3] rfl (t_Waits_forEver_38 hk_5 ih S l1 l2 l3 _ h)
      · replace h := ob_t h c_27
        refine G_iload_n 1 rfl d_Waits_forEver_30 ?_
        refine G_iconst 1 (by decide) d_Waits_forEver_31 ?_
        refine G_iload_n 3 rfl d_Waits_forEver_32 ?_
        refine G_ishl d_Waits_forEver_33 ?_
        refine G_iconst (-1) (by decide) d_Waits_forEver_34 ?_
        refine G_ixor d_Waits_forEver_35 ?_
        refine G_iand d_Waits_forEver_36 ?_
        obtain ⟨l1_37, e_37, h⟩ := ob_s h
        refine G_istore_n [(1, .int l1_37), (0, .ref 49), (2, .int l2), (3, .int l3)] e_37 rfl (by decide) d_Waits_forEver_37 ?_
        exact G_sub _ [1, 0, 2, 3] rfl (t_Waits_forEver_38 hk_5 ih S l1_37 l2 l3 _ h)
def f_Waits_forEver_5 : Nat → St → Int32 → Int32 → Option (Int32)
  | 0, _, _, _ => none
  | n + 1, S, l1, l2 =>
    if (16 : Int32) ≤ l2 then (
    some l1)
    else (
    (some (0 : Int32)).bind fun l3_12 =>
    f_Waits_forEver_13 (f_Waits_forEver_5 n) FU S l1 l2 l3_12)
set_option maxHeartbeats 4000000 in
set_option maxRecDepth 20000 in
theorem t_Waits_forEver_5  : ∀ (n : Nat) (S : St) (l1 : Int32) (l2 : Int32) (w : Int32), f_Waits_forEver_5 n S l1 l2 = some w → G SX m_Waits_forEver 1 (some w) S 5 [(0, .ref 49), (1, .int l1), (2, .int l2)] [] S := by
  intro n
  induction n with
  | zero =>
    intro S l1 l2 w h
    rw [f_Waits_forEver_5] at h
    cases h
  | succ n ih =>
    intro S l1 l2 w h
    rw [f_Waits_forEver_5] at h
    refine G_iload_n 2 rfl d_Waits_forEver_5 ?_
    refine G_bipush 16 (by decide) d_Waits_forEver_6 ?_
    refine G_icmp_ge 50 (by decide) d_Waits_forEver_8 (fun c_8 => ?_) (fun c_8 => ?_)
    · replace h := ob_t h c_8
      refine G_iload_n 1 rfl d_Waits_forEver_50 ?_
      cases h
      exact G_iret rfl d_Waits_forEver_51
    · replace h := ob_f h c_8
      refine G_iconst 0 (by decide) d_Waits_forEver_11 ?_
      obtain ⟨l3_12, e_12, h⟩ := ob_s h
      refine G_istore_n [(3, .int l3_12), (0, .ref 49), (1, .int l1), (2, .int l2)] e_12 rfl (by decide) d_Waits_forEver_12 ?_
      exact G_sub _ [1, 2, 3, 0] rfl (t_Waits_forEver_13 ih FU S l1 l2 l3_12 _ h)
def f_Waits_forEver (S : St) : Option (Int32) :=
    (some (65535 : Int32)).bind fun l1_2 =>
    (some (0 : Int32)).bind fun l2_4 =>
    f_Waits_forEver_5 FU S l1_2 l2_4
set_option maxHeartbeats 4000000 in
set_option maxRecDepth 20000 in
theorem t_Waits_forEver  {S : St} {w : Int32} (h : f_Waits_forEver S = some w) : Ct SX m_Waits_forEver 1 [.ref 49] S (some w) S := by
  unfold f_Waits_forEver at h
  refine Ct.of pn_Waits (Nat.le_of_ble_eq_true rfl) ?_
  show G SX m_Waits_forEver 1 (some w) S 0 [(0, .ref 49)] [] S
  refine G_ldc c_Waits_44 d_Waits_forEver_0 ?_
  obtain ⟨l1_2, e_2, h⟩ := ob_s h
  refine G_istore_n [(1, .int l1_2), (0, .ref 49)] e_2 rfl (by decide) d_Waits_forEver_2 ?_
  refine G_iconst 0 (by decide) d_Waits_forEver_3 ?_
  obtain ⟨l2_4, e_4, h⟩ := ob_s h
  refine G_istore_n [(2, .int l2_4), (1, .int l1_2), (0, .ref 49)] e_4 rfl (by decide) d_Waits_forEver_4 ?_
  exact G_sub _ [2, 1, 0] rfl (t_Waits_forEver_5 FU S l1_2 l2_4 _ h)
theorem d_Waits_ringsOfTwo_0 : decode m_Waits_ringsOfTwo.2.1 0 = .ok (.iconst 0, 1) := by decide +kernel
theorem d_Waits_ringsOfTwo_1 : decode m_Waits_ringsOfTwo.2.1 1 = .ok (.istore_n 1, 1) := by decide +kernel
theorem d_Waits_ringsOfTwo_2 : decode m_Waits_ringsOfTwo.2.1 2 = .ok (.iconst 1, 1) := by decide +kernel
theorem d_Waits_ringsOfTwo_3 : decode m_Waits_ringsOfTwo.2.1 3 = .ok (.istore_n 2, 1) := by decide +kernel
theorem d_Waits_ringsOfTwo_4 : decode m_Waits_ringsOfTwo.2.1 4 = .ok (.iload_n 2, 1) := by decide +kernel
theorem d_Waits_ringsOfTwo_5 : decode m_Waits_ringsOfTwo.2.1 5 = .ok (.bipush 16, 2) := by decide +kernel
theorem d_Waits_ringsOfTwo_7 : decode m_Waits_ringsOfTwo.2.1 7 = .ok (.if_icmp .ge 56, 3) := by decide +kernel
theorem d_Waits_ringsOfTwo_10 : decode m_Waits_ringsOfTwo.2.1 10 = .ok (.iconst 0, 1) := by decide +kernel
theorem d_Waits_ringsOfTwo_11 : decode m_Waits_ringsOfTwo.2.1 11 = .ok (.istore_n 3, 1) := by decide +kernel
theorem d_Waits_ringsOfTwo_12 : decode m_Waits_ringsOfTwo.2.1 12 = .ok (.iload_n 3, 1) := by decide +kernel
theorem d_Waits_ringsOfTwo_13 : decode m_Waits_ringsOfTwo.2.1 13 = .ok (.iload_n 2, 1) := by decide +kernel
theorem d_Waits_ringsOfTwo_14 : decode m_Waits_ringsOfTwo.2.1 14 = .ok (.if_icmp .ge 43, 3) := by decide +kernel
theorem d_Waits_ringsOfTwo_17 : decode m_Waits_ringsOfTwo.2.1 17 = .ok (.aload_n 0, 1) := by decide +kernel
theorem d_Waits_ringsOfTwo_18 : decode m_Waits_ringsOfTwo.2.1 18 = .ok (.getfield 9, 3) := by decide +kernel
theorem d_Waits_ringsOfTwo_21 : decode m_Waits_ringsOfTwo.2.1 21 = .ok (.iload_n 2, 1) := by decide +kernel
theorem d_Waits_ringsOfTwo_22 : decode m_Waits_ringsOfTwo.2.1 22 = .ok (.iaload, 1) := by decide +kernel
theorem d_Waits_ringsOfTwo_23 : decode m_Waits_ringsOfTwo.2.1 23 = .ok (.ifCond .eq 34, 3) := by decide +kernel
theorem d_Waits_ringsOfTwo_26 : decode m_Waits_ringsOfTwo.2.1 26 = .ok (.aload_n 0, 1) := by decide +kernel
theorem d_Waits_ringsOfTwo_27 : decode m_Waits_ringsOfTwo.2.1 27 = .ok (.getfield 9, 3) := by decide +kernel
theorem d_Waits_ringsOfTwo_30 : decode m_Waits_ringsOfTwo.2.1 30 = .ok (.iload_n 2, 1) := by decide +kernel
theorem d_Waits_ringsOfTwo_31 : decode m_Waits_ringsOfTwo.2.1 31 = .ok (.iaload, 1) := by decide +kernel
theorem d_Waits_ringsOfTwo_32 : decode m_Waits_ringsOfTwo.2.1 32 = .ok (.iload_n 3, 1) := by decide +kernel
theorem d_Waits_ringsOfTwo_33 : decode m_Waits_ringsOfTwo.2.1 33 = .ok (.iushr, 1) := by decide +kernel
theorem d_Waits_ringsOfTwo_34 : decode m_Waits_ringsOfTwo.2.1 34 = .ok (.aload_n 0, 1) := by decide +kernel
theorem d_Waits_ringsOfTwo_35 : decode m_Waits_ringsOfTwo.2.1 35 = .ok (.getfield 9, 3) := by decide +kernel
theorem d_Waits_ringsOfTwo_38 : decode m_Waits_ringsOfTwo.2.1 38 = .ok (.iload_n 3, 1) := by decide +kernel
theorem d_Waits_ringsOfTwo_39 : decode m_Waits_ringsOfTwo.2.1 39 = .ok (.iaload, 1) := by decide +kernel
theorem d_Waits_ringsOfTwo_40 : decode m_Waits_ringsOfTwo.2.1 40 = .ok (.iload_n 2, 1) := by decide +kernel
theorem d_Waits_ringsOfTwo_41 : decode m_Waits_ringsOfTwo.2.1 41 = .ok (.iushr, 1) := by decide +kernel
theorem d_Waits_ringsOfTwo_42 : decode m_Waits_ringsOfTwo.2.1 42 = .ok (.iand, 1) := by decide +kernel
theorem d_Waits_ringsOfTwo_43 : decode m_Waits_ringsOfTwo.2.1 43 = .ok (.iconst 1, 1) := by decide +kernel
theorem d_Waits_ringsOfTwo_44 : decode m_Waits_ringsOfTwo.2.1 44 = .ok (.iand, 1) := by decide +kernel
theorem d_Waits_ringsOfTwo_45 : decode m_Waits_ringsOfTwo.2.1 45 = .ok (.ifCond .eq 6, 3) := by decide +kernel
theorem d_Waits_ringsOfTwo_48 : decode m_Waits_ringsOfTwo.2.1 48 = .ok (.iinc 1 1, 3) := by decide +kernel
theorem d_Waits_ringsOfTwo_51 : decode m_Waits_ringsOfTwo.2.1 51 = .ok (.iinc 3 1, 3) := by decide +kernel
theorem d_Waits_ringsOfTwo_54 : decode m_Waits_ringsOfTwo.2.1 54 = .ok (.goto (-42), 3) := by decide +kernel
theorem d_Waits_ringsOfTwo_57 : decode m_Waits_ringsOfTwo.2.1 57 = .ok (.iinc 2 1, 3) := by decide +kernel
theorem d_Waits_ringsOfTwo_60 : decode m_Waits_ringsOfTwo.2.1 60 = .ok (.goto (-56), 3) := by decide +kernel
theorem d_Waits_ringsOfTwo_63 : decode m_Waits_ringsOfTwo.2.1 63 = .ok (.iload_n 1, 1) := by decide +kernel
theorem d_Waits_ringsOfTwo_64 : decode m_Waits_ringsOfTwo.2.1 64 = .ok (.ireturn, 1) := by decide +kernel
def f_Waits_ringsOfTwo_51 (k_4 : St → Int32 → Int32 → Option (Int32)) (k_12 : St → Int32 → Int32 → Int32 → Option (Int32)) (S : St) (l1 : Int32) (l2 : Int32) (l3 : Int32) : Option (Int32) :=
    (some (l3 + 1)).bind fun l3_51 =>
    k_12 S l1 l2 l3_51
set_option maxHeartbeats 4000000 in
set_option maxRecDepth 20000 in
theorem t_Waits_ringsOfTwo_51  {k_4 : St → Int32 → Int32 → Option (Int32)} {k_12 : St → Int32 → Int32 → Int32 → Option (Int32)} (hk_4 : ∀ (S : St) (l1 : Int32) (l2 : Int32) (w : Int32), k_4 S l1 l2 = some w → G SX m_Waits_ringsOfTwo 1 (some w) S 4 [(0, .ref 49), (1, .int l1), (2, .int l2)] [] S) (hk_12 : ∀ (S : St) (l1 : Int32) (l2 : Int32) (l3 : Int32) (w : Int32), k_12 S l1 l2 l3 = some w → G SX m_Waits_ringsOfTwo 1 (some w) S 12 [(0, .ref 49), (1, .int l1), (2, .int l2), (3, .int l3)] [] S) (S : St) (l1 : Int32) (l2 : Int32) (l3 : Int32) (w : Int32) (h : f_Waits_ringsOfTwo_51 k_4 k_12 S l1 l2 l3 = some w) : G SX m_Waits_ringsOfTwo 1 (some w) S 51 [(0, .ref 49), (1, .int l1), (2, .int l2), (3, .int l3)] [] S := by
  unfold f_Waits_ringsOfTwo_51 at h
  obtain ⟨l3_51, e_51, h⟩ := ob_s h
  refine G_iinc 1 3 [(3, .int l3_51), (0, .ref 49), (1, .int l1), (2, .int l2)] (by decide) rfl e_51 rfl (by decide) d_Waits_ringsOfTwo_51 ?_
  refine G_goto 12 (by decide) d_Waits_ringsOfTwo_54 ?_
  exact G_sub _ [1, 2, 3, 0] rfl (hk_12 S l1 l2 l3_51 _ h)
def f_Waits_ringsOfTwo_57 (k_4 : St → Int32 → Int32 → Option (Int32)) (S : St) (l1 : Int32) (l2 : Int32) : Option (Int32) :=
    (some (l2 + 1)).bind fun l2_57 =>
    k_4 S l1 l2_57
set_option maxHeartbeats 4000000 in
set_option maxRecDepth 20000 in
theorem t_Waits_ringsOfTwo_57  {k_4 : St → Int32 → Int32 → Option (Int32)} (hk_4 : ∀ (S : St) (l1 : Int32) (l2 : Int32) (w : Int32), k_4 S l1 l2 = some w → G SX m_Waits_ringsOfTwo 1 (some w) S 4 [(0, .ref 49), (1, .int l1), (2, .int l2)] [] S) (S : St) (l1 : Int32) (l2 : Int32) (w : Int32) (h : f_Waits_ringsOfTwo_57 k_4 S l1 l2 = some w) : G SX m_Waits_ringsOfTwo 1 (some w) S 57 [(0, .ref 49), (1, .int l1), (2, .int l2)] [] S := by
  unfold f_Waits_ringsOfTwo_57 at h
  obtain ⟨l2_57, e_57, h⟩ := ob_s h
  refine G_iinc 1 2 [(2, .int l2_57), (0, .ref 49), (1, .int l1)] (by decide) rfl e_57 rfl (by decide) d_Waits_ringsOfTwo_57 ?_
  refine G_goto 4 (by decide) d_Waits_ringsOfTwo_60 ?_
  exact G_sub _ [1, 2, 0] rfl (hk_4 S l1 l2_57 _ h)
def f_Waits_ringsOfTwo_12 (k_4 : St → Int32 → Int32 → Option (Int32)) : Nat → St → Int32 → Int32 → Int32 → Option (Int32)
  | 0, _, _, _, _ => none
  | n + 1, S, l1, l2, l3 =>
    if l2 ≤ l3 then (
    f_Waits_ringsOfTwo_57 k_4 S l1 l2)
    else (
    if ig l2 16 then (
    if (S 50 l2.toNatClampNeg) = 0 then (
    f_Waits_ringsOfTwo_57 k_4 S l1 l2)
    else (
    if ig l2 16 then (
    if ig l3 16 then (
    if (((jushr (S 50 l2.toNatClampNeg) l3) &&& (jushr (S 50 l3.toNatClampNeg) l2)) &&& 1) = 0 then (
    f_Waits_ringsOfTwo_51 k_4 (f_Waits_ringsOfTwo_12 k_4 n) S l1 l2 l3)
    else (
    (some (l1 + 1)).bind fun l1_48 =>
    f_Waits_ringsOfTwo_51 k_4 (f_Waits_ringsOfTwo_12 k_4 n) S l1_48 l2 l3)) else none) else none)) else none)
set_option maxHeartbeats 4000000 in
set_option maxRecDepth 20000 in
theorem t_Waits_ringsOfTwo_12  {k_4 : St → Int32 → Int32 → Option (Int32)} (hk_4 : ∀ (S : St) (l1 : Int32) (l2 : Int32) (w : Int32), k_4 S l1 l2 = some w → G SX m_Waits_ringsOfTwo 1 (some w) S 4 [(0, .ref 49), (1, .int l1), (2, .int l2)] [] S) : ∀ (n : Nat) (S : St) (l1 : Int32) (l2 : Int32) (l3 : Int32) (w : Int32), f_Waits_ringsOfTwo_12 k_4 n S l1 l2 l3 = some w → G SX m_Waits_ringsOfTwo 1 (some w) S 12 [(0, .ref 49), (1, .int l1), (2, .int l2), (3, .int l3)] [] S := by
  intro n
  induction n with
  | zero =>
    intro S l1 l2 l3 w h
    rw [f_Waits_ringsOfTwo_12] at h
    cases h
  | succ n ih =>
    intro S l1 l2 l3 w h
    rw [f_Waits_ringsOfTwo_12] at h
    refine G_iload_n 3 rfl d_Waits_ringsOfTwo_12 ?_
    refine G_iload_n 2 rfl d_Waits_ringsOfTwo_13 ?_
    refine G_icmp_ge 57 (by decide) d_Waits_ringsOfTwo_14 (fun c_14 => ?_) (fun c_14 => ?_)
    · replace h := ob_t h c_14
      exact G_sub _ [0, 1, 2] rfl (t_Waits_ringsOfTwo_57 hk_4 S l1 l2 _ h)
    · replace h := ob_f h c_14
      refine G_aload_n 0 rfl d_Waits_ringsOfTwo_17 ?_
      refine G_getR fl_Waits_9 kx_49 sx_49 rfl (by decide) d_Waits_ringsOfTwo_18 ?_
      refine G_iload_n 2 rfl d_Waits_ringsOfTwo_21 ?_
      obtain ⟨g_22, h⟩ := ob_g h
      refine G_iaload kx_50 sx_50 g_22 d_Waits_ringsOfTwo_22 ?_
      refine G_if_eq 57 (by decide) d_Waits_ringsOfTwo_23 (fun c_23 => ?_) (fun c_23 => ?_)
      · replace h := ob_t h c_23
        exact G_sub _ [0, 1, 2] rfl (t_Waits_ringsOfTwo_57 hk_4 S l1 l2 _ h)
      · replace h := ob_f h c_23
        refine G_aload_n 0 rfl d_Waits_ringsOfTwo_26 ?_
        refine G_getR fl_Waits_9 kx_49 sx_49 rfl (by decide) d_Waits_ringsOfTwo_27 ?_
        refine G_iload_n 2 rfl d_Waits_ringsOfTwo_30 ?_
        obtain ⟨g_31, h⟩ := ob_g h
        refine G_iaload kx_50 sx_50 g_31 d_Waits_ringsOfTwo_31 ?_
        refine G_iload_n 3 rfl d_Waits_ringsOfTwo_32 ?_
        refine G_iushr d_Waits_ringsOfTwo_33 ?_
        refine G_aload_n 0 rfl d_Waits_ringsOfTwo_34 ?_
        refine G_getR fl_Waits_9 kx_49 sx_49 rfl (by decide) d_Waits_ringsOfTwo_35 ?_
        refine G_iload_n 3 rfl d_Waits_ringsOfTwo_38 ?_
        obtain ⟨g_39, h⟩ := ob_g h
        refine G_iaload kx_50 sx_50 g_39 d_Waits_ringsOfTwo_39 ?_
        refine G_iload_n 2 rfl d_Waits_ringsOfTwo_40 ?_
        refine G_iushr d_Waits_ringsOfTwo_41 ?_
        refine G_iand d_Waits_ringsOfTwo_42 ?_
        refine G_iconst 1 (by decide) d_Waits_ringsOfTwo_43 ?_
        refine G_iand d_Waits_ringsOfTwo_44 ?_
        refine G_if_eq 51 (by decide) d_Waits_ringsOfTwo_45 (fun c_45 => ?_) (fun c_45 => ?_)
        · replace h := ob_t h c_45
          exact G_sub _ [0, 1, 2, 3] rfl (t_Waits_ringsOfTwo_51 hk_4 ih S l1 l2 l3 _ h)
        · replace h := ob_f h c_45
          obtain ⟨l1_48, e_48, h⟩ := ob_s h
          refine G_iinc 1 1 [(1, .int l1_48), (0, .ref 49), (2, .int l2), (3, .int l3)] (by decide) rfl e_48 rfl (by decide) d_Waits_ringsOfTwo_48 ?_
          exact G_sub _ [1, 0, 2, 3] rfl (t_Waits_ringsOfTwo_51 hk_4 ih S l1_48 l2 l3 _ h)
def f_Waits_ringsOfTwo_4 : Nat → St → Int32 → Int32 → Option (Int32)
  | 0, _, _, _ => none
  | n + 1, S, l1, l2 =>
    if (16 : Int32) ≤ l2 then (
    some l1)
    else (
    (some (0 : Int32)).bind fun l3_11 =>
    f_Waits_ringsOfTwo_12 (f_Waits_ringsOfTwo_4 n) FU S l1 l2 l3_11)
set_option maxHeartbeats 4000000 in
set_option maxRecDepth 20000 in
theorem t_Waits_ringsOfTwo_4  : ∀ (n : Nat) (S : St) (l1 : Int32) (l2 : Int32) (w : Int32), f_Waits_ringsOfTwo_4 n S l1 l2 = some w → G SX m_Waits_ringsOfTwo 1 (some w) S 4 [(0, .ref 49), (1, .int l1), (2, .int l2)] [] S := by
  intro n
  induction n with
  | zero =>
    intro S l1 l2 w h
    rw [f_Waits_ringsOfTwo_4] at h
    cases h
  | succ n ih =>
    intro S l1 l2 w h
    rw [f_Waits_ringsOfTwo_4] at h
    refine G_iload_n 2 rfl d_Waits_ringsOfTwo_4 ?_
    refine G_bipush 16 (by decide) d_Waits_ringsOfTwo_5 ?_
    refine G_icmp_ge 63 (by decide) d_Waits_ringsOfTwo_7 (fun c_7 => ?_) (fun c_7 => ?_)
    · replace h := ob_t h c_7
      refine G_iload_n 1 rfl d_Waits_ringsOfTwo_63 ?_
      cases h
      exact G_iret rfl d_Waits_ringsOfTwo_64
    · replace h := ob_f h c_7
      refine G_iconst 0 (by decide) d_Waits_ringsOfTwo_10 ?_
      obtain ⟨l3_11, e_11, h⟩ := ob_s h
      refine G_istore_n [(3, .int l3_11), (0, .ref 49), (1, .int l1), (2, .int l2)] e_11 rfl (by decide) d_Waits_ringsOfTwo_11 ?_
      exact G_sub _ [1, 2, 3, 0] rfl (t_Waits_ringsOfTwo_12 ih FU S l1 l2 l3_11 _ h)
def f_Waits_ringsOfTwo (S : St) : Option (Int32) :=
    (some (0 : Int32)).bind fun l1_1 =>
    (some (1 : Int32)).bind fun l2_3 =>
    f_Waits_ringsOfTwo_4 FU S l1_1 l2_3
set_option maxHeartbeats 4000000 in
set_option maxRecDepth 20000 in
theorem t_Waits_ringsOfTwo  {S : St} {w : Int32} (h : f_Waits_ringsOfTwo S = some w) : Ct SX m_Waits_ringsOfTwo 1 [.ref 49] S (some w) S := by
  unfold f_Waits_ringsOfTwo at h
  refine Ct.of pn_Waits (Nat.le_of_ble_eq_true rfl) ?_
  show G SX m_Waits_ringsOfTwo 1 (some w) S 0 [(0, .ref 49)] [] S
  refine G_iconst 0 (by decide) d_Waits_ringsOfTwo_0 ?_
  obtain ⟨l1_1, e_1, h⟩ := ob_s h
  refine G_istore_n [(1, .int l1_1), (0, .ref 49)] e_1 rfl (by decide) d_Waits_ringsOfTwo_1 ?_
  refine G_iconst 1 (by decide) d_Waits_ringsOfTwo_2 ?_
  obtain ⟨l2_3, e_3, h⟩ := ob_s h
  refine G_istore_n [(2, .int l2_3), (1, .int l1_1), (0, .ref 49)] e_3 rfl (by decide) d_Waits_ringsOfTwo_3 ?_
  exact G_sub _ [2, 1, 0] rfl (t_Waits_ringsOfTwo_4 FU S l1_1 l2_3 _ h)
theorem d_Waits_writeRing_0 : decode m_Waits_writeRing.2.1 0 = .ok (.iload_n 1, 1) := by decide +kernel
theorem d_Waits_writeRing_1 : decode m_Waits_writeRing.2.1 1 = .ok (.istore 4, 2) := by decide +kernel
theorem d_Waits_writeRing_3 : decode m_Waits_writeRing.2.1 3 = .ok (.iload_n 2, 1) := by decide +kernel
theorem d_Waits_writeRing_4 : decode m_Waits_writeRing.2.1 4 = .ok (.iconst 1, 1) := by decide +kernel
theorem d_Waits_writeRing_5 : decode m_Waits_writeRing.2.1 5 = .ok (.isub, 1) := by decide +kernel
theorem d_Waits_writeRing_6 : decode m_Waits_writeRing.2.1 6 = .ok (.istore 5, 2) := by decide +kernel
theorem d_Waits_writeRing_8 : decode m_Waits_writeRing.2.1 8 = .ok (.iload 5, 2) := by decide +kernel
theorem d_Waits_writeRing_10 : decode m_Waits_writeRing.2.1 10 = .ok (.ifCond .lt 46, 3) := by decide +kernel
theorem d_Waits_writeRing_13 : decode m_Waits_writeRing.2.1 13 = .ok (.iload_n 3, 1) := by decide +kernel
theorem d_Waits_writeRing_14 : decode m_Waits_writeRing.2.1 14 = .ok (.bipush 16, 2) := by decide +kernel
theorem d_Waits_writeRing_16 : decode m_Waits_writeRing.2.1 16 = .ok (.imul, 1) := by decide +kernel
theorem d_Waits_writeRing_17 : decode m_Waits_writeRing.2.1 17 = .ok (.iload 5, 2) := by decide +kernel
theorem d_Waits_writeRing_19 : decode m_Waits_writeRing.2.1 19 = .ok (.iadd, 1) := by decide +kernel
theorem d_Waits_writeRing_20 : decode m_Waits_writeRing.2.1 20 = .ok (.istore 6, 2) := by decide +kernel
theorem d_Waits_writeRing_22 : decode m_Waits_writeRing.2.1 22 = .ok (.iload 6, 2) := by decide +kernel
theorem d_Waits_writeRing_24 : decode m_Waits_writeRing.2.1 24 = .ok (.aload_n 0, 1) := by decide +kernel
theorem d_Waits_writeRing_25 : decode m_Waits_writeRing.2.1 25 = .ok (.getfield 21, 3) := by decide +kernel
theorem d_Waits_writeRing_28 : decode m_Waits_writeRing.2.1 28 = .ok (.arraylength, 1) := by decide +kernel
theorem d_Waits_writeRing_29 : decode m_Waits_writeRing.2.1 29 = .ok (.if_icmp .ge 12, 3) := by decide +kernel
theorem d_Waits_writeRing_32 : decode m_Waits_writeRing.2.1 32 = .ok (.aload_n 0, 1) := by decide +kernel
theorem d_Waits_writeRing_33 : decode m_Waits_writeRing.2.1 33 = .ok (.getfield 21, 3) := by decide +kernel
theorem d_Waits_writeRing_36 : decode m_Waits_writeRing.2.1 36 = .ok (.iload 6, 2) := by decide +kernel
theorem d_Waits_writeRing_38 : decode m_Waits_writeRing.2.1 38 = .ok (.iload 4, 2) := by decide +kernel
theorem d_Waits_writeRing_40 : decode m_Waits_writeRing.2.1 40 = .ok (.iastore, 1) := by decide +kernel
theorem d_Waits_writeRing_41 : decode m_Waits_writeRing.2.1 41 = .ok (.aload_n 0, 1) := by decide +kernel
theorem d_Waits_writeRing_42 : decode m_Waits_writeRing.2.1 42 = .ok (.getfield 18, 3) := by decide +kernel
theorem d_Waits_writeRing_45 : decode m_Waits_writeRing.2.1 45 = .ok (.iload 4, 2) := by decide +kernel
theorem d_Waits_writeRing_47 : decode m_Waits_writeRing.2.1 47 = .ok (.iaload, 1) := by decide +kernel
theorem d_Waits_writeRing_48 : decode m_Waits_writeRing.2.1 48 = .ok (.istore 4, 2) := by decide +kernel
theorem d_Waits_writeRing_50 : decode m_Waits_writeRing.2.1 50 = .ok (.iinc 5 (-1), 3) := by decide +kernel
theorem d_Waits_writeRing_53 : decode m_Waits_writeRing.2.1 53 = .ok (.goto (-45), 3) := by decide +kernel
theorem d_Waits_writeRing_56 : decode m_Waits_writeRing.2.1 56 = .ok (.return_, 1) := by decide +kernel
def f_Waits_writeRing_41 (k_8 : St → Int32 → Int32 → Int32 → Option (St)) (S : St) (l3 : Int32) (l4 : Int32) (l5 : Int32) : Option (St) :=
    if ig l4 16 then (
    (some (S 52 l4.toNatClampNeg)).bind fun l4_48 =>
    (some (l5 + (-1))).bind fun l5_50 =>
    k_8 S l3 l4_48 l5_50) else none
set_option maxHeartbeats 4000000 in
set_option maxRecDepth 20000 in
theorem t_Waits_writeRing_41  {k_8 : St → Int32 → Int32 → Int32 → Option (St)} (hk_8 : ∀ (S : St) (l3 : Int32) (l4 : Int32) (l5 : Int32) (w : St), k_8 S l3 l4 l5 = some w → G SX m_Waits_writeRing 1 none w 8 [(0, .ref 49), (3, .int l3), (4, .int l4), (5, .int l5)] [] S) (S : St) (l3 : Int32) (l4 : Int32) (l5 : Int32) (w : St) (h : f_Waits_writeRing_41 k_8 S l3 l4 l5 = some w) : G SX m_Waits_writeRing 1 none w 41 [(0, .ref 49), (3, .int l3), (4, .int l4), (5, .int l5)] [] S := by
  unfold f_Waits_writeRing_41 at h
  refine G_aload_n 0 rfl d_Waits_writeRing_41 ?_
  refine G_getR fl_Waits_18 kx_49 sx_49 rfl (by decide) d_Waits_writeRing_42 ?_
  refine G_iload 2 rfl d_Waits_writeRing_45 ?_
  obtain ⟨g_47, h⟩ := ob_g h
  refine G_iaload kx_52 sx_52 g_47 d_Waits_writeRing_47 ?_
  obtain ⟨l4_48, e_48, h⟩ := ob_s h
  refine G_istore [(4, .int l4_48), (0, .ref 49), (3, .int l3), (5, .int l5)] e_48 rfl (by decide) d_Waits_writeRing_48 ?_
  obtain ⟨l5_50, e_50, h⟩ := ob_s h
  refine G_iinc (-1) 3 [(5, .int l5_50), (4, .int l4_48), (0, .ref 49), (3, .int l3)] (by decide) rfl e_50 rfl (by decide) d_Waits_writeRing_50 ?_
  refine G_goto 8 (by decide) d_Waits_writeRing_53 ?_
  exact G_sub _ [2, 3, 1, 0] rfl (hk_8 S l3 l4_48 l5_50 _ h)
def f_Waits_writeRing_8 : Nat → St → Int32 → Int32 → Int32 → Option (St)
  | 0, _, _, _, _ => none
  | n + 1, S, l3, l4, l5 =>
    if l5 < 0 then (
    some S)
    else (
    (some ((l3 * 16) + l5)).bind fun l6_20 =>
    if (Int32.ofNat 176) ≤ l6_20 then (
    f_Waits_writeRing_41 (f_Waits_writeRing_8 n) S l3 l4 l5)
    else (
    if ig l6_20 176 then (
    (some (sF S 53 l6_20.toNatClampNeg l4)).bind fun S_40 =>
    f_Waits_writeRing_41 (f_Waits_writeRing_8 n) S_40 l3 l4 l5) else none))
set_option maxHeartbeats 4000000 in
set_option maxRecDepth 20000 in
theorem t_Waits_writeRing_8  : ∀ (n : Nat) (S : St) (l3 : Int32) (l4 : Int32) (l5 : Int32) (w : St), f_Waits_writeRing_8 n S l3 l4 l5 = some w → G SX m_Waits_writeRing 1 none w 8 [(0, .ref 49), (3, .int l3), (4, .int l4), (5, .int l5)] [] S := by
  intro n
  induction n with
  | zero =>
    intro S l3 l4 l5 w h
    rw [f_Waits_writeRing_8] at h
    cases h
  | succ n ih =>
    intro S l3 l4 l5 w h
    rw [f_Waits_writeRing_8] at h
    refine G_iload 3 rfl d_Waits_writeRing_8 ?_
    refine G_if_lt 56 (by decide) d_Waits_writeRing_10 (fun c_10 => ?_) (fun c_10 => ?_)
    · replace h := ob_t h c_10
      cases h
      exact G_vret rfl d_Waits_writeRing_56
    · replace h := ob_f h c_10
      refine G_iload_n 1 rfl d_Waits_writeRing_13 ?_
      refine G_bipush 16 (by decide) d_Waits_writeRing_14 ?_
      refine G_imul d_Waits_writeRing_16 ?_
      refine G_iload 3 rfl d_Waits_writeRing_17 ?_
      refine G_iadd d_Waits_writeRing_19 ?_
      obtain ⟨l6_20, e_20, h⟩ := ob_s h
      refine G_istore [(6, .int l6_20), (0, .ref 49), (3, .int l3), (4, .int l4), (5, .int l5)] e_20 rfl (by decide) d_Waits_writeRing_20 ?_
      refine G_iload 0 rfl d_Waits_writeRing_22 ?_
      refine G_aload_n 1 rfl d_Waits_writeRing_24 ?_
      refine G_getR fl_Waits_21 kx_49 sx_49 rfl (by decide) d_Waits_writeRing_25 ?_
      refine G_alen kx_53 sx_53 (by decide) d_Waits_writeRing_28 ?_
      refine G_icmp_ge 41 (by decide) d_Waits_writeRing_29 (fun c_29 => ?_) (fun c_29 => ?_)
      · replace h := ob_t h c_29
        exact G_sub _ [1, 2, 3, 4] rfl (t_Waits_writeRing_41 ih S l3 l4 l5 _ h)
      · replace h := ob_f h c_29
        refine G_aload_n 1 rfl d_Waits_writeRing_32 ?_
        refine G_getR fl_Waits_21 kx_49 sx_49 rfl (by decide) d_Waits_writeRing_33 ?_
        refine G_iload 0 rfl d_Waits_writeRing_36 ?_
        refine G_iload 3 rfl d_Waits_writeRing_38 ?_
        obtain ⟨g_40, h⟩ := ob_g h
        obtain ⟨S_40, e_40, h⟩ := ob_s h
        refine G_iastore e_40 kx_53 sx_53 g_40 d_Waits_writeRing_40 ?_
        exact G_sub _ [1, 2, 3, 4] rfl (t_Waits_writeRing_41 ih S_40 l3 l4 l5 _ h)
def f_Waits_writeRing (S : St) (l1 : Int32) (l2 : Int32) (l3 : Int32) : Option (St) :=
    (some (l2 - 1)).bind fun l5_6 =>
    f_Waits_writeRing_8 FU S l3 l1 l5_6
set_option maxHeartbeats 4000000 in
set_option maxRecDepth 20000 in
theorem t_Waits_writeRing  {S : St} {l1 : Int32} {l2 : Int32} {l3 : Int32} {w : St} (h : f_Waits_writeRing S l1 l2 l3 = some w) : Ct SX m_Waits_writeRing 1 [.ref 49, .int l1, .int l2, .int l3] S none w := by
  unfold f_Waits_writeRing at h
  refine Ct.of pn_Waits (Nat.le_of_ble_eq_true rfl) ?_
  show G SX m_Waits_writeRing 1 none w 0 [(0, .ref 49), (1, .int l1), (2, .int l2), (3, .int l3)] [] S
  refine G_iload_n 1 rfl d_Waits_writeRing_0 ?_
  refine G_istore [(4, .int l1), (0, .ref 49), (1, .int l1), (2, .int l2), (3, .int l3)] rfl rfl (by decide) d_Waits_writeRing_1 ?_
  refine G_iload_n 3 rfl d_Waits_writeRing_3 ?_
  refine G_iconst 1 (by decide) d_Waits_writeRing_4 ?_
  refine G_isub d_Waits_writeRing_5 ?_
  obtain ⟨l5_6, e_6, h⟩ := ob_s h
  refine G_istore [(5, .int l5_6), (4, .int l1), (0, .ref 49), (1, .int l1), (2, .int l2), (3, .int l3)] e_6 rfl (by decide) d_Waits_writeRing_6 ?_
  exact G_sub _ [2, 5, 1, 0] rfl (t_Waits_writeRing_8 FU S l3 l1 l5_6 _ h)
theorem d_Waits_markFrom_0 : decode m_Waits_markFrom.2.1 0 = .ok (.iconst 0, 1) := by decide +kernel
theorem d_Waits_markFrom_1 : decode m_Waits_markFrom.2.1 1 = .ok (.istore_n 3, 1) := by decide +kernel
theorem d_Waits_markFrom_2 : decode m_Waits_markFrom.2.1 2 = .ok (.iload_n 3, 1) := by decide +kernel
theorem d_Waits_markFrom_3 : decode m_Waits_markFrom.2.1 3 = .ok (.bipush 16, 2) := by decide +kernel
theorem d_Waits_markFrom_5 : decode m_Waits_markFrom.2.1 5 = .ok (.if_icmp .ge 24, 3) := by decide +kernel
theorem d_Waits_markFrom_8 : decode m_Waits_markFrom.2.1 8 = .ok (.iload_n 2, 1) := by decide +kernel
theorem d_Waits_markFrom_9 : decode m_Waits_markFrom.2.1 9 = .ok (.iload_n 3, 1) := by decide +kernel
theorem d_Waits_markFrom_10 : decode m_Waits_markFrom.2.1 10 = .ok (.iushr, 1) := by decide +kernel
theorem d_Waits_markFrom_11 : decode m_Waits_markFrom.2.1 11 = .ok (.iconst 1, 1) := by decide +kernel
theorem d_Waits_markFrom_12 : decode m_Waits_markFrom.2.1 12 = .ok (.iand, 1) := by decide +kernel
theorem d_Waits_markFrom_13 : decode m_Waits_markFrom.2.1 13 = .ok (.ifCond .eq 10, 3) := by decide +kernel
theorem d_Waits_markFrom_16 : decode m_Waits_markFrom.2.1 16 = .ok (.aload_n 0, 1) := by decide +kernel
theorem d_Waits_markFrom_17 : decode m_Waits_markFrom.2.1 17 = .ok (.getfield 18, 3) := by decide +kernel
theorem d_Waits_markFrom_20 : decode m_Waits_markFrom.2.1 20 = .ok (.iload_n 3, 1) := by decide +kernel
theorem d_Waits_markFrom_21 : decode m_Waits_markFrom.2.1 21 = .ok (.iload_n 1, 1) := by decide +kernel
theorem d_Waits_markFrom_22 : decode m_Waits_markFrom.2.1 22 = .ok (.iastore, 1) := by decide +kernel
theorem d_Waits_markFrom_23 : decode m_Waits_markFrom.2.1 23 = .ok (.iinc 3 1, 3) := by decide +kernel
theorem d_Waits_markFrom_26 : decode m_Waits_markFrom.2.1 26 = .ok (.goto (-24), 3) := by decide +kernel
theorem d_Waits_markFrom_29 : decode m_Waits_markFrom.2.1 29 = .ok (.return_, 1) := by decide +kernel
def f_Waits_markFrom_23 (k_2 : St → Int32 → Int32 → Int32 → Option (St)) (S : St) (l1 : Int32) (l2 : Int32) (l3 : Int32) : Option (St) :=
    (some (l3 + 1)).bind fun l3_23 =>
    k_2 S l1 l2 l3_23
set_option maxHeartbeats 4000000 in
set_option maxRecDepth 20000 in
theorem t_Waits_markFrom_23  {k_2 : St → Int32 → Int32 → Int32 → Option (St)} (hk_2 : ∀ (S : St) (l1 : Int32) (l2 : Int32) (l3 : Int32) (w : St), k_2 S l1 l2 l3 = some w → G SX m_Waits_markFrom 1 none w 2 [(0, .ref 49), (1, .int l1), (2, .int l2), (3, .int l3)] [] S) (S : St) (l1 : Int32) (l2 : Int32) (l3 : Int32) (w : St) (h : f_Waits_markFrom_23 k_2 S l1 l2 l3 = some w) : G SX m_Waits_markFrom 1 none w 23 [(0, .ref 49), (1, .int l1), (2, .int l2), (3, .int l3)] [] S := by
  unfold f_Waits_markFrom_23 at h
  obtain ⟨l3_23, e_23, h⟩ := ob_s h
  refine G_iinc 1 3 [(3, .int l3_23), (0, .ref 49), (1, .int l1), (2, .int l2)] (by decide) rfl e_23 rfl (by decide) d_Waits_markFrom_23 ?_
  refine G_goto 2 (by decide) d_Waits_markFrom_26 ?_
  exact G_sub _ [1, 2, 3, 0] rfl (hk_2 S l1 l2 l3_23 _ h)
def f_Waits_markFrom_2 : Nat → St → Int32 → Int32 → Int32 → Option (St)
  | 0, _, _, _, _ => none
  | n + 1, S, l1, l2, l3 =>
    if (16 : Int32) ≤ l3 then (
    some S)
    else (
    if ((jushr l2 l3) &&& 1) = 0 then (
    f_Waits_markFrom_23 (f_Waits_markFrom_2 n) S l1 l2 l3)
    else (
    if ig l3 16 then (
    (some (sF S 52 l3.toNatClampNeg l1)).bind fun S_22 =>
    f_Waits_markFrom_23 (f_Waits_markFrom_2 n) S_22 l1 l2 l3) else none))
set_option maxHeartbeats 4000000 in
set_option maxRecDepth 20000 in
theorem t_Waits_markFrom_2  : ∀ (n : Nat) (S : St) (l1 : Int32) (l2 : Int32) (l3 : Int32) (w : St), f_Waits_markFrom_2 n S l1 l2 l3 = some w → G SX m_Waits_markFrom 1 none w 2 [(0, .ref 49), (1, .int l1), (2, .int l2), (3, .int l3)] [] S := by
  intro n
  induction n with
  | zero =>
    intro S l1 l2 l3 w h
    rw [f_Waits_markFrom_2] at h
    cases h
  | succ n ih =>
    intro S l1 l2 l3 w h
    rw [f_Waits_markFrom_2] at h
    refine G_iload_n 3 rfl d_Waits_markFrom_2 ?_
    refine G_bipush 16 (by decide) d_Waits_markFrom_3 ?_
    refine G_icmp_ge 29 (by decide) d_Waits_markFrom_5 (fun c_5 => ?_) (fun c_5 => ?_)
    · replace h := ob_t h c_5
      cases h
      exact G_vret rfl d_Waits_markFrom_29
    · replace h := ob_f h c_5
      refine G_iload_n 2 rfl d_Waits_markFrom_8 ?_
      refine G_iload_n 3 rfl d_Waits_markFrom_9 ?_
      refine G_iushr d_Waits_markFrom_10 ?_
      refine G_iconst 1 (by decide) d_Waits_markFrom_11 ?_
      refine G_iand d_Waits_markFrom_12 ?_
      refine G_if_eq 23 (by decide) d_Waits_markFrom_13 (fun c_13 => ?_) (fun c_13 => ?_)
      · replace h := ob_t h c_13
        exact G_sub _ [0, 1, 2, 3] rfl (t_Waits_markFrom_23 ih S l1 l2 l3 _ h)
      · replace h := ob_f h c_13
        refine G_aload_n 0 rfl d_Waits_markFrom_16 ?_
        refine G_getR fl_Waits_18 kx_49 sx_49 rfl (by decide) d_Waits_markFrom_17 ?_
        refine G_iload_n 3 rfl d_Waits_markFrom_20 ?_
        refine G_iload_n 1 rfl d_Waits_markFrom_21 ?_
        obtain ⟨g_22, h⟩ := ob_g h
        obtain ⟨S_22, e_22, h⟩ := ob_s h
        refine G_iastore e_22 kx_52 sx_52 g_22 d_Waits_markFrom_22 ?_
        exact G_sub _ [0, 1, 2, 3] rfl (t_Waits_markFrom_23 ih S_22 l1 l2 l3 _ h)
def f_Waits_markFrom (S : St) (l1 : Int32) (l2 : Int32) : Option (St) :=
    (some (0 : Int32)).bind fun l3_1 =>
    f_Waits_markFrom_2 FU S l1 l2 l3_1
set_option maxHeartbeats 4000000 in
set_option maxRecDepth 20000 in
theorem t_Waits_markFrom  {S : St} {l1 : Int32} {l2 : Int32} {w : St} (h : f_Waits_markFrom S l1 l2 = some w) : Ct SX m_Waits_markFrom 1 [.ref 49, .int l1, .int l2] S none w := by
  unfold f_Waits_markFrom at h
  refine Ct.of pn_Waits (Nat.le_of_ble_eq_true rfl) ?_
  show G SX m_Waits_markFrom 1 none w 0 [(0, .ref 49), (1, .int l1), (2, .int l2)] [] S
  refine G_iconst 0 (by decide) d_Waits_markFrom_0 ?_
  obtain ⟨l3_1, e_1, h⟩ := ob_s h
  refine G_istore_n [(3, .int l3_1), (0, .ref 49), (1, .int l1), (2, .int l2)] e_1 rfl (by decide) d_Waits_markFrom_1 ?_
  exact G_sub _ [1, 2, 3, 0] rfl (t_Waits_markFrom_2 FU S l1 l2 l3_1 _ h)
theorem d_Waits_findRingOf_0 : decode m_Waits_findRingOf.2.1 0 = .ok (.iconst 1, 1) := by decide +kernel
theorem d_Waits_findRingOf_1 : decode m_Waits_findRingOf.2.1 1 = .ok (.iload_n 1, 1) := by decide +kernel
theorem d_Waits_findRingOf_2 : decode m_Waits_findRingOf.2.1 2 = .ok (.ishl, 1) := by decide +kernel
theorem d_Waits_findRingOf_3 : decode m_Waits_findRingOf.2.1 3 = .ok (.istore 4, 2) := by decide +kernel
theorem d_Waits_findRingOf_5 : decode m_Waits_findRingOf.2.1 5 = .ok (.iload 4, 2) := by decide +kernel
theorem d_Waits_findRingOf_7 : decode m_Waits_findRingOf.2.1 7 = .ok (.istore 5, 2) := by decide +kernel
theorem d_Waits_findRingOf_9 : decode m_Waits_findRingOf.2.1 9 = .ok (.iconst 1, 1) := by decide +kernel
theorem d_Waits_findRingOf_10 : decode m_Waits_findRingOf.2.1 10 = .ok (.istore 6, 2) := by decide +kernel
theorem d_Waits_findRingOf_12 : decode m_Waits_findRingOf.2.1 12 = .ok (.iload 6, 2) := by decide +kernel
theorem d_Waits_findRingOf_14 : decode m_Waits_findRingOf.2.1 14 = .ok (.iload_n 2, 1) := by decide +kernel
theorem d_Waits_findRingOf_15 : decode m_Waits_findRingOf.2.1 15 = .ok (.if_icmp .gt 109, 3) := by decide +kernel
theorem d_Waits_findRingOf_18 : decode m_Waits_findRingOf.2.1 18 = .ok (.iload 5, 2) := by decide +kernel
theorem d_Waits_findRingOf_20 : decode m_Waits_findRingOf.2.1 20 = .ok (.ifCond .eq 104, 3) := by decide +kernel
theorem d_Waits_findRingOf_23 : decode m_Waits_findRingOf.2.1 23 = .ok (.iconst 0, 1) := by decide +kernel
theorem d_Waits_findRingOf_24 : decode m_Waits_findRingOf.2.1 24 = .ok (.istore 7, 2) := by decide +kernel
theorem d_Waits_findRingOf_26 : decode m_Waits_findRingOf.2.1 26 = .ok (.iconst 0, 1) := by decide +kernel
theorem d_Waits_findRingOf_27 : decode m_Waits_findRingOf.2.1 27 = .ok (.istore 8, 2) := by decide +kernel
theorem d_Waits_findRingOf_29 : decode m_Waits_findRingOf.2.1 29 = .ok (.iload 8, 2) := by decide +kernel
theorem d_Waits_findRingOf_31 : decode m_Waits_findRingOf.2.1 31 = .ok (.bipush 16, 2) := by decide +kernel
theorem d_Waits_findRingOf_33 : decode m_Waits_findRingOf.2.1 33 = .ok (.if_icmp .ge 81, 3) := by decide +kernel
theorem d_Waits_findRingOf_36 : decode m_Waits_findRingOf.2.1 36 = .ok (.iload 5, 2) := by decide +kernel
theorem d_Waits_findRingOf_38 : decode m_Waits_findRingOf.2.1 38 = .ok (.iload 8, 2) := by decide +kernel
theorem d_Waits_findRingOf_40 : decode m_Waits_findRingOf.2.1 40 = .ok (.iushr, 1) := by decide +kernel
theorem d_Waits_findRingOf_41 : decode m_Waits_findRingOf.2.1 41 = .ok (.iconst 1, 1) := by decide +kernel
theorem d_Waits_findRingOf_42 : decode m_Waits_findRingOf.2.1 42 = .ok (.iand, 1) := by decide +kernel
theorem d_Waits_findRingOf_43 : decode m_Waits_findRingOf.2.1 43 = .ok (.ifCond .eq 65, 3) := by decide +kernel
theorem d_Waits_findRingOf_46 : decode m_Waits_findRingOf.2.1 46 = .ok (.aload_n 0, 1) := by decide +kernel
theorem d_Waits_findRingOf_47 : decode m_Waits_findRingOf.2.1 47 = .ok (.getfield 9, 3) := by decide +kernel
theorem d_Waits_findRingOf_50 : decode m_Waits_findRingOf.2.1 50 = .ok (.iload 8, 2) := by decide +kernel
theorem d_Waits_findRingOf_52 : decode m_Waits_findRingOf.2.1 52 = .ok (.iaload, 1) := by decide +kernel
theorem d_Waits_findRingOf_53 : decode m_Waits_findRingOf.2.1 53 = .ok (.iload_n 1, 1) := by decide +kernel
theorem d_Waits_findRingOf_54 : decode m_Waits_findRingOf.2.1 54 = .ok (.iushr, 1) := by decide +kernel
theorem d_Waits_findRingOf_55 : decode m_Waits_findRingOf.2.1 55 = .ok (.iconst 1, 1) := by decide +kernel
theorem d_Waits_findRingOf_56 : decode m_Waits_findRingOf.2.1 56 = .ok (.iand, 1) := by decide +kernel
theorem d_Waits_findRingOf_57 : decode m_Waits_findRingOf.2.1 57 = .ok (.ifCond .eq 15, 3) := by decide +kernel
theorem d_Waits_findRingOf_60 : decode m_Waits_findRingOf.2.1 60 = .ok (.aload_n 0, 1) := by decide +kernel
theorem d_Waits_findRingOf_61 : decode m_Waits_findRingOf.2.1 61 = .ok (.iload 8, 2) := by decide +kernel
theorem d_Waits_findRingOf_63 : decode m_Waits_findRingOf.2.1 63 = .ok (.iload 6, 2) := by decide +kernel
theorem d_Waits_findRingOf_65 : decode m_Waits_findRingOf.2.1 65 = .ok (.iload_n 3, 1) := by decide +kernel
theorem d_Waits_findRingOf_66 : decode m_Waits_findRingOf.2.1 66 = .ok (.invokevirtual 67, 3) := by decide +kernel
theorem d_Waits_findRingOf_69 : decode m_Waits_findRingOf.2.1 69 = .ok (.iload 6, 2) := by decide +kernel
theorem d_Waits_findRingOf_71 : decode m_Waits_findRingOf.2.1 71 = .ok (.ireturn, 1) := by decide +kernel
theorem d_Waits_findRingOf_72 : decode m_Waits_findRingOf.2.1 72 = .ok (.aload_n 0, 1) := by decide +kernel
theorem d_Waits_findRingOf_73 : decode m_Waits_findRingOf.2.1 73 = .ok (.getfield 9, 3) := by decide +kernel
theorem d_Waits_findRingOf_76 : decode m_Waits_findRingOf.2.1 76 = .ok (.iload 8, 2) := by decide +kernel
theorem d_Waits_findRingOf_78 : decode m_Waits_findRingOf.2.1 78 = .ok (.iaload, 1) := by decide +kernel
theorem d_Waits_findRingOf_79 : decode m_Waits_findRingOf.2.1 79 = .ok (.iload 4, 2) := by decide +kernel
theorem d_Waits_findRingOf_81 : decode m_Waits_findRingOf.2.1 81 = .ok (.iconst (-1), 1) := by decide +kernel
theorem d_Waits_findRingOf_82 : decode m_Waits_findRingOf.2.1 82 = .ok (.ixor, 1) := by decide +kernel
theorem d_Waits_findRingOf_83 : decode m_Waits_findRingOf.2.1 83 = .ok (.iand, 1) := by decide +kernel
theorem d_Waits_findRingOf_84 : decode m_Waits_findRingOf.2.1 84 = .ok (.istore 9, 2) := by decide +kernel
theorem d_Waits_findRingOf_86 : decode m_Waits_findRingOf.2.1 86 = .ok (.iload 4, 2) := by decide +kernel
theorem d_Waits_findRingOf_88 : decode m_Waits_findRingOf.2.1 88 = .ok (.iload 9, 2) := by decide +kernel
theorem d_Waits_findRingOf_90 : decode m_Waits_findRingOf.2.1 90 = .ok (.ior, 1) := by decide +kernel
theorem d_Waits_findRingOf_91 : decode m_Waits_findRingOf.2.1 91 = .ok (.istore 4, 2) := by decide +kernel
theorem d_Waits_findRingOf_93 : decode m_Waits_findRingOf.2.1 93 = .ok (.iload 7, 2) := by decide +kernel
theorem d_Waits_findRingOf_95 : decode m_Waits_findRingOf.2.1 95 = .ok (.iload 9, 2) := by decide +kernel
theorem d_Waits_findRingOf_97 : decode m_Waits_findRingOf.2.1 97 = .ok (.ior, 1) := by decide +kernel
theorem d_Waits_findRingOf_98 : decode m_Waits_findRingOf.2.1 98 = .ok (.istore 7, 2) := by decide +kernel
theorem d_Waits_findRingOf_100 : decode m_Waits_findRingOf.2.1 100 = .ok (.aload_n 0, 1) := by decide +kernel
theorem d_Waits_findRingOf_101 : decode m_Waits_findRingOf.2.1 101 = .ok (.iload 8, 2) := by decide +kernel
theorem d_Waits_findRingOf_103 : decode m_Waits_findRingOf.2.1 103 = .ok (.iload 9, 2) := by decide +kernel
theorem d_Waits_findRingOf_105 : decode m_Waits_findRingOf.2.1 105 = .ok (.invokevirtual 71, 3) := by decide +kernel
theorem d_Waits_findRingOf_108 : decode m_Waits_findRingOf.2.1 108 = .ok (.iinc 8 1, 3) := by decide +kernel
theorem d_Waits_findRingOf_111 : decode m_Waits_findRingOf.2.1 111 = .ok (.goto (-82), 3) := by decide +kernel
theorem d_Waits_findRingOf_114 : decode m_Waits_findRingOf.2.1 114 = .ok (.iload 7, 2) := by decide +kernel
theorem d_Waits_findRingOf_116 : decode m_Waits_findRingOf.2.1 116 = .ok (.istore 5, 2) := by decide +kernel
theorem d_Waits_findRingOf_118 : decode m_Waits_findRingOf.2.1 118 = .ok (.iinc 6 1, 3) := by decide +kernel
theorem d_Waits_findRingOf_121 : decode m_Waits_findRingOf.2.1 121 = .ok (.goto (-109), 3) := by decide +kernel
theorem d_Waits_findRingOf_124 : decode m_Waits_findRingOf.2.1 124 = .ok (.iconst 0, 1) := by decide +kernel
theorem d_Waits_findRingOf_125 : decode m_Waits_findRingOf.2.1 125 = .ok (.ireturn, 1) := by decide +kernel
def f_Waits_findRingOf_108 (k_12 : St → Int32 → Int32 → Int32 → Int32 → Int32 → Int32 → Option (Int32 × St)) (k_29 : St → Int32 → Int32 → Int32 → Int32 → Int32 → Int32 → Int32 → Int32 → Option (Int32 × St)) (S : St) (l1 : Int32) (l2 : Int32) (l3 : Int32) (l4 : Int32) (l5 : Int32) (l6 : Int32) (l7 : Int32) (l8 : Int32) : Option (Int32 × St) :=
    (some (l8 + 1)).bind fun l8_108 =>
    k_29 S l1 l2 l3 l4 l5 l6 l7 l8_108
set_option maxHeartbeats 4000000 in
set_option maxRecDepth 20000 in
theorem t_Waits_findRingOf_108  {k_12 : St → Int32 → Int32 → Int32 → Int32 → Int32 → Int32 → Option (Int32 × St)} {k_29 : St → Int32 → Int32 → Int32 → Int32 → Int32 → Int32 → Int32 → Int32 → Option (Int32 × St)} (hk_12 : ∀ (S : St) (l1 : Int32) (l2 : Int32) (l3 : Int32) (l4 : Int32) (l5 : Int32) (l6 : Int32) (w : Int32 × St), k_12 S l1 l2 l3 l4 l5 l6 = some w → G SX m_Waits_findRingOf 2 (some w.1) w.2 12 [(0, .ref 49), (1, .int l1), (2, .int l2), (3, .int l3), (4, .int l4), (5, .int l5), (6, .int l6)] [] S) (hk_29 : ∀ (S : St) (l1 : Int32) (l2 : Int32) (l3 : Int32) (l4 : Int32) (l5 : Int32) (l6 : Int32) (l7 : Int32) (l8 : Int32) (w : Int32 × St), k_29 S l1 l2 l3 l4 l5 l6 l7 l8 = some w → G SX m_Waits_findRingOf 2 (some w.1) w.2 29 [(0, .ref 49), (1, .int l1), (2, .int l2), (3, .int l3), (4, .int l4), (5, .int l5), (6, .int l6), (7, .int l7), (8, .int l8)] [] S) (S : St) (l1 : Int32) (l2 : Int32) (l3 : Int32) (l4 : Int32) (l5 : Int32) (l6 : Int32) (l7 : Int32) (l8 : Int32) (w : Int32 × St) (h : f_Waits_findRingOf_108 k_12 k_29 S l1 l2 l3 l4 l5 l6 l7 l8 = some w) : G SX m_Waits_findRingOf 2 (some w.1) w.2 108 [(0, .ref 49), (1, .int l1), (2, .int l2), (3, .int l3), (4, .int l4), (5, .int l5), (6, .int l6), (7, .int l7), (8, .int l8)] [] S := by
  unfold f_Waits_findRingOf_108 at h
  obtain ⟨l8_108, e_108, h⟩ := ob_s h
  refine G_iinc 1 8 [(8, .int l8_108), (0, .ref 49), (1, .int l1), (2, .int l2), (3, .int l3), (4, .int l4), (5, .int l5), (6, .int l6), (7, .int l7)] (by decide) rfl e_108 rfl (by decide) d_Waits_findRingOf_108 ?_
  refine G_goto 29 (by decide) d_Waits_findRingOf_111 ?_
  exact G_sub _ [1, 2, 3, 4, 5, 6, 7, 8, 0] rfl (hk_29 S l1 l2 l3 l4 l5 l6 l7 l8_108 _ h)
def f_Waits_findRingOf_29 (k_12 : St → Int32 → Int32 → Int32 → Int32 → Int32 → Int32 → Option (Int32 × St)) : Nat → St → Int32 → Int32 → Int32 → Int32 → Int32 → Int32 → Int32 → Int32 → Option (Int32 × St)
  | 0, _, _, _, _, _, _, _, _, _ => none
  | n + 1, S, l1, l2, l3, l4, l5, l6, l7, l8 =>
    if (16 : Int32) ≤ l8 then (
    (some (l6 + 1)).bind fun l6_118 =>
    k_12 S l1 l2 l3 l4 l7 l6_118)
    else (
    if ((jushr l5 l8) &&& 1) = 0 then (
    f_Waits_findRingOf_108 k_12 (f_Waits_findRingOf_29 k_12 n) S l1 l2 l3 l4 l5 l6 l7 l8)
    else (
    if ig l8 16 then (
    if ((jushr (S 50 l8.toNatClampNeg) l1) &&& 1) = 0 then (
    if ig l8 16 then (
    (some ((S 50 l8.toNatClampNeg) &&& (l4 ^^^ (-1)))).bind fun l9_84 =>
    (some (l4 ||| l9_84)).bind fun l4_91 =>
    (some (l7 ||| l9_84)).bind fun l7_98 =>
    (f_Waits_markFrom S l8 l9_84).bind fun w_105 =>
    f_Waits_findRingOf_108 k_12 (f_Waits_findRingOf_29 k_12 n) w_105 l1 l2 l3 l4_91 l5 l6 l7_98 l8) else none)
    else (
    (f_Waits_writeRing S l8 l6 l3).bind fun w_66 =>
    some (l6, w_66))) else none))
set_option maxHeartbeats 4000000 in
set_option maxRecDepth 20000 in
theorem t_Waits_findRingOf_29  {k_12 : St → Int32 → Int32 → Int32 → Int32 → Int32 → Int32 → Option (Int32 × St)} (hk_12 : ∀ (S : St) (l1 : Int32) (l2 : Int32) (l3 : Int32) (l4 : Int32) (l5 : Int32) (l6 : Int32) (w : Int32 × St), k_12 S l1 l2 l3 l4 l5 l6 = some w → G SX m_Waits_findRingOf 2 (some w.1) w.2 12 [(0, .ref 49), (1, .int l1), (2, .int l2), (3, .int l3), (4, .int l4), (5, .int l5), (6, .int l6)] [] S) : ∀ (n : Nat) (S : St) (l1 : Int32) (l2 : Int32) (l3 : Int32) (l4 : Int32) (l5 : Int32) (l6 : Int32) (l7 : Int32) (l8 : Int32) (w : Int32 × St), f_Waits_findRingOf_29 k_12 n S l1 l2 l3 l4 l5 l6 l7 l8 = some w → G SX m_Waits_findRingOf 2 (some w.1) w.2 29 [(0, .ref 49), (1, .int l1), (2, .int l2), (3, .int l3), (4, .int l4), (5, .int l5), (6, .int l6), (7, .int l7), (8, .int l8)] [] S := by
  intro n
  induction n with
  | zero =>
    intro S l1 l2 l3 l4 l5 l6 l7 l8 w h
    rw [f_Waits_findRingOf_29] at h
    cases h
  | succ n ih =>
    intro S l1 l2 l3 l4 l5 l6 l7 l8 w h
    rw [f_Waits_findRingOf_29] at h
    refine G_iload 8 rfl d_Waits_findRingOf_29 ?_
    refine G_bipush 16 (by decide) d_Waits_findRingOf_31 ?_
    refine G_icmp_ge 114 (by decide) d_Waits_findRingOf_33 (fun c_33 => ?_) (fun c_33 => ?_)
    · replace h := ob_t h c_33
      refine G_iload 7 rfl d_Waits_findRingOf_114 ?_
      refine G_istore [(5, .int l7), (0, .ref 49), (1, .int l1), (2, .int l2), (3, .int l3), (4, .int l4), (6, .int l6), (7, .int l7), (8, .int l8)] rfl rfl (by decide) d_Waits_findRingOf_116 ?_
      obtain ⟨l6_118, e_118, h⟩ := ob_s h
      refine G_iinc 1 6 [(6, .int l6_118), (5, .int l7), (0, .ref 49), (1, .int l1), (2, .int l2), (3, .int l3), (4, .int l4), (7, .int l7), (8, .int l8)] (by decide) rfl e_118 rfl (by decide) d_Waits_findRingOf_118 ?_
      refine G_goto 12 (by decide) d_Waits_findRingOf_121 ?_
      exact G_sub _ [2, 3, 4, 5, 6, 1, 0] rfl (hk_12 S l1 l2 l3 l4 l7 l6_118 _ h)
    · replace h := ob_f h c_33
      refine G_iload 5 rfl d_Waits_findRingOf_36 ?_
      refine G_iload 8 rfl d_Waits_findRingOf_38 ?_
      refine G_iushr d_Waits_findRingOf_40 ?_
      refine G_iconst 1 (by decide) d_Waits_findRingOf_41 ?_
      refine G_iand d_Waits_findRingOf_42 ?_
      refine G_if_eq 108 (by decide) d_Waits_findRingOf_43 (fun c_43 => ?_) (fun c_43 => ?_)
      · replace h := ob_t h c_43
        exact G_sub _ [0, 1, 2, 3, 4, 5, 6, 7, 8] rfl (t_Waits_findRingOf_108 hk_12 ih S l1 l2 l3 l4 l5 l6 l7 l8 _ h)
      · replace h := ob_f h c_43
        refine G_aload_n 0 rfl d_Waits_findRingOf_46 ?_
        refine G_getR fl_Waits_9 kx_49 sx_49 rfl (by decide) d_Waits_findRingOf_47 ?_
        refine G_iload 8 rfl d_Waits_findRingOf_50 ?_
        obtain ⟨g_52, h⟩ := ob_g h
        refine G_iaload kx_50 sx_50 g_52 d_Waits_findRingOf_52 ?_
        refine G_iload_n 1 rfl d_Waits_findRingOf_53 ?_
        refine G_iushr d_Waits_findRingOf_54 ?_
        refine G_iconst 1 (by decide) d_Waits_findRingOf_55 ?_
        refine G_iand d_Waits_findRingOf_56 ?_
        refine G_if_eq 72 (by decide) d_Waits_findRingOf_57 (fun c_57 => ?_) (fun c_57 => ?_)
        · replace h := ob_t h c_57
          refine G_aload_n 0 rfl d_Waits_findRingOf_72 ?_
          refine G_getR fl_Waits_9 kx_49 sx_49 rfl (by decide) d_Waits_findRingOf_73 ?_
          refine G_iload 8 rfl d_Waits_findRingOf_76 ?_
          obtain ⟨g_78, h⟩ := ob_g h
          refine G_iaload kx_50 sx_50 g_78 d_Waits_findRingOf_78 ?_
          refine G_iload 4 rfl d_Waits_findRingOf_79 ?_
          refine G_iconst (-1) (by decide) d_Waits_findRingOf_81 ?_
          refine G_ixor d_Waits_findRingOf_82 ?_
          refine G_iand d_Waits_findRingOf_83 ?_
          obtain ⟨l9_84, e_84, h⟩ := ob_s h
          refine G_istore [(9, .int l9_84), (0, .ref 49), (1, .int l1), (2, .int l2), (3, .int l3), (4, .int l4), (5, .int l5), (6, .int l6), (7, .int l7), (8, .int l8)] e_84 rfl (by decide) d_Waits_findRingOf_84 ?_
          refine G_iload 5 rfl d_Waits_findRingOf_86 ?_
          refine G_iload 0 rfl d_Waits_findRingOf_88 ?_
          refine G_ior d_Waits_findRingOf_90 ?_
          obtain ⟨l4_91, e_91, h⟩ := ob_s h
          refine G_istore [(4, .int l4_91), (9, .int l9_84), (0, .ref 49), (1, .int l1), (2, .int l2), (3, .int l3), (5, .int l5), (6, .int l6), (7, .int l7), (8, .int l8)] e_91 rfl (by decide) d_Waits_findRingOf_91 ?_
          refine G_iload 8 rfl d_Waits_findRingOf_93 ?_
          refine G_iload 1 rfl d_Waits_findRingOf_95 ?_
          refine G_ior d_Waits_findRingOf_97 ?_
          obtain ⟨l7_98, e_98, h⟩ := ob_s h
          refine G_istore [(7, .int l7_98), (4, .int l4_91), (9, .int l9_84), (0, .ref 49), (1, .int l1), (2, .int l2), (3, .int l3), (5, .int l5), (6, .int l6), (8, .int l8)] e_98 rfl (by decide) d_Waits_findRingOf_98 ?_
          refine G_aload_n 3 rfl d_Waits_findRingOf_100 ?_
          refine G_iload 9 rfl d_Waits_findRingOf_101 ?_
          refine G_iload 2 rfl d_Waits_findRingOf_103 ?_
          obtain ⟨w_105, q_105, h⟩ := ob_b h
          refine G_callV [.int l8, .int l9_84] [] (t_Waits_markFrom q_105) (by decide) (by decide) mv_Waits_markFrom rfl ml_Waits_71 kx_49 sx_49 cl_10 rfl (Nat.le_of_ble_eq_true rfl) d_Waits_findRingOf_105 ?_
          exact G_sub _ [3, 4, 5, 6, 1, 7, 8, 0, 9] rfl (t_Waits_findRingOf_108 hk_12 ih w_105 l1 l2 l3 l4_91 l5 l6 l7_98 l8 _ h)
        · replace h := ob_f h c_57
          refine G_aload_n 0 rfl d_Waits_findRingOf_60 ?_
          refine G_iload 8 rfl d_Waits_findRingOf_61 ?_
          refine G_iload 6 rfl d_Waits_findRingOf_63 ?_
          refine G_iload_n 3 rfl d_Waits_findRingOf_65 ?_
          obtain ⟨w_66, q_66, h⟩ := ob_b h
          refine G_callV [.int l8, .int l6, .int l3] [] (t_Waits_writeRing q_66) (by decide) (by decide) mv_Waits_writeRing rfl ml_Waits_67 kx_49 sx_49 cl_10 rfl (Nat.le_of_ble_eq_true rfl) d_Waits_findRingOf_66 ?_
          refine G_iload 6 rfl d_Waits_findRingOf_69 ?_
          cases h
          exact G_iret rfl d_Waits_findRingOf_71
def f_Waits_findRingOf_12 : Nat → St → Int32 → Int32 → Int32 → Int32 → Int32 → Int32 → Option (Int32 × St)
  | 0, _, _, _, _, _, _, _ => none
  | n + 1, S, l1, l2, l3, l4, l5, l6 =>
    if l2 < l6 then (
    some (0, S))
    else (
    if l5 = 0 then (
    some (0, S))
    else (
    (some (0 : Int32)).bind fun l7_24 =>
    (some (0 : Int32)).bind fun l8_27 =>
    f_Waits_findRingOf_29 (f_Waits_findRingOf_12 n) FU S l1 l2 l3 l4 l5 l6 l7_24 l8_27))
set_option maxHeartbeats 4000000 in
set_option maxRecDepth 20000 in
theorem t_Waits_findRingOf_12  : ∀ (n : Nat) (S : St) (l1 : Int32) (l2 : Int32) (l3 : Int32) (l4 : Int32) (l5 : Int32) (l6 : Int32) (w : Int32 × St), f_Waits_findRingOf_12 n S l1 l2 l3 l4 l5 l6 = some w → G SX m_Waits_findRingOf 2 (some w.1) w.2 12 [(0, .ref 49), (1, .int l1), (2, .int l2), (3, .int l3), (4, .int l4), (5, .int l5), (6, .int l6)] [] S := by
  intro n
  induction n with
  | zero =>
    intro S l1 l2 l3 l4 l5 l6 w h
    rw [f_Waits_findRingOf_12] at h
    cases h
  | succ n ih =>
    intro S l1 l2 l3 l4 l5 l6 w h
    rw [f_Waits_findRingOf_12] at h
    refine G_iload 6 rfl d_Waits_findRingOf_12 ?_
    refine G_iload_n 2 rfl d_Waits_findRingOf_14 ?_
    refine G_icmp_gt 124 (by decide) d_Waits_findRingOf_15 (fun c_15 => ?_) (fun c_15 => ?_)
    · replace h := ob_t h c_15
      refine G_iconst 0 (by decide) d_Waits_findRingOf_124 ?_
      cases h
      exact G_iret rfl d_Waits_findRingOf_125
    · replace h := ob_f h c_15
      refine G_iload 5 rfl d_Waits_findRingOf_18 ?_
      refine G_if_eq 124 (by decide) d_Waits_findRingOf_20 (fun c_20 => ?_) (fun c_20 => ?_)
      · replace h := ob_t h c_20
        refine G_iconst 0 (by decide) d_Waits_findRingOf_124 ?_
        cases h
        exact G_iret rfl d_Waits_findRingOf_125
      · replace h := ob_f h c_20
        refine G_iconst 0 (by decide) d_Waits_findRingOf_23 ?_
        obtain ⟨l7_24, e_24, h⟩ := ob_s h
        refine G_istore [(7, .int l7_24), (0, .ref 49), (1, .int l1), (2, .int l2), (3, .int l3), (4, .int l4), (5, .int l5), (6, .int l6)] e_24 rfl (by decide) d_Waits_findRingOf_24 ?_
        refine G_iconst 0 (by decide) d_Waits_findRingOf_26 ?_
        obtain ⟨l8_27, e_27, h⟩ := ob_s h
        refine G_istore [(8, .int l8_27), (7, .int l7_24), (0, .ref 49), (1, .int l1), (2, .int l2), (3, .int l3), (4, .int l4), (5, .int l5), (6, .int l6)] e_27 rfl (by decide) d_Waits_findRingOf_27 ?_
        exact G_sub _ [2, 3, 4, 5, 6, 7, 8, 1, 0] rfl (t_Waits_findRingOf_29 ih FU S l1 l2 l3 l4 l5 l6 l7_24 l8_27 _ h)
def f_Waits_findRingOf (S : St) (l1 : Int32) (l2 : Int32) (l3 : Int32) : Option (Int32 × St) :=
    (some (jshl 1 l1)).bind fun l4_3 =>
    (some (1 : Int32)).bind fun l6_10 =>
    f_Waits_findRingOf_12 FU S l1 l2 l3 l4_3 l4_3 l6_10
set_option maxHeartbeats 4000000 in
set_option maxRecDepth 20000 in
theorem t_Waits_findRingOf  {S : St} {l1 : Int32} {l2 : Int32} {l3 : Int32} {w : Int32 × St} (h : f_Waits_findRingOf S l1 l2 l3 = some w) : Ct SX m_Waits_findRingOf 2 [.ref 49, .int l1, .int l2, .int l3] S (some w.1) w.2 := by
  unfold f_Waits_findRingOf at h
  refine Ct.of pn_Waits (Nat.le_of_ble_eq_true rfl) ?_
  show G SX m_Waits_findRingOf 2 (some w.1) w.2 0 [(0, .ref 49), (1, .int l1), (2, .int l2), (3, .int l3)] [] S
  refine G_iconst 1 (by decide) d_Waits_findRingOf_0 ?_
  refine G_iload_n 1 rfl d_Waits_findRingOf_1 ?_
  refine G_ishl d_Waits_findRingOf_2 ?_
  obtain ⟨l4_3, e_3, h⟩ := ob_s h
  refine G_istore [(4, .int l4_3), (0, .ref 49), (1, .int l1), (2, .int l2), (3, .int l3)] e_3 rfl (by decide) d_Waits_findRingOf_3 ?_
  refine G_iload 0 rfl d_Waits_findRingOf_5 ?_
  refine G_istore [(5, .int l4_3), (4, .int l4_3), (0, .ref 49), (1, .int l1), (2, .int l2), (3, .int l3)] rfl rfl (by decide) d_Waits_findRingOf_7 ?_
  refine G_iconst 1 (by decide) d_Waits_findRingOf_9 ?_
  obtain ⟨l6_10, e_10, h⟩ := ob_s h
  refine G_istore [(6, .int l6_10), (5, .int l4_3), (4, .int l4_3), (0, .ref 49), (1, .int l1), (2, .int l2), (3, .int l3)] e_10 rfl (by decide) d_Waits_findRingOf_10 ?_
  exact G_sub _ [3, 4, 5, 6, 2, 1, 0] rfl (t_Waits_findRingOf_12 FU S l1 l2 l3 l4_3 l4_3 l6_10 _ h)
theorem d_Waits_findShortestRing_0 : decode m_Waits_findShortestRing.2.1 0 = .ok (.iconst 0, 1) := by decide +kernel
theorem d_Waits_findShortestRing_1 : decode m_Waits_findShortestRing.2.1 1 = .ok (.istore_n 2, 1) := by decide +kernel
theorem d_Waits_findShortestRing_2 : decode m_Waits_findShortestRing.2.1 2 = .ok (.aload_n 0, 1) := by decide +kernel
theorem d_Waits_findShortestRing_3 : decode m_Waits_findShortestRing.2.1 3 = .ok (.invokevirtual 60, 3) := by decide +kernel
theorem d_Waits_findShortestRing_6 : decode m_Waits_findShortestRing.2.1 6 = .ok (.istore_n 3, 1) := by decide +kernel
theorem d_Waits_findShortestRing_7 : decode m_Waits_findShortestRing.2.1 7 = .ok (.iconst 0, 1) := by decide +kernel
theorem d_Waits_findShortestRing_8 : decode m_Waits_findShortestRing.2.1 8 = .ok (.istore 4, 2) := by decide +kernel
theorem d_Waits_findShortestRing_10 : decode m_Waits_findShortestRing.2.1 10 = .ok (.iload 4, 2) := by decide +kernel
theorem d_Waits_findShortestRing_12 : decode m_Waits_findShortestRing.2.1 12 = .ok (.bipush 16, 2) := by decide +kernel
theorem d_Waits_findShortestRing_14 : decode m_Waits_findShortestRing.2.1 14 = .ok (.if_icmp .ge 56, 3) := by decide +kernel
theorem d_Waits_findShortestRing_17 : decode m_Waits_findShortestRing.2.1 17 = .ok (.iload_n 2, 1) := by decide +kernel
theorem d_Waits_findShortestRing_18 : decode m_Waits_findShortestRing.2.1 18 = .ok (.iconst 2, 1) := by decide +kernel
theorem d_Waits_findShortestRing_19 : decode m_Waits_findShortestRing.2.1 19 = .ok (.if_icmp .eq 51, 3) := by decide +kernel
theorem d_Waits_findShortestRing_22 : decode m_Waits_findShortestRing.2.1 22 = .ok (.iload_n 3, 1) := by decide +kernel
theorem d_Waits_findShortestRing_23 : decode m_Waits_findShortestRing.2.1 23 = .ok (.iload 4, 2) := by decide +kernel
theorem d_Waits_findShortestRing_25 : decode m_Waits_findShortestRing.2.1 25 = .ok (.iushr, 1) := by decide +kernel
theorem d_Waits_findShortestRing_26 : decode m_Waits_findShortestRing.2.1 26 = .ok (.iconst 1, 1) := by decide +kernel
theorem d_Waits_findShortestRing_27 : decode m_Waits_findShortestRing.2.1 27 = .ok (.iand, 1) := by decide +kernel
theorem d_Waits_findShortestRing_28 : decode m_Waits_findShortestRing.2.1 28 = .ok (.ifCond .eq 36, 3) := by decide +kernel
theorem d_Waits_findShortestRing_31 : decode m_Waits_findShortestRing.2.1 31 = .ok (.aload_n 0, 1) := by decide +kernel
theorem d_Waits_findShortestRing_32 : decode m_Waits_findShortestRing.2.1 32 = .ok (.iload 4, 2) := by decide +kernel
theorem d_Waits_findShortestRing_34 : decode m_Waits_findShortestRing.2.1 34 = .ok (.iload_n 2, 1) := by decide +kernel
theorem d_Waits_findShortestRing_35 : decode m_Waits_findShortestRing.2.1 35 = .ok (.ifCond .ne 8, 3) := by decide +kernel
theorem d_Waits_findShortestRing_38 : decode m_Waits_findShortestRing.2.1 38 = .ok (.bipush 16, 2) := by decide +kernel
theorem d_Waits_findShortestRing_40 : decode m_Waits_findShortestRing.2.1 40 = .ok (.goto 6, 3) := by decide +kernel
theorem d_Waits_findShortestRing_43 : decode m_Waits_findShortestRing.2.1 43 = .ok (.iload_n 2, 1) := by decide +kernel
theorem d_Waits_findShortestRing_44 : decode m_Waits_findShortestRing.2.1 44 = .ok (.iconst 1, 1) := by decide +kernel
theorem d_Waits_findShortestRing_45 : decode m_Waits_findShortestRing.2.1 45 = .ok (.isub, 1) := by decide +kernel
theorem d_Waits_findShortestRing_46 : decode m_Waits_findShortestRing.2.1 46 = .ok (.iload_n 1, 1) := by decide +kernel
theorem d_Waits_findShortestRing_47 : decode m_Waits_findShortestRing.2.1 47 = .ok (.invokevirtual 63, 3) := by decide +kernel
theorem d_Waits_findShortestRing_50 : decode m_Waits_findShortestRing.2.1 50 = .ok (.istore 5, 2) := by decide +kernel
theorem d_Waits_findShortestRing_52 : decode m_Waits_findShortestRing.2.1 52 = .ok (.iload 5, 2) := by decide +kernel
theorem d_Waits_findShortestRing_54 : decode m_Waits_findShortestRing.2.1 54 = .ok (.ifCond .le 8, 3) := by decide +kernel
theorem d_Waits_findShortestRing_57 : decode m_Waits_findShortestRing.2.1 57 = .ok (.iload 5, 2) := by decide +kernel
theorem d_Waits_findShortestRing_59 : decode m_Waits_findShortestRing.2.1 59 = .ok (.goto 4, 3) := by decide +kernel
theorem d_Waits_findShortestRing_62 : decode m_Waits_findShortestRing.2.1 62 = .ok (.iload_n 2, 1) := by decide +kernel
theorem d_Waits_findShortestRing_63 : decode m_Waits_findShortestRing.2.1 63 = .ok (.istore_n 2, 1) := by decide +kernel
theorem d_Waits_findShortestRing_64 : decode m_Waits_findShortestRing.2.1 64 = .ok (.iinc 4 1, 3) := by decide +kernel
theorem d_Waits_findShortestRing_67 : decode m_Waits_findShortestRing.2.1 67 = .ok (.goto (-57), 3) := by decide +kernel
theorem d_Waits_findShortestRing_70 : decode m_Waits_findShortestRing.2.1 70 = .ok (.iload_n 2, 1) := by decide +kernel
theorem d_Waits_findShortestRing_71 : decode m_Waits_findShortestRing.2.1 71 = .ok (.ireturn, 1) := by decide +kernel
def f_Waits_findShortestRing_64 (k_10 : St → Int32 → Int32 → Int32 → Int32 → Option (Int32 × St)) (S : St) (l1 : Int32) (l2 : Int32) (l3 : Int32) (l4 : Int32) : Option (Int32 × St) :=
    (some (l4 + 1)).bind fun l4_64 =>
    k_10 S l1 l2 l3 l4_64
set_option maxHeartbeats 4000000 in
set_option maxRecDepth 20000 in
theorem t_Waits_findShortestRing_64  {k_10 : St → Int32 → Int32 → Int32 → Int32 → Option (Int32 × St)} (hk_10 : ∀ (S : St) (l1 : Int32) (l2 : Int32) (l3 : Int32) (l4 : Int32) (w : Int32 × St), k_10 S l1 l2 l3 l4 = some w → G SX m_Waits_findShortestRing 3 (some w.1) w.2 10 [(0, .ref 49), (1, .int l1), (2, .int l2), (3, .int l3), (4, .int l4)] [] S) (S : St) (l1 : Int32) (l2 : Int32) (l3 : Int32) (l4 : Int32) (w : Int32 × St) (h : f_Waits_findShortestRing_64 k_10 S l1 l2 l3 l4 = some w) : G SX m_Waits_findShortestRing 3 (some w.1) w.2 64 [(0, .ref 49), (1, .int l1), (2, .int l2), (3, .int l3), (4, .int l4)] [] S := by
  unfold f_Waits_findShortestRing_64 at h
  obtain ⟨l4_64, e_64, h⟩ := ob_s h
  refine G_iinc 1 4 [(4, .int l4_64), (0, .ref 49), (1, .int l1), (2, .int l2), (3, .int l3)] (by decide) rfl e_64 rfl (by decide) d_Waits_findShortestRing_64 ?_
  refine G_goto 10 (by decide) d_Waits_findShortestRing_67 ?_
  exact G_sub _ [1, 2, 3, 4, 0] rfl (hk_10 S l1 l2 l3 l4_64 _ h)
def f_Waits_findShortestRing_63 (k_10 : St → Int32 → Int32 → Int32 → Int32 → Option (Int32 × St)) (S : St) (l1 : Int32) (l3 : Int32) (l4 : Int32) (s0 : Int32) : Option (Int32 × St) :=
    f_Waits_findShortestRing_64 k_10 S l1 s0 l3 l4
set_option maxHeartbeats 4000000 in
set_option maxRecDepth 20000 in
theorem t_Waits_findShortestRing_63  {k_10 : St → Int32 → Int32 → Int32 → Int32 → Option (Int32 × St)} (hk_10 : ∀ (S : St) (l1 : Int32) (l2 : Int32) (l3 : Int32) (l4 : Int32) (w : Int32 × St), k_10 S l1 l2 l3 l4 = some w → G SX m_Waits_findShortestRing 3 (some w.1) w.2 10 [(0, .ref 49), (1, .int l1), (2, .int l2), (3, .int l3), (4, .int l4)] [] S) (S : St) (l1 : Int32) (l3 : Int32) (l4 : Int32) (s0 : Int32) (w : Int32 × St) (h : f_Waits_findShortestRing_63 k_10 S l1 l3 l4 s0 = some w) : G SX m_Waits_findShortestRing 3 (some w.1) w.2 63 [(0, .ref 49), (1, .int l1), (3, .int l3), (4, .int l4)] [.int s0] S := by
  unfold f_Waits_findShortestRing_63 at h
  refine G_istore_n [(2, .int s0), (0, .ref 49), (1, .int l1), (3, .int l3), (4, .int l4)] rfl rfl (by decide) d_Waits_findShortestRing_63 ?_
  exact G_sub _ [1, 2, 0, 3, 4] rfl (t_Waits_findShortestRing_64 hk_10 S l1 s0 l3 l4 _ h)
def f_Waits_findShortestRing_46 (k_10 : St → Int32 → Int32 → Int32 → Int32 → Option (Int32 × St)) (S : St) (l1 : Int32) (l2 : Int32) (l3 : Int32) (l4 : Int32) (s0 : Int32) (s1 : Int32) : Option (Int32 × St) :=
    (f_Waits_findRingOf S s1 s0 l1).bind fun w_47 =>
    (some w_47.1).bind fun l5_50 =>
    if l5_50 ≤ 0 then (
    f_Waits_findShortestRing_63 k_10 w_47.2 l1 l3 l4 l2)
    else (
    f_Waits_findShortestRing_63 k_10 w_47.2 l1 l3 l4 l5_50)
set_option maxHeartbeats 4000000 in
set_option maxRecDepth 20000 in
theorem t_Waits_findShortestRing_46  {k_10 : St → Int32 → Int32 → Int32 → Int32 → Option (Int32 × St)} (hk_10 : ∀ (S : St) (l1 : Int32) (l2 : Int32) (l3 : Int32) (l4 : Int32) (w : Int32 × St), k_10 S l1 l2 l3 l4 = some w → G SX m_Waits_findShortestRing 3 (some w.1) w.2 10 [(0, .ref 49), (1, .int l1), (2, .int l2), (3, .int l3), (4, .int l4)] [] S) (S : St) (l1 : Int32) (l2 : Int32) (l3 : Int32) (l4 : Int32) (s0 : Int32) (s1 : Int32) (w : Int32 × St) (h : f_Waits_findShortestRing_46 k_10 S l1 l2 l3 l4 s0 s1 = some w) : G SX m_Waits_findShortestRing 3 (some w.1) w.2 46 [(0, .ref 49), (1, .int l1), (2, .int l2), (3, .int l3), (4, .int l4)] [.int s0, .int s1, .ref 49] S := by
  unfold f_Waits_findShortestRing_46 at h
  refine G_iload_n 1 rfl d_Waits_findShortestRing_46 ?_
  obtain ⟨w_47, q_47, h⟩ := ob_b h
  refine G_callV [.int s1, .int s0, .int l1] [] (t_Waits_findRingOf q_47) (by decide) (by decide) mv_Waits_findRingOf rfl ml_Waits_63 kx_49 sx_49 cl_10 rfl (Nat.le_of_ble_eq_true rfl) d_Waits_findShortestRing_47 ?_
  obtain ⟨l5_50, e_50, h⟩ := ob_s h
  refine G_istore [(5, .int l5_50), (0, .ref 49), (1, .int l1), (2, .int l2), (3, .int l3), (4, .int l4)] e_50 rfl (by decide) d_Waits_findShortestRing_50 ?_
  refine G_iload 0 rfl d_Waits_findShortestRing_52 ?_
  refine G_if_le 62 (by decide) d_Waits_findShortestRing_54 (fun c_54 => ?_) (fun c_54 => ?_)
  · replace h := ob_t h c_54
    refine G_iload_n 3 rfl d_Waits_findShortestRing_62 ?_
    exact G_sub _ [1, 2, 4, 5] rfl (t_Waits_findShortestRing_63 hk_10 w_47.2 l1 l3 l4 l2 _ h)
  · replace h := ob_f h c_54
    refine G_iload 0 rfl d_Waits_findShortestRing_57 ?_
    refine G_goto 63 (by decide) d_Waits_findShortestRing_59 ?_
    exact G_sub _ [1, 2, 4, 5] rfl (t_Waits_findShortestRing_63 hk_10 w_47.2 l1 l3 l4 l5_50 _ h)
def f_Waits_findShortestRing_10 : Nat → St → Int32 → Int32 → Int32 → Int32 → Option (Int32 × St)
  | 0, _, _, _, _, _ => none
  | n + 1, S, l1, l2, l3, l4 =>
    if (16 : Int32) ≤ l4 then (
    some (l2, S))
    else (
    if l2 = 2 then (
    some (l2, S))
    else (
    if ((jushr l3 l4) &&& 1) = 0 then (
    f_Waits_findShortestRing_64 (f_Waits_findShortestRing_10 n) S l1 l2 l3 l4)
    else (
    if l2 = 0 then (
    f_Waits_findShortestRing_46 (f_Waits_findShortestRing_10 n) S l1 l2 l3 l4 (16 : Int32) l4)
    else (
    f_Waits_findShortestRing_46 (f_Waits_findShortestRing_10 n) S l1 l2 l3 l4 (l2 - 1) l4))))
set_option maxHeartbeats 4000000 in
set_option maxRecDepth 20000 in
theorem t_Waits_findShortestRing_10  : ∀ (n : Nat) (S : St) (l1 : Int32) (l2 : Int32) (l3 : Int32) (l4 : Int32) (w : Int32 × St), f_Waits_findShortestRing_10 n S l1 l2 l3 l4 = some w → G SX m_Waits_findShortestRing 3 (some w.1) w.2 10 [(0, .ref 49), (1, .int l1), (2, .int l2), (3, .int l3), (4, .int l4)] [] S := by
  intro n
  induction n with
  | zero =>
    intro S l1 l2 l3 l4 w h
    rw [f_Waits_findShortestRing_10] at h
    cases h
  | succ n ih =>
    intro S l1 l2 l3 l4 w h
    rw [f_Waits_findShortestRing_10] at h
    refine G_iload 4 rfl d_Waits_findShortestRing_10 ?_
    refine G_bipush 16 (by decide) d_Waits_findShortestRing_12 ?_
    refine G_icmp_ge 70 (by decide) d_Waits_findShortestRing_14 (fun c_14 => ?_) (fun c_14 => ?_)
    · replace h := ob_t h c_14
      refine G_iload_n 2 rfl d_Waits_findShortestRing_70 ?_
      cases h
      exact G_iret rfl d_Waits_findShortestRing_71
    · replace h := ob_f h c_14
      refine G_iload_n 2 rfl d_Waits_findShortestRing_17 ?_
      refine G_iconst 2 (by decide) d_Waits_findShortestRing_18 ?_
      refine G_icmp_eq 70 (by decide) d_Waits_findShortestRing_19 (fun c_19 => ?_) (fun c_19 => ?_)
      · replace h := ob_t h c_19
        refine G_iload_n 2 rfl d_Waits_findShortestRing_70 ?_
        cases h
        exact G_iret rfl d_Waits_findShortestRing_71
      · replace h := ob_f h c_19
        refine G_iload_n 3 rfl d_Waits_findShortestRing_22 ?_
        refine G_iload 4 rfl d_Waits_findShortestRing_23 ?_
        refine G_iushr d_Waits_findShortestRing_25 ?_
        refine G_iconst 1 (by decide) d_Waits_findShortestRing_26 ?_
        refine G_iand d_Waits_findShortestRing_27 ?_
        refine G_if_eq 64 (by decide) d_Waits_findShortestRing_28 (fun c_28 => ?_) (fun c_28 => ?_)
        · replace h := ob_t h c_28
          exact G_sub _ [0, 1, 2, 3, 4] rfl (t_Waits_findShortestRing_64 ih S l1 l2 l3 l4 _ h)
        · replace h := ob_f h c_28
          refine G_aload_n 0 rfl d_Waits_findShortestRing_31 ?_
          refine G_iload 4 rfl d_Waits_findShortestRing_32 ?_
          refine G_iload_n 2 rfl d_Waits_findShortestRing_34 ?_
          refine G_if_ne 43 (by decide) d_Waits_findShortestRing_35 (fun c_35 => ?_) (fun c_35 => ?_)
          · replace h := ob_f h c_35
            refine G_iload_n 2 rfl d_Waits_findShortestRing_43 ?_
            refine G_iconst 1 (by decide) d_Waits_findShortestRing_44 ?_
            refine G_isub d_Waits_findShortestRing_45 ?_
            exact G_sub _ [0, 1, 2, 3, 4] rfl (t_Waits_findShortestRing_46 ih S l1 l2 l3 l4 (l2 - 1) l4 _ h)
          · replace h := ob_t h c_35
            refine G_bipush 16 (by decide) d_Waits_findShortestRing_38 ?_
            refine G_goto 46 (by decide) d_Waits_findShortestRing_40 ?_
            exact G_sub _ [0, 1, 2, 3, 4] rfl (t_Waits_findShortestRing_46 ih S l1 l2 l3 l4 (16 : Int32) l4 _ h)
def f_Waits_findShortestRing (S : St) (l1 : Int32) : Option (Int32 × St) :=
    (some (0 : Int32)).bind fun l2_1 =>
    (f_Waits_forEver S).bind fun v_3 =>
    (some (0 : Int32)).bind fun l4_8 =>
    f_Waits_findShortestRing_10 FU S l1 l2_1 v_3 l4_8
set_option maxHeartbeats 4000000 in
set_option maxRecDepth 20000 in
theorem t_Waits_findShortestRing  {S : St} {l1 : Int32} {w : Int32 × St} (h : f_Waits_findShortestRing S l1 = some w) : Ct SX m_Waits_findShortestRing 3 [.ref 49, .int l1] S (some w.1) w.2 := by
  unfold f_Waits_findShortestRing at h
  refine Ct.of pn_Waits (Nat.le_of_ble_eq_true rfl) ?_
  show G SX m_Waits_findShortestRing 3 (some w.1) w.2 0 [(0, .ref 49), (1, .int l1)] [] S
  refine G_iconst 0 (by decide) d_Waits_findShortestRing_0 ?_
  obtain ⟨l2_1, e_1, h⟩ := ob_s h
  refine G_istore_n [(2, .int l2_1), (0, .ref 49), (1, .int l1)] e_1 rfl (by decide) d_Waits_findShortestRing_1 ?_
  refine G_aload_n 1 rfl d_Waits_findShortestRing_2 ?_
  obtain ⟨v_3, q_3, h⟩ := ob_b h
  refine G_callV [] [] (t_Waits_forEver q_3) (by decide) (by decide) mv_Waits_forEver rfl ml_Waits_60 kx_49 sx_49 cl_10 rfl (Nat.le_of_ble_eq_true rfl) d_Waits_findShortestRing_3 ?_
  refine G_istore_n [(3, .int v_3), (2, .int l2_1), (0, .ref 49), (1, .int l1)] rfl rfl (by decide) d_Waits_findShortestRing_6 ?_
  refine G_iconst 0 (by decide) d_Waits_findShortestRing_7 ?_
  obtain ⟨l4_8, e_8, h⟩ := ob_s h
  refine G_istore [(4, .int l4_8), (3, .int v_3), (2, .int l2_1), (0, .ref 49), (1, .int l1)] e_8 rfl (by decide) d_Waits_findShortestRing_8 ?_
  exact G_sub _ [3, 4, 2, 1, 0] rfl (t_Waits_findShortestRing_10 FU S l1 l2_1 v_3 l4_8 _ h)
theorem d_Waits_ringAt_0 : decode m_Waits_ringAt.2.1 0 = .ok (.iload_n 1, 1) := by decide +kernel
theorem d_Waits_ringAt_1 : decode m_Waits_ringAt.2.1 1 = .ok (.bipush 16, 2) := by decide +kernel
theorem d_Waits_ringAt_3 : decode m_Waits_ringAt.2.1 3 = .ok (.imul, 1) := by decide +kernel
theorem d_Waits_ringAt_4 : decode m_Waits_ringAt.2.1 4 = .ok (.iload_n 2, 1) := by decide +kernel
theorem d_Waits_ringAt_5 : decode m_Waits_ringAt.2.1 5 = .ok (.iadd, 1) := by decide +kernel
theorem d_Waits_ringAt_6 : decode m_Waits_ringAt.2.1 6 = .ok (.istore_n 3, 1) := by decide +kernel
theorem d_Waits_ringAt_7 : decode m_Waits_ringAt.2.1 7 = .ok (.iload_n 3, 1) := by decide +kernel
theorem d_Waits_ringAt_8 : decode m_Waits_ringAt.2.1 8 = .ok (.ifCond .lt 21, 3) := by decide +kernel
theorem d_Waits_ringAt_11 : decode m_Waits_ringAt.2.1 11 = .ok (.iload_n 3, 1) := by decide +kernel
theorem d_Waits_ringAt_12 : decode m_Waits_ringAt.2.1 12 = .ok (.aload_n 0, 1) := by decide +kernel
theorem d_Waits_ringAt_13 : decode m_Waits_ringAt.2.1 13 = .ok (.getfield 21, 3) := by decide +kernel
theorem d_Waits_ringAt_16 : decode m_Waits_ringAt.2.1 16 = .ok (.arraylength, 1) := by decide +kernel
theorem d_Waits_ringAt_17 : decode m_Waits_ringAt.2.1 17 = .ok (.if_icmp .ge 12, 3) := by decide +kernel
theorem d_Waits_ringAt_20 : decode m_Waits_ringAt.2.1 20 = .ok (.aload_n 0, 1) := by decide +kernel
theorem d_Waits_ringAt_21 : decode m_Waits_ringAt.2.1 21 = .ok (.getfield 21, 3) := by decide +kernel
theorem d_Waits_ringAt_24 : decode m_Waits_ringAt.2.1 24 = .ok (.iload_n 3, 1) := by decide +kernel
theorem d_Waits_ringAt_25 : decode m_Waits_ringAt.2.1 25 = .ok (.iaload, 1) := by decide +kernel
theorem d_Waits_ringAt_26 : decode m_Waits_ringAt.2.1 26 = .ok (.goto 4, 3) := by decide +kernel
theorem d_Waits_ringAt_29 : decode m_Waits_ringAt.2.1 29 = .ok (.iconst 0, 1) := by decide +kernel
theorem d_Waits_ringAt_30 : decode m_Waits_ringAt.2.1 30 = .ok (.ireturn, 1) := by decide +kernel
def f_Waits_ringAt (S : St) (l1 : Int32) (l2 : Int32) : Option (Int32) :=
    (some ((l1 * 16) + l2)).bind fun l3_6 =>
    if l3_6 < 0 then (
    some (0 : Int32))
    else (
    if (Int32.ofNat 176) ≤ l3_6 then (
    some (0 : Int32))
    else (
    if ig l3_6 176 then (
    some (S 53 l3_6.toNatClampNeg)) else none))
set_option maxHeartbeats 4000000 in
set_option maxRecDepth 20000 in
theorem t_Waits_ringAt  {S : St} {l1 : Int32} {l2 : Int32} {w : Int32} (h : f_Waits_ringAt S l1 l2 = some w) : Ct SX m_Waits_ringAt 1 [.ref 49, .int l1, .int l2] S (some w) S := by
  unfold f_Waits_ringAt at h
  refine Ct.of pn_Waits (Nat.le_of_ble_eq_true rfl) ?_
  show G SX m_Waits_ringAt 1 (some w) S 0 [(0, .ref 49), (1, .int l1), (2, .int l2)] [] S
  refine G_iload_n 1 rfl d_Waits_ringAt_0 ?_
  refine G_bipush 16 (by decide) d_Waits_ringAt_1 ?_
  refine G_imul d_Waits_ringAt_3 ?_
  refine G_iload_n 2 rfl d_Waits_ringAt_4 ?_
  refine G_iadd d_Waits_ringAt_5 ?_
  obtain ⟨l3_6, e_6, h⟩ := ob_s h
  refine G_istore_n [(3, .int l3_6), (0, .ref 49), (1, .int l1), (2, .int l2)] e_6 rfl (by decide) d_Waits_ringAt_6 ?_
  refine G_iload_n 0 rfl d_Waits_ringAt_7 ?_
  refine G_if_lt 29 (by decide) d_Waits_ringAt_8 (fun c_8 => ?_) (fun c_8 => ?_)
  · replace h := ob_t h c_8
    refine G_iconst 0 (by decide) d_Waits_ringAt_29 ?_
    cases h
    exact G_iret rfl d_Waits_ringAt_30
  · replace h := ob_f h c_8
    refine G_iload_n 0 rfl d_Waits_ringAt_11 ?_
    refine G_aload_n 1 rfl d_Waits_ringAt_12 ?_
    refine G_getR fl_Waits_21 kx_49 sx_49 rfl (by decide) d_Waits_ringAt_13 ?_
    refine G_alen kx_53 sx_53 (by decide) d_Waits_ringAt_16 ?_
    refine G_icmp_ge 29 (by decide) d_Waits_ringAt_17 (fun c_17 => ?_) (fun c_17 => ?_)
    · replace h := ob_t h c_17
      refine G_iconst 0 (by decide) d_Waits_ringAt_29 ?_
      cases h
      exact G_iret rfl d_Waits_ringAt_30
    · replace h := ob_f h c_17
      refine G_aload_n 1 rfl d_Waits_ringAt_20 ?_
      refine G_getR fl_Waits_21 kx_49 sx_49 rfl (by decide) d_Waits_ringAt_21 ?_
      refine G_iload_n 0 rfl d_Waits_ringAt_24 ?_
      obtain ⟨g_25, h⟩ := ob_g h
      refine G_iaload kx_53 sx_53 g_25 d_Waits_ringAt_25 ?_
      refine G_goto 30 (by decide) d_Waits_ringAt_26 ?_
      cases h
      exact G_iret rfl d_Waits_ringAt_30
theorem d_Waits_canEnd_0 : decode m_Waits_canEnd.2.1 0 = .ok (.aload_n 0, 1) := by decide +kernel
theorem d_Waits_canEnd_1 : decode m_Waits_canEnd.2.1 1 = .ok (.iload_n 2, 1) := by decide +kernel
theorem d_Waits_canEnd_2 : decode m_Waits_canEnd.2.1 2 = .ok (.invokevirtual 53, 3) := by decide +kernel
theorem d_Waits_canEnd_5 : decode m_Waits_canEnd.2.1 5 = .ok (.istore_n 3, 1) := by decide +kernel
theorem d_Waits_canEnd_6 : decode m_Waits_canEnd.2.1 6 = .ok (.iload_n 3, 1) := by decide +kernel
theorem d_Waits_canEnd_7 : decode m_Waits_canEnd.2.1 7 = .ok (.ifCond .ne 5, 3) := by decide +kernel
theorem d_Waits_canEnd_10 : decode m_Waits_canEnd.2.1 10 = .ok (.iconst 1, 1) := by decide +kernel
theorem d_Waits_canEnd_11 : decode m_Waits_canEnd.2.1 11 = .ok (.ireturn, 1) := by decide +kernel
theorem d_Waits_canEnd_12 : decode m_Waits_canEnd.2.1 12 = .ok (.iload_n 1, 1) := by decide +kernel
theorem d_Waits_canEnd_13 : decode m_Waits_canEnd.2.1 13 = .ok (.ifCond .le 17, 3) := by decide +kernel
theorem d_Waits_canEnd_16 : decode m_Waits_canEnd.2.1 16 = .ok (.iload_n 1, 1) := by decide +kernel
theorem d_Waits_canEnd_17 : decode m_Waits_canEnd.2.1 17 = .ok (.aload_n 0, 1) := by decide +kernel
theorem d_Waits_canEnd_18 : decode m_Waits_canEnd.2.1 18 = .ok (.invokevirtual 45, 3) := by decide +kernel
theorem d_Waits_canEnd_21 : decode m_Waits_canEnd.2.1 21 = .ok (.if_icmp .lt 9, 3) := by decide +kernel
theorem d_Waits_canEnd_24 : decode m_Waits_canEnd.2.1 24 = .ok (.iload_n 2, 1) := by decide +kernel
theorem d_Waits_canEnd_25 : decode m_Waits_canEnd.2.1 25 = .ok (.bipush 10, 2) := by decide +kernel
theorem d_Waits_canEnd_27 : decode m_Waits_canEnd.2.1 27 = .ok (.if_icmp .lt 5, 3) := by decide +kernel
theorem d_Waits_canEnd_30 : decode m_Waits_canEnd.2.1 30 = .ok (.iconst 0, 1) := by decide +kernel
theorem d_Waits_canEnd_31 : decode m_Waits_canEnd.2.1 31 = .ok (.ireturn, 1) := by decide +kernel
theorem d_Waits_canEnd_32 : decode m_Waits_canEnd.2.1 32 = .ok (.iconst 0, 1) := by decide +kernel
theorem d_Waits_canEnd_33 : decode m_Waits_canEnd.2.1 33 = .ok (.istore 4, 2) := by decide +kernel
theorem d_Waits_canEnd_35 : decode m_Waits_canEnd.2.1 35 = .ok (.iconst 0, 1) := by decide +kernel
theorem d_Waits_canEnd_36 : decode m_Waits_canEnd.2.1 36 = .ok (.istore 5, 2) := by decide +kernel
theorem d_Waits_canEnd_38 : decode m_Waits_canEnd.2.1 38 = .ok (.iconst 0, 1) := by decide +kernel
theorem d_Waits_canEnd_39 : decode m_Waits_canEnd.2.1 39 = .ok (.istore 6, 2) := by decide +kernel
theorem d_Waits_canEnd_41 : decode m_Waits_canEnd.2.1 41 = .ok (.iload 6, 2) := by decide +kernel
theorem d_Waits_canEnd_43 : decode m_Waits_canEnd.2.1 43 = .ok (.iload_n 3, 1) := by decide +kernel
theorem d_Waits_canEnd_44 : decode m_Waits_canEnd.2.1 44 = .ok (.if_icmp .ge 120, 3) := by decide +kernel
theorem d_Waits_canEnd_47 : decode m_Waits_canEnd.2.1 47 = .ok (.iload 4, 2) := by decide +kernel
theorem d_Waits_canEnd_49 : decode m_Waits_canEnd.2.1 49 = .ok (.ifCond .ne 115, 3) := by decide +kernel
theorem d_Waits_canEnd_52 : decode m_Waits_canEnd.2.1 52 = .ok (.aload_n 0, 1) := by decide +kernel
theorem d_Waits_canEnd_53 : decode m_Waits_canEnd.2.1 53 = .ok (.iload_n 2, 1) := by decide +kernel
theorem d_Waits_canEnd_54 : decode m_Waits_canEnd.2.1 54 = .ok (.iload 6, 2) := by decide +kernel
theorem d_Waits_canEnd_56 : decode m_Waits_canEnd.2.1 56 = .ok (.invokevirtual 56, 3) := by decide +kernel
theorem d_Waits_canEnd_59 : decode m_Waits_canEnd.2.1 59 = .ok (.istore 7, 2) := by decide +kernel
theorem d_Waits_canEnd_61 : decode m_Waits_canEnd.2.1 61 = .ok (.iconst 1, 1) := by decide +kernel
theorem d_Waits_canEnd_62 : decode m_Waits_canEnd.2.1 62 = .ok (.aload_n 0, 1) := by decide +kernel
theorem d_Waits_canEnd_63 : decode m_Waits_canEnd.2.1 63 = .ok (.iload_n 2, 1) := by decide +kernel
theorem d_Waits_canEnd_64 : decode m_Waits_canEnd.2.1 64 = .ok (.iload 6, 2) := by decide +kernel
theorem d_Waits_canEnd_66 : decode m_Waits_canEnd.2.1 66 = .ok (.iconst 1, 1) := by decide +kernel
theorem d_Waits_canEnd_67 : decode m_Waits_canEnd.2.1 67 = .ok (.iadd, 1) := by decide +kernel
theorem d_Waits_canEnd_68 : decode m_Waits_canEnd.2.1 68 = .ok (.iload_n 3, 1) := by decide +kernel
theorem d_Waits_canEnd_69 : decode m_Waits_canEnd.2.1 69 = .ok (.if_icmp .ge 10, 3) := by decide +kernel
theorem d_Waits_canEnd_72 : decode m_Waits_canEnd.2.1 72 = .ok (.iload 6, 2) := by decide +kernel
theorem d_Waits_canEnd_74 : decode m_Waits_canEnd.2.1 74 = .ok (.iconst 1, 1) := by decide +kernel
theorem d_Waits_canEnd_75 : decode m_Waits_canEnd.2.1 75 = .ok (.iadd, 1) := by decide +kernel
theorem d_Waits_canEnd_76 : decode m_Waits_canEnd.2.1 76 = .ok (.goto 4, 3) := by decide +kernel
theorem d_Waits_canEnd_79 : decode m_Waits_canEnd.2.1 79 = .ok (.iconst 0, 1) := by decide +kernel
theorem d_Waits_canEnd_80 : decode m_Waits_canEnd.2.1 80 = .ok (.invokevirtual 56, 3) := by decide +kernel
theorem d_Waits_canEnd_83 : decode m_Waits_canEnd.2.1 83 = .ok (.ishl, 1) := by decide +kernel
theorem d_Waits_canEnd_84 : decode m_Waits_canEnd.2.1 84 = .ok (.istore 8, 2) := by decide +kernel
theorem d_Waits_canEnd_86 : decode m_Waits_canEnd.2.1 86 = .ok (.aload_n 0, 1) := by decide +kernel
theorem d_Waits_canEnd_87 : decode m_Waits_canEnd.2.1 87 = .ok (.getfield 15, 3) := by decide +kernel
theorem d_Waits_canEnd_90 : decode m_Waits_canEnd.2.1 90 = .ok (.iload 7, 2) := by decide +kernel
theorem d_Waits_canEnd_92 : decode m_Waits_canEnd.2.1 92 = .ok (.iaload, 1) := by decide +kernel
theorem d_Waits_canEnd_93 : decode m_Waits_canEnd.2.1 93 = .ok (.iload 8, 2) := by decide +kernel
theorem d_Waits_canEnd_95 : decode m_Waits_canEnd.2.1 95 = .ok (.iand, 1) := by decide +kernel
theorem d_Waits_canEnd_96 : decode m_Waits_canEnd.2.1 96 = .ok (.ifCond .ne 62, 3) := by decide +kernel
theorem d_Waits_canEnd_99 : decode m_Waits_canEnd.2.1 99 = .ok (.aload_n 0, 1) := by decide +kernel
theorem d_Waits_canEnd_100 : decode m_Waits_canEnd.2.1 100 = .ok (.getfield 9, 3) := by decide +kernel
theorem d_Waits_canEnd_103 : decode m_Waits_canEnd.2.1 103 = .ok (.iload 7, 2) := by decide +kernel
theorem d_Waits_canEnd_105 : decode m_Waits_canEnd.2.1 105 = .ok (.dup2, 1) := by decide +kernel
theorem d_Waits_canEnd_106 : decode m_Waits_canEnd.2.1 106 = .ok (.iaload, 1) := by decide +kernel
theorem d_Waits_canEnd_107 : decode m_Waits_canEnd.2.1 107 = .ok (.iload 8, 2) := by decide +kernel
theorem d_Waits_canEnd_109 : decode m_Waits_canEnd.2.1 109 = .ok (.iconst (-1), 1) := by decide +kernel
theorem d_Waits_canEnd_110 : decode m_Waits_canEnd.2.1 110 = .ok (.ixor, 1) := by decide +kernel
theorem d_Waits_canEnd_111 : decode m_Waits_canEnd.2.1 111 = .ok (.iand, 1) := by decide +kernel
theorem d_Waits_canEnd_112 : decode m_Waits_canEnd.2.1 112 = .ok (.iastore, 1) := by decide +kernel
theorem d_Waits_canEnd_113 : decode m_Waits_canEnd.2.1 113 = .ok (.aload_n 0, 1) := by decide +kernel
theorem d_Waits_canEnd_114 : decode m_Waits_canEnd.2.1 114 = .ok (.iload_n 1, 1) := by decide +kernel
theorem d_Waits_canEnd_115 : decode m_Waits_canEnd.2.1 115 = .ok (.iconst 1, 1) := by decide +kernel
theorem d_Waits_canEnd_116 : decode m_Waits_canEnd.2.1 116 = .ok (.isub, 1) := by decide +kernel
theorem d_Waits_canEnd_117 : decode m_Waits_canEnd.2.1 117 = .ok (.iload_n 2, 1) := by decide +kernel
theorem d_Waits_canEnd_118 : decode m_Waits_canEnd.2.1 118 = .ok (.iconst 1, 1) := by decide +kernel
theorem d_Waits_canEnd_119 : decode m_Waits_canEnd.2.1 119 = .ok (.iadd, 1) := by decide +kernel
theorem d_Waits_canEnd_120 : decode m_Waits_canEnd.2.1 120 = .ok (.invokevirtual 49, 3) := by decide +kernel
theorem d_Waits_canEnd_123 : decode m_Waits_canEnd.2.1 123 = .ok (.istore 4, 2) := by decide +kernel
theorem d_Waits_canEnd_125 : decode m_Waits_canEnd.2.1 125 = .ok (.aload_n 0, 1) := by decide +kernel
theorem d_Waits_canEnd_126 : decode m_Waits_canEnd.2.1 126 = .ok (.getfield 9, 3) := by decide +kernel
theorem d_Waits_canEnd_129 : decode m_Waits_canEnd.2.1 129 = .ok (.iload 7, 2) := by decide +kernel
theorem d_Waits_canEnd_131 : decode m_Waits_canEnd.2.1 131 = .ok (.dup2, 1) := by decide +kernel
theorem d_Waits_canEnd_132 : decode m_Waits_canEnd.2.1 132 = .ok (.iaload, 1) := by decide +kernel
theorem d_Waits_canEnd_133 : decode m_Waits_canEnd.2.1 133 = .ok (.iload 8, 2) := by decide +kernel
theorem d_Waits_canEnd_135 : decode m_Waits_canEnd.2.1 135 = .ok (.ior, 1) := by decide +kernel
theorem d_Waits_canEnd_136 : decode m_Waits_canEnd.2.1 136 = .ok (.iastore, 1) := by decide +kernel
theorem d_Waits_canEnd_137 : decode m_Waits_canEnd.2.1 137 = .ok (.aload_n 0, 1) := by decide +kernel
theorem d_Waits_canEnd_138 : decode m_Waits_canEnd.2.1 138 = .ok (.getfield 15, 3) := by decide +kernel
theorem d_Waits_canEnd_141 : decode m_Waits_canEnd.2.1 141 = .ok (.iload 7, 2) := by decide +kernel
theorem d_Waits_canEnd_143 : decode m_Waits_canEnd.2.1 143 = .ok (.dup2, 1) := by decide +kernel
theorem d_Waits_canEnd_144 : decode m_Waits_canEnd.2.1 144 = .ok (.iaload, 1) := by decide +kernel
theorem d_Waits_canEnd_145 : decode m_Waits_canEnd.2.1 145 = .ok (.iload 8, 2) := by decide +kernel
theorem d_Waits_canEnd_147 : decode m_Waits_canEnd.2.1 147 = .ok (.ior, 1) := by decide +kernel
theorem d_Waits_canEnd_148 : decode m_Waits_canEnd.2.1 148 = .ok (.iastore, 1) := by decide +kernel
theorem d_Waits_canEnd_149 : decode m_Waits_canEnd.2.1 149 = .ok (.iload 5, 2) := by decide +kernel
theorem d_Waits_canEnd_151 : decode m_Waits_canEnd.2.1 151 = .ok (.iconst 1, 1) := by decide +kernel
theorem d_Waits_canEnd_152 : decode m_Waits_canEnd.2.1 152 = .ok (.iload 6, 2) := by decide +kernel
theorem d_Waits_canEnd_154 : decode m_Waits_canEnd.2.1 154 = .ok (.ishl, 1) := by decide +kernel
theorem d_Waits_canEnd_155 : decode m_Waits_canEnd.2.1 155 = .ok (.ior, 1) := by decide +kernel
theorem d_Waits_canEnd_156 : decode m_Waits_canEnd.2.1 156 = .ok (.istore 5, 2) := by decide +kernel
theorem d_Waits_canEnd_158 : decode m_Waits_canEnd.2.1 158 = .ok (.iinc 6 1, 3) := by decide +kernel
theorem d_Waits_canEnd_161 : decode m_Waits_canEnd.2.1 161 = .ok (.goto (-120), 3) := by decide +kernel
theorem d_Waits_canEnd_164 : decode m_Waits_canEnd.2.1 164 = .ok (.iconst 0, 1) := by decide +kernel
theorem d_Waits_canEnd_165 : decode m_Waits_canEnd.2.1 165 = .ok (.istore 6, 2) := by decide +kernel
theorem d_Waits_canEnd_167 : decode m_Waits_canEnd.2.1 167 = .ok (.iload 6, 2) := by decide +kernel
theorem d_Waits_canEnd_169 : decode m_Waits_canEnd.2.1 169 = .ok (.iload_n 3, 1) := by decide +kernel
theorem d_Waits_canEnd_170 : decode m_Waits_canEnd.2.1 170 = .ok (.if_icmp .ge 59, 3) := by decide +kernel
theorem d_Waits_canEnd_173 : decode m_Waits_canEnd.2.1 173 = .ok (.iload 5, 2) := by decide +kernel
theorem d_Waits_canEnd_175 : decode m_Waits_canEnd.2.1 175 = .ok (.iload 6, 2) := by decide +kernel
theorem d_Waits_canEnd_177 : decode m_Waits_canEnd.2.1 177 = .ok (.iushr, 1) := by decide +kernel
theorem d_Waits_canEnd_178 : decode m_Waits_canEnd.2.1 178 = .ok (.iconst 1, 1) := by decide +kernel
theorem d_Waits_canEnd_179 : decode m_Waits_canEnd.2.1 179 = .ok (.iand, 1) := by decide +kernel
theorem d_Waits_canEnd_180 : decode m_Waits_canEnd.2.1 180 = .ok (.ifCond .eq 43, 3) := by decide +kernel
theorem d_Waits_canEnd_183 : decode m_Waits_canEnd.2.1 183 = .ok (.aload_n 0, 1) := by decide +kernel
theorem d_Waits_canEnd_184 : decode m_Waits_canEnd.2.1 184 = .ok (.getfield 15, 3) := by decide +kernel
theorem d_Waits_canEnd_187 : decode m_Waits_canEnd.2.1 187 = .ok (.aload_n 0, 1) := by decide +kernel
theorem d_Waits_canEnd_188 : decode m_Waits_canEnd.2.1 188 = .ok (.iload_n 2, 1) := by decide +kernel
theorem d_Waits_canEnd_189 : decode m_Waits_canEnd.2.1 189 = .ok (.iload 6, 2) := by decide +kernel
theorem d_Waits_canEnd_191 : decode m_Waits_canEnd.2.1 191 = .ok (.invokevirtual 56, 3) := by decide +kernel
theorem d_Waits_canEnd_194 : decode m_Waits_canEnd.2.1 194 = .ok (.dup2, 1) := by decide +kernel
theorem d_Waits_canEnd_195 : decode m_Waits_canEnd.2.1 195 = .ok (.iaload, 1) := by decide +kernel
theorem d_Waits_canEnd_196 : decode m_Waits_canEnd.2.1 196 = .ok (.iconst 1, 1) := by decide +kernel
theorem d_Waits_canEnd_197 : decode m_Waits_canEnd.2.1 197 = .ok (.aload_n 0, 1) := by decide +kernel
theorem d_Waits_canEnd_198 : decode m_Waits_canEnd.2.1 198 = .ok (.iload_n 2, 1) := by decide +kernel
theorem d_Waits_canEnd_199 : decode m_Waits_canEnd.2.1 199 = .ok (.iload 6, 2) := by decide +kernel
theorem d_Waits_canEnd_201 : decode m_Waits_canEnd.2.1 201 = .ok (.iconst 1, 1) := by decide +kernel
theorem d_Waits_canEnd_202 : decode m_Waits_canEnd.2.1 202 = .ok (.iadd, 1) := by decide +kernel
theorem d_Waits_canEnd_203 : decode m_Waits_canEnd.2.1 203 = .ok (.iload_n 3, 1) := by decide +kernel
theorem d_Waits_canEnd_204 : decode m_Waits_canEnd.2.1 204 = .ok (.if_icmp .ge 10, 3) := by decide +kernel
theorem d_Waits_canEnd_207 : decode m_Waits_canEnd.2.1 207 = .ok (.iload 6, 2) := by decide +kernel
theorem d_Waits_canEnd_209 : decode m_Waits_canEnd.2.1 209 = .ok (.iconst 1, 1) := by decide +kernel
theorem d_Waits_canEnd_210 : decode m_Waits_canEnd.2.1 210 = .ok (.iadd, 1) := by decide +kernel
theorem d_Waits_canEnd_211 : decode m_Waits_canEnd.2.1 211 = .ok (.goto 4, 3) := by decide +kernel
theorem d_Waits_canEnd_214 : decode m_Waits_canEnd.2.1 214 = .ok (.iconst 0, 1) := by decide +kernel
theorem d_Waits_canEnd_215 : decode m_Waits_canEnd.2.1 215 = .ok (.invokevirtual 56, 3) := by decide +kernel
theorem d_Waits_canEnd_218 : decode m_Waits_canEnd.2.1 218 = .ok (.ishl, 1) := by decide +kernel
theorem d_Waits_canEnd_219 : decode m_Waits_canEnd.2.1 219 = .ok (.iconst (-1), 1) := by decide +kernel
theorem d_Waits_canEnd_220 : decode m_Waits_canEnd.2.1 220 = .ok (.ixor, 1) := by decide +kernel
theorem d_Waits_canEnd_221 : decode m_Waits_canEnd.2.1 221 = .ok (.iand, 1) := by decide +kernel
theorem d_Waits_canEnd_222 : decode m_Waits_canEnd.2.1 222 = .ok (.iastore, 1) := by decide +kernel
theorem d_Waits_canEnd_223 : decode m_Waits_canEnd.2.1 223 = .ok (.iinc 6 1, 3) := by decide +kernel
theorem d_Waits_canEnd_226 : decode m_Waits_canEnd.2.1 226 = .ok (.goto (-59), 3) := by decide +kernel
theorem d_Waits_canEnd_229 : decode m_Waits_canEnd.2.1 229 = .ok (.iload 4, 2) := by decide +kernel
theorem d_Waits_canEnd_231 : decode m_Waits_canEnd.2.1 231 = .ok (.ireturn, 1) := by decide +kernel
def f_Waits_canEnd_158 (k_Waits_canEnd : St → Int32 → Int32 → Option (Int32 × St)) (k_41 : St → Int32 → Int32 → Int32 → Int32 → Int32 → Int32 → Option (Int32 × St)) (S : St) (l1 : Int32) (l2 : Int32) (l3 : Int32) (l4 : Int32) (l5 : Int32) (l6 : Int32) : Option (Int32 × St) :=
    (some (l6 + 1)).bind fun l6_158 =>
    k_41 S l1 l2 l3 l4 l5 l6_158
set_option maxHeartbeats 4000000 in
set_option maxRecDepth 20000 in
theorem t_Waits_canEnd_158 {hh : Nat} {hh_Waits_canEnd : Nat}  {k_Waits_canEnd : St → Int32 → Int32 → Option (Int32 × St)} (hk_Waits_canEnd : ∀ (S : St) (l1 : Int32) (l2 : Int32) (w : Int32 × St), k_Waits_canEnd S l1 l2 = some w → Ct SX m_Waits_canEnd hh_Waits_canEnd [.ref 49, .int l1, .int l2] S (some w.1) w.2) (le_Waits_canEnd : hh_Waits_canEnd ≤ hh) {k_41 : St → Int32 → Int32 → Int32 → Int32 → Int32 → Int32 → Option (Int32 × St)} (hk_41 : ∀ (S : St) (l1 : Int32) (l2 : Int32) (l3 : Int32) (l4 : Int32) (l5 : Int32) (l6 : Int32) (w : Int32 × St), k_41 S l1 l2 l3 l4 l5 l6 = some w → G SX m_Waits_canEnd (hh + 4) (some w.1) w.2 41 [(0, .ref 49), (1, .int l1), (2, .int l2), (3, .int l3), (4, .int l4), (5, .int l5), (6, .int l6)] [] S) (S : St) (l1 : Int32) (l2 : Int32) (l3 : Int32) (l4 : Int32) (l5 : Int32) (l6 : Int32) (w : Int32 × St) (h : f_Waits_canEnd_158 k_Waits_canEnd k_41 S l1 l2 l3 l4 l5 l6 = some w) : G SX m_Waits_canEnd (hh + 4) (some w.1) w.2 158 [(0, .ref 49), (1, .int l1), (2, .int l2), (3, .int l3), (4, .int l4), (5, .int l5), (6, .int l6)] [] S := by
  unfold f_Waits_canEnd_158 at h
  obtain ⟨l6_158, e_158, h⟩ := ob_s h
  refine G_iinc 1 6 [(6, .int l6_158), (0, .ref 49), (1, .int l1), (2, .int l2), (3, .int l3), (4, .int l4), (5, .int l5)] (by decide) rfl e_158 rfl (by decide) d_Waits_canEnd_158 ?_
  refine G_goto 41 (by decide) d_Waits_canEnd_161 ?_
  exact G_sub _ [1, 2, 3, 4, 5, 6, 0] rfl (hk_41 S l1 l2 l3 l4 l5 l6_158 _ h)
def f_Waits_canEnd_80 (k_Waits_canEnd : St → Int32 → Int32 → Option (Int32 × St)) (k_41 : St → Int32 → Int32 → Int32 → Int32 → Int32 → Int32 → Option (Int32 × St)) (S : St) (l1 : Int32) (l2 : Int32) (l3 : Int32) (l4 : Int32) (l5 : Int32) (l6 : Int32) (l7 : Int32) (s0 : Int32) (s1 : Int32) (s3 : Int32) : Option (Int32 × St) :=
    (f_Waits_ringAt S s1 s0).bind fun v_80 =>
    (some (jshl s3 v_80)).bind fun l8_84 =>
    if ig l7 16 then (
    if ((S 51 l7.toNatClampNeg) &&& l8_84) = 0 then (
    if ig l7 16 then (
    if ig l7 16 then (
    (some (sF S 50 l7.toNatClampNeg ((S 50 l7.toNatClampNeg) &&& (l8_84 ^^^ (-1))))).bind fun S_112 =>
    (k_Waits_canEnd S_112 (l1 - 1) (l2 + 1)).bind fun w_120 =>
    (some w_120.1).bind fun l4_123 =>
    if ig l7 16 then (
    if ig l7 16 then (
    (some (sF w_120.2 50 l7.toNatClampNeg ((w_120.2 50 l7.toNatClampNeg) ||| l8_84))).bind fun S_136 =>
    if ig l7 16 then (
    if ig l7 16 then (
    (some (sF S_136 51 l7.toNatClampNeg ((S_136 51 l7.toNatClampNeg) ||| l8_84))).bind fun S_148 =>
    (some (l5 ||| (jshl 1 l6))).bind fun l5_156 =>
    f_Waits_canEnd_158 k_Waits_canEnd k_41 S_148 l1 l2 l3 l4_123 l5_156 l6) else none) else none) else none) else none) else none) else none)
    else (
    f_Waits_canEnd_158 k_Waits_canEnd k_41 S l1 l2 l3 l4 l5 l6)) else none
set_option maxHeartbeats 4000000 in
set_option maxRecDepth 20000 in
theorem t_Waits_canEnd_80 {hh : Nat} {hh_Waits_canEnd : Nat}  {k_Waits_canEnd : St → Int32 → Int32 → Option (Int32 × St)} (hk_Waits_canEnd : ∀ (S : St) (l1 : Int32) (l2 : Int32) (w : Int32 × St), k_Waits_canEnd S l1 l2 = some w → Ct SX m_Waits_canEnd hh_Waits_canEnd [.ref 49, .int l1, .int l2] S (some w.1) w.2) (le_Waits_canEnd : hh_Waits_canEnd ≤ hh) {k_41 : St → Int32 → Int32 → Int32 → Int32 → Int32 → Int32 → Option (Int32 × St)} (hk_41 : ∀ (S : St) (l1 : Int32) (l2 : Int32) (l3 : Int32) (l4 : Int32) (l5 : Int32) (l6 : Int32) (w : Int32 × St), k_41 S l1 l2 l3 l4 l5 l6 = some w → G SX m_Waits_canEnd (hh + 4) (some w.1) w.2 41 [(0, .ref 49), (1, .int l1), (2, .int l2), (3, .int l3), (4, .int l4), (5, .int l5), (6, .int l6)] [] S) (S : St) (l1 : Int32) (l2 : Int32) (l3 : Int32) (l4 : Int32) (l5 : Int32) (l6 : Int32) (l7 : Int32) (s0 : Int32) (s1 : Int32) (s3 : Int32) (w : Int32 × St) (h : f_Waits_canEnd_80 k_Waits_canEnd k_41 S l1 l2 l3 l4 l5 l6 l7 s0 s1 s3 = some w) : G SX m_Waits_canEnd (hh + 4) (some w.1) w.2 80 [(0, .ref 49), (1, .int l1), (2, .int l2), (3, .int l3), (4, .int l4), (5, .int l5), (6, .int l6), (7, .int l7)] [.int s0, .int s1, .ref 49, .int s3] S := by
  unfold f_Waits_canEnd_80 at h
  obtain ⟨v_80, q_80, h⟩ := ob_b h
  refine G_callV [.int s1, .int s0] [.int s3] (t_Waits_ringAt q_80) (by omega) (by decide) mv_Waits_ringAt rfl ml_Waits_56 kx_49 sx_49 cl_10 rfl (Nat.le_of_ble_eq_true rfl) d_Waits_canEnd_80 ?_
  refine G_ishl d_Waits_canEnd_83 ?_
  obtain ⟨l8_84, e_84, h⟩ := ob_s h
  refine G_istore [(8, .int l8_84), (0, .ref 49), (1, .int l1), (2, .int l2), (3, .int l3), (4, .int l4), (5, .int l5), (6, .int l6), (7, .int l7)] e_84 rfl (by decide) d_Waits_canEnd_84 ?_
  refine G_aload_n 1 rfl d_Waits_canEnd_86 ?_
  refine G_getR fl_Waits_15 kx_49 sx_49 rfl (by decide) d_Waits_canEnd_87 ?_
  refine G_iload 8 rfl d_Waits_canEnd_90 ?_
  obtain ⟨g_92, h⟩ := ob_g h
  refine G_iaload kx_51 sx_51 g_92 d_Waits_canEnd_92 ?_
  refine G_iload 0 rfl d_Waits_canEnd_93 ?_
  refine G_iand d_Waits_canEnd_95 ?_
  refine G_if_ne 158 (by decide) d_Waits_canEnd_96 (fun c_96 => ?_) (fun c_96 => ?_)
  · replace h := ob_f h c_96
    exact G_sub _ [1, 2, 3, 4, 5, 6, 7] rfl (t_Waits_canEnd_158 hk_Waits_canEnd le_Waits_canEnd hk_41 S l1 l2 l3 l4 l5 l6 _ h)
  · replace h := ob_t h c_96
    refine G_aload_n 1 rfl d_Waits_canEnd_99 ?_
    refine G_getR fl_Waits_9 kx_49 sx_49 rfl (by decide) d_Waits_canEnd_100 ?_
    refine G_iload 8 rfl d_Waits_canEnd_103 ?_
    refine G_dup2 rfl rfl d_Waits_canEnd_105 ?_
    obtain ⟨g_106, h⟩ := ob_g h
    refine G_iaload kx_50 sx_50 g_106 d_Waits_canEnd_106 ?_
    refine G_iload 0 rfl d_Waits_canEnd_107 ?_
    refine G_iconst (-1) (by decide) d_Waits_canEnd_109 ?_
    refine G_ixor d_Waits_canEnd_110 ?_
    refine G_iand d_Waits_canEnd_111 ?_
    obtain ⟨g_112, h⟩ := ob_g h
    obtain ⟨S_112, e_112, h⟩ := ob_s h
    refine G_iastore e_112 kx_50 sx_50 g_112 d_Waits_canEnd_112 ?_
    refine G_aload_n 1 rfl d_Waits_canEnd_113 ?_
    refine G_iload_n 2 rfl d_Waits_canEnd_114 ?_
    refine G_iconst 1 (by decide) d_Waits_canEnd_115 ?_
    refine G_isub d_Waits_canEnd_116 ?_
    refine G_iload_n 3 rfl d_Waits_canEnd_117 ?_
    refine G_iconst 1 (by decide) d_Waits_canEnd_118 ?_
    refine G_iadd d_Waits_canEnd_119 ?_
    obtain ⟨w_120, q_120, h⟩ := ob_b h
    refine G_callV [.int (l1 - 1), .int (l2 + 1)] [] (hk_Waits_canEnd _ _ _ _ q_120) (by omega) (by decide) mv_Waits_canEnd rfl ml_Waits_49 kx_49 sx_49 cl_10 rfl (Nat.le_of_ble_eq_true rfl) d_Waits_canEnd_120 ?_
    obtain ⟨l4_123, e_123, h⟩ := ob_s h
    refine G_istore [(4, .int l4_123), (8, .int l8_84), (0, .ref 49), (1, .int l1), (2, .int l2), (3, .int l3), (5, .int l5), (6, .int l6), (7, .int l7)] e_123 rfl (by decide) d_Waits_canEnd_123 ?_
    refine G_aload_n 2 rfl d_Waits_canEnd_125 ?_
    refine G_getR fl_Waits_9 kx_49 sx_49 rfl (by decide) d_Waits_canEnd_126 ?_
    refine G_iload 8 rfl d_Waits_canEnd_129 ?_
    refine G_dup2 rfl rfl d_Waits_canEnd_131 ?_
    obtain ⟨g_132, h⟩ := ob_g h
    refine G_iaload kx_50 sx_50 g_132 d_Waits_canEnd_132 ?_
    refine G_iload 1 rfl d_Waits_canEnd_133 ?_
    refine G_ior d_Waits_canEnd_135 ?_
    obtain ⟨g_136, h⟩ := ob_g h
    obtain ⟨S_136, e_136, h⟩ := ob_s h
    refine G_iastore e_136 kx_50 sx_50 g_136 d_Waits_canEnd_136 ?_
    refine G_aload_n 2 rfl d_Waits_canEnd_137 ?_
    refine G_getR fl_Waits_15 kx_49 sx_49 rfl (by decide) d_Waits_canEnd_138 ?_
    refine G_iload 8 rfl d_Waits_canEnd_141 ?_
    refine G_dup2 rfl rfl d_Waits_canEnd_143 ?_
    obtain ⟨g_144, h⟩ := ob_g h
    refine G_iaload kx_51 sx_51 g_144 d_Waits_canEnd_144 ?_
    refine G_iload 1 rfl d_Waits_canEnd_145 ?_
    refine G_ior d_Waits_canEnd_147 ?_
    obtain ⟨g_148, h⟩ := ob_g h
    obtain ⟨S_148, e_148, h⟩ := ob_s h
    refine G_iastore e_148 kx_51 sx_51 g_148 d_Waits_canEnd_148 ?_
    refine G_iload 6 rfl d_Waits_canEnd_149 ?_
    refine G_iconst 1 (by decide) d_Waits_canEnd_151 ?_
    refine G_iload 7 rfl d_Waits_canEnd_152 ?_
    refine G_ishl d_Waits_canEnd_154 ?_
    refine G_ior d_Waits_canEnd_155 ?_
    obtain ⟨l5_156, e_156, h⟩ := ob_s h
    refine G_istore [(5, .int l5_156), (4, .int l4_123), (8, .int l8_84), (0, .ref 49), (1, .int l1), (2, .int l2), (3, .int l3), (6, .int l6), (7, .int l7)] e_156 rfl (by decide) d_Waits_canEnd_156 ?_
    exact G_sub _ [3, 4, 5, 6, 1, 0, 7] rfl (t_Waits_canEnd_158 hk_Waits_canEnd le_Waits_canEnd hk_41 S_148 l1 l2 l3 l4_123 l5_156 l6 _ h)
def f_Waits_canEnd_223 (k_Waits_canEnd : St → Int32 → Int32 → Option (Int32 × St)) (k_167 : St → Int32 → Int32 → Int32 → Int32 → Int32 → Option (Int32 × St)) (S : St) (l2 : Int32) (l3 : Int32) (l4 : Int32) (l5 : Int32) (l6 : Int32) : Option (Int32 × St) :=
    (some (l6 + 1)).bind fun l6_223 =>
    k_167 S l2 l3 l4 l5 l6_223
set_option maxHeartbeats 4000000 in
set_option maxRecDepth 20000 in
theorem t_Waits_canEnd_223 {hh : Nat} {hh_Waits_canEnd : Nat}  {k_Waits_canEnd : St → Int32 → Int32 → Option (Int32 × St)} (hk_Waits_canEnd : ∀ (S : St) (l1 : Int32) (l2 : Int32) (w : Int32 × St), k_Waits_canEnd S l1 l2 = some w → Ct SX m_Waits_canEnd hh_Waits_canEnd [.ref 49, .int l1, .int l2] S (some w.1) w.2) (le_Waits_canEnd : hh_Waits_canEnd ≤ hh) {k_167 : St → Int32 → Int32 → Int32 → Int32 → Int32 → Option (Int32 × St)} (hk_167 : ∀ (S : St) (l2 : Int32) (l3 : Int32) (l4 : Int32) (l5 : Int32) (l6 : Int32) (w : Int32 × St), k_167 S l2 l3 l4 l5 l6 = some w → G SX m_Waits_canEnd (hh + 4) (some w.1) w.2 167 [(0, .ref 49), (2, .int l2), (3, .int l3), (4, .int l4), (5, .int l5), (6, .int l6)] [] S) (S : St) (l2 : Int32) (l3 : Int32) (l4 : Int32) (l5 : Int32) (l6 : Int32) (w : Int32 × St) (h : f_Waits_canEnd_223 k_Waits_canEnd k_167 S l2 l3 l4 l5 l6 = some w) : G SX m_Waits_canEnd (hh + 4) (some w.1) w.2 223 [(0, .ref 49), (2, .int l2), (3, .int l3), (4, .int l4), (5, .int l5), (6, .int l6)] [] S := by
  unfold f_Waits_canEnd_223 at h
  obtain ⟨l6_223, e_223, h⟩ := ob_s h
  refine G_iinc 1 5 [(6, .int l6_223), (0, .ref 49), (2, .int l2), (3, .int l3), (4, .int l4), (5, .int l5)] (by decide) rfl e_223 rfl (by decide) d_Waits_canEnd_223 ?_
  refine G_goto 167 (by decide) d_Waits_canEnd_226 ?_
  exact G_sub _ [1, 2, 3, 4, 5, 0] rfl (hk_167 S l2 l3 l4 l5 l6_223 _ h)
def f_Waits_canEnd_215 (k_Waits_canEnd : St → Int32 → Int32 → Option (Int32 × St)) (k_167 : St → Int32 → Int32 → Int32 → Int32 → Int32 → Option (Int32 × St)) (S : St) (l2 : Int32) (l3 : Int32) (l4 : Int32) (l5 : Int32) (l6 : Int32) (s0 : Int32) (s1 : Int32) (s3 : Int32) (s4 : Int32) (s5 : Int32) : Option (Int32 × St) :=
    (f_Waits_ringAt S s1 s0).bind fun v_215 =>
    if ig s5 16 then (
    (some (sF S 51 s5.toNatClampNeg (s4 &&& ((jshl s3 v_215) ^^^ (-1))))).bind fun S_222 =>
    f_Waits_canEnd_223 k_Waits_canEnd k_167 S_222 l2 l3 l4 l5 l6) else none
set_option maxHeartbeats 4000000 in
set_option maxRecDepth 20000 in
theorem t_Waits_canEnd_215 {hh : Nat} {hh_Waits_canEnd : Nat}  {k_Waits_canEnd : St → Int32 → Int32 → Option (Int32 × St)} (hk_Waits_canEnd : ∀ (S : St) (l1 : Int32) (l2 : Int32) (w : Int32 × St), k_Waits_canEnd S l1 l2 = some w → Ct SX m_Waits_canEnd hh_Waits_canEnd [.ref 49, .int l1, .int l2] S (some w.1) w.2) (le_Waits_canEnd : hh_Waits_canEnd ≤ hh) {k_167 : St → Int32 → Int32 → Int32 → Int32 → Int32 → Option (Int32 × St)} (hk_167 : ∀ (S : St) (l2 : Int32) (l3 : Int32) (l4 : Int32) (l5 : Int32) (l6 : Int32) (w : Int32 × St), k_167 S l2 l3 l4 l5 l6 = some w → G SX m_Waits_canEnd (hh + 4) (some w.1) w.2 167 [(0, .ref 49), (2, .int l2), (3, .int l3), (4, .int l4), (5, .int l5), (6, .int l6)] [] S) (S : St) (l2 : Int32) (l3 : Int32) (l4 : Int32) (l5 : Int32) (l6 : Int32) (s0 : Int32) (s1 : Int32) (s3 : Int32) (s4 : Int32) (s5 : Int32) (w : Int32 × St) (h : f_Waits_canEnd_215 k_Waits_canEnd k_167 S l2 l3 l4 l5 l6 s0 s1 s3 s4 s5 = some w) : G SX m_Waits_canEnd (hh + 4) (some w.1) w.2 215 [(0, .ref 49), (2, .int l2), (3, .int l3), (4, .int l4), (5, .int l5), (6, .int l6)] [.int s0, .int s1, .ref 49, .int s3, .int s4, .int s5, .ref 51] S := by
  unfold f_Waits_canEnd_215 at h
  obtain ⟨v_215, q_215, h⟩ := ob_b h
  refine G_callV [.int s1, .int s0] [.int s3, .int s4, .int s5, .ref 51] (t_Waits_ringAt q_215) (by omega) (by decide) mv_Waits_ringAt rfl ml_Waits_56 kx_49 sx_49 cl_10 rfl (Nat.le_of_ble_eq_true rfl) d_Waits_canEnd_215 ?_
  refine G_ishl d_Waits_canEnd_218 ?_
  refine G_iconst (-1) (by decide) d_Waits_canEnd_219 ?_
  refine G_ixor d_Waits_canEnd_220 ?_
  refine G_iand d_Waits_canEnd_221 ?_
  obtain ⟨g_222, h⟩ := ob_g h
  obtain ⟨S_222, e_222, h⟩ := ob_s h
  refine G_iastore e_222 kx_51 sx_51 g_222 d_Waits_canEnd_222 ?_
  exact G_sub _ [0, 1, 2, 3, 4, 5] rfl (t_Waits_canEnd_223 hk_Waits_canEnd le_Waits_canEnd hk_167 S_222 l2 l3 l4 l5 l6 _ h)
def f_Waits_canEnd_167 (k_Waits_canEnd : St → Int32 → Int32 → Option (Int32 × St)) : Nat → St → Int32 → Int32 → Int32 → Int32 → Int32 → Option (Int32 × St)
  | 0, _, _, _, _, _, _ => none
  | n + 1, S, l2, l3, l4, l5, l6 =>
    if l3 ≤ l6 then (
    if l4 = 0 ∨ l4 = 1 then (
    some (l4, S)) else none)
    else (
    if ((jushr l5 l6) &&& 1) = 0 then (
    f_Waits_canEnd_223 k_Waits_canEnd (f_Waits_canEnd_167 k_Waits_canEnd n) S l2 l3 l4 l5 l6)
    else (
    (f_Waits_ringAt S l2 l6).bind fun v_191 =>
    if ig v_191 16 then (
    if l3 ≤ (l6 + 1) then (
    f_Waits_canEnd_215 k_Waits_canEnd (f_Waits_canEnd_167 k_Waits_canEnd n) S l2 l3 l4 l5 l6 (0 : Int32) l2 (1 : Int32) (S 51 v_191.toNatClampNeg) v_191)
    else (
    f_Waits_canEnd_215 k_Waits_canEnd (f_Waits_canEnd_167 k_Waits_canEnd n) S l2 l3 l4 l5 l6 (l6 + 1) l2 (1 : Int32) (S 51 v_191.toNatClampNeg) v_191)) else none))
set_option maxHeartbeats 4000000 in
set_option maxRecDepth 20000 in
theorem t_Waits_canEnd_167 {hh : Nat} {hh_Waits_canEnd : Nat}  {k_Waits_canEnd : St → Int32 → Int32 → Option (Int32 × St)} (hk_Waits_canEnd : ∀ (S : St) (l1 : Int32) (l2 : Int32) (w : Int32 × St), k_Waits_canEnd S l1 l2 = some w → Ct SX m_Waits_canEnd hh_Waits_canEnd [.ref 49, .int l1, .int l2] S (some w.1) w.2) (le_Waits_canEnd : hh_Waits_canEnd ≤ hh) : ∀ (n : Nat) (S : St) (l2 : Int32) (l3 : Int32) (l4 : Int32) (l5 : Int32) (l6 : Int32) (w : Int32 × St), f_Waits_canEnd_167 k_Waits_canEnd n S l2 l3 l4 l5 l6 = some w → G SX m_Waits_canEnd (hh + 4) (some w.1) w.2 167 [(0, .ref 49), (2, .int l2), (3, .int l3), (4, .int l4), (5, .int l5), (6, .int l6)] [] S := by
  intro n
  induction n with
  | zero =>
    intro S l2 l3 l4 l5 l6 w h
    rw [f_Waits_canEnd_167] at h
    cases h
  | succ n ih =>
    intro S l2 l3 l4 l5 l6 w h
    rw [f_Waits_canEnd_167] at h
    refine G_iload 5 rfl d_Waits_canEnd_167 ?_
    refine G_iload_n 2 rfl d_Waits_canEnd_169 ?_
    refine G_icmp_ge 229 (by decide) d_Waits_canEnd_170 (fun c_170 => ?_) (fun c_170 => ?_)
    · replace h := ob_t h c_170
      refine G_iload 3 rfl d_Waits_canEnd_229 ?_
      obtain ⟨g_231, h⟩ := ob_g h
      cases h
      exact G_zret g_231 rfl d_Waits_canEnd_231
    · replace h := ob_f h c_170
      refine G_iload 4 rfl d_Waits_canEnd_173 ?_
      refine G_iload 5 rfl d_Waits_canEnd_175 ?_
      refine G_iushr d_Waits_canEnd_177 ?_
      refine G_iconst 1 (by decide) d_Waits_canEnd_178 ?_
      refine G_iand d_Waits_canEnd_179 ?_
      refine G_if_eq 223 (by decide) d_Waits_canEnd_180 (fun c_180 => ?_) (fun c_180 => ?_)
      · replace h := ob_t h c_180
        exact G_sub _ [0, 1, 2, 3, 4, 5] rfl (t_Waits_canEnd_223 hk_Waits_canEnd le_Waits_canEnd ih S l2 l3 l4 l5 l6 _ h)
      · replace h := ob_f h c_180
        refine G_aload_n 0 rfl d_Waits_canEnd_183 ?_
        refine G_getR fl_Waits_15 kx_49 sx_49 rfl (by decide) d_Waits_canEnd_184 ?_
        refine G_aload_n 0 rfl d_Waits_canEnd_187 ?_
        refine G_iload_n 1 rfl d_Waits_canEnd_188 ?_
        refine G_iload 5 rfl d_Waits_canEnd_189 ?_
        obtain ⟨v_191, q_191, h⟩ := ob_b h
        refine G_callV [.int l2, .int l6] [.ref 51] (t_Waits_ringAt q_191) (by omega) (by decide) mv_Waits_ringAt rfl ml_Waits_56 kx_49 sx_49 cl_10 rfl (Nat.le_of_ble_eq_true rfl) d_Waits_canEnd_191 ?_
        refine G_dup2 rfl rfl d_Waits_canEnd_194 ?_
        obtain ⟨g_195, h⟩ := ob_g h
        refine G_iaload kx_51 sx_51 g_195 d_Waits_canEnd_195 ?_
        refine G_iconst 1 (by decide) d_Waits_canEnd_196 ?_
        refine G_aload_n 0 rfl d_Waits_canEnd_197 ?_
        refine G_iload_n 1 rfl d_Waits_canEnd_198 ?_
        refine G_iload 5 rfl d_Waits_canEnd_199 ?_
        refine G_iconst 1 (by decide) d_Waits_canEnd_201 ?_
        refine G_iadd d_Waits_canEnd_202 ?_
        refine G_iload_n 2 rfl d_Waits_canEnd_203 ?_
        refine G_icmp_ge 214 (by decide) d_Waits_canEnd_204 (fun c_204 => ?_) (fun c_204 => ?_)
        · replace h := ob_t h c_204
          refine G_iconst 0 (by decide) d_Waits_canEnd_214 ?_
          exact G_sub _ [0, 1, 2, 3, 4, 5] rfl (t_Waits_canEnd_215 hk_Waits_canEnd le_Waits_canEnd ih S l2 l3 l4 l5 l6 (0 : Int32) l2 (1 : Int32) (S 51 v_191.toNatClampNeg) v_191 _ h)
        · replace h := ob_f h c_204
          refine G_iload 5 rfl d_Waits_canEnd_207 ?_
          refine G_iconst 1 (by decide) d_Waits_canEnd_209 ?_
          refine G_iadd d_Waits_canEnd_210 ?_
          refine G_goto 215 (by decide) d_Waits_canEnd_211 ?_
          exact G_sub _ [0, 1, 2, 3, 4, 5] rfl (t_Waits_canEnd_215 hk_Waits_canEnd le_Waits_canEnd ih S l2 l3 l4 l5 l6 (l6 + 1) l2 (1 : Int32) (S 51 v_191.toNatClampNeg) v_191 _ h)
def f_Waits_canEnd_164 (k_Waits_canEnd : St → Int32 → Int32 → Option (Int32 × St)) (S : St) (l2 : Int32) (l3 : Int32) (l4 : Int32) (l5 : Int32) : Option (Int32 × St) :=
    (some (0 : Int32)).bind fun l6_165 =>
    f_Waits_canEnd_167 k_Waits_canEnd FU S l2 l3 l4 l5 l6_165
set_option maxHeartbeats 4000000 in
set_option maxRecDepth 20000 in
theorem t_Waits_canEnd_164 {hh : Nat} {hh_Waits_canEnd : Nat}  {k_Waits_canEnd : St → Int32 → Int32 → Option (Int32 × St)} (hk_Waits_canEnd : ∀ (S : St) (l1 : Int32) (l2 : Int32) (w : Int32 × St), k_Waits_canEnd S l1 l2 = some w → Ct SX m_Waits_canEnd hh_Waits_canEnd [.ref 49, .int l1, .int l2] S (some w.1) w.2) (le_Waits_canEnd : hh_Waits_canEnd ≤ hh) (S : St) (l2 : Int32) (l3 : Int32) (l4 : Int32) (l5 : Int32) (w : Int32 × St) (h : f_Waits_canEnd_164 k_Waits_canEnd S l2 l3 l4 l5 = some w) : G SX m_Waits_canEnd (hh + 4) (some w.1) w.2 164 [(0, .ref 49), (2, .int l2), (3, .int l3), (4, .int l4), (5, .int l5)] [] S := by
  unfold f_Waits_canEnd_164 at h
  refine G_iconst 0 (by decide) d_Waits_canEnd_164 ?_
  obtain ⟨l6_165, e_165, h⟩ := ob_s h
  refine G_istore [(6, .int l6_165), (0, .ref 49), (2, .int l2), (3, .int l3), (4, .int l4), (5, .int l5)] e_165 rfl (by decide) d_Waits_canEnd_165 ?_
  exact G_sub _ [1, 2, 3, 4, 5, 0] rfl (t_Waits_canEnd_167 hk_Waits_canEnd le_Waits_canEnd FU S l2 l3 l4 l5 l6_165 _ h)
def f_Waits_canEnd_41 (k_Waits_canEnd : St → Int32 → Int32 → Option (Int32 × St)) : Nat → St → Int32 → Int32 → Int32 → Int32 → Int32 → Int32 → Option (Int32 × St)
  | 0, _, _, _, _, _, _, _ => none
  | n + 1, S, l1, l2, l3, l4, l5, l6 =>
    if l3 ≤ l6 then (
    f_Waits_canEnd_164 k_Waits_canEnd S l2 l3 l4 l5)
    else (
    if l4 = 0 then (
    (f_Waits_ringAt S l2 l6).bind fun v_56 =>
    if l3 ≤ (l6 + 1) then (
    f_Waits_canEnd_80 k_Waits_canEnd (f_Waits_canEnd_41 k_Waits_canEnd n) S l1 l2 l3 l4 l5 l6 v_56 (0 : Int32) l2 (1 : Int32))
    else (
    f_Waits_canEnd_80 k_Waits_canEnd (f_Waits_canEnd_41 k_Waits_canEnd n) S l1 l2 l3 l4 l5 l6 v_56 (l6 + 1) l2 (1 : Int32)))
    else (
    f_Waits_canEnd_164 k_Waits_canEnd S l2 l3 l4 l5))
set_option maxHeartbeats 4000000 in
set_option maxRecDepth 20000 in
theorem t_Waits_canEnd_41 {hh : Nat} {hh_Waits_canEnd : Nat}  {k_Waits_canEnd : St → Int32 → Int32 → Option (Int32 × St)} (hk_Waits_canEnd : ∀ (S : St) (l1 : Int32) (l2 : Int32) (w : Int32 × St), k_Waits_canEnd S l1 l2 = some w → Ct SX m_Waits_canEnd hh_Waits_canEnd [.ref 49, .int l1, .int l2] S (some w.1) w.2) (le_Waits_canEnd : hh_Waits_canEnd ≤ hh) : ∀ (n : Nat) (S : St) (l1 : Int32) (l2 : Int32) (l3 : Int32) (l4 : Int32) (l5 : Int32) (l6 : Int32) (w : Int32 × St), f_Waits_canEnd_41 k_Waits_canEnd n S l1 l2 l3 l4 l5 l6 = some w → G SX m_Waits_canEnd (hh + 4) (some w.1) w.2 41 [(0, .ref 49), (1, .int l1), (2, .int l2), (3, .int l3), (4, .int l4), (5, .int l5), (6, .int l6)] [] S := by
  intro n
  induction n with
  | zero =>
    intro S l1 l2 l3 l4 l5 l6 w h
    rw [f_Waits_canEnd_41] at h
    cases h
  | succ n ih =>
    intro S l1 l2 l3 l4 l5 l6 w h
    rw [f_Waits_canEnd_41] at h
    refine G_iload 6 rfl d_Waits_canEnd_41 ?_
    refine G_iload_n 3 rfl d_Waits_canEnd_43 ?_
    refine G_icmp_ge 164 (by decide) d_Waits_canEnd_44 (fun c_44 => ?_) (fun c_44 => ?_)
    · replace h := ob_t h c_44
      exact G_sub _ [0, 2, 3, 4, 5] rfl (t_Waits_canEnd_164 hk_Waits_canEnd le_Waits_canEnd S l2 l3 l4 l5 _ h)
    · replace h := ob_f h c_44
      refine G_iload 4 rfl d_Waits_canEnd_47 ?_
      refine G_if_ne 164 (by decide) d_Waits_canEnd_49 (fun c_49 => ?_) (fun c_49 => ?_)
      · replace h := ob_f h c_49
        exact G_sub _ [0, 2, 3, 4, 5] rfl (t_Waits_canEnd_164 hk_Waits_canEnd le_Waits_canEnd S l2 l3 l4 l5 _ h)
      · replace h := ob_t h c_49
        refine G_aload_n 0 rfl d_Waits_canEnd_52 ?_
        refine G_iload_n 2 rfl d_Waits_canEnd_53 ?_
        refine G_iload 6 rfl d_Waits_canEnd_54 ?_
        obtain ⟨v_56, q_56, h⟩ := ob_b h
        refine G_callV [.int l2, .int l6] [] (t_Waits_ringAt q_56) (by omega) (by decide) mv_Waits_ringAt rfl ml_Waits_56 kx_49 sx_49 cl_10 rfl (Nat.le_of_ble_eq_true rfl) d_Waits_canEnd_56 ?_
        refine G_istore [(7, .int v_56), (0, .ref 49), (1, .int l1), (2, .int l2), (3, .int l3), (4, .int l4), (5, .int l5), (6, .int l6)] rfl rfl (by decide) d_Waits_canEnd_59 ?_
        refine G_iconst 1 (by decide) d_Waits_canEnd_61 ?_
        refine G_aload_n 1 rfl d_Waits_canEnd_62 ?_
        refine G_iload_n 3 rfl d_Waits_canEnd_63 ?_
        refine G_iload 7 rfl d_Waits_canEnd_64 ?_
        refine G_iconst 1 (by decide) d_Waits_canEnd_66 ?_
        refine G_iadd d_Waits_canEnd_67 ?_
        refine G_iload_n 4 rfl d_Waits_canEnd_68 ?_
        refine G_icmp_ge 79 (by decide) d_Waits_canEnd_69 (fun c_69 => ?_) (fun c_69 => ?_)
        · replace h := ob_t h c_69
          refine G_iconst 0 (by decide) d_Waits_canEnd_79 ?_
          exact G_sub _ [1, 2, 3, 4, 5, 6, 7, 0] rfl (t_Waits_canEnd_80 hk_Waits_canEnd le_Waits_canEnd ih S l1 l2 l3 l4 l5 l6 v_56 (0 : Int32) l2 (1 : Int32) _ h)
        · replace h := ob_f h c_69
          refine G_iload 7 rfl d_Waits_canEnd_72 ?_
          refine G_iconst 1 (by decide) d_Waits_canEnd_74 ?_
          refine G_iadd d_Waits_canEnd_75 ?_
          refine G_goto 80 (by decide) d_Waits_canEnd_76 ?_
          exact G_sub _ [1, 2, 3, 4, 5, 6, 7, 0] rfl (t_Waits_canEnd_80 hk_Waits_canEnd le_Waits_canEnd ih S l1 l2 l3 l4 l5 l6 v_56 (l6 + 1) l2 (1 : Int32) _ h)
def f_Waits_canEnd (k_Waits_canEnd : St → Int32 → Int32 → Option (Int32 × St)) (S : St) (l1 : Int32) (l2 : Int32) : Option (Int32 × St) :=
    (f_Waits_findShortestRing S l2).bind fun w_2 =>
    (some w_2.1).bind fun l3_5 =>
    if l3_5 = 0 then (
    some (1, w_2.2))
    else (
    if l1 ≤ 0 then (
    some (0, w_2.2))
    else (
    (f_Waits_ringsOfTwo w_2.2).bind fun v_18 =>
    if l1 < v_18 then (
    some (0, w_2.2))
    else (
    if l2 < 10 then (
    (some (0 : Int32)).bind fun l4_33 =>
    (some (0 : Int32)).bind fun l5_36 =>
    (some (0 : Int32)).bind fun l6_39 =>
    f_Waits_canEnd_41 k_Waits_canEnd FU w_2.2 l1 l2 l3_5 l4_33 l5_36 l6_39)
    else (
    some (0, w_2.2)))))
set_option maxHeartbeats 4000000 in
set_option maxRecDepth 20000 in
theorem t_Waits_canEnd {hh : Nat} {hh_Waits_canEnd : Nat}  {k_Waits_canEnd : St → Int32 → Int32 → Option (Int32 × St)} (hk_Waits_canEnd : ∀ (S : St) (l1 : Int32) (l2 : Int32) (w : Int32 × St), k_Waits_canEnd S l1 l2 = some w → Ct SX m_Waits_canEnd hh_Waits_canEnd [.ref 49, .int l1, .int l2] S (some w.1) w.2) (le_Waits_canEnd : hh_Waits_canEnd ≤ hh) {S : St} {l1 : Int32} {l2 : Int32} {w : Int32 × St} (h : f_Waits_canEnd k_Waits_canEnd S l1 l2 = some w) : Ct SX m_Waits_canEnd (hh + 4) [.ref 49, .int l1, .int l2] S (some w.1) w.2 := by
  unfold f_Waits_canEnd at h
  refine Ct.of pn_Waits (Nat.le_of_ble_eq_true rfl) ?_
  show G SX m_Waits_canEnd (hh + 4) (some w.1) w.2 0 [(0, .ref 49), (1, .int l1), (2, .int l2)] [] S
  refine G_aload_n 0 rfl d_Waits_canEnd_0 ?_
  refine G_iload_n 2 rfl d_Waits_canEnd_1 ?_
  obtain ⟨w_2, q_2, h⟩ := ob_b h
  refine G_callV [.int l2] [] (t_Waits_findShortestRing q_2) (by omega) (by decide) mv_Waits_findShortestRing rfl ml_Waits_53 kx_49 sx_49 cl_10 rfl (Nat.le_of_ble_eq_true rfl) d_Waits_canEnd_2 ?_
  obtain ⟨l3_5, e_5, h⟩ := ob_s h
  refine G_istore_n [(3, .int l3_5), (0, .ref 49), (1, .int l1), (2, .int l2)] e_5 rfl (by decide) d_Waits_canEnd_5 ?_
  refine G_iload_n 0 rfl d_Waits_canEnd_6 ?_
  refine G_if_ne 12 (by decide) d_Waits_canEnd_7 (fun c_7 => ?_) (fun c_7 => ?_)
  · replace h := ob_f h c_7
    refine G_iload_n 2 rfl d_Waits_canEnd_12 ?_
    refine G_if_le 30 (by decide) d_Waits_canEnd_13 (fun c_13 => ?_) (fun c_13 => ?_)
    · replace h := ob_t h c_13
      refine G_iconst 0 (by decide) d_Waits_canEnd_30 ?_
      cases h
      exact G_zret (Or.inl rfl) rfl d_Waits_canEnd_31
    · replace h := ob_f h c_13
      refine G_iload_n 2 rfl d_Waits_canEnd_16 ?_
      refine G_aload_n 1 rfl d_Waits_canEnd_17 ?_
      obtain ⟨v_18, q_18, h⟩ := ob_b h
      refine G_callV [] [.int l1] (t_Waits_ringsOfTwo q_18) (by omega) (by decide) mv_Waits_ringsOfTwo rfl ml_Waits_45 kx_49 sx_49 cl_10 rfl (Nat.le_of_ble_eq_true rfl) d_Waits_canEnd_18 ?_
      refine G_icmp_lt 30 (by decide) d_Waits_canEnd_21 (fun c_21 => ?_) (fun c_21 => ?_)
      · replace h := ob_t h c_21
        refine G_iconst 0 (by decide) d_Waits_canEnd_30 ?_
        cases h
        exact G_zret (Or.inl rfl) rfl d_Waits_canEnd_31
      · replace h := ob_f h c_21
        refine G_iload_n 3 rfl d_Waits_canEnd_24 ?_
        refine G_bipush 10 (by decide) d_Waits_canEnd_25 ?_
        refine G_icmp_lt 32 (by decide) d_Waits_canEnd_27 (fun c_27 => ?_) (fun c_27 => ?_)
        · replace h := ob_t h c_27
          refine G_iconst 0 (by decide) d_Waits_canEnd_32 ?_
          obtain ⟨l4_33, e_33, h⟩ := ob_s h
          refine G_istore [(4, .int l4_33), (3, .int l3_5), (0, .ref 49), (1, .int l1), (2, .int l2)] e_33 rfl (by decide) d_Waits_canEnd_33 ?_
          refine G_iconst 0 (by decide) d_Waits_canEnd_35 ?_
          obtain ⟨l5_36, e_36, h⟩ := ob_s h
          refine G_istore [(5, .int l5_36), (4, .int l4_33), (3, .int l3_5), (0, .ref 49), (1, .int l1), (2, .int l2)] e_36 rfl (by decide) d_Waits_canEnd_36 ?_
          refine G_iconst 0 (by decide) d_Waits_canEnd_38 ?_
          obtain ⟨l6_39, e_39, h⟩ := ob_s h
          refine G_istore [(6, .int l6_39), (5, .int l5_36), (4, .int l4_33), (3, .int l3_5), (0, .ref 49), (1, .int l1), (2, .int l2)] e_39 rfl (by decide) d_Waits_canEnd_39 ?_
          exact G_sub _ [4, 5, 6, 3, 2, 1, 0] rfl (t_Waits_canEnd_41 hk_Waits_canEnd le_Waits_canEnd FU w_2.2 l1 l2 l3_5 l4_33 l5_36 l6_39 _ h)
        · replace h := ob_f h c_27
          refine G_iconst 0 (by decide) d_Waits_canEnd_30 ?_
          cases h
          exact G_zret (Or.inl rfl) rfl d_Waits_canEnd_31
  · replace h := ob_t h c_7
    refine G_iconst 1 (by decide) d_Waits_canEnd_10 ?_
    cases h
    exact G_zret (Or.inr rfl) rfl d_Waits_canEnd_11
def FCE : Nat → St → Int32 → Int32 → Option (Int32 × St)
  | 0 => fun _ _ _ => none
  | d + 1 => f_Waits_canEnd (FCE d)
theorem T_CE : ∀ (d : Nat) (S : St) (l1 l2 : Int32) (w : Int32 × St), FCE d S l1 l2 = some w → Ct SX m_Waits_canEnd (4 * d) [.ref 49, .int l1, .int l2] S (some w.1) w.2 := by
  intro d
  induction d with
  | zero => intro S l1 l2 w h; cases h
  | succ d ih =>
    intro S l1 l2 w h
    exact t_Waits_canEnd (hh := 4 * d) (hh_Waits_canEnd := 4 * d) (k_Waits_canEnd := FCE d) ih (Nat.le_refl _) h
def F_Waits_canEnd : St → Int32 → Int32 → Option (Int32 × St) := FCE 15
theorem T_Waits_canEnd {S : St} {l1 l2 : Int32} {w : Int32 × St} (h : F_Waits_canEnd S l1 l2 = some w) : Ct SX m_Waits_canEnd 60 [.ref 49, .int l1, .int l2] S (some w.1) w.2 := T_CE 15 S l1 l2 w h
theorem d_Waits_fewestToEnd_0 : decode m_Waits_fewestToEnd.2.1 0 = .ok (.aload_n 0, 1) := by decide +kernel
theorem d_Waits_fewestToEnd_1 : decode m_Waits_fewestToEnd.2.1 1 = .ok (.invokevirtual 45, 3) := by decide +kernel
theorem d_Waits_fewestToEnd_4 : decode m_Waits_fewestToEnd.2.1 4 = .ok (.istore_n 1, 1) := by decide +kernel
theorem d_Waits_fewestToEnd_5 : decode m_Waits_fewestToEnd.2.1 5 = .ok (.iload_n 1, 1) := by decide +kernel
theorem d_Waits_fewestToEnd_6 : decode m_Waits_fewestToEnd.2.1 6 = .ok (.bipush 10, 2) := by decide +kernel
theorem d_Waits_fewestToEnd_8 : decode m_Waits_fewestToEnd.2.1 8 = .ok (.if_icmp .ge 20, 3) := by decide +kernel
theorem d_Waits_fewestToEnd_11 : decode m_Waits_fewestToEnd.2.1 11 = .ok (.aload_n 0, 1) := by decide +kernel
theorem d_Waits_fewestToEnd_12 : decode m_Waits_fewestToEnd.2.1 12 = .ok (.iload_n 1, 1) := by decide +kernel
theorem d_Waits_fewestToEnd_13 : decode m_Waits_fewestToEnd.2.1 13 = .ok (.iconst 0, 1) := by decide +kernel
theorem d_Waits_fewestToEnd_14 : decode m_Waits_fewestToEnd.2.1 14 = .ok (.invokevirtual 49, 3) := by decide +kernel
theorem d_Waits_fewestToEnd_17 : decode m_Waits_fewestToEnd.2.1 17 = .ok (.ifCond .eq 5, 3) := by decide +kernel
theorem d_Waits_fewestToEnd_20 : decode m_Waits_fewestToEnd.2.1 20 = .ok (.iload_n 1, 1) := by decide +kernel
theorem d_Waits_fewestToEnd_21 : decode m_Waits_fewestToEnd.2.1 21 = .ok (.ireturn, 1) := by decide +kernel
theorem d_Waits_fewestToEnd_22 : decode m_Waits_fewestToEnd.2.1 22 = .ok (.iinc 1 1, 3) := by decide +kernel
theorem d_Waits_fewestToEnd_25 : decode m_Waits_fewestToEnd.2.1 25 = .ok (.goto (-20), 3) := by decide +kernel
theorem d_Waits_fewestToEnd_28 : decode m_Waits_fewestToEnd.2.1 28 = .ok (.bipush 10, 2) := by decide +kernel
theorem d_Waits_fewestToEnd_30 : decode m_Waits_fewestToEnd.2.1 30 = .ok (.ireturn, 1) := by decide +kernel
def f_Waits_fewestToEnd_5 : Nat → St → Int32 → Option (Int32 × St)
  | 0, _, _ => none
  | n + 1, S, l1 =>
    if (10 : Int32) ≤ l1 then (
    some (10, S))
    else (
    (F_Waits_canEnd S l1 (0 : Int32)).bind fun w_14 =>
    if w_14.1 = 0 then (
    (some (l1 + 1)).bind fun l1_22 =>
    f_Waits_fewestToEnd_5 n w_14.2 l1_22)
    else (
    some (l1, w_14.2)))
set_option maxHeartbeats 4000000 in
set_option maxRecDepth 20000 in
theorem t_Waits_fewestToEnd_5  : ∀ (n : Nat) (S : St) (l1 : Int32) (w : Int32 × St), f_Waits_fewestToEnd_5 n S l1 = some w → G SX m_Waits_fewestToEnd 61 (some w.1) w.2 5 [(0, .ref 49), (1, .int l1)] [] S := by
  intro n
  induction n with
  | zero =>
    intro S l1 w h
    rw [f_Waits_fewestToEnd_5] at h
    cases h
  | succ n ih =>
    intro S l1 w h
    rw [f_Waits_fewestToEnd_5] at h
    refine G_iload_n 1 rfl d_Waits_fewestToEnd_5 ?_
    refine G_bipush 10 (by decide) d_Waits_fewestToEnd_6 ?_
    refine G_icmp_ge 28 (by decide) d_Waits_fewestToEnd_8 (fun c_8 => ?_) (fun c_8 => ?_)
    · replace h := ob_t h c_8
      refine G_bipush 10 (by decide) d_Waits_fewestToEnd_28 ?_
      cases h
      exact G_iret rfl d_Waits_fewestToEnd_30
    · replace h := ob_f h c_8
      refine G_aload_n 0 rfl d_Waits_fewestToEnd_11 ?_
      refine G_iload_n 1 rfl d_Waits_fewestToEnd_12 ?_
      refine G_iconst 0 (by decide) d_Waits_fewestToEnd_13 ?_
      obtain ⟨w_14, q_14, h⟩ := ob_b h
      refine G_callV [.int l1, .int 0] [] (T_Waits_canEnd q_14) (by decide) (by decide) mv_Waits_canEnd rfl ml_Waits_49 kx_49 sx_49 cl_10 rfl (Nat.le_of_ble_eq_true rfl) d_Waits_fewestToEnd_14 ?_
      refine G_if_eq 22 (by decide) d_Waits_fewestToEnd_17 (fun c_17 => ?_) (fun c_17 => ?_)
      · replace h := ob_t h c_17
        obtain ⟨l1_22, e_22, h⟩ := ob_s h
        refine G_iinc 1 1 [(1, .int l1_22), (0, .ref 49)] (by decide) rfl e_22 rfl (by decide) d_Waits_fewestToEnd_22 ?_
        refine G_goto 5 (by decide) d_Waits_fewestToEnd_25 ?_
        exact G_sub _ [1, 0] rfl (ih w_14.2 l1_22 _ h)
      · replace h := ob_f h c_17
        refine G_iload_n 1 rfl d_Waits_fewestToEnd_20 ?_
        cases h
        exact G_iret rfl d_Waits_fewestToEnd_21
def f_Waits_fewestToEnd (S : St) : Option (Int32 × St) :=
    (f_Waits_ringsOfTwo S).bind fun v_1 =>
    f_Waits_fewestToEnd_5 FU S v_1
set_option maxHeartbeats 4000000 in
set_option maxRecDepth 20000 in
theorem t_Waits_fewestToEnd  {S : St} {w : Int32 × St} (h : f_Waits_fewestToEnd S = some w) : Ct SX m_Waits_fewestToEnd 61 [.ref 49] S (some w.1) w.2 := by
  unfold f_Waits_fewestToEnd at h
  refine Ct.of pn_Waits (Nat.le_of_ble_eq_true rfl) ?_
  show G SX m_Waits_fewestToEnd 61 (some w.1) w.2 0 [(0, .ref 49)] [] S
  refine G_aload_n 0 rfl d_Waits_fewestToEnd_0 ?_
  obtain ⟨v_1, q_1, h⟩ := ob_b h
  refine G_callV [] [] (t_Waits_ringsOfTwo q_1) (by decide) (by decide) mv_Waits_ringsOfTwo rfl ml_Waits_45 kx_49 sx_49 cl_10 rfl (Nat.le_of_ble_eq_true rfl) d_Waits_fewestToEnd_1 ?_
  refine G_istore_n [(1, .int v_1), (0, .ref 49)] rfl rfl (by decide) d_Waits_fewestToEnd_4 ?_
  exact G_sub _ [1, 0] rfl (t_Waits_fewestToEnd_5 FU S v_1 _ h)
