theorem d_W_lit_0 : decode m_W_lit.2.1 0 = .ok (.aload_n 0, 1) := by decide +kernel
theorem d_W_lit_1 : decode m_W_lit.2.1 1 = .ok (.getfield 28, 3) := by decide +kernel
theorem d_W_lit_4 : decode m_W_lit.2.1 4 = .ok (.iload_n 1, 1) := by decide +kernel
theorem d_W_lit_5 : decode m_W_lit.2.1 5 = .ok (.invokevirtual 107, 3) := by decide +kernel
theorem d_W_lit_8 : decode m_W_lit.2.1 8 = .ok (.ifCond .eq 30, 3) := by decide +kernel
theorem d_W_lit_11 : decode m_W_lit.2.1 11 = .ok (.aload_n 0, 1) := by decide +kernel
theorem d_W_lit_12 : decode m_W_lit.2.1 12 = .ok (.getfield 28, 3) := by decide +kernel
theorem d_W_lit_15 : decode m_W_lit.2.1 15 = .ok (.iload_n 1, 1) := by decide +kernel
theorem d_W_lit_16 : decode m_W_lit.2.1 16 = .ok (.invokevirtual 111, 3) := by decide +kernel
theorem d_W_lit_19 : decode m_W_lit.2.1 19 = .ok (.ifCond .ne 19, 3) := by decide +kernel
theorem d_W_lit_22 : decode m_W_lit.2.1 22 = .ok (.iload_n 2, 1) := by decide +kernel
theorem d_W_lit_23 : decode m_W_lit.2.1 23 = .ok (.ifCond .eq 17, 3) := by decide +kernel
theorem d_W_lit_26 : decode m_W_lit.2.1 26 = .ok (.aload_n 0, 1) := by decide +kernel
theorem d_W_lit_27 : decode m_W_lit.2.1 27 = .ok (.getfield 28, 3) := by decide +kernel
theorem d_W_lit_30 : decode m_W_lit.2.1 30 = .ok (.getfield 114, 3) := by decide +kernel
theorem d_W_lit_33 : decode m_W_lit.2.1 33 = .ok (.iload_n 1, 1) := by decide +kernel
theorem d_W_lit_34 : decode m_W_lit.2.1 34 = .ok (.iaload, 1) := by decide +kernel
theorem d_W_lit_35 : decode m_W_lit.2.1 35 = .ok (.ifCond .ne 5, 3) := by decide +kernel
theorem d_W_lit_38 : decode m_W_lit.2.1 38 = .ok (.iconst 0, 1) := by decide +kernel
theorem d_W_lit_39 : decode m_W_lit.2.1 39 = .ok (.ireturn, 1) := by decide +kernel
theorem d_W_lit_40 : decode m_W_lit.2.1 40 = .ok (.aload_n 0, 1) := by decide +kernel
theorem d_W_lit_41 : decode m_W_lit.2.1 41 = .ok (.getfield 28, 3) := by decide +kernel
theorem d_W_lit_44 : decode m_W_lit.2.1 44 = .ok (.iload_n 1, 1) := by decide +kernel
theorem d_W_lit_45 : decode m_W_lit.2.1 45 = .ok (.iload_n 2, 1) := by decide +kernel
theorem d_W_lit_46 : decode m_W_lit.2.1 46 = .ok (.invokevirtual 118, 3) := by decide +kernel
theorem d_W_lit_49 : decode m_W_lit.2.1 49 = .ok (.iconst 1, 1) := by decide +kernel
theorem d_W_lit_50 : decode m_W_lit.2.1 50 = .ok (.ireturn, 1) := by decide +kernel
def f_W_lit_40 (S : St) (l1 : Int32) (l2 : Int32) : Option (Int32 × St) :=
    (f_Parish_putLight S 4 l1 l2).bind fun w_46 =>
    some (1, w_46)
set_option maxHeartbeats 4000000 in
set_option maxRecDepth 20000 in
theorem t_W_lit_40  (S : St) (l1 : Int32) (l2 : Int32) (w : Int32 × St) (h : f_W_lit_40 S l1 l2 = some w) : G SX m_W_lit 2 (some w.1) w.2 40 [(0, .ref 0), (1, .int l1), (2, .int l2)] [] S := by
  unfold f_W_lit_40 at h
  refine G_aload_n 0 rfl d_W_lit_40 ?_
  refine G_getR fl_W_28 kx_0 sx_0 rfl (by decide) d_W_lit_41 ?_
  refine G_iload_n 1 rfl d_W_lit_44 ?_
  refine G_iload_n 2 rfl d_W_lit_45 ?_
  obtain ⟨w_46, q_46, h⟩ := ob_b h
  refine G_callV [.int l1, .int l2] [] (t_Parish_putLight isP_4 q_46) (by decide) (by decide) mv_Parish_putLight rfl ml_W_118 kx_4 sx_4 cl_2 rfl (Nat.le_of_ble_eq_true rfl) d_W_lit_46 ?_
  refine G_iconst 1 (by decide) d_W_lit_49 ?_
  cases h
  exact G_zret (Or.inr rfl) rfl d_W_lit_50
def f_W_lit (S : St) (l1 : Int32) (l2 : Int32) : Option (Int32 × St) :=
    (f_Parish_has S 4 l1).bind fun v_5 =>
    if v_5 = 0 then (
    some (0, S))
    else (
    (f_Parish_isDone S 4 l1).bind fun v_16 =>
    if v_16 = 0 then (
    if l2 = 0 then (
    f_W_lit_40 S l1 l2)
    else (
    if ig l1 24 then (
    if (S 7 l1.toNatClampNeg) = 0 then (
    some (0, S))
    else (
    f_W_lit_40 S l1 l2)) else none))
    else (
    some (0, S)))
set_option maxHeartbeats 4000000 in
set_option maxRecDepth 20000 in
theorem t_W_lit  {S : St} {l1 : Int32} {l2 : Int32} {w : Int32 × St} (h : f_W_lit S l1 l2 = some w) : Ct SX m_W_lit 2 [.ref 0, .int l1, .int l2] S (some w.1) w.2 := by
  unfold f_W_lit at h
  refine Ct.of pn_W (Nat.le_of_ble_eq_true rfl) ?_
  show G SX m_W_lit 2 (some w.1) w.2 0 [(0, .ref 0), (1, .int l1), (2, .int l2)] [] S
  refine G_aload_n 0 rfl d_W_lit_0 ?_
  refine G_getR fl_W_28 kx_0 sx_0 rfl (by decide) d_W_lit_1 ?_
  refine G_iload_n 1 rfl d_W_lit_4 ?_
  obtain ⟨v_5, q_5, h⟩ := ob_b h
  refine G_callV [.int l1] [] (t_Parish_has isP_4 q_5) (by decide) (by decide) mv_Parish_has rfl ml_W_107 kx_4 sx_4 cl_2 rfl (Nat.le_of_ble_eq_true rfl) d_W_lit_5 ?_
  refine G_if_eq 38 (by decide) d_W_lit_8 (fun c_8 => ?_) (fun c_8 => ?_)
  · replace h := ob_t h c_8
    refine G_iconst 0 (by decide) d_W_lit_38 ?_
    cases h
    exact G_zret (Or.inl rfl) rfl d_W_lit_39
  · replace h := ob_f h c_8
    refine G_aload_n 0 rfl d_W_lit_11 ?_
    refine G_getR fl_W_28 kx_0 sx_0 rfl (by decide) d_W_lit_12 ?_
    refine G_iload_n 1 rfl d_W_lit_15 ?_
    obtain ⟨v_16, q_16, h⟩ := ob_b h
    refine G_callV [.int l1] [] (t_Parish_isDone isP_4 q_16) (by decide) (by decide) mv_Parish_isDone rfl ml_W_111 kx_4 sx_4 cl_2 rfl (Nat.le_of_ble_eq_true rfl) d_W_lit_16 ?_
    refine G_if_ne 38 (by decide) d_W_lit_19 (fun c_19 => ?_) (fun c_19 => ?_)
    · replace h := ob_f h c_19
      refine G_iconst 0 (by decide) d_W_lit_38 ?_
      cases h
      exact G_zret (Or.inl rfl) rfl d_W_lit_39
    · replace h := ob_t h c_19
      refine G_iload_n 2 rfl d_W_lit_22 ?_
      refine G_if_eq 40 (by decide) d_W_lit_23 (fun c_23 => ?_) (fun c_23 => ?_)
      · replace h := ob_t h c_23
        exact G_sub _ [0, 1, 2] rfl (t_W_lit_40 S l1 l2 _ h)
      · replace h := ob_f h c_23
        refine G_aload_n 0 rfl d_W_lit_26 ?_
        refine G_getR fl_W_28 kx_0 sx_0 rfl (by decide) d_W_lit_27 ?_
        refine G_getR fl_W_114 kx_4 sx_4 rfl (by decide) d_W_lit_30 ?_
        refine G_iload_n 1 rfl d_W_lit_33 ?_
        obtain ⟨g_34, h⟩ := ob_g h
        refine G_iaload kx_7 sx_7 g_34 d_W_lit_34 ?_
        refine G_if_ne 40 (by decide) d_W_lit_35 (fun c_35 => ?_) (fun c_35 => ?_)
        · replace h := ob_f h c_35
          exact G_sub _ [0, 1, 2] rfl (t_W_lit_40 S l1 l2 _ h)
        · replace h := ob_t h c_35
          refine G_iconst 0 (by decide) d_W_lit_38 ?_
          cases h
          exact G_zret (Or.inl rfl) rfl d_W_lit_39
theorem d_W_feed_0 : decode m_W_feed.2.1 0 = .ok (.aload_n 0, 1) := by decide +kernel
theorem d_W_feed_1 : decode m_W_feed.2.1 1 = .ok (.getfield 10, 3) := by decide +kernel
theorem d_W_feed_4 : decode m_W_feed.2.1 4 = .ok (.invokevirtual 122, 3) := by decide +kernel
theorem d_W_feed_7 : decode m_W_feed.2.1 7 = .ok (.ifCond .ne 5, 3) := by decide +kernel
theorem d_W_feed_10 : decode m_W_feed.2.1 10 = .ok (.iconst (-1), 1) := by decide +kernel
theorem d_W_feed_11 : decode m_W_feed.2.1 11 = .ok (.ireturn, 1) := by decide +kernel
theorem d_W_feed_12 : decode m_W_feed.2.1 12 = .ok (.aload_n 0, 1) := by decide +kernel
theorem d_W_feed_13 : decode m_W_feed.2.1 13 = .ok (.getfield 10, 3) := by decide +kernel
theorem d_W_feed_16 : decode m_W_feed.2.1 16 = .ok (.iload_n 1, 1) := by decide +kernel
theorem d_W_feed_17 : decode m_W_feed.2.1 17 = .ok (.invokevirtual 126, 3) := by decide +kernel
theorem d_W_feed_20 : decode m_W_feed.2.1 20 = .ok (.aload_n 0, 1) := by decide +kernel
theorem d_W_feed_21 : decode m_W_feed.2.1 21 = .ok (.getfield 10, 3) := by decide +kernel
theorem d_W_feed_24 : decode m_W_feed.2.1 24 = .ok (.iload_n 2, 1) := by decide +kernel
theorem d_W_feed_25 : decode m_W_feed.2.1 25 = .ok (.invokevirtual 126, 3) := by decide +kernel
theorem d_W_feed_28 : decode m_W_feed.2.1 28 = .ok (.aload_n 0, 1) := by decide +kernel
theorem d_W_feed_29 : decode m_W_feed.2.1 29 = .ok (.getfield 10, 3) := by decide +kernel
theorem d_W_feed_32 : decode m_W_feed.2.1 32 = .ok (.iload_n 3, 1) := by decide +kernel
theorem d_W_feed_33 : decode m_W_feed.2.1 33 = .ok (.invokevirtual 126, 3) := by decide +kernel
theorem d_W_feed_36 : decode m_W_feed.2.1 36 = .ok (.aload_n 0, 1) := by decide +kernel
theorem d_W_feed_37 : decode m_W_feed.2.1 37 = .ok (.getfield 10, 3) := by decide +kernel
theorem d_W_feed_40 : decode m_W_feed.2.1 40 = .ok (.iload 4, 2) := by decide +kernel
theorem d_W_feed_42 : decode m_W_feed.2.1 42 = .ok (.invokevirtual 126, 3) := by decide +kernel
theorem d_W_feed_45 : decode m_W_feed.2.1 45 = .ok (.aload_n 0, 1) := by decide +kernel
theorem d_W_feed_46 : decode m_W_feed.2.1 46 = .ok (.getfield 10, 3) := by decide +kernel
theorem d_W_feed_49 : decode m_W_feed.2.1 49 = .ok (.iload 5, 2) := by decide +kernel
theorem d_W_feed_51 : decode m_W_feed.2.1 51 = .ok (.invokevirtual 126, 3) := by decide +kernel
theorem d_W_feed_54 : decode m_W_feed.2.1 54 = .ok (.aload_n 0, 1) := by decide +kernel
theorem d_W_feed_55 : decode m_W_feed.2.1 55 = .ok (.getfield 10, 3) := by decide +kernel
theorem d_W_feed_58 : decode m_W_feed.2.1 58 = .ok (.getfield 130, 3) := by decide +kernel
theorem d_W_feed_61 : decode m_W_feed.2.1 61 = .ok (.ireturn, 1) := by decide +kernel
def f_W_feed (S : St) (l1 : Int32) (l2 : Int32) (l3 : Int32) (l4 : Int32) (l5 : Int32) : Option (Int32 × St) :=
    (f_Tape_hasRoom S).bind fun v_4 =>
    if v_4 = 0 then (
    some ((-1), S))
    else (
    (f_Tape_put S l1).bind fun w_17 =>
    (f_Tape_put w_17 l2).bind fun w_25 =>
    (f_Tape_put w_25 l3).bind fun w_33 =>
    (f_Tape_put w_33 l4).bind fun w_42 =>
    (f_Tape_put w_42 l5).bind fun w_51 =>
    some ((w_51 1 2), w_51))
set_option maxHeartbeats 4000000 in
set_option maxRecDepth 20000 in
theorem t_W_feed  {S : St} {l1 : Int32} {l2 : Int32} {l3 : Int32} {l4 : Int32} {l5 : Int32} {w : Int32 × St} (h : f_W_feed S l1 l2 l3 l4 l5 = some w) : Ct SX m_W_feed 2 [.ref 0, .int l1, .int l2, .int l3, .int l4, .int l5] S (some w.1) w.2 := by
  unfold f_W_feed at h
  refine Ct.of pn_W (Nat.le_of_ble_eq_true rfl) ?_
  show G SX m_W_feed 2 (some w.1) w.2 0 [(0, .ref 0), (1, .int l1), (2, .int l2), (3, .int l3), (4, .int l4), (5, .int l5)] [] S
  refine G_aload_n 0 rfl d_W_feed_0 ?_
  refine G_getR fl_W_10 kx_0 sx_0 rfl (by decide) d_W_feed_1 ?_
  obtain ⟨v_4, q_4, h⟩ := ob_b h
  refine G_callV [] [] (t_Tape_hasRoom q_4) (by decide) (by decide) mv_Tape_hasRoom rfl ml_W_122 kx_1 sx_1 cl_8 rfl (Nat.le_of_ble_eq_true rfl) d_W_feed_4 ?_
  refine G_if_ne 12 (by decide) d_W_feed_7 (fun c_7 => ?_) (fun c_7 => ?_)
  · replace h := ob_f h c_7
    refine G_aload_n 0 rfl d_W_feed_12 ?_
    refine G_getR fl_W_10 kx_0 sx_0 rfl (by decide) d_W_feed_13 ?_
    refine G_iload_n 1 rfl d_W_feed_16 ?_
    obtain ⟨w_17, q_17, h⟩ := ob_b h
    refine G_callV [.int l1] [] (t_Tape_put q_17) (by decide) (by decide) mv_Tape_put rfl ml_W_126 kx_1 sx_1 cl_8 rfl (Nat.le_of_ble_eq_true rfl) d_W_feed_17 ?_
    refine G_aload_n 0 rfl d_W_feed_20 ?_
    refine G_getR fl_W_10 kx_0 sx_0 rfl (by decide) d_W_feed_21 ?_
    refine G_iload_n 2 rfl d_W_feed_24 ?_
    obtain ⟨w_25, q_25, h⟩ := ob_b h
    refine G_callV [.int l2] [] (t_Tape_put q_25) (by decide) (by decide) mv_Tape_put rfl ml_W_126 kx_1 sx_1 cl_8 rfl (Nat.le_of_ble_eq_true rfl) d_W_feed_25 ?_
    refine G_aload_n 0 rfl d_W_feed_28 ?_
    refine G_getR fl_W_10 kx_0 sx_0 rfl (by decide) d_W_feed_29 ?_
    refine G_iload_n 3 rfl d_W_feed_32 ?_
    obtain ⟨w_33, q_33, h⟩ := ob_b h
    refine G_callV [.int l3] [] (t_Tape_put q_33) (by decide) (by decide) mv_Tape_put rfl ml_W_126 kx_1 sx_1 cl_8 rfl (Nat.le_of_ble_eq_true rfl) d_W_feed_33 ?_
    refine G_aload_n 0 rfl d_W_feed_36 ?_
    refine G_getR fl_W_10 kx_0 sx_0 rfl (by decide) d_W_feed_37 ?_
    refine G_iload 4 rfl d_W_feed_40 ?_
    obtain ⟨w_42, q_42, h⟩ := ob_b h
    refine G_callV [.int l4] [] (t_Tape_put q_42) (by decide) (by decide) mv_Tape_put rfl ml_W_126 kx_1 sx_1 cl_8 rfl (Nat.le_of_ble_eq_true rfl) d_W_feed_42 ?_
    refine G_aload_n 0 rfl d_W_feed_45 ?_
    refine G_getR fl_W_10 kx_0 sx_0 rfl (by decide) d_W_feed_46 ?_
    refine G_iload 5 rfl d_W_feed_49 ?_
    obtain ⟨w_51, q_51, h⟩ := ob_b h
    refine G_callV [.int l5] [] (t_Tape_put q_51) (by decide) (by decide) mv_Tape_put rfl ml_W_126 kx_1 sx_1 cl_8 rfl (Nat.le_of_ble_eq_true rfl) d_W_feed_51 ?_
    refine G_aload_n 0 rfl d_W_feed_54 ?_
    refine G_getR fl_W_10 kx_0 sx_0 rfl (by decide) d_W_feed_55 ?_
    refine G_getI fl_W_130 kx_1 sx_1 rfl d_W_feed_58 ?_
    cases h
    exact G_iret rfl d_W_feed_61
  · replace h := ob_t h c_7
    refine G_iconst (-1) (by decide) d_W_feed_10 ?_
    cases h
    exact G_iret rfl d_W_feed_11
theorem d_W_law_0 : decode m_W_law.2.1 0 = .ok (.iload_n 1, 1) := by decide +kernel
theorem d_W_law_1 : decode m_W_law.2.1 1 = .ok (.iconst 1, 1) := by decide +kernel
theorem d_W_law_2 : decode m_W_law.2.1 2 = .ok (.sipush 240, 3) := by decide +kernel
theorem d_W_law_5 : decode m_W_law.2.1 5 = .ok (.invokestatic 133, 3) := by decide +kernel
theorem d_W_law_8 : decode m_W_law.2.1 8 = .ok (.ifCond .eq 14, 3) := by decide +kernel
theorem d_W_law_11 : decode m_W_law.2.1 11 = .ok (.aload_n 0, 1) := by decide +kernel
theorem d_W_law_12 : decode m_W_law.2.1 12 = .ok (.getfield 10, 3) := by decide +kernel
theorem d_W_law_15 : decode m_W_law.2.1 15 = .ok (.iload_n 1, 1) := by decide +kernel
theorem d_W_law_16 : decode m_W_law.2.1 16 = .ok (.invokevirtual 137, 3) := by decide +kernel
theorem d_W_law_19 : decode m_W_law.2.1 19 = .ok (.ifCond .ne 5, 3) := by decide +kernel
theorem d_W_law_22 : decode m_W_law.2.1 22 = .ok (.iconst (-1), 1) := by decide +kernel
theorem d_W_law_23 : decode m_W_law.2.1 23 = .ok (.ireturn, 1) := by decide +kernel
theorem d_W_law_24 : decode m_W_law.2.1 24 = .ok (.aload_n 0, 1) := by decide +kernel
theorem d_W_law_25 : decode m_W_law.2.1 25 = .ok (.getfield 54, 3) := by decide +kernel
theorem d_W_law_28 : decode m_W_law.2.1 28 = .ok (.invokevirtual 140, 3) := by decide +kernel
theorem d_W_law_31 : decode m_W_law.2.1 31 = .ok (.istore_n 2, 1) := by decide +kernel
theorem d_W_law_32 : decode m_W_law.2.1 32 = .ok (.iload_n 2, 1) := by decide +kernel
theorem d_W_law_33 : decode m_W_law.2.1 33 = .ok (.ifCond .eq 5, 3) := by decide +kernel
theorem d_W_law_36 : decode m_W_law.2.1 36 = .ok (.iload_n 2, 1) := by decide +kernel
theorem d_W_law_37 : decode m_W_law.2.1 37 = .ok (.ireturn, 1) := by decide +kernel
theorem d_W_law_38 : decode m_W_law.2.1 38 = .ok (.aload_n 0, 1) := by decide +kernel
theorem d_W_law_39 : decode m_W_law.2.1 39 = .ok (.getfield 50, 3) := by decide +kernel
theorem d_W_law_42 : decode m_W_law.2.1 42 = .ok (.aload_n 0, 1) := by decide +kernel
theorem d_W_law_43 : decode m_W_law.2.1 43 = .ok (.getfield 54, 3) := by decide +kernel
theorem d_W_law_46 : decode m_W_law.2.1 46 = .ok (.invokevirtual 144, 3) := by decide +kernel
theorem d_W_law_49 : decode m_W_law.2.1 49 = .ok (.aload_n 0, 1) := by decide +kernel
theorem d_W_law_50 : decode m_W_law.2.1 50 = .ok (.getfield 50, 3) := by decide +kernel
theorem d_W_law_53 : decode m_W_law.2.1 53 = .ok (.getfield 148, 3) := by decide +kernel
theorem d_W_law_56 : decode m_W_law.2.1 56 = .ok (.ireturn, 1) := by decide +kernel
def f_W_law (S : St) (l1 : Int32) : Option (Int32 × St) :=
    (f_W_within S l1 (1 : Int32) (240 : Int32)).bind fun v_5 =>
    if v_5 = 0 then (
    some ((-1), S))
    else (
    (f_Tape_take S l1).bind fun w_16 =>
    if w_16.1 = 0 then (
    some ((-1), w_16.2))
    else (
    (f_Law_read w_16.2).bind fun w_28 =>
    (some w_28.1).bind fun l2_31 =>
    if l2_31 = 0 then (
    (f_Law_copyFrom w_28.2).bind fun w_46 =>
    some ((w_46 25 8), w_46))
    else (
    some (l2_31, w_28.2))))
set_option maxHeartbeats 4000000 in
set_option maxRecDepth 20000 in
theorem t_W_law  {S : St} {l1 : Int32} {w : Int32 × St} (h : f_W_law S l1 = some w) : Ct SX m_W_law 142 [.ref 0, .int l1] S (some w.1) w.2 := by
  unfold f_W_law at h
  refine Ct.of pn_W (Nat.le_of_ble_eq_true rfl) ?_
  show G SX m_W_law 142 (some w.1) w.2 0 [(0, .ref 0), (1, .int l1)] [] S
  refine G_iload_n 1 rfl d_W_law_0 ?_
  refine G_iconst 1 (by decide) d_W_law_1 ?_
  refine G_sipush 240 (by decide) d_W_law_2 ?_
  obtain ⟨v_5, q_5, h⟩ := ob_b h
  refine G_callS [.int l1, .int 1, .int 240] [] (t_W_within q_5) (by decide) (by decide) mt_W_within rfl ml_W_133 rfl (Nat.le_of_ble_eq_true rfl) d_W_law_5 ?_
  refine G_if_eq 22 (by decide) d_W_law_8 (fun c_8 => ?_) (fun c_8 => ?_)
  · replace h := ob_t h c_8
    refine G_iconst (-1) (by decide) d_W_law_22 ?_
    cases h
    exact G_iret rfl d_W_law_23
  · replace h := ob_f h c_8
    refine G_aload_n 0 rfl d_W_law_11 ?_
    refine G_getR fl_W_10 kx_0 sx_0 rfl (by decide) d_W_law_12 ?_
    refine G_iload_n 1 rfl d_W_law_15 ?_
    obtain ⟨w_16, q_16, h⟩ := ob_b h
    refine G_callV [.int l1] [] (t_Tape_take q_16) (by decide) (by decide) mv_Tape_take rfl ml_W_137 kx_1 sx_1 cl_8 rfl (Nat.le_of_ble_eq_true rfl) d_W_law_16 ?_
    refine G_if_ne 24 (by decide) d_W_law_19 (fun c_19 => ?_) (fun c_19 => ?_)
    · replace h := ob_f h c_19
      refine G_aload_n 0 rfl d_W_law_24 ?_
      refine G_getR fl_W_54 kx_0 sx_0 rfl (by decide) d_W_law_25 ?_
      obtain ⟨w_28, q_28, h⟩ := ob_b h
      refine G_callV [] [] (t_Law_read q_28) (by decide) (by decide) mv_Law_read rfl ml_W_140 kx_32 sx_32 cl_1 rfl (Nat.le_of_ble_eq_true rfl) d_W_law_28 ?_
      obtain ⟨l2_31, e_31, h⟩ := ob_s h
      refine G_istore_n [(2, .int l2_31), (0, .ref 0), (1, .int l1)] e_31 rfl (by decide) d_W_law_31 ?_
      refine G_iload_n 0 rfl d_W_law_32 ?_
      refine G_if_eq 38 (by decide) d_W_law_33 (fun c_33 => ?_) (fun c_33 => ?_)
      · replace h := ob_t h c_33
        refine G_aload_n 1 rfl d_W_law_38 ?_
        refine G_getR fl_W_50 kx_0 sx_0 rfl (by decide) d_W_law_39 ?_
        refine G_aload_n 1 rfl d_W_law_42 ?_
        refine G_getR fl_W_54 kx_0 sx_0 rfl (by decide) d_W_law_43 ?_
        obtain ⟨w_46, q_46, h⟩ := ob_b h
        refine G_callV [.ref 32] [] (t_Law_copyFrom q_46) (by decide) (by decide) mv_Law_copyFrom rfl ml_W_144 kx_25 sx_25 cl_1 rfl (Nat.le_of_ble_eq_true rfl) d_W_law_46 ?_
        refine G_aload_n 1 rfl d_W_law_49 ?_
        refine G_getR fl_W_50 kx_0 sx_0 rfl (by decide) d_W_law_50 ?_
        refine G_getI fl_W_148 kx_25 sx_25 rfl d_W_law_53 ?_
        cases h
        exact G_iret rfl d_W_law_56
      · replace h := ob_f h c_33
        refine G_iload_n 0 rfl d_W_law_36 ?_
        cases h
        exact G_iret rfl d_W_law_37
    · replace h := ob_t h c_19
      refine G_iconst (-1) (by decide) d_W_law_22 ?_
      cases h
      exact G_iret rfl d_W_law_23
theorem d_W_parish_0 : decode m_W_parish.2.1 0 = .ok (.iload_n 1, 1) := by decide +kernel
theorem d_W_parish_1 : decode m_W_parish.2.1 1 = .ok (.iconst 1, 1) := by decide +kernel
theorem d_W_parish_2 : decode m_W_parish.2.1 2 = .ok (.sipush 200, 3) := by decide +kernel
theorem d_W_parish_5 : decode m_W_parish.2.1 5 = .ok (.invokestatic 133, 3) := by decide +kernel
theorem d_W_parish_8 : decode m_W_parish.2.1 8 = .ok (.ifCond .eq 14, 3) := by decide +kernel
theorem d_W_parish_11 : decode m_W_parish.2.1 11 = .ok (.aload_n 0, 1) := by decide +kernel
theorem d_W_parish_12 : decode m_W_parish.2.1 12 = .ok (.getfield 10, 3) := by decide +kernel
theorem d_W_parish_15 : decode m_W_parish.2.1 15 = .ok (.iload_n 1, 1) := by decide +kernel
theorem d_W_parish_16 : decode m_W_parish.2.1 16 = .ok (.invokevirtual 137, 3) := by decide +kernel
theorem d_W_parish_19 : decode m_W_parish.2.1 19 = .ok (.ifCond .ne 5, 3) := by decide +kernel
theorem d_W_parish_22 : decode m_W_parish.2.1 22 = .ok (.iconst (-1), 1) := by decide +kernel
theorem d_W_parish_23 : decode m_W_parish.2.1 23 = .ok (.ireturn, 1) := by decide +kernel
theorem d_W_parish_24 : decode m_W_parish.2.1 24 = .ok (.aload_n 0, 1) := by decide +kernel
theorem d_W_parish_25 : decode m_W_parish.2.1 25 = .ok (.getfield 43, 3) := by decide +kernel
theorem d_W_parish_28 : decode m_W_parish.2.1 28 = .ok (.invokevirtual 151, 3) := by decide +kernel
theorem d_W_parish_31 : decode m_W_parish.2.1 31 = .ok (.istore_n 2, 1) := by decide +kernel
theorem d_W_parish_32 : decode m_W_parish.2.1 32 = .ok (.iload_n 2, 1) := by decide +kernel
theorem d_W_parish_33 : decode m_W_parish.2.1 33 = .ok (.ifCond .eq 5, 3) := by decide +kernel
theorem d_W_parish_36 : decode m_W_parish.2.1 36 = .ok (.iload_n 2, 1) := by decide +kernel
theorem d_W_parish_37 : decode m_W_parish.2.1 37 = .ok (.ireturn, 1) := by decide +kernel
theorem d_W_parish_38 : decode m_W_parish.2.1 38 = .ok (.aload_n 0, 1) := by decide +kernel
theorem d_W_parish_39 : decode m_W_parish.2.1 39 = .ok (.getfield 28, 3) := by decide +kernel
theorem d_W_parish_42 : decode m_W_parish.2.1 42 = .ok (.aload_n 0, 1) := by decide +kernel
theorem d_W_parish_43 : decode m_W_parish.2.1 43 = .ok (.getfield 43, 3) := by decide +kernel
theorem d_W_parish_46 : decode m_W_parish.2.1 46 = .ok (.getfield 152, 3) := by decide +kernel
theorem d_W_parish_49 : decode m_W_parish.2.1 49 = .ok (.invokevirtual 155, 3) := by decide +kernel
theorem d_W_parish_52 : decode m_W_parish.2.1 52 = .ok (.aload_n 0, 1) := by decide +kernel
theorem d_W_parish_53 : decode m_W_parish.2.1 53 = .ok (.getfield 28, 3) := by decide +kernel
theorem d_W_parish_56 : decode m_W_parish.2.1 56 = .ok (.getfield 159, 3) := by decide +kernel
theorem d_W_parish_59 : decode m_W_parish.2.1 59 = .ok (.ireturn, 1) := by decide +kernel
def f_W_parish (S : St) (l1 : Int32) : Option (Int32 × St) :=
    (f_W_within S l1 (1 : Int32) (200 : Int32)).bind fun v_5 =>
    if v_5 = 0 then (
    some ((-1), S))
    else (
    (f_Tape_take S l1).bind fun w_16 =>
    if w_16.1 = 0 then (
    some ((-1), w_16.2))
    else (
    (f_ParishReader_read w_16.2).bind fun w_28 =>
    (some w_28.1).bind fun l2_31 =>
    if l2_31 = 0 then (
    (f_Parish_beginAs w_28.2 4 20).bind fun w_49 =>
    some ((w_49 4 6), w_49))
    else (
    some (l2_31, w_28.2))))
set_option maxHeartbeats 4000000 in
set_option maxRecDepth 20000 in
theorem t_W_parish  {S : St} {l1 : Int32} {w : Int32 × St} (h : f_W_parish S l1 = some w) : Ct SX m_W_parish 6 [.ref 0, .int l1] S (some w.1) w.2 := by
  unfold f_W_parish at h
  refine Ct.of pn_W (Nat.le_of_ble_eq_true rfl) ?_
  show G SX m_W_parish 6 (some w.1) w.2 0 [(0, .ref 0), (1, .int l1)] [] S
  refine G_iload_n 1 rfl d_W_parish_0 ?_
  refine G_iconst 1 (by decide) d_W_parish_1 ?_
  refine G_sipush 200 (by decide) d_W_parish_2 ?_
  obtain ⟨v_5, q_5, h⟩ := ob_b h
  refine G_callS [.int l1, .int 1, .int 200] [] (t_W_within q_5) (by decide) (by decide) mt_W_within rfl ml_W_133 rfl (Nat.le_of_ble_eq_true rfl) d_W_parish_5 ?_
  refine G_if_eq 22 (by decide) d_W_parish_8 (fun c_8 => ?_) (fun c_8 => ?_)
  · replace h := ob_t h c_8
    refine G_iconst (-1) (by decide) d_W_parish_22 ?_
    cases h
    exact G_iret rfl d_W_parish_23
  · replace h := ob_f h c_8
    refine G_aload_n 0 rfl d_W_parish_11 ?_
    refine G_getR fl_W_10 kx_0 sx_0 rfl (by decide) d_W_parish_12 ?_
    refine G_iload_n 1 rfl d_W_parish_15 ?_
    obtain ⟨w_16, q_16, h⟩ := ob_b h
    refine G_callV [.int l1] [] (t_Tape_take q_16) (by decide) (by decide) mv_Tape_take rfl ml_W_137 kx_1 sx_1 cl_8 rfl (Nat.le_of_ble_eq_true rfl) d_W_parish_16 ?_
    refine G_if_ne 24 (by decide) d_W_parish_19 (fun c_19 => ?_) (fun c_19 => ?_)
    · replace h := ob_f h c_19
      refine G_aload_n 0 rfl d_W_parish_24 ?_
      refine G_getR fl_W_43 kx_0 sx_0 rfl (by decide) d_W_parish_25 ?_
      obtain ⟨w_28, q_28, h⟩ := ob_b h
      refine G_callV [] [] (t_ParishReader_read q_28) (by decide) (by decide) mv_ParishReader_read rfl ml_W_151 kx_19 sx_19 cl_3 rfl (Nat.le_of_ble_eq_true rfl) d_W_parish_28 ?_
      obtain ⟨l2_31, e_31, h⟩ := ob_s h
      refine G_istore_n [(2, .int l2_31), (0, .ref 0), (1, .int l1)] e_31 rfl (by decide) d_W_parish_31 ?_
      refine G_iload_n 0 rfl d_W_parish_32 ?_
      refine G_if_eq 38 (by decide) d_W_parish_33 (fun c_33 => ?_) (fun c_33 => ?_)
      · replace h := ob_t h c_33
        refine G_aload_n 1 rfl d_W_parish_38 ?_
        refine G_getR fl_W_28 kx_0 sx_0 rfl (by decide) d_W_parish_39 ?_
        refine G_aload_n 1 rfl d_W_parish_42 ?_
        refine G_getR fl_W_43 kx_0 sx_0 rfl (by decide) d_W_parish_43 ?_
        refine G_getR fl_W_152 kx_19 sx_19 rfl (by decide) d_W_parish_46 ?_
        obtain ⟨w_49, q_49, h⟩ := ob_b h
        refine G_callV [.ref 20] [] (t_Parish_beginAs isP_4 isP_20 q_49) (by decide) (by decide) mv_Parish_beginAs rfl ml_W_155 kx_4 sx_4 cl_2 rfl (Nat.le_of_ble_eq_true rfl) d_W_parish_49 ?_
        refine G_aload_n 1 rfl d_W_parish_52 ?_
        refine G_getR fl_W_28 kx_0 sx_0 rfl (by decide) d_W_parish_53 ?_
        refine G_getI fl_W_159 kx_4 sx_4 rfl d_W_parish_56 ?_
        cases h
        exact G_iret rfl d_W_parish_59
      · replace h := ob_f h c_33
        refine G_iload_n 0 rfl d_W_parish_36 ?_
        cases h
        exact G_iret rfl d_W_parish_37
    · replace h := ob_t h c_19
      refine G_iconst (-1) (by decide) d_W_parish_22 ?_
      cases h
      exact G_iret rfl d_W_parish_23
theorem d_W_days_0 : decode m_W_days.2.1 0 = .ok (.iload_n 1, 1) := by decide +kernel
theorem d_W_days_1 : decode m_W_days.2.1 1 = .ok (.iconst 1, 1) := by decide +kernel
theorem d_W_days_2 : decode m_W_days.2.1 2 = .ok (.bipush 100, 2) := by decide +kernel
theorem d_W_days_4 : decode m_W_days.2.1 4 = .ok (.invokestatic 133, 3) := by decide +kernel
theorem d_W_days_7 : decode m_W_days.2.1 7 = .ok (.ifCond .ne 5, 3) := by decide +kernel
theorem d_W_days_10 : decode m_W_days.2.1 10 = .ok (.iconst (-1), 1) := by decide +kernel
theorem d_W_days_11 : decode m_W_days.2.1 11 = .ok (.ireturn, 1) := by decide +kernel
theorem d_W_days_12 : decode m_W_days.2.1 12 = .ok (.aload_n 0, 1) := by decide +kernel
theorem d_W_days_13 : decode m_W_days.2.1 13 = .ok (.getfield 67, 3) := by decide +kernel
theorem d_W_days_16 : decode m_W_days.2.1 16 = .ok (.aload_n 0, 1) := by decide +kernel
theorem d_W_days_17 : decode m_W_days.2.1 17 = .ok (.getfield 28, 3) := by decide +kernel
theorem d_W_days_20 : decode m_W_days.2.1 20 = .ok (.iload_n 1, 1) := by decide +kernel
theorem d_W_days_21 : decode m_W_days.2.1 21 = .ok (.invokevirtual 162, 3) := by decide +kernel
theorem d_W_days_24 : decode m_W_days.2.1 24 = .ok (.ireturn, 1) := by decide +kernel
def f_W_days (S : St) (l1 : Int32) : Option (Int32 × St) :=
    (f_W_within S l1 (1 : Int32) (100 : Int32)).bind fun v_4 =>
    if v_4 = 0 then (
    some ((-1), S))
    else (
    (f_Almanac_pass S 4 l1).bind fun w_21 =>
    some (w_21.1, w_21.2))
set_option maxHeartbeats 4000000 in
set_option maxRecDepth 20000 in
theorem t_W_days  {S : St} {l1 : Int32} {w : Int32 × St} (h : f_W_days S l1 = some w) : Ct SX m_W_days 8 [.ref 0, .int l1] S (some w.1) w.2 := by
  unfold f_W_days at h
  refine Ct.of pn_W (Nat.le_of_ble_eq_true rfl) ?_
  show G SX m_W_days 8 (some w.1) w.2 0 [(0, .ref 0), (1, .int l1)] [] S
  refine G_iload_n 1 rfl d_W_days_0 ?_
  refine G_iconst 1 (by decide) d_W_days_1 ?_
  refine G_bipush 100 (by decide) d_W_days_2 ?_
  obtain ⟨v_4, q_4, h⟩ := ob_b h
  refine G_callS [.int l1, .int 1, .int 100] [] (t_W_within q_4) (by decide) (by decide) mt_W_within rfl ml_W_133 rfl (Nat.le_of_ble_eq_true rfl) d_W_days_4 ?_
  refine G_if_ne 12 (by decide) d_W_days_7 (fun c_7 => ?_) (fun c_7 => ?_)
  · replace h := ob_f h c_7
    refine G_aload_n 0 rfl d_W_days_12 ?_
    refine G_getR fl_W_67 kx_0 sx_0 rfl (by decide) d_W_days_13 ?_
    refine G_aload_n 0 rfl d_W_days_16 ?_
    refine G_getR fl_W_28 kx_0 sx_0 rfl (by decide) d_W_days_17 ?_
    refine G_iload_n 1 rfl d_W_days_20 ?_
    obtain ⟨w_21, q_21, h⟩ := ob_b h
    refine G_callV [.ref 4, .int l1] [] (t_Almanac_pass isP_4 q_21) (by decide) (by decide) mv_Almanac_pass rfl ml_W_162 kx_39 sx_39 cl_0 rfl (Nat.le_of_ble_eq_true rfl) d_W_days_21 ?_
    cases h
    exact G_iret rfl d_W_days_24
  · replace h := ob_t h c_7
    refine G_iconst (-1) (by decide) d_W_days_10 ?_
    cases h
    exact G_iret rfl d_W_days_11
theorem d_W_tried_0 : decode m_W_tried.2.1 0 = .ok (.iload_n 2, 1) := by decide +kernel
theorem d_W_tried_1 : decode m_W_tried.2.1 1 = .ok (.iconst 0, 1) := by decide +kernel
theorem d_W_tried_2 : decode m_W_tried.2.1 2 = .ok (.iconst 3, 1) := by decide +kernel
theorem d_W_tried_3 : decode m_W_tried.2.1 3 = .ok (.invokestatic 133, 3) := by decide +kernel
theorem d_W_tried_6 : decode m_W_tried.2.1 6 = .ok (.istore_n 3, 1) := by decide +kernel
theorem d_W_tried_7 : decode m_W_tried.2.1 7 = .ok (.aload_n 0, 1) := by decide +kernel
theorem d_W_tried_8 : decode m_W_tried.2.1 8 = .ok (.getfield 28, 3) := by decide +kernel
theorem d_W_tried_11 : decode m_W_tried.2.1 11 = .ok (.iload_n 2, 1) := by decide +kernel
theorem d_W_tried_12 : decode m_W_tried.2.1 12 = .ok (.bipush 10, 2) := by decide +kernel
theorem d_W_tried_14 : decode m_W_tried.2.1 14 = .ok (.isub, 1) := by decide +kernel
theorem d_W_tried_15 : decode m_W_tried.2.1 15 = .ok (.invokevirtual 107, 3) := by decide +kernel
theorem d_W_tried_18 : decode m_W_tried.2.1 18 = .ok (.istore 4, 2) := by decide +kernel
theorem d_W_tried_20 : decode m_W_tried.2.1 20 = .ok (.aload_n 0, 1) := by decide +kernel
theorem d_W_tried_21 : decode m_W_tried.2.1 21 = .ok (.getfield 28, 3) := by decide +kernel
theorem d_W_tried_24 : decode m_W_tried.2.1 24 = .ok (.iload_n 2, 1) := by decide +kernel
theorem d_W_tried_25 : decode m_W_tried.2.1 25 = .ok (.bipush 40, 2) := by decide +kernel
theorem d_W_tried_27 : decode m_W_tried.2.1 27 = .ok (.isub, 1) := by decide +kernel
theorem d_W_tried_28 : decode m_W_tried.2.1 28 = .ok (.invokevirtual 107, 3) := by decide +kernel
theorem d_W_tried_31 : decode m_W_tried.2.1 31 = .ok (.istore 5, 2) := by decide +kernel
theorem d_W_tried_33 : decode m_W_tried.2.1 33 = .ok (.iload_n 1, 1) := by decide +kernel
theorem d_W_tried_34 : decode m_W_tried.2.1 34 = .ok (.iconst 1, 1) := by decide +kernel
theorem d_W_tried_35 : decode m_W_tried.2.1 35 = .ok (.bipush 100, 2) := by decide +kernel
theorem d_W_tried_37 : decode m_W_tried.2.1 37 = .ok (.invokestatic 133, 3) := by decide +kernel
theorem d_W_tried_40 : decode m_W_tried.2.1 40 = .ok (.ifCond .eq 17, 3) := by decide +kernel
theorem d_W_tried_43 : decode m_W_tried.2.1 43 = .ok (.iload_n 3, 1) := by decide +kernel
theorem d_W_tried_44 : decode m_W_tried.2.1 44 = .ok (.ifCond .ne 15, 3) := by decide +kernel
theorem d_W_tried_47 : decode m_W_tried.2.1 47 = .ok (.iload 4, 2) := by decide +kernel
theorem d_W_tried_49 : decode m_W_tried.2.1 49 = .ok (.ifCond .ne 10, 3) := by decide +kernel
theorem d_W_tried_52 : decode m_W_tried.2.1 52 = .ok (.iload 5, 2) := by decide +kernel
theorem d_W_tried_54 : decode m_W_tried.2.1 54 = .ok (.ifCond .ne 5, 3) := by decide +kernel
theorem d_W_tried_57 : decode m_W_tried.2.1 57 = .ok (.iconst (-1), 1) := by decide +kernel
theorem d_W_tried_58 : decode m_W_tried.2.1 58 = .ok (.ireturn, 1) := by decide +kernel
theorem d_W_tried_59 : decode m_W_tried.2.1 59 = .ok (.aload_n 0, 1) := by decide +kernel
theorem d_W_tried_60 : decode m_W_tried.2.1 60 = .ok (.getfield 35, 3) := by decide +kernel
theorem d_W_tried_63 : decode m_W_tried.2.1 63 = .ok (.aload_n 0, 1) := by decide +kernel
theorem d_W_tried_64 : decode m_W_tried.2.1 64 = .ok (.getfield 28, 3) := by decide +kernel
theorem d_W_tried_67 : decode m_W_tried.2.1 67 = .ok (.invokevirtual 166, 3) := by decide +kernel
theorem d_W_tried_70 : decode m_W_tried.2.1 70 = .ok (.aload_n 0, 1) := by decide +kernel
theorem d_W_tried_71 : decode m_W_tried.2.1 71 = .ok (.getfield 67, 3) := by decide +kernel
theorem d_W_tried_74 : decode m_W_tried.2.1 74 = .ok (.aload_n 0, 1) := by decide +kernel
theorem d_W_tried_75 : decode m_W_tried.2.1 75 = .ok (.getfield 35, 3) := by decide +kernel
theorem d_W_tried_78 : decode m_W_tried.2.1 78 = .ok (.iload_n 1, 1) := by decide +kernel
theorem d_W_tried_79 : decode m_W_tried.2.1 79 = .ok (.invokevirtual 162, 3) := by decide +kernel
theorem d_W_tried_82 : decode m_W_tried.2.1 82 = .ok (.istore 6, 2) := by decide +kernel
theorem d_W_tried_84 : decode m_W_tried.2.1 84 = .ok (.iload 4, 2) := by decide +kernel
theorem d_W_tried_86 : decode m_W_tried.2.1 86 = .ok (.ifCond .eq 16, 3) := by decide +kernel
theorem d_W_tried_89 : decode m_W_tried.2.1 89 = .ok (.aload_n 0, 1) := by decide +kernel
theorem d_W_tried_90 : decode m_W_tried.2.1 90 = .ok (.getfield 35, 3) := by decide +kernel
theorem d_W_tried_93 : decode m_W_tried.2.1 93 = .ok (.getfield 114, 3) := by decide +kernel
theorem d_W_tried_96 : decode m_W_tried.2.1 96 = .ok (.iload_n 2, 1) := by decide +kernel
theorem d_W_tried_97 : decode m_W_tried.2.1 97 = .ok (.bipush 10, 2) := by decide +kernel
theorem d_W_tried_99 : decode m_W_tried.2.1 99 = .ok (.isub, 1) := by decide +kernel
theorem d_W_tried_100 : decode m_W_tried.2.1 100 = .ok (.iaload, 1) := by decide +kernel
theorem d_W_tried_101 : decode m_W_tried.2.1 101 = .ok (.ireturn, 1) := by decide +kernel
theorem d_W_tried_102 : decode m_W_tried.2.1 102 = .ok (.iload 5, 2) := by decide +kernel
theorem d_W_tried_104 : decode m_W_tried.2.1 104 = .ok (.ifCond .eq 16, 3) := by decide +kernel
theorem d_W_tried_107 : decode m_W_tried.2.1 107 = .ok (.aload_n 0, 1) := by decide +kernel
theorem d_W_tried_108 : decode m_W_tried.2.1 108 = .ok (.getfield 35, 3) := by decide +kernel
theorem d_W_tried_111 : decode m_W_tried.2.1 111 = .ok (.getfield 168, 3) := by decide +kernel
theorem d_W_tried_114 : decode m_W_tried.2.1 114 = .ok (.iload_n 2, 1) := by decide +kernel
theorem d_W_tried_115 : decode m_W_tried.2.1 115 = .ok (.bipush 40, 2) := by decide +kernel
theorem d_W_tried_117 : decode m_W_tried.2.1 117 = .ok (.isub, 1) := by decide +kernel
theorem d_W_tried_118 : decode m_W_tried.2.1 118 = .ok (.iaload, 1) := by decide +kernel
theorem d_W_tried_119 : decode m_W_tried.2.1 119 = .ok (.ireturn, 1) := by decide +kernel
theorem d_W_tried_120 : decode m_W_tried.2.1 120 = .ok (.iload_n 2, 1) := by decide +kernel
theorem d_W_tried_121 : decode m_W_tried.2.1 121 = .ok (.tableswitch 46 0 2 #[27, 30, 38], 27) := by decide +kernel
theorem d_W_tried_148 : decode m_W_tried.2.1 148 = .ok (.iload 6, 2) := by decide +kernel
theorem d_W_tried_150 : decode m_W_tried.2.1 150 = .ok (.ireturn, 1) := by decide +kernel
theorem d_W_tried_151 : decode m_W_tried.2.1 151 = .ok (.aload_n 0, 1) := by decide +kernel
theorem d_W_tried_152 : decode m_W_tried.2.1 152 = .ok (.getfield 35, 3) := by decide +kernel
theorem d_W_tried_155 : decode m_W_tried.2.1 155 = .ok (.getfield 171, 3) := by decide +kernel
theorem d_W_tried_158 : decode m_W_tried.2.1 158 = .ok (.ireturn, 1) := by decide +kernel
theorem d_W_tried_159 : decode m_W_tried.2.1 159 = .ok (.aload_n 0, 1) := by decide +kernel
theorem d_W_tried_160 : decode m_W_tried.2.1 160 = .ok (.getfield 35, 3) := by decide +kernel
theorem d_W_tried_163 : decode m_W_tried.2.1 163 = .ok (.getfield 174, 3) := by decide +kernel
theorem d_W_tried_166 : decode m_W_tried.2.1 166 = .ok (.ireturn, 1) := by decide +kernel
theorem d_W_tried_167 : decode m_W_tried.2.1 167 = .ok (.aload_n 0, 1) := by decide +kernel
theorem d_W_tried_168 : decode m_W_tried.2.1 168 = .ok (.getfield 35, 3) := by decide +kernel
theorem d_W_tried_171 : decode m_W_tried.2.1 171 = .ok (.getfield 177, 3) := by decide +kernel
theorem d_W_tried_174 : decode m_W_tried.2.1 174 = .ok (.ireturn, 1) := by decide +kernel
def f_W_tried_59 (S : St) (l1 : Int32) (l2 : Int32) (l4 : Int32) (l5 : Int32) : Option (Int32 × St) :=
    (f_Parish_copyFrom S 14 4).bind fun w_67 =>
    (f_Almanac_pass w_67 14 l1).bind fun w_79 =>
    (some w_79.1).bind fun l6_82 =>
    if l4 = 0 then (
    if l5 = 0 then (
    if l2 = 0 then (
    some (l6_82, w_79.2))
    else if l2 = 1 then (
    some ((w_79.2 14 7), w_79.2))
    else if l2 = 2 then (
    some ((w_79.2 14 4), w_79.2))
    else (
    some ((w_79.2 14 5), w_79.2)))
    else (
    if ig (l2 - 40) 24 then (
    some ((w_79.2 18 (l2 - 40).toNatClampNeg), w_79.2)) else none))
    else (
    if ig (l2 - 10) 24 then (
    some ((w_79.2 17 (l2 - 10).toNatClampNeg), w_79.2)) else none)
set_option maxHeartbeats 4000000 in
set_option maxRecDepth 20000 in
theorem t_W_tried_59  (S : St) (l1 : Int32) (l2 : Int32) (l4 : Int32) (l5 : Int32) (w : Int32 × St) (h : f_W_tried_59 S l1 l2 l4 l5 = some w) : G SX m_W_tried 8 (some w.1) w.2 59 [(0, .ref 0), (1, .int l1), (2, .int l2), (4, .int l4), (5, .int l5)] [] S := by
  unfold f_W_tried_59 at h
  refine G_aload_n 0 rfl d_W_tried_59 ?_
  refine G_getR fl_W_35 kx_0 sx_0 rfl (by decide) d_W_tried_60 ?_
  refine G_aload_n 0 rfl d_W_tried_63 ?_
  refine G_getR fl_W_28 kx_0 sx_0 rfl (by decide) d_W_tried_64 ?_
  obtain ⟨w_67, q_67, h⟩ := ob_b h
  refine G_callV [.ref 4] [] (t_Parish_copyFrom isP_14 isP_4 q_67) (by decide) (by decide) mv_Parish_copyFrom rfl ml_W_166 kx_14 sx_14 cl_2 rfl (Nat.le_of_ble_eq_true rfl) d_W_tried_67 ?_
  refine G_aload_n 0 rfl d_W_tried_70 ?_
  refine G_getR fl_W_67 kx_0 sx_0 rfl (by decide) d_W_tried_71 ?_
  refine G_aload_n 0 rfl d_W_tried_74 ?_
  refine G_getR fl_W_35 kx_0 sx_0 rfl (by decide) d_W_tried_75 ?_
  refine G_iload_n 1 rfl d_W_tried_78 ?_
  obtain ⟨w_79, q_79, h⟩ := ob_b h
  refine G_callV [.ref 14, .int l1] [] (t_Almanac_pass isP_14 q_79) (by decide) (by decide) mv_Almanac_pass rfl ml_W_162 kx_39 sx_39 cl_0 rfl (Nat.le_of_ble_eq_true rfl) d_W_tried_79 ?_
  obtain ⟨l6_82, e_82, h⟩ := ob_s h
  refine G_istore [(6, .int l6_82), (0, .ref 0), (1, .int l1), (2, .int l2), (4, .int l4), (5, .int l5)] e_82 rfl (by decide) d_W_tried_82 ?_
  refine G_iload 4 rfl d_W_tried_84 ?_
  refine G_if_eq 102 (by decide) d_W_tried_86 (fun c_86 => ?_) (fun c_86 => ?_)
  · replace h := ob_t h c_86
    refine G_iload 5 rfl d_W_tried_102 ?_
    refine G_if_eq 120 (by decide) d_W_tried_104 (fun c_104 => ?_) (fun c_104 => ?_)
    · replace h := ob_t h c_104
      refine G_iload_n 3 rfl d_W_tried_120 ?_
      by_cases c_121_0 : l2 = 0
      · replace h := ob_t h c_121_0
        refine G_tin (0) (by rw [c_121_0]; decide) 148 (by decide) (by decide) rfl (by decide) d_W_tried_121 ?_
        refine G_iload 0 rfl d_W_tried_148 ?_
        cases h
        exact G_iret rfl d_W_tried_150
      replace h := ob_f h c_121_0
      by_cases c_121_1 : l2 = 1
      · replace h := ob_t h c_121_1
        refine G_tin (1) (by rw [c_121_1]; decide) 151 (by decide) (by decide) rfl (by decide) d_W_tried_121 ?_
        refine G_aload_n 1 rfl d_W_tried_151 ?_
        refine G_getR fl_W_35 kx_0 sx_0 rfl (by decide) d_W_tried_152 ?_
        refine G_getI fl_W_171 kx_14 sx_14 rfl d_W_tried_155 ?_
        cases h
        exact G_iret rfl d_W_tried_158
      replace h := ob_f h c_121_1
      by_cases c_121_2 : l2 = 2
      · replace h := ob_t h c_121_2
        refine G_tin (2) (by rw [c_121_2]; decide) 159 (by decide) (by decide) rfl (by decide) d_W_tried_121 ?_
        refine G_aload_n 1 rfl d_W_tried_159 ?_
        refine G_getR fl_W_35 kx_0 sx_0 rfl (by decide) d_W_tried_160 ?_
        refine G_getI fl_W_174 kx_14 sx_14 rfl d_W_tried_163 ?_
        cases h
        exact G_iret rfl d_W_tried_166
      replace h := ob_f h c_121_2
      have n_121_0 := lv_neT c_121_0 (a := 0) (by decide)
      have n_121_1 := lv_neT c_121_1 (a := 1) (by decide)
      have n_121_2 := lv_neT c_121_2 (a := 2) (by decide)
      refine G_tout (by omega) 167 (by decide) d_W_tried_121 ?_
      refine G_aload_n 1 rfl d_W_tried_167 ?_
      refine G_getR fl_W_35 kx_0 sx_0 rfl (by decide) d_W_tried_168 ?_
      refine G_getI fl_W_177 kx_14 sx_14 rfl d_W_tried_171 ?_
      cases h
      exact G_iret rfl d_W_tried_174
    · replace h := ob_f h c_104
      refine G_aload_n 1 rfl d_W_tried_107 ?_
      refine G_getR fl_W_35 kx_0 sx_0 rfl (by decide) d_W_tried_108 ?_
      refine G_getR fl_W_168 kx_14 sx_14 rfl (by decide) d_W_tried_111 ?_
      refine G_iload_n 3 rfl d_W_tried_114 ?_
      refine G_bipush 40 (by decide) d_W_tried_115 ?_
      refine G_isub d_W_tried_117 ?_
      obtain ⟨g_118, h⟩ := ob_g h
      refine G_iaload kx_18 sx_18 g_118 d_W_tried_118 ?_
      cases h
      exact G_iret rfl d_W_tried_119
  · replace h := ob_f h c_86
    refine G_aload_n 1 rfl d_W_tried_89 ?_
    refine G_getR fl_W_35 kx_0 sx_0 rfl (by decide) d_W_tried_90 ?_
    refine G_getR fl_W_114 kx_14 sx_14 rfl (by decide) d_W_tried_93 ?_
    refine G_iload_n 3 rfl d_W_tried_96 ?_
    refine G_bipush 10 (by decide) d_W_tried_97 ?_
    refine G_isub d_W_tried_99 ?_
    obtain ⟨g_100, h⟩ := ob_g h
    refine G_iaload kx_17 sx_17 g_100 d_W_tried_100 ?_
    cases h
    exact G_iret rfl d_W_tried_101
def f_W_tried (S : St) (l1 : Int32) (l2 : Int32) : Option (Int32 × St) :=
    (f_W_within S l2 (0 : Int32) (3 : Int32)).bind fun v_3 =>
    (f_Parish_has S 4 (l2 - 10)).bind fun v_15 =>
    (f_Parish_has S 4 (l2 - 40)).bind fun v_28 =>
    (f_W_within S l1 (1 : Int32) (100 : Int32)).bind fun v_37 =>
    if v_37 = 0 then (
    some ((-1), S))
    else (
    if v_3 = 0 then (
    if v_15 = 0 then (
    if v_28 = 0 then (
    some ((-1), S))
    else (
    f_W_tried_59 S l1 l2 v_15 v_28))
    else (
    f_W_tried_59 S l1 l2 v_15 v_28))
    else (
    f_W_tried_59 S l1 l2 v_15 v_28))
set_option maxHeartbeats 4000000 in
set_option maxRecDepth 20000 in
theorem t_W_tried  {S : St} {l1 : Int32} {l2 : Int32} {w : Int32 × St} (h : f_W_tried S l1 l2 = some w) : Ct SX m_W_tried 8 [.ref 0, .int l1, .int l2] S (some w.1) w.2 := by
  unfold f_W_tried at h
  refine Ct.of pn_W (Nat.le_of_ble_eq_true rfl) ?_
  show G SX m_W_tried 8 (some w.1) w.2 0 [(0, .ref 0), (1, .int l1), (2, .int l2)] [] S
  refine G_iload_n 2 rfl d_W_tried_0 ?_
  refine G_iconst 0 (by decide) d_W_tried_1 ?_
  refine G_iconst 3 (by decide) d_W_tried_2 ?_
  obtain ⟨v_3, q_3, h⟩ := ob_b h
  refine G_callS [.int l2, .int 0, .int 3] [] (t_W_within q_3) (by decide) (by decide) mt_W_within rfl ml_W_133 rfl (Nat.le_of_ble_eq_true rfl) d_W_tried_3 ?_
  refine G_istore_n [(3, .int v_3), (0, .ref 0), (1, .int l1), (2, .int l2)] rfl rfl (by decide) d_W_tried_6 ?_
  refine G_aload_n 1 rfl d_W_tried_7 ?_
  refine G_getR fl_W_28 kx_0 sx_0 rfl (by decide) d_W_tried_8 ?_
  refine G_iload_n 3 rfl d_W_tried_11 ?_
  refine G_bipush 10 (by decide) d_W_tried_12 ?_
  refine G_isub d_W_tried_14 ?_
  obtain ⟨v_15, q_15, h⟩ := ob_b h
  refine G_callV [.int (l2 - 10)] [] (t_Parish_has isP_4 q_15) (by decide) (by decide) mv_Parish_has rfl ml_W_107 kx_4 sx_4 cl_2 rfl (Nat.le_of_ble_eq_true rfl) d_W_tried_15 ?_
  refine G_istore [(4, .int v_15), (3, .int v_3), (0, .ref 0), (1, .int l1), (2, .int l2)] rfl rfl (by decide) d_W_tried_18 ?_
  refine G_aload_n 2 rfl d_W_tried_20 ?_
  refine G_getR fl_W_28 kx_0 sx_0 rfl (by decide) d_W_tried_21 ?_
  refine G_iload_n 4 rfl d_W_tried_24 ?_
  refine G_bipush 40 (by decide) d_W_tried_25 ?_
  refine G_isub d_W_tried_27 ?_
  obtain ⟨v_28, q_28, h⟩ := ob_b h
  refine G_callV [.int (l2 - 40)] [] (t_Parish_has isP_4 q_28) (by decide) (by decide) mv_Parish_has rfl ml_W_107 kx_4 sx_4 cl_2 rfl (Nat.le_of_ble_eq_true rfl) d_W_tried_28 ?_
  refine G_istore [(5, .int v_28), (4, .int v_15), (3, .int v_3), (0, .ref 0), (1, .int l1), (2, .int l2)] rfl rfl (by decide) d_W_tried_31 ?_
  refine G_iload_n 4 rfl d_W_tried_33 ?_
  refine G_iconst 1 (by decide) d_W_tried_34 ?_
  refine G_bipush 100 (by decide) d_W_tried_35 ?_
  obtain ⟨v_37, q_37, h⟩ := ob_b h
  refine G_callS [.int l1, .int 1, .int 100] [] (t_W_within q_37) (by decide) (by decide) mt_W_within rfl ml_W_133 rfl (Nat.le_of_ble_eq_true rfl) d_W_tried_37 ?_
  refine G_if_eq 57 (by decide) d_W_tried_40 (fun c_40 => ?_) (fun c_40 => ?_)
  · replace h := ob_t h c_40
    refine G_iconst (-1) (by decide) d_W_tried_57 ?_
    cases h
    exact G_iret rfl d_W_tried_58
  · replace h := ob_f h c_40
    refine G_iload_n 2 rfl d_W_tried_43 ?_
    refine G_if_ne 59 (by decide) d_W_tried_44 (fun c_44 => ?_) (fun c_44 => ?_)
    · replace h := ob_f h c_44
      exact G_sub _ [3, 4, 5, 1, 0] rfl (t_W_tried_59 S l1 l2 v_15 v_28 _ h)
    · replace h := ob_t h c_44
      refine G_iload 1 rfl d_W_tried_47 ?_
      refine G_if_ne 59 (by decide) d_W_tried_49 (fun c_49 => ?_) (fun c_49 => ?_)
      · replace h := ob_f h c_49
        exact G_sub _ [3, 4, 5, 1, 0] rfl (t_W_tried_59 S l1 l2 v_15 v_28 _ h)
      · replace h := ob_t h c_49
        refine G_iload 0 rfl d_W_tried_52 ?_
        refine G_if_ne 59 (by decide) d_W_tried_54 (fun c_54 => ?_) (fun c_54 => ?_)
        · replace h := ob_f h c_54
          exact G_sub _ [3, 4, 5, 1, 0] rfl (t_W_tried_59 S l1 l2 v_15 v_28 _ h)
        · replace h := ob_t h c_54
          refine G_iconst (-1) (by decide) d_W_tried_57 ?_
          cases h
          exact G_iret rfl d_W_tried_58
theorem d_W_thingIs_0 : decode m_W_thingIs.2.1 0 = .ok (.aload_n 0, 1) := by decide +kernel
theorem d_W_thingIs_1 : decode m_W_thingIs.2.1 1 = .ok (.getfield 28, 3) := by decide +kernel
theorem d_W_thingIs_4 : decode m_W_thingIs.2.1 4 = .ok (.iload_n 1, 1) := by decide +kernel
theorem d_W_thingIs_5 : decode m_W_thingIs.2.1 5 = .ok (.invokevirtual 107, 3) := by decide +kernel
theorem d_W_thingIs_8 : decode m_W_thingIs.2.1 8 = .ok (.ifCond .ne 5, 3) := by decide +kernel
theorem d_W_thingIs_11 : decode m_W_thingIs.2.1 11 = .ok (.iconst (-1), 1) := by decide +kernel
theorem d_W_thingIs_12 : decode m_W_thingIs.2.1 12 = .ok (.ireturn, 1) := by decide +kernel
theorem d_W_thingIs_13 : decode m_W_thingIs.2.1 13 = .ok (.iload_n 2, 1) := by decide +kernel
theorem d_W_thingIs_14 : decode m_W_thingIs.2.1 14 = .ok (.tableswitch 112 0 5 #[38, 48, 58, 75, 85, 102], 38) := by decide +kernel
theorem d_W_thingIs_52 : decode m_W_thingIs.2.1 52 = .ok (.aload_n 0, 1) := by decide +kernel
theorem d_W_thingIs_53 : decode m_W_thingIs.2.1 53 = .ok (.getfield 28, 3) := by decide +kernel
theorem d_W_thingIs_56 : decode m_W_thingIs.2.1 56 = .ok (.getfield 180, 3) := by decide +kernel
theorem d_W_thingIs_59 : decode m_W_thingIs.2.1 59 = .ok (.iload_n 1, 1) := by decide +kernel
theorem d_W_thingIs_60 : decode m_W_thingIs.2.1 60 = .ok (.iaload, 1) := by decide +kernel
theorem d_W_thingIs_61 : decode m_W_thingIs.2.1 61 = .ok (.ireturn, 1) := by decide +kernel
theorem d_W_thingIs_62 : decode m_W_thingIs.2.1 62 = .ok (.aload_n 0, 1) := by decide +kernel
theorem d_W_thingIs_63 : decode m_W_thingIs.2.1 63 = .ok (.getfield 28, 3) := by decide +kernel
theorem d_W_thingIs_66 : decode m_W_thingIs.2.1 66 = .ok (.getfield 114, 3) := by decide +kernel
theorem d_W_thingIs_69 : decode m_W_thingIs.2.1 69 = .ok (.iload_n 1, 1) := by decide +kernel
theorem d_W_thingIs_70 : decode m_W_thingIs.2.1 70 = .ok (.iaload, 1) := by decide +kernel
theorem d_W_thingIs_71 : decode m_W_thingIs.2.1 71 = .ok (.ireturn, 1) := by decide +kernel
theorem d_W_thingIs_72 : decode m_W_thingIs.2.1 72 = .ok (.aload_n 0, 1) := by decide +kernel
theorem d_W_thingIs_73 : decode m_W_thingIs.2.1 73 = .ok (.getfield 28, 3) := by decide +kernel
theorem d_W_thingIs_76 : decode m_W_thingIs.2.1 76 = .ok (.iload_n 1, 1) := by decide +kernel
theorem d_W_thingIs_77 : decode m_W_thingIs.2.1 77 = .ok (.invokevirtual 183, 3) := by decide +kernel
theorem d_W_thingIs_80 : decode m_W_thingIs.2.1 80 = .ok (.ifCond .eq 7, 3) := by decide +kernel
theorem d_W_thingIs_83 : decode m_W_thingIs.2.1 83 = .ok (.iconst 1, 1) := by decide +kernel
theorem d_W_thingIs_84 : decode m_W_thingIs.2.1 84 = .ok (.goto 4, 3) := by decide +kernel
theorem d_W_thingIs_87 : decode m_W_thingIs.2.1 87 = .ok (.iconst 0, 1) := by decide +kernel
theorem d_W_thingIs_88 : decode m_W_thingIs.2.1 88 = .ok (.ireturn, 1) := by decide +kernel
theorem d_W_thingIs_89 : decode m_W_thingIs.2.1 89 = .ok (.aload_n 0, 1) := by decide +kernel
theorem d_W_thingIs_90 : decode m_W_thingIs.2.1 90 = .ok (.getfield 28, 3) := by decide +kernel
theorem d_W_thingIs_93 : decode m_W_thingIs.2.1 93 = .ok (.getfield 168, 3) := by decide +kernel
theorem d_W_thingIs_96 : decode m_W_thingIs.2.1 96 = .ok (.iload_n 1, 1) := by decide +kernel
theorem d_W_thingIs_97 : decode m_W_thingIs.2.1 97 = .ok (.iaload, 1) := by decide +kernel
theorem d_W_thingIs_98 : decode m_W_thingIs.2.1 98 = .ok (.ireturn, 1) := by decide +kernel
theorem d_W_thingIs_99 : decode m_W_thingIs.2.1 99 = .ok (.aload_n 0, 1) := by decide +kernel
theorem d_W_thingIs_100 : decode m_W_thingIs.2.1 100 = .ok (.getfield 28, 3) := by decide +kernel
theorem d_W_thingIs_103 : decode m_W_thingIs.2.1 103 = .ok (.iload_n 1, 1) := by decide +kernel
theorem d_W_thingIs_104 : decode m_W_thingIs.2.1 104 = .ok (.invokevirtual 111, 3) := by decide +kernel
theorem d_W_thingIs_107 : decode m_W_thingIs.2.1 107 = .ok (.ifCond .eq 7, 3) := by decide +kernel
theorem d_W_thingIs_110 : decode m_W_thingIs.2.1 110 = .ok (.iconst 1, 1) := by decide +kernel
theorem d_W_thingIs_111 : decode m_W_thingIs.2.1 111 = .ok (.goto 4, 3) := by decide +kernel
theorem d_W_thingIs_114 : decode m_W_thingIs.2.1 114 = .ok (.iconst 0, 1) := by decide +kernel
theorem d_W_thingIs_115 : decode m_W_thingIs.2.1 115 = .ok (.ireturn, 1) := by decide +kernel
theorem d_W_thingIs_116 : decode m_W_thingIs.2.1 116 = .ok (.aload_n 0, 1) := by decide +kernel
theorem d_W_thingIs_117 : decode m_W_thingIs.2.1 117 = .ok (.getfield 28, 3) := by decide +kernel
theorem d_W_thingIs_120 : decode m_W_thingIs.2.1 120 = .ok (.getfield 186, 3) := by decide +kernel
theorem d_W_thingIs_123 : decode m_W_thingIs.2.1 123 = .ok (.iload_n 1, 1) := by decide +kernel
theorem d_W_thingIs_124 : decode m_W_thingIs.2.1 124 = .ok (.iaload, 1) := by decide +kernel
theorem d_W_thingIs_125 : decode m_W_thingIs.2.1 125 = .ok (.ireturn, 1) := by decide +kernel
theorem d_W_thingIs_126 : decode m_W_thingIs.2.1 126 = .ok (.iconst (-1), 1) := by decide +kernel
theorem d_W_thingIs_127 : decode m_W_thingIs.2.1 127 = .ok (.ireturn, 1) := by decide +kernel
def f_W_thingIs (S : St) (l1 : Int32) (l2 : Int32) : Option (Int32) :=
    (f_Parish_has S 4 l1).bind fun v_5 =>
    if v_5 = 0 then (
    some ((-1) : Int32))
    else (
    if l2 = 0 then (
    if ig l1 24 then (
    some (S 5 l1.toNatClampNeg)) else none)
    else if l2 = 1 then (
    if ig l1 24 then (
    some (S 7 l1.toNatClampNeg)) else none)
    else if l2 = 2 then (
    (f_Parish_isLit S 4 l1).bind fun v_77 =>
    if v_77 = 0 then (
    some (0 : Int32))
    else (
    some (1 : Int32)))
    else if l2 = 3 then (
    if ig l1 24 then (
    some (S 8 l1.toNatClampNeg)) else none)
    else if l2 = 4 then (
    (f_Parish_isDone S 4 l1).bind fun v_104 =>
    if v_104 = 0 then (
    some (0 : Int32))
    else (
    some (1 : Int32)))
    else if l2 = 5 then (
    if ig l1 24 then (
    some (S 6 l1.toNatClampNeg)) else none)
    else (
    some ((-1) : Int32)))
set_option maxHeartbeats 4000000 in
set_option maxRecDepth 20000 in
theorem t_W_thingIs  {S : St} {l1 : Int32} {l2 : Int32} {w : Int32} (h : f_W_thingIs S l1 l2 = some w) : Ct SX m_W_thingIs 2 [.ref 0, .int l1, .int l2] S (some w) S := by
  unfold f_W_thingIs at h
  refine Ct.of pn_W (Nat.le_of_ble_eq_true rfl) ?_
  show G SX m_W_thingIs 2 (some w) S 0 [(0, .ref 0), (1, .int l1), (2, .int l2)] [] S
  refine G_aload_n 0 rfl d_W_thingIs_0 ?_
  refine G_getR fl_W_28 kx_0 sx_0 rfl (by decide) d_W_thingIs_1 ?_
  refine G_iload_n 1 rfl d_W_thingIs_4 ?_
  obtain ⟨v_5, q_5, h⟩ := ob_b h
  refine G_callV [.int l1] [] (t_Parish_has isP_4 q_5) (by decide) (by decide) mv_Parish_has rfl ml_W_107 kx_4 sx_4 cl_2 rfl (Nat.le_of_ble_eq_true rfl) d_W_thingIs_5 ?_
  refine G_if_ne 13 (by decide) d_W_thingIs_8 (fun c_8 => ?_) (fun c_8 => ?_)
  · replace h := ob_f h c_8
    refine G_iload_n 2 rfl d_W_thingIs_13 ?_
    by_cases c_14_0 : l2 = 0
    · replace h := ob_t h c_14_0
      refine G_tin (0) (by rw [c_14_0]; decide) 52 (by decide) (by decide) rfl (by decide) d_W_thingIs_14 ?_
      refine G_aload_n 0 rfl d_W_thingIs_52 ?_
      refine G_getR fl_W_28 kx_0 sx_0 rfl (by decide) d_W_thingIs_53 ?_
      refine G_getR fl_W_180 kx_4 sx_4 rfl (by decide) d_W_thingIs_56 ?_
      refine G_iload_n 1 rfl d_W_thingIs_59 ?_
      obtain ⟨g_60, h⟩ := ob_g h
      refine G_iaload kx_5 sx_5 g_60 d_W_thingIs_60 ?_
      cases h
      exact G_iret rfl d_W_thingIs_61
    replace h := ob_f h c_14_0
    by_cases c_14_1 : l2 = 1
    · replace h := ob_t h c_14_1
      refine G_tin (1) (by rw [c_14_1]; decide) 62 (by decide) (by decide) rfl (by decide) d_W_thingIs_14 ?_
      refine G_aload_n 0 rfl d_W_thingIs_62 ?_
      refine G_getR fl_W_28 kx_0 sx_0 rfl (by decide) d_W_thingIs_63 ?_
      refine G_getR fl_W_114 kx_4 sx_4 rfl (by decide) d_W_thingIs_66 ?_
      refine G_iload_n 1 rfl d_W_thingIs_69 ?_
      obtain ⟨g_70, h⟩ := ob_g h
      refine G_iaload kx_7 sx_7 g_70 d_W_thingIs_70 ?_
      cases h
      exact G_iret rfl d_W_thingIs_71
    replace h := ob_f h c_14_1
    by_cases c_14_2 : l2 = 2
    · replace h := ob_t h c_14_2
      refine G_tin (2) (by rw [c_14_2]; decide) 72 (by decide) (by decide) rfl (by decide) d_W_thingIs_14 ?_
      refine G_aload_n 0 rfl d_W_thingIs_72 ?_
      refine G_getR fl_W_28 kx_0 sx_0 rfl (by decide) d_W_thingIs_73 ?_
      refine G_iload_n 1 rfl d_W_thingIs_76 ?_
      obtain ⟨v_77, q_77, h⟩ := ob_b h
      refine G_callV [.int l1] [] (t_Parish_isLit isP_4 q_77) (by decide) (by decide) mv_Parish_isLit rfl ml_W_183 kx_4 sx_4 cl_2 rfl (Nat.le_of_ble_eq_true rfl) d_W_thingIs_77 ?_
      refine G_if_eq 87 (by decide) d_W_thingIs_80 (fun c_80 => ?_) (fun c_80 => ?_)
      · replace h := ob_t h c_80
        refine G_iconst 0 (by decide) d_W_thingIs_87 ?_
        cases h
        exact G_iret rfl d_W_thingIs_88
      · replace h := ob_f h c_80
        refine G_iconst 1 (by decide) d_W_thingIs_83 ?_
        refine G_goto 88 (by decide) d_W_thingIs_84 ?_
        cases h
        exact G_iret rfl d_W_thingIs_88
    replace h := ob_f h c_14_2
    by_cases c_14_3 : l2 = 3
    · replace h := ob_t h c_14_3
      refine G_tin (3) (by rw [c_14_3]; decide) 89 (by decide) (by decide) rfl (by decide) d_W_thingIs_14 ?_
      refine G_aload_n 0 rfl d_W_thingIs_89 ?_
      refine G_getR fl_W_28 kx_0 sx_0 rfl (by decide) d_W_thingIs_90 ?_
      refine G_getR fl_W_168 kx_4 sx_4 rfl (by decide) d_W_thingIs_93 ?_
      refine G_iload_n 1 rfl d_W_thingIs_96 ?_
      obtain ⟨g_97, h⟩ := ob_g h
      refine G_iaload kx_8 sx_8 g_97 d_W_thingIs_97 ?_
      cases h
      exact G_iret rfl d_W_thingIs_98
    replace h := ob_f h c_14_3
    by_cases c_14_4 : l2 = 4
    · replace h := ob_t h c_14_4
      refine G_tin (4) (by rw [c_14_4]; decide) 99 (by decide) (by decide) rfl (by decide) d_W_thingIs_14 ?_
      refine G_aload_n 0 rfl d_W_thingIs_99 ?_
      refine G_getR fl_W_28 kx_0 sx_0 rfl (by decide) d_W_thingIs_100 ?_
      refine G_iload_n 1 rfl d_W_thingIs_103 ?_
      obtain ⟨v_104, q_104, h⟩ := ob_b h
      refine G_callV [.int l1] [] (t_Parish_isDone isP_4 q_104) (by decide) (by decide) mv_Parish_isDone rfl ml_W_111 kx_4 sx_4 cl_2 rfl (Nat.le_of_ble_eq_true rfl) d_W_thingIs_104 ?_
      refine G_if_eq 114 (by decide) d_W_thingIs_107 (fun c_107 => ?_) (fun c_107 => ?_)
      · replace h := ob_t h c_107
        refine G_iconst 0 (by decide) d_W_thingIs_114 ?_
        cases h
        exact G_iret rfl d_W_thingIs_115
      · replace h := ob_f h c_107
        refine G_iconst 1 (by decide) d_W_thingIs_110 ?_
        refine G_goto 115 (by decide) d_W_thingIs_111 ?_
        cases h
        exact G_iret rfl d_W_thingIs_115
    replace h := ob_f h c_14_4
    by_cases c_14_5 : l2 = 5
    · replace h := ob_t h c_14_5
      refine G_tin (5) (by rw [c_14_5]; decide) 116 (by decide) (by decide) rfl (by decide) d_W_thingIs_14 ?_
      refine G_aload_n 0 rfl d_W_thingIs_116 ?_
      refine G_getR fl_W_28 kx_0 sx_0 rfl (by decide) d_W_thingIs_117 ?_
      refine G_getR fl_W_186 kx_4 sx_4 rfl (by decide) d_W_thingIs_120 ?_
      refine G_iload_n 1 rfl d_W_thingIs_123 ?_
      obtain ⟨g_124, h⟩ := ob_g h
      refine G_iaload kx_6 sx_6 g_124 d_W_thingIs_124 ?_
      cases h
      exact G_iret rfl d_W_thingIs_125
    replace h := ob_f h c_14_5
    have n_14_0 := lv_neT c_14_0 (a := 0) (by decide)
    have n_14_1 := lv_neT c_14_1 (a := 1) (by decide)
    have n_14_2 := lv_neT c_14_2 (a := 2) (by decide)
    have n_14_3 := lv_neT c_14_3 (a := 3) (by decide)
    have n_14_4 := lv_neT c_14_4 (a := 4) (by decide)
    have n_14_5 := lv_neT c_14_5 (a := 5) (by decide)
    refine G_tout (by omega) 126 (by decide) d_W_thingIs_14 ?_
    refine G_iconst (-1) (by decide) d_W_thingIs_126 ?_
    cases h
    exact G_iret rfl d_W_thingIs_127
  · replace h := ob_t h c_8
    refine G_iconst (-1) (by decide) d_W_thingIs_11 ?_
    cases h
    exact G_iret rfl d_W_thingIs_12
theorem d_W_byWhen_0 : decode m_W_byWhen.2.1 0 = .ok (.aload_n 0, 1) := by decide +kernel
theorem d_W_byWhen_1 : decode m_W_byWhen.2.1 1 = .ok (.getfield 28, 3) := by decide +kernel
theorem d_W_byWhen_4 : decode m_W_byWhen.2.1 4 = .ok (.iload_n 1, 1) := by decide +kernel
theorem d_W_byWhen_5 : decode m_W_byWhen.2.1 5 = .ok (.invokevirtual 107, 3) := by decide +kernel
theorem d_W_byWhen_8 : decode m_W_byWhen.2.1 8 = .ok (.ifCond .eq 13, 3) := by decide +kernel
theorem d_W_byWhen_11 : decode m_W_byWhen.2.1 11 = .ok (.iload_n 2, 1) := by decide +kernel
theorem d_W_byWhen_12 : decode m_W_byWhen.2.1 12 = .ok (.iconst 1, 1) := by decide +kernel
theorem d_W_byWhen_13 : decode m_W_byWhen.2.1 13 = .ok (.bipush 100, 2) := by decide +kernel
theorem d_W_byWhen_15 : decode m_W_byWhen.2.1 15 = .ok (.invokestatic 133, 3) := by decide +kernel
theorem d_W_byWhen_18 : decode m_W_byWhen.2.1 18 = .ok (.ifCond .ne 5, 3) := by decide +kernel
theorem d_W_byWhen_21 : decode m_W_byWhen.2.1 21 = .ok (.iconst (-1), 1) := by decide +kernel
theorem d_W_byWhen_22 : decode m_W_byWhen.2.1 22 = .ok (.ireturn, 1) := by decide +kernel
theorem d_W_byWhen_23 : decode m_W_byWhen.2.1 23 = .ok (.aload_n 0, 1) := by decide +kernel
theorem d_W_byWhen_24 : decode m_W_byWhen.2.1 24 = .ok (.getfield 35, 3) := by decide +kernel
theorem d_W_byWhen_27 : decode m_W_byWhen.2.1 27 = .ok (.aload_n 0, 1) := by decide +kernel
theorem d_W_byWhen_28 : decode m_W_byWhen.2.1 28 = .ok (.getfield 28, 3) := by decide +kernel
theorem d_W_byWhen_31 : decode m_W_byWhen.2.1 31 = .ok (.invokevirtual 166, 3) := by decide +kernel
theorem d_W_byWhen_34 : decode m_W_byWhen.2.1 34 = .ok (.iconst 0, 1) := by decide +kernel
theorem d_W_byWhen_35 : decode m_W_byWhen.2.1 35 = .ok (.istore_n 3, 1) := by decide +kernel
theorem d_W_byWhen_36 : decode m_W_byWhen.2.1 36 = .ok (.iload_n 3, 1) := by decide +kernel
theorem d_W_byWhen_37 : decode m_W_byWhen.2.1 37 = .ok (.iload_n 2, 1) := by decide +kernel
theorem d_W_byWhen_38 : decode m_W_byWhen.2.1 38 = .ok (.if_icmp .ge 33, 3) := by decide +kernel
theorem d_W_byWhen_41 : decode m_W_byWhen.2.1 41 = .ok (.aload_n 0, 1) := by decide +kernel
theorem d_W_byWhen_42 : decode m_W_byWhen.2.1 42 = .ok (.getfield 35, 3) := by decide +kernel
theorem d_W_byWhen_45 : decode m_W_byWhen.2.1 45 = .ok (.iload_n 1, 1) := by decide +kernel
theorem d_W_byWhen_46 : decode m_W_byWhen.2.1 46 = .ok (.invokevirtual 111, 3) := by decide +kernel
theorem d_W_byWhen_49 : decode m_W_byWhen.2.1 49 = .ok (.ifCond .ne 22, 3) := by decide +kernel
theorem d_W_byWhen_52 : decode m_W_byWhen.2.1 52 = .ok (.aload_n 0, 1) := by decide +kernel
theorem d_W_byWhen_53 : decode m_W_byWhen.2.1 53 = .ok (.getfield 67, 3) := by decide +kernel
theorem d_W_byWhen_56 : decode m_W_byWhen.2.1 56 = .ok (.aload_n 0, 1) := by decide +kernel
theorem d_W_byWhen_57 : decode m_W_byWhen.2.1 57 = .ok (.getfield 35, 3) := by decide +kernel
theorem d_W_byWhen_60 : decode m_W_byWhen.2.1 60 = .ok (.iconst 1, 1) := by decide +kernel
theorem d_W_byWhen_61 : decode m_W_byWhen.2.1 61 = .ok (.invokevirtual 162, 3) := by decide +kernel
theorem d_W_byWhen_64 : decode m_W_byWhen.2.1 64 = .ok (.pop, 1) := by decide +kernel
theorem d_W_byWhen_65 : decode m_W_byWhen.2.1 65 = .ok (.iinc 3 1, 3) := by decide +kernel
theorem d_W_byWhen_68 : decode m_W_byWhen.2.1 68 = .ok (.goto (-32), 3) := by decide +kernel
theorem d_W_byWhen_71 : decode m_W_byWhen.2.1 71 = .ok (.aload_n 0, 1) := by decide +kernel
theorem d_W_byWhen_72 : decode m_W_byWhen.2.1 72 = .ok (.getfield 35, 3) := by decide +kernel
theorem d_W_byWhen_75 : decode m_W_byWhen.2.1 75 = .ok (.iload_n 1, 1) := by decide +kernel
theorem d_W_byWhen_76 : decode m_W_byWhen.2.1 76 = .ok (.invokevirtual 111, 3) := by decide +kernel
theorem d_W_byWhen_79 : decode m_W_byWhen.2.1 79 = .ok (.ifCond .eq 7, 3) := by decide +kernel
theorem d_W_byWhen_82 : decode m_W_byWhen.2.1 82 = .ok (.iload_n 3, 1) := by decide +kernel
theorem d_W_byWhen_83 : decode m_W_byWhen.2.1 83 = .ok (.goto 5, 3) := by decide +kernel
theorem d_W_byWhen_86 : decode m_W_byWhen.2.1 86 = .ok (.bipush (-2), 2) := by decide +kernel
theorem d_W_byWhen_88 : decode m_W_byWhen.2.1 88 = .ok (.ireturn, 1) := by decide +kernel
def f_W_byWhen_71 (S : St) (l1 : Int32) (l3 : Int32) : Option (Int32 × St) :=
    (f_Parish_isDone S 14 l1).bind fun v_76 =>
    if v_76 = 0 then (
    some ((-2), S))
    else (
    some (l3, S))
set_option maxHeartbeats 4000000 in
set_option maxRecDepth 20000 in
theorem t_W_byWhen_71  (S : St) (l1 : Int32) (l3 : Int32) (w : Int32 × St) (h : f_W_byWhen_71 S l1 l3 = some w) : G SX m_W_byWhen 8 (some w.1) w.2 71 [(0, .ref 0), (1, .int l1), (3, .int l3)] [] S := by
  unfold f_W_byWhen_71 at h
  refine G_aload_n 0 rfl d_W_byWhen_71 ?_
  refine G_getR fl_W_35 kx_0 sx_0 rfl (by decide) d_W_byWhen_72 ?_
  refine G_iload_n 1 rfl d_W_byWhen_75 ?_
  obtain ⟨v_76, q_76, h⟩ := ob_b h
  refine G_callV [.int l1] [] (t_Parish_isDone isP_14 q_76) (by decide) (by decide) mv_Parish_isDone rfl ml_W_111 kx_14 sx_14 cl_2 rfl (Nat.le_of_ble_eq_true rfl) d_W_byWhen_76 ?_
  refine G_if_eq 86 (by decide) d_W_byWhen_79 (fun c_79 => ?_) (fun c_79 => ?_)
  · replace h := ob_t h c_79
    refine G_bipush (-2) (by decide) d_W_byWhen_86 ?_
    cases h
    exact G_iret rfl d_W_byWhen_88
  · replace h := ob_f h c_79
    refine G_iload_n 2 rfl d_W_byWhen_82 ?_
    refine G_goto 88 (by decide) d_W_byWhen_83 ?_
    cases h
    exact G_iret rfl d_W_byWhen_88
def f_W_byWhen_36 : Nat → St → Int32 → Int32 → Int32 → Option (Int32 × St)
  | 0, _, _, _, _ => none
  | n + 1, S, l1, l2, l3 =>
    if l2 ≤ l3 then (
    f_W_byWhen_71 S l1 l3)
    else (
    (f_Parish_isDone S 14 l1).bind fun v_46 =>
    if v_46 = 0 then (
    (f_Almanac_pass S 14 (1 : Int32)).bind fun w_61 =>
    (some (l3 + 1)).bind fun l3_65 =>
    f_W_byWhen_36 n w_61.2 l1 l2 l3_65)
    else (
    f_W_byWhen_71 S l1 l3))
set_option maxHeartbeats 4000000 in
set_option maxRecDepth 20000 in
theorem t_W_byWhen_36  : ∀ (n : Nat) (S : St) (l1 : Int32) (l2 : Int32) (l3 : Int32) (w : Int32 × St), f_W_byWhen_36 n S l1 l2 l3 = some w → G SX m_W_byWhen 8 (some w.1) w.2 36 [(0, .ref 0), (1, .int l1), (2, .int l2), (3, .int l3)] [] S := by
  intro n
  induction n with
  | zero =>
    intro S l1 l2 l3 w h
    rw [f_W_byWhen_36] at h
    cases h
  | succ n ih =>
    intro S l1 l2 l3 w h
    rw [f_W_byWhen_36] at h
    refine G_iload_n 3 rfl d_W_byWhen_36 ?_
    refine G_iload_n 2 rfl d_W_byWhen_37 ?_
    refine G_icmp_ge 71 (by decide) d_W_byWhen_38 (fun c_38 => ?_) (fun c_38 => ?_)
    · replace h := ob_t h c_38
      exact G_sub _ [0, 1, 3] rfl (t_W_byWhen_71 S l1 l3 _ h)
    · replace h := ob_f h c_38
      refine G_aload_n 0 rfl d_W_byWhen_41 ?_
      refine G_getR fl_W_35 kx_0 sx_0 rfl (by decide) d_W_byWhen_42 ?_
      refine G_iload_n 1 rfl d_W_byWhen_45 ?_
      obtain ⟨v_46, q_46, h⟩ := ob_b h
      refine G_callV [.int l1] [] (t_Parish_isDone isP_14 q_46) (by decide) (by decide) mv_Parish_isDone rfl ml_W_111 kx_14 sx_14 cl_2 rfl (Nat.le_of_ble_eq_true rfl) d_W_byWhen_46 ?_
      refine G_if_ne 71 (by decide) d_W_byWhen_49 (fun c_49 => ?_) (fun c_49 => ?_)
      · replace h := ob_f h c_49
        exact G_sub _ [0, 1, 3] rfl (t_W_byWhen_71 S l1 l3 _ h)
      · replace h := ob_t h c_49
        refine G_aload_n 0 rfl d_W_byWhen_52 ?_
        refine G_getR fl_W_67 kx_0 sx_0 rfl (by decide) d_W_byWhen_53 ?_
        refine G_aload_n 0 rfl d_W_byWhen_56 ?_
        refine G_getR fl_W_35 kx_0 sx_0 rfl (by decide) d_W_byWhen_57 ?_
        refine G_iconst 1 (by decide) d_W_byWhen_60 ?_
        obtain ⟨w_61, q_61, h⟩ := ob_b h
        refine G_callV [.ref 14, .int 1] [] (t_Almanac_pass isP_14 q_61) (by decide) (by decide) mv_Almanac_pass rfl ml_W_162 kx_39 sx_39 cl_0 rfl (Nat.le_of_ble_eq_true rfl) d_W_byWhen_61 ?_
        refine G_pop rfl d_W_byWhen_64 ?_
        obtain ⟨l3_65, e_65, h⟩ := ob_s h
        refine G_iinc 1 3 [(3, .int l3_65), (0, .ref 0), (1, .int l1), (2, .int l2)] (by decide) rfl e_65 rfl (by decide) d_W_byWhen_65 ?_
        refine G_goto 36 (by decide) d_W_byWhen_68 ?_
        exact G_sub _ [1, 2, 3, 0] rfl (ih w_61.2 l1 l2 l3_65 _ h)
def f_W_byWhen (S : St) (l1 : Int32) (l2 : Int32) : Option (Int32 × St) :=
    (f_Parish_has S 4 l1).bind fun v_5 =>
    if v_5 = 0 then (
    some ((-1), S))
    else (
    (f_W_within S l2 (1 : Int32) (100 : Int32)).bind fun v_15 =>
    if v_15 = 0 then (
    some ((-1), S))
    else (
    (f_Parish_copyFrom S 14 4).bind fun w_31 =>
    (some (0 : Int32)).bind fun l3_35 =>
    f_W_byWhen_36 FU w_31 l1 l2 l3_35))
set_option maxHeartbeats 4000000 in
set_option maxRecDepth 20000 in
theorem t_W_byWhen  {S : St} {l1 : Int32} {l2 : Int32} {w : Int32 × St} (h : f_W_byWhen S l1 l2 = some w) : Ct SX m_W_byWhen 8 [.ref 0, .int l1, .int l2] S (some w.1) w.2 := by
  unfold f_W_byWhen at h
  refine Ct.of pn_W (Nat.le_of_ble_eq_true rfl) ?_
  show G SX m_W_byWhen 8 (some w.1) w.2 0 [(0, .ref 0), (1, .int l1), (2, .int l2)] [] S
  refine G_aload_n 0 rfl d_W_byWhen_0 ?_
  refine G_getR fl_W_28 kx_0 sx_0 rfl (by decide) d_W_byWhen_1 ?_
  refine G_iload_n 1 rfl d_W_byWhen_4 ?_
  obtain ⟨v_5, q_5, h⟩ := ob_b h
  refine G_callV [.int l1] [] (t_Parish_has isP_4 q_5) (by decide) (by decide) mv_Parish_has rfl ml_W_107 kx_4 sx_4 cl_2 rfl (Nat.le_of_ble_eq_true rfl) d_W_byWhen_5 ?_
  refine G_if_eq 21 (by decide) d_W_byWhen_8 (fun c_8 => ?_) (fun c_8 => ?_)
  · replace h := ob_t h c_8
    refine G_iconst (-1) (by decide) d_W_byWhen_21 ?_
    cases h
    exact G_iret rfl d_W_byWhen_22
  · replace h := ob_f h c_8
    refine G_iload_n 2 rfl d_W_byWhen_11 ?_
    refine G_iconst 1 (by decide) d_W_byWhen_12 ?_
    refine G_bipush 100 (by decide) d_W_byWhen_13 ?_
    obtain ⟨v_15, q_15, h⟩ := ob_b h
    refine G_callS [.int l2, .int 1, .int 100] [] (t_W_within q_15) (by decide) (by decide) mt_W_within rfl ml_W_133 rfl (Nat.le_of_ble_eq_true rfl) d_W_byWhen_15 ?_
    refine G_if_ne 23 (by decide) d_W_byWhen_18 (fun c_18 => ?_) (fun c_18 => ?_)
    · replace h := ob_f h c_18
      refine G_aload_n 0 rfl d_W_byWhen_23 ?_
      refine G_getR fl_W_35 kx_0 sx_0 rfl (by decide) d_W_byWhen_24 ?_
      refine G_aload_n 0 rfl d_W_byWhen_27 ?_
      refine G_getR fl_W_28 kx_0 sx_0 rfl (by decide) d_W_byWhen_28 ?_
      obtain ⟨w_31, q_31, h⟩ := ob_b h
      refine G_callV [.ref 4] [] (t_Parish_copyFrom isP_14 isP_4 q_31) (by decide) (by decide) mv_Parish_copyFrom rfl ml_W_166 kx_14 sx_14 cl_2 rfl (Nat.le_of_ble_eq_true rfl) d_W_byWhen_31 ?_
      refine G_iconst 0 (by decide) d_W_byWhen_34 ?_
      obtain ⟨l3_35, e_35, h⟩ := ob_s h
      refine G_istore_n [(3, .int l3_35), (0, .ref 0), (1, .int l1), (2, .int l2)] e_35 rfl (by decide) d_W_byWhen_35 ?_
      exact G_sub _ [1, 2, 3, 0] rfl (t_W_byWhen_36 FU w_31 l1 l2 l3_35 _ h)
    · replace h := ob_t h c_18
      refine G_iconst (-1) (by decide) d_W_byWhen_21 ?_
      cases h
      exact G_iret rfl d_W_byWhen_22
theorem d_W_dark_0 : decode m_W_dark.2.1 0 = .ok (.iload_n 1, 1) := by decide +kernel
theorem d_W_dark_1 : decode m_W_dark.2.1 1 = .ok (.iconst 1, 1) := by decide +kernel
theorem d_W_dark_2 : decode m_W_dark.2.1 2 = .ok (.bipush 100, 2) := by decide +kernel
theorem d_W_dark_4 : decode m_W_dark.2.1 4 = .ok (.invokestatic 133, 3) := by decide +kernel
theorem d_W_dark_7 : decode m_W_dark.2.1 7 = .ok (.ifCond .ne 5, 3) := by decide +kernel
theorem d_W_dark_10 : decode m_W_dark.2.1 10 = .ok (.iconst (-1), 1) := by decide +kernel
theorem d_W_dark_11 : decode m_W_dark.2.1 11 = .ok (.ireturn, 1) := by decide +kernel
theorem d_W_dark_12 : decode m_W_dark.2.1 12 = .ok (.aload_n 0, 1) := by decide +kernel
theorem d_W_dark_13 : decode m_W_dark.2.1 13 = .ok (.getfield 35, 3) := by decide +kernel
theorem d_W_dark_16 : decode m_W_dark.2.1 16 = .ok (.aload_n 0, 1) := by decide +kernel
theorem d_W_dark_17 : decode m_W_dark.2.1 17 = .ok (.getfield 28, 3) := by decide +kernel
theorem d_W_dark_20 : decode m_W_dark.2.1 20 = .ok (.invokevirtual 166, 3) := by decide +kernel
theorem d_W_dark_23 : decode m_W_dark.2.1 23 = .ok (.iconst 0, 1) := by decide +kernel
theorem d_W_dark_24 : decode m_W_dark.2.1 24 = .ok (.istore_n 2, 1) := by decide +kernel
theorem d_W_dark_25 : decode m_W_dark.2.1 25 = .ok (.iload_n 2, 1) := by decide +kernel
theorem d_W_dark_26 : decode m_W_dark.2.1 26 = .ok (.iload_n 1, 1) := by decide +kernel
theorem d_W_dark_27 : decode m_W_dark.2.1 27 = .ok (.if_icmp .ge 32, 3) := by decide +kernel
theorem d_W_dark_30 : decode m_W_dark.2.1 30 = .ok (.aload_n 0, 1) := by decide +kernel
theorem d_W_dark_31 : decode m_W_dark.2.1 31 = .ok (.getfield 35, 3) := by decide +kernel
theorem d_W_dark_34 : decode m_W_dark.2.1 34 = .ok (.getfield 174, 3) := by decide +kernel
theorem d_W_dark_37 : decode m_W_dark.2.1 37 = .ok (.ifCond .eq 22, 3) := by decide +kernel
theorem d_W_dark_40 : decode m_W_dark.2.1 40 = .ok (.aload_n 0, 1) := by decide +kernel
theorem d_W_dark_41 : decode m_W_dark.2.1 41 = .ok (.getfield 67, 3) := by decide +kernel
theorem d_W_dark_44 : decode m_W_dark.2.1 44 = .ok (.aload_n 0, 1) := by decide +kernel
theorem d_W_dark_45 : decode m_W_dark.2.1 45 = .ok (.getfield 35, 3) := by decide +kernel
theorem d_W_dark_48 : decode m_W_dark.2.1 48 = .ok (.iconst 1, 1) := by decide +kernel
theorem d_W_dark_49 : decode m_W_dark.2.1 49 = .ok (.invokevirtual 162, 3) := by decide +kernel
theorem d_W_dark_52 : decode m_W_dark.2.1 52 = .ok (.pop, 1) := by decide +kernel
theorem d_W_dark_53 : decode m_W_dark.2.1 53 = .ok (.iinc 2 1, 3) := by decide +kernel
theorem d_W_dark_56 : decode m_W_dark.2.1 56 = .ok (.goto (-31), 3) := by decide +kernel
theorem d_W_dark_59 : decode m_W_dark.2.1 59 = .ok (.aload_n 0, 1) := by decide +kernel
theorem d_W_dark_60 : decode m_W_dark.2.1 60 = .ok (.getfield 35, 3) := by decide +kernel
theorem d_W_dark_63 : decode m_W_dark.2.1 63 = .ok (.getfield 174, 3) := by decide +kernel
theorem d_W_dark_66 : decode m_W_dark.2.1 66 = .ok (.ifCond .ne 7, 3) := by decide +kernel
theorem d_W_dark_69 : decode m_W_dark.2.1 69 = .ok (.iload_n 2, 1) := by decide +kernel
theorem d_W_dark_70 : decode m_W_dark.2.1 70 = .ok (.goto 5, 3) := by decide +kernel
theorem d_W_dark_73 : decode m_W_dark.2.1 73 = .ok (.bipush (-2), 2) := by decide +kernel
theorem d_W_dark_75 : decode m_W_dark.2.1 75 = .ok (.ireturn, 1) := by decide +kernel
def f_W_dark_59 (S : St) (l2 : Int32) : Option (Int32 × St) :=
    if (S 14 4) = 0 then (
    some (l2, S))
    else (
    some ((-2), S))
set_option maxHeartbeats 4000000 in
set_option maxRecDepth 20000 in
theorem t_W_dark_59  (S : St) (l2 : Int32) (w : Int32 × St) (h : f_W_dark_59 S l2 = some w) : G SX m_W_dark 8 (some w.1) w.2 59 [(0, .ref 0), (2, .int l2)] [] S := by
  unfold f_W_dark_59 at h
  refine G_aload_n 0 rfl d_W_dark_59 ?_
  refine G_getR fl_W_35 kx_0 sx_0 rfl (by decide) d_W_dark_60 ?_
  refine G_getI fl_W_174 kx_14 sx_14 rfl d_W_dark_63 ?_
  refine G_if_ne 73 (by decide) d_W_dark_66 (fun c_66 => ?_) (fun c_66 => ?_)
  · replace h := ob_f h c_66
    refine G_bipush (-2) (by decide) d_W_dark_73 ?_
    cases h
    exact G_iret rfl d_W_dark_75
  · replace h := ob_t h c_66
    refine G_iload_n 1 rfl d_W_dark_69 ?_
    refine G_goto 75 (by decide) d_W_dark_70 ?_
    cases h
    exact G_iret rfl d_W_dark_75
def f_W_dark_25 : Nat → St → Int32 → Int32 → Option (Int32 × St)
  | 0, _, _, _ => none
  | n + 1, S, l1, l2 =>
    if l1 ≤ l2 then (
    f_W_dark_59 S l2)
    else (
    if (S 14 4) = 0 then (
    f_W_dark_59 S l2)
    else (
    (f_Almanac_pass S 14 (1 : Int32)).bind fun w_49 =>
    (some (l2 + 1)).bind fun l2_53 =>
    f_W_dark_25 n w_49.2 l1 l2_53))
set_option maxHeartbeats 4000000 in
set_option maxRecDepth 20000 in
theorem t_W_dark_25  : ∀ (n : Nat) (S : St) (l1 : Int32) (l2 : Int32) (w : Int32 × St), f_W_dark_25 n S l1 l2 = some w → G SX m_W_dark 8 (some w.1) w.2 25 [(0, .ref 0), (1, .int l1), (2, .int l2)] [] S := by
  intro n
  induction n with
  | zero =>
    intro S l1 l2 w h
    rw [f_W_dark_25] at h
    cases h
  | succ n ih =>
    intro S l1 l2 w h
    rw [f_W_dark_25] at h
    refine G_iload_n 2 rfl d_W_dark_25 ?_
    refine G_iload_n 1 rfl d_W_dark_26 ?_
    refine G_icmp_ge 59 (by decide) d_W_dark_27 (fun c_27 => ?_) (fun c_27 => ?_)
    · replace h := ob_t h c_27
      exact G_sub _ [0, 2] rfl (t_W_dark_59 S l2 _ h)
    · replace h := ob_f h c_27
      refine G_aload_n 0 rfl d_W_dark_30 ?_
      refine G_getR fl_W_35 kx_0 sx_0 rfl (by decide) d_W_dark_31 ?_
      refine G_getI fl_W_174 kx_14 sx_14 rfl d_W_dark_34 ?_
      refine G_if_eq 59 (by decide) d_W_dark_37 (fun c_37 => ?_) (fun c_37 => ?_)
      · replace h := ob_t h c_37
        exact G_sub _ [0, 2] rfl (t_W_dark_59 S l2 _ h)
      · replace h := ob_f h c_37
        refine G_aload_n 0 rfl d_W_dark_40 ?_
        refine G_getR fl_W_67 kx_0 sx_0 rfl (by decide) d_W_dark_41 ?_
        refine G_aload_n 0 rfl d_W_dark_44 ?_
        refine G_getR fl_W_35 kx_0 sx_0 rfl (by decide) d_W_dark_45 ?_
        refine G_iconst 1 (by decide) d_W_dark_48 ?_
        obtain ⟨w_49, q_49, h⟩ := ob_b h
        refine G_callV [.ref 14, .int 1] [] (t_Almanac_pass isP_14 q_49) (by decide) (by decide) mv_Almanac_pass rfl ml_W_162 kx_39 sx_39 cl_0 rfl (Nat.le_of_ble_eq_true rfl) d_W_dark_49 ?_
        refine G_pop rfl d_W_dark_52 ?_
        obtain ⟨l2_53, e_53, h⟩ := ob_s h
        refine G_iinc 1 2 [(2, .int l2_53), (0, .ref 0), (1, .int l1)] (by decide) rfl e_53 rfl (by decide) d_W_dark_53 ?_
        refine G_goto 25 (by decide) d_W_dark_56 ?_
        exact G_sub _ [1, 2, 0] rfl (ih w_49.2 l1 l2_53 _ h)
def f_W_dark (S : St) (l1 : Int32) : Option (Int32 × St) :=
    (f_W_within S l1 (1 : Int32) (100 : Int32)).bind fun v_4 =>
    if v_4 = 0 then (
    some ((-1), S))
    else (
    (f_Parish_copyFrom S 14 4).bind fun w_20 =>
    (some (0 : Int32)).bind fun l2_24 =>
    f_W_dark_25 FU w_20 l1 l2_24)
set_option maxHeartbeats 4000000 in
set_option maxRecDepth 20000 in
theorem t_W_dark  {S : St} {l1 : Int32} {w : Int32 × St} (h : f_W_dark S l1 = some w) : Ct SX m_W_dark 8 [.ref 0, .int l1] S (some w.1) w.2 := by
  unfold f_W_dark at h
  refine Ct.of pn_W (Nat.le_of_ble_eq_true rfl) ?_
  show G SX m_W_dark 8 (some w.1) w.2 0 [(0, .ref 0), (1, .int l1)] [] S
  refine G_iload_n 1 rfl d_W_dark_0 ?_
  refine G_iconst 1 (by decide) d_W_dark_1 ?_
  refine G_bipush 100 (by decide) d_W_dark_2 ?_
  obtain ⟨v_4, q_4, h⟩ := ob_b h
  refine G_callS [.int l1, .int 1, .int 100] [] (t_W_within q_4) (by decide) (by decide) mt_W_within rfl ml_W_133 rfl (Nat.le_of_ble_eq_true rfl) d_W_dark_4 ?_
  refine G_if_ne 12 (by decide) d_W_dark_7 (fun c_7 => ?_) (fun c_7 => ?_)
  · replace h := ob_f h c_7
    refine G_aload_n 0 rfl d_W_dark_12 ?_
    refine G_getR fl_W_35 kx_0 sx_0 rfl (by decide) d_W_dark_13 ?_
    refine G_aload_n 0 rfl d_W_dark_16 ?_
    refine G_getR fl_W_28 kx_0 sx_0 rfl (by decide) d_W_dark_17 ?_
    obtain ⟨w_20, q_20, h⟩ := ob_b h
    refine G_callV [.ref 4] [] (t_Parish_copyFrom isP_14 isP_4 q_20) (by decide) (by decide) mv_Parish_copyFrom rfl ml_W_166 kx_14 sx_14 cl_2 rfl (Nat.le_of_ble_eq_true rfl) d_W_dark_20 ?_
    refine G_iconst 0 (by decide) d_W_dark_23 ?_
    obtain ⟨l2_24, e_24, h⟩ := ob_s h
    refine G_istore_n [(2, .int l2_24), (0, .ref 0), (1, .int l1)] e_24 rfl (by decide) d_W_dark_24 ?_
    exact G_sub _ [1, 2, 0] rfl (t_W_dark_25 FU w_20 l1 l2_24 _ h)
  · replace h := ob_t h c_7
    refine G_iconst (-1) (by decide) d_W_dark_10 ?_
    cases h
    exact G_iret rfl d_W_dark_11
theorem d_W_pride_0 : decode m_W_pride.2.1 0 = .ok (.iload_n 1, 1) := by decide +kernel
theorem d_W_pride_1 : decode m_W_pride.2.1 1 = .ok (.iconst 0, 1) := by decide +kernel
theorem d_W_pride_2 : decode m_W_pride.2.1 2 = .ok (.iconst 1, 1) := by decide +kernel
theorem d_W_pride_3 : decode m_W_pride.2.1 3 = .ok (.invokestatic 133, 3) := by decide +kernel
theorem d_W_pride_6 : decode m_W_pride.2.1 6 = .ok (.ifCond .ne 5, 3) := by decide +kernel
theorem d_W_pride_9 : decode m_W_pride.2.1 9 = .ok (.iconst (-1), 1) := by decide +kernel
theorem d_W_pride_10 : decode m_W_pride.2.1 10 = .ok (.ireturn, 1) := by decide +kernel
theorem d_W_pride_11 : decode m_W_pride.2.1 11 = .ok (.aload_n 0, 1) := by decide +kernel
theorem d_W_pride_12 : decode m_W_pride.2.1 12 = .ok (.getfield 28, 3) := by decide +kernel
theorem d_W_pride_15 : decode m_W_pride.2.1 15 = .ok (.invokevirtual 189, 3) := by decide +kernel
theorem d_W_pride_18 : decode m_W_pride.2.1 18 = .ok (.istore_n 2, 1) := by decide +kernel
theorem d_W_pride_19 : decode m_W_pride.2.1 19 = .ok (.iload_n 1, 1) := by decide +kernel
theorem d_W_pride_20 : decode m_W_pride.2.1 20 = .ok (.ifCond .ne 5, 3) := by decide +kernel
theorem d_W_pride_23 : decode m_W_pride.2.1 23 = .ok (.iload_n 2, 1) := by decide +kernel
theorem d_W_pride_24 : decode m_W_pride.2.1 24 = .ok (.ireturn, 1) := by decide +kernel
theorem d_W_pride_25 : decode m_W_pride.2.1 25 = .ok (.iload_n 2, 1) := by decide +kernel
theorem d_W_pride_26 : decode m_W_pride.2.1 26 = .ok (.ifCond .ge 7, 3) := by decide +kernel
theorem d_W_pride_29 : decode m_W_pride.2.1 29 = .ok (.iconst 0, 1) := by decide +kernel
theorem d_W_pride_30 : decode m_W_pride.2.1 30 = .ok (.goto 11, 3) := by decide +kernel
theorem d_W_pride_33 : decode m_W_pride.2.1 33 = .ok (.aload_n 0, 1) := by decide +kernel
theorem d_W_pride_34 : decode m_W_pride.2.1 34 = .ok (.getfield 28, 3) := by decide +kernel
theorem d_W_pride_37 : decode m_W_pride.2.1 37 = .ok (.iload_n 2, 1) := by decide +kernel
theorem d_W_pride_38 : decode m_W_pride.2.1 38 = .ok (.invokevirtual 192, 3) := by decide +kernel
theorem d_W_pride_41 : decode m_W_pride.2.1 41 = .ok (.ireturn, 1) := by decide +kernel
def f_W_pride (S : St) (l1 : Int32) : Option (Int32) :=
    (f_W_within S l1 (0 : Int32) (1 : Int32)).bind fun v_3 =>
    if v_3 = 0 then (
    some ((-1) : Int32))
    else (
    (f_Parish_proudest S 4).bind fun v_15 =>
    if l1 = 0 then (
    some v_15)
    else (
    if 0 ≤ v_15 then (
    (f_Parish_putOffBy S 4 v_15).bind fun v_38 =>
    some v_38)
    else (
    some (0 : Int32))))
set_option maxHeartbeats 4000000 in
set_option maxRecDepth 20000 in
theorem t_W_pride  {S : St} {l1 : Int32} {w : Int32} (h : f_W_pride S l1 = some w) : Ct SX m_W_pride 4 [.ref 0, .int l1] S (some w) S := by
  unfold f_W_pride at h
  refine Ct.of pn_W (Nat.le_of_ble_eq_true rfl) ?_
  show G SX m_W_pride 4 (some w) S 0 [(0, .ref 0), (1, .int l1)] [] S
  refine G_iload_n 1 rfl d_W_pride_0 ?_
  refine G_iconst 0 (by decide) d_W_pride_1 ?_
  refine G_iconst 1 (by decide) d_W_pride_2 ?_
  obtain ⟨v_3, q_3, h⟩ := ob_b h
  refine G_callS [.int l1, .int 0, .int 1] [] (t_W_within q_3) (by decide) (by decide) mt_W_within rfl ml_W_133 rfl (Nat.le_of_ble_eq_true rfl) d_W_pride_3 ?_
  refine G_if_ne 11 (by decide) d_W_pride_6 (fun c_6 => ?_) (fun c_6 => ?_)
  · replace h := ob_f h c_6
    refine G_aload_n 0 rfl d_W_pride_11 ?_
    refine G_getR fl_W_28 kx_0 sx_0 rfl (by decide) d_W_pride_12 ?_
    obtain ⟨v_15, q_15, h⟩ := ob_b h
    refine G_callV [] [] (t_Parish_proudest isP_4 q_15) (by decide) (by decide) mv_Parish_proudest rfl ml_W_189 kx_4 sx_4 cl_2 rfl (Nat.le_of_ble_eq_true rfl) d_W_pride_15 ?_
    refine G_istore_n [(2, .int v_15), (0, .ref 0), (1, .int l1)] rfl rfl (by decide) d_W_pride_18 ?_
    refine G_iload_n 2 rfl d_W_pride_19 ?_
    refine G_if_ne 25 (by decide) d_W_pride_20 (fun c_20 => ?_) (fun c_20 => ?_)
    · replace h := ob_f h c_20
      refine G_iload_n 0 rfl d_W_pride_25 ?_
      refine G_if_ge 33 (by decide) d_W_pride_26 (fun c_26 => ?_) (fun c_26 => ?_)
      · replace h := ob_t h c_26
        refine G_aload_n 1 rfl d_W_pride_33 ?_
        refine G_getR fl_W_28 kx_0 sx_0 rfl (by decide) d_W_pride_34 ?_
        refine G_iload_n 0 rfl d_W_pride_37 ?_
        obtain ⟨v_38, q_38, h⟩ := ob_b h
        refine G_callV [.int v_15] [] (t_Parish_putOffBy isP_4 q_38) (by decide) (by decide) mv_Parish_putOffBy rfl ml_W_192 kx_4 sx_4 cl_2 rfl (Nat.le_of_ble_eq_true rfl) d_W_pride_38 ?_
        cases h
        exact G_iret rfl d_W_pride_41
      · replace h := ob_f h c_26
        refine G_iconst 0 (by decide) d_W_pride_29 ?_
        refine G_goto 41 (by decide) d_W_pride_30 ?_
        cases h
        exact G_iret rfl d_W_pride_41
    · replace h := ob_t h c_20
      refine G_iload_n 0 rfl d_W_pride_23 ?_
      cases h
      exact G_iret rfl d_W_pride_24
  · replace h := ob_t h c_6
    refine G_iconst (-1) (by decide) d_W_pride_9 ?_
    cases h
    exact G_iret rfl d_W_pride_10
theorem d_W_oldest_0 : decode m_W_oldest.2.1 0 = .ok (.bipush (-2), 2) := by decide +kernel
theorem d_W_oldest_2 : decode m_W_oldest.2.1 2 = .ok (.istore_n 1, 1) := by decide +kernel
theorem d_W_oldest_3 : decode m_W_oldest.2.1 3 = .ok (.iconst 0, 1) := by decide +kernel
theorem d_W_oldest_4 : decode m_W_oldest.2.1 4 = .ok (.istore_n 2, 1) := by decide +kernel
theorem d_W_oldest_5 : decode m_W_oldest.2.1 5 = .ok (.iload_n 2, 1) := by decide +kernel
theorem d_W_oldest_6 : decode m_W_oldest.2.1 6 = .ok (.aload_n 0, 1) := by decide +kernel
theorem d_W_oldest_7 : decode m_W_oldest.2.1 7 = .ok (.getfield 28, 3) := by decide +kernel
theorem d_W_oldest_10 : decode m_W_oldest.2.1 10 = .ok (.getfield 159, 3) := by decide +kernel
theorem d_W_oldest_13 : decode m_W_oldest.2.1 13 = .ok (.if_icmp .ge 47, 3) := by decide +kernel
theorem d_W_oldest_16 : decode m_W_oldest.2.1 16 = .ok (.aload_n 0, 1) := by decide +kernel
theorem d_W_oldest_17 : decode m_W_oldest.2.1 17 = .ok (.getfield 28, 3) := by decide +kernel
theorem d_W_oldest_20 : decode m_W_oldest.2.1 20 = .ok (.iload_n 2, 1) := by decide +kernel
theorem d_W_oldest_21 : decode m_W_oldest.2.1 21 = .ok (.invokevirtual 111, 3) := by decide +kernel
theorem d_W_oldest_24 : decode m_W_oldest.2.1 24 = .ok (.ifCond .ne 30, 3) := by decide +kernel
theorem d_W_oldest_27 : decode m_W_oldest.2.1 27 = .ok (.iload_n 1, 1) := by decide +kernel
theorem d_W_oldest_28 : decode m_W_oldest.2.1 28 = .ok (.ifCond .lt 24, 3) := by decide +kernel
theorem d_W_oldest_31 : decode m_W_oldest.2.1 31 = .ok (.aload_n 0, 1) := by decide +kernel
theorem d_W_oldest_32 : decode m_W_oldest.2.1 32 = .ok (.getfield 28, 3) := by decide +kernel
theorem d_W_oldest_35 : decode m_W_oldest.2.1 35 = .ok (.getfield 168, 3) := by decide +kernel
theorem d_W_oldest_38 : decode m_W_oldest.2.1 38 = .ok (.iload_n 2, 1) := by decide +kernel
theorem d_W_oldest_39 : decode m_W_oldest.2.1 39 = .ok (.iaload, 1) := by decide +kernel
theorem d_W_oldest_40 : decode m_W_oldest.2.1 40 = .ok (.aload_n 0, 1) := by decide +kernel
theorem d_W_oldest_41 : decode m_W_oldest.2.1 41 = .ok (.getfield 28, 3) := by decide +kernel
theorem d_W_oldest_44 : decode m_W_oldest.2.1 44 = .ok (.getfield 168, 3) := by decide +kernel
theorem d_W_oldest_47 : decode m_W_oldest.2.1 47 = .ok (.iload_n 1, 1) := by decide +kernel
theorem d_W_oldest_48 : decode m_W_oldest.2.1 48 = .ok (.iaload, 1) := by decide +kernel
theorem d_W_oldest_49 : decode m_W_oldest.2.1 49 = .ok (.if_icmp .le 5, 3) := by decide +kernel
theorem d_W_oldest_52 : decode m_W_oldest.2.1 52 = .ok (.iload_n 2, 1) := by decide +kernel
theorem d_W_oldest_53 : decode m_W_oldest.2.1 53 = .ok (.istore_n 1, 1) := by decide +kernel
theorem d_W_oldest_54 : decode m_W_oldest.2.1 54 = .ok (.iinc 2 1, 3) := by decide +kernel
theorem d_W_oldest_57 : decode m_W_oldest.2.1 57 = .ok (.goto (-52), 3) := by decide +kernel
theorem d_W_oldest_60 : decode m_W_oldest.2.1 60 = .ok (.iload_n 1, 1) := by decide +kernel
theorem d_W_oldest_61 : decode m_W_oldest.2.1 61 = .ok (.ireturn, 1) := by decide +kernel
def f_W_oldest_54 (k_5 : St → Int32 → Int32 → Option (Int32)) (S : St) (l1 : Int32) (l2 : Int32) : Option (Int32) :=
    (some (l2 + 1)).bind fun l2_54 =>
    k_5 S l1 l2_54
set_option maxHeartbeats 4000000 in
set_option maxRecDepth 20000 in
theorem t_W_oldest_54  {k_5 : St → Int32 → Int32 → Option (Int32)} (hk_5 : ∀ (S : St) (l1 : Int32) (l2 : Int32) (w : Int32), k_5 S l1 l2 = some w → G SX m_W_oldest 2 (some w) S 5 [(0, .ref 0), (1, .int l1), (2, .int l2)] [] S) (S : St) (l1 : Int32) (l2 : Int32) (w : Int32) (h : f_W_oldest_54 k_5 S l1 l2 = some w) : G SX m_W_oldest 2 (some w) S 54 [(0, .ref 0), (1, .int l1), (2, .int l2)] [] S := by
  unfold f_W_oldest_54 at h
  obtain ⟨l2_54, e_54, h⟩ := ob_s h
  refine G_iinc 1 2 [(2, .int l2_54), (0, .ref 0), (1, .int l1)] (by decide) rfl e_54 rfl (by decide) d_W_oldest_54 ?_
  refine G_goto 5 (by decide) d_W_oldest_57 ?_
  exact G_sub _ [1, 2, 0] rfl (hk_5 S l1 l2_54 _ h)
def f_W_oldest_52 (k_5 : St → Int32 → Int32 → Option (Int32)) (S : St) (l2 : Int32) : Option (Int32) :=
    f_W_oldest_54 k_5 S l2 l2
set_option maxHeartbeats 4000000 in
set_option maxRecDepth 20000 in
theorem t_W_oldest_52  {k_5 : St → Int32 → Int32 → Option (Int32)} (hk_5 : ∀ (S : St) (l1 : Int32) (l2 : Int32) (w : Int32), k_5 S l1 l2 = some w → G SX m_W_oldest 2 (some w) S 5 [(0, .ref 0), (1, .int l1), (2, .int l2)] [] S) (S : St) (l2 : Int32) (w : Int32) (h : f_W_oldest_52 k_5 S l2 = some w) : G SX m_W_oldest 2 (some w) S 52 [(0, .ref 0), (2, .int l2)] [] S := by
  unfold f_W_oldest_52 at h
  refine G_iload_n 1 rfl d_W_oldest_52 ?_
  refine G_istore_n [(1, .int l2), (0, .ref 0), (2, .int l2)] rfl rfl (by decide) d_W_oldest_53 ?_
  exact G_sub _ [1, 0, 2] rfl (t_W_oldest_54 hk_5 S l2 l2 _ h)
def f_W_oldest_5 : Nat → St → Int32 → Int32 → Option (Int32)
  | 0, _, _, _ => none
  | n + 1, S, l1, l2 =>
    if (S 4 6) ≤ l2 then (
    some l1)
    else (
    (f_Parish_isDone S 4 l2).bind fun v_21 =>
    if v_21 = 0 then (
    if l1 < 0 then (
    f_W_oldest_52 (f_W_oldest_5 n) S l2)
    else (
    if ig l2 24 then (
    if ig l1 24 then (
    if (S 8 l2.toNatClampNeg) ≤ (S 8 l1.toNatClampNeg) then (
    f_W_oldest_54 (f_W_oldest_5 n) S l1 l2)
    else (
    f_W_oldest_52 (f_W_oldest_5 n) S l2)) else none) else none))
    else (
    f_W_oldest_54 (f_W_oldest_5 n) S l1 l2))
set_option maxHeartbeats 4000000 in
set_option maxRecDepth 20000 in
theorem t_W_oldest_5  : ∀ (n : Nat) (S : St) (l1 : Int32) (l2 : Int32) (w : Int32), f_W_oldest_5 n S l1 l2 = some w → G SX m_W_oldest 2 (some w) S 5 [(0, .ref 0), (1, .int l1), (2, .int l2)] [] S := by
  intro n
  induction n with
  | zero =>
    intro S l1 l2 w h
    rw [f_W_oldest_5] at h
    cases h
  | succ n ih =>
    intro S l1 l2 w h
    rw [f_W_oldest_5] at h
    refine G_iload_n 2 rfl d_W_oldest_5 ?_
    refine G_aload_n 0 rfl d_W_oldest_6 ?_
    refine G_getR fl_W_28 kx_0 sx_0 rfl (by decide) d_W_oldest_7 ?_
    refine G_getI fl_W_159 kx_4 sx_4 rfl d_W_oldest_10 ?_
    refine G_icmp_ge 60 (by decide) d_W_oldest_13 (fun c_13 => ?_) (fun c_13 => ?_)
    · replace h := ob_t h c_13
      refine G_iload_n 1 rfl d_W_oldest_60 ?_
      cases h
      exact G_iret rfl d_W_oldest_61
    · replace h := ob_f h c_13
      refine G_aload_n 0 rfl d_W_oldest_16 ?_
      refine G_getR fl_W_28 kx_0 sx_0 rfl (by decide) d_W_oldest_17 ?_
      refine G_iload_n 2 rfl d_W_oldest_20 ?_
      obtain ⟨v_21, q_21, h⟩ := ob_b h
      refine G_callV [.int l2] [] (t_Parish_isDone isP_4 q_21) (by decide) (by decide) mv_Parish_isDone rfl ml_W_111 kx_4 sx_4 cl_2 rfl (Nat.le_of_ble_eq_true rfl) d_W_oldest_21 ?_
      refine G_if_ne 54 (by decide) d_W_oldest_24 (fun c_24 => ?_) (fun c_24 => ?_)
      · replace h := ob_f h c_24
        exact G_sub _ [0, 1, 2] rfl (t_W_oldest_54 ih S l1 l2 _ h)
      · replace h := ob_t h c_24
        refine G_iload_n 1 rfl d_W_oldest_27 ?_
        refine G_if_lt 52 (by decide) d_W_oldest_28 (fun c_28 => ?_) (fun c_28 => ?_)
        · replace h := ob_t h c_28
          exact G_sub _ [0, 2] rfl (t_W_oldest_52 ih S l2 _ h)
        · replace h := ob_f h c_28
          refine G_aload_n 0 rfl d_W_oldest_31 ?_
          refine G_getR fl_W_28 kx_0 sx_0 rfl (by decide) d_W_oldest_32 ?_
          refine G_getR fl_W_168 kx_4 sx_4 rfl (by decide) d_W_oldest_35 ?_
          refine G_iload_n 2 rfl d_W_oldest_38 ?_
          obtain ⟨g_39, h⟩ := ob_g h
          refine G_iaload kx_8 sx_8 g_39 d_W_oldest_39 ?_
          refine G_aload_n 0 rfl d_W_oldest_40 ?_
          refine G_getR fl_W_28 kx_0 sx_0 rfl (by decide) d_W_oldest_41 ?_
          refine G_getR fl_W_168 kx_4 sx_4 rfl (by decide) d_W_oldest_44 ?_
          refine G_iload_n 1 rfl d_W_oldest_47 ?_
          obtain ⟨g_48, h⟩ := ob_g h
          refine G_iaload kx_8 sx_8 g_48 d_W_oldest_48 ?_
          refine G_icmp_le 54 (by decide) d_W_oldest_49 (fun c_49 => ?_) (fun c_49 => ?_)
          · replace h := ob_t h c_49
            exact G_sub _ [0, 1, 2] rfl (t_W_oldest_54 ih S l1 l2 _ h)
          · replace h := ob_f h c_49
            exact G_sub _ [0, 2] rfl (t_W_oldest_52 ih S l2 _ h)
def f_W_oldest (S : St) : Option (Int32) :=
    (some ((-2) : Int32)).bind fun l1_2 =>
    (some (0 : Int32)).bind fun l2_4 =>
    f_W_oldest_5 FU S l1_2 l2_4
set_option maxHeartbeats 4000000 in
set_option maxRecDepth 20000 in
theorem t_W_oldest  {S : St} {w : Int32} (h : f_W_oldest S = some w) : Ct SX m_W_oldest 2 [.ref 0] S (some w) S := by
  unfold f_W_oldest at h
  refine Ct.of pn_W (Nat.le_of_ble_eq_true rfl) ?_
  show G SX m_W_oldest 2 (some w) S 0 [(0, .ref 0)] [] S
  refine G_bipush (-2) (by decide) d_W_oldest_0 ?_
  obtain ⟨l1_2, e_2, h⟩ := ob_s h
  refine G_istore_n [(1, .int l1_2), (0, .ref 0)] e_2 rfl (by decide) d_W_oldest_2 ?_
  refine G_iconst 0 (by decide) d_W_oldest_3 ?_
  obtain ⟨l2_4, e_4, h⟩ := ob_s h
  refine G_istore_n [(2, .int l2_4), (1, .int l1_2), (0, .ref 0)] e_4 rfl (by decide) d_W_oldest_4 ?_
  exact G_sub _ [2, 1, 0] rfl (t_W_oldest_5 FU S l1_2 l2_4 _ h)
theorem d_W_chain_0 : decode m_W_chain.2.1 0 = .ok (.aload_n 0, 1) := by decide +kernel
theorem d_W_chain_1 : decode m_W_chain.2.1 1 = .ok (.getfield 28, 3) := by decide +kernel
theorem d_W_chain_4 : decode m_W_chain.2.1 4 = .ok (.iload_n 1, 1) := by decide +kernel
theorem d_W_chain_5 : decode m_W_chain.2.1 5 = .ok (.invokevirtual 107, 3) := by decide +kernel
theorem d_W_chain_8 : decode m_W_chain.2.1 8 = .ok (.ifCond .ne 5, 3) := by decide +kernel
theorem d_W_chain_11 : decode m_W_chain.2.1 11 = .ok (.iconst (-1), 1) := by decide +kernel
theorem d_W_chain_12 : decode m_W_chain.2.1 12 = .ok (.ireturn, 1) := by decide +kernel
theorem d_W_chain_13 : decode m_W_chain.2.1 13 = .ok (.iconst 0, 1) := by decide +kernel
theorem d_W_chain_14 : decode m_W_chain.2.1 14 = .ok (.istore_n 2, 1) := by decide +kernel
theorem d_W_chain_15 : decode m_W_chain.2.1 15 = .ok (.iload_n 1, 1) := by decide +kernel
theorem d_W_chain_16 : decode m_W_chain.2.1 16 = .ok (.istore_n 3, 1) := by decide +kernel
theorem d_W_chain_17 : decode m_W_chain.2.1 17 = .ok (.iconst 0, 1) := by decide +kernel
theorem d_W_chain_18 : decode m_W_chain.2.1 18 = .ok (.istore 4, 2) := by decide +kernel
theorem d_W_chain_20 : decode m_W_chain.2.1 20 = .ok (.iload 4, 2) := by decide +kernel
theorem d_W_chain_22 : decode m_W_chain.2.1 22 = .ok (.bipush 24, 2) := by decide +kernel
theorem d_W_chain_24 : decode m_W_chain.2.1 24 = .ok (.if_icmp .ge 33, 3) := by decide +kernel
theorem d_W_chain_27 : decode m_W_chain.2.1 27 = .ok (.aload_n 0, 1) := by decide +kernel
theorem d_W_chain_28 : decode m_W_chain.2.1 28 = .ok (.getfield 28, 3) := by decide +kernel
theorem d_W_chain_31 : decode m_W_chain.2.1 31 = .ok (.iload_n 3, 1) := by decide +kernel
theorem d_W_chain_32 : decode m_W_chain.2.1 32 = .ok (.invokevirtual 107, 3) := by decide +kernel
theorem d_W_chain_35 : decode m_W_chain.2.1 35 = .ok (.ifCond .eq 22, 3) := by decide +kernel
theorem d_W_chain_38 : decode m_W_chain.2.1 38 = .ok (.iinc 2 1, 3) := by decide +kernel
theorem d_W_chain_41 : decode m_W_chain.2.1 41 = .ok (.aload_n 0, 1) := by decide +kernel
theorem d_W_chain_42 : decode m_W_chain.2.1 42 = .ok (.getfield 28, 3) := by decide +kernel
theorem d_W_chain_45 : decode m_W_chain.2.1 45 = .ok (.getfield 186, 3) := by decide +kernel
theorem d_W_chain_48 : decode m_W_chain.2.1 48 = .ok (.iload_n 3, 1) := by decide +kernel
theorem d_W_chain_49 : decode m_W_chain.2.1 49 = .ok (.iaload, 1) := by decide +kernel
theorem d_W_chain_50 : decode m_W_chain.2.1 50 = .ok (.istore_n 3, 1) := by decide +kernel
theorem d_W_chain_51 : decode m_W_chain.2.1 51 = .ok (.iinc 4 1, 3) := by decide +kernel
theorem d_W_chain_54 : decode m_W_chain.2.1 54 = .ok (.goto (-34), 3) := by decide +kernel
theorem d_W_chain_57 : decode m_W_chain.2.1 57 = .ok (.iload_n 2, 1) := by decide +kernel
theorem d_W_chain_58 : decode m_W_chain.2.1 58 = .ok (.ireturn, 1) := by decide +kernel
def f_W_chain_20 : Nat → St → Int32 → Int32 → Int32 → Option (Int32)
  | 0, _, _, _, _ => none
  | n + 1, S, l2, l3, l4 =>
    if (24 : Int32) ≤ l4 then (
    some l2)
    else (
    (f_Parish_has S 4 l3).bind fun v_32 =>
    if v_32 = 0 then (
    some l2)
    else (
    (some (l2 + 1)).bind fun l2_38 =>
    if ig l3 24 then (
    (some (S 6 l3.toNatClampNeg)).bind fun l3_50 =>
    (some (l4 + 1)).bind fun l4_51 =>
    f_W_chain_20 n S l2_38 l3_50 l4_51) else none))
set_option maxHeartbeats 4000000 in
set_option maxRecDepth 20000 in
theorem t_W_chain_20  : ∀ (n : Nat) (S : St) (l2 : Int32) (l3 : Int32) (l4 : Int32) (w : Int32), f_W_chain_20 n S l2 l3 l4 = some w → G SX m_W_chain 2 (some w) S 20 [(0, .ref 0), (2, .int l2), (3, .int l3), (4, .int l4)] [] S := by
  intro n
  induction n with
  | zero =>
    intro S l2 l3 l4 w h
    rw [f_W_chain_20] at h
    cases h
  | succ n ih =>
    intro S l2 l3 l4 w h
    rw [f_W_chain_20] at h
    refine G_iload 3 rfl d_W_chain_20 ?_
    refine G_bipush 24 (by decide) d_W_chain_22 ?_
    refine G_icmp_ge 57 (by decide) d_W_chain_24 (fun c_24 => ?_) (fun c_24 => ?_)
    · replace h := ob_t h c_24
      refine G_iload_n 1 rfl d_W_chain_57 ?_
      cases h
      exact G_iret rfl d_W_chain_58
    · replace h := ob_f h c_24
      refine G_aload_n 0 rfl d_W_chain_27 ?_
      refine G_getR fl_W_28 kx_0 sx_0 rfl (by decide) d_W_chain_28 ?_
      refine G_iload_n 2 rfl d_W_chain_31 ?_
      obtain ⟨v_32, q_32, h⟩ := ob_b h
      refine G_callV [.int l3] [] (t_Parish_has isP_4 q_32) (by decide) (by decide) mv_Parish_has rfl ml_W_107 kx_4 sx_4 cl_2 rfl (Nat.le_of_ble_eq_true rfl) d_W_chain_32 ?_
      refine G_if_eq 57 (by decide) d_W_chain_35 (fun c_35 => ?_) (fun c_35 => ?_)
      · replace h := ob_t h c_35
        refine G_iload_n 1 rfl d_W_chain_57 ?_
        cases h
        exact G_iret rfl d_W_chain_58
      · replace h := ob_f h c_35
        obtain ⟨l2_38, e_38, h⟩ := ob_s h
        refine G_iinc 1 1 [(2, .int l2_38), (0, .ref 0), (3, .int l3), (4, .int l4)] (by decide) rfl e_38 rfl (by decide) d_W_chain_38 ?_
        refine G_aload_n 1 rfl d_W_chain_41 ?_
        refine G_getR fl_W_28 kx_0 sx_0 rfl (by decide) d_W_chain_42 ?_
        refine G_getR fl_W_186 kx_4 sx_4 rfl (by decide) d_W_chain_45 ?_
        refine G_iload_n 2 rfl d_W_chain_48 ?_
        obtain ⟨g_49, h⟩ := ob_g h
        refine G_iaload kx_6 sx_6 g_49 d_W_chain_49 ?_
        obtain ⟨l3_50, e_50, h⟩ := ob_s h
        refine G_istore_n [(3, .int l3_50), (2, .int l2_38), (0, .ref 0), (4, .int l4)] e_50 rfl (by decide) d_W_chain_50 ?_
        obtain ⟨l4_51, e_51, h⟩ := ob_s h
        refine G_iinc 1 3 [(4, .int l4_51), (3, .int l3_50), (2, .int l2_38), (0, .ref 0)] (by decide) rfl e_51 rfl (by decide) d_W_chain_51 ?_
        refine G_goto 20 (by decide) d_W_chain_54 ?_
        exact G_sub _ [3, 2, 1, 0] rfl (ih S l2_38 l3_50 l4_51 _ h)
def f_W_chain (S : St) (l1 : Int32) : Option (Int32) :=
    (f_Parish_has S 4 l1).bind fun v_5 =>
    if v_5 = 0 then (
    some ((-1) : Int32))
    else (
    (some (0 : Int32)).bind fun l2_14 =>
    (some (0 : Int32)).bind fun l4_18 =>
    f_W_chain_20 FU S l2_14 l1 l4_18)
set_option maxHeartbeats 4000000 in
set_option maxRecDepth 20000 in
theorem t_W_chain  {S : St} {l1 : Int32} {w : Int32} (h : f_W_chain S l1 = some w) : Ct SX m_W_chain 2 [.ref 0, .int l1] S (some w) S := by
  unfold f_W_chain at h
  refine Ct.of pn_W (Nat.le_of_ble_eq_true rfl) ?_
  show G SX m_W_chain 2 (some w) S 0 [(0, .ref 0), (1, .int l1)] [] S
  refine G_aload_n 0 rfl d_W_chain_0 ?_
  refine G_getR fl_W_28 kx_0 sx_0 rfl (by decide) d_W_chain_1 ?_
  refine G_iload_n 1 rfl d_W_chain_4 ?_
  obtain ⟨v_5, q_5, h⟩ := ob_b h
  refine G_callV [.int l1] [] (t_Parish_has isP_4 q_5) (by decide) (by decide) mv_Parish_has rfl ml_W_107 kx_4 sx_4 cl_2 rfl (Nat.le_of_ble_eq_true rfl) d_W_chain_5 ?_
  refine G_if_ne 13 (by decide) d_W_chain_8 (fun c_8 => ?_) (fun c_8 => ?_)
  · replace h := ob_f h c_8
    refine G_iconst 0 (by decide) d_W_chain_13 ?_
    obtain ⟨l2_14, e_14, h⟩ := ob_s h
    refine G_istore_n [(2, .int l2_14), (0, .ref 0), (1, .int l1)] e_14 rfl (by decide) d_W_chain_14 ?_
    refine G_iload_n 2 rfl d_W_chain_15 ?_
    refine G_istore_n [(3, .int l1), (2, .int l2_14), (0, .ref 0), (1, .int l1)] rfl rfl (by decide) d_W_chain_16 ?_
    refine G_iconst 0 (by decide) d_W_chain_17 ?_
    obtain ⟨l4_18, e_18, h⟩ := ob_s h
    refine G_istore [(4, .int l4_18), (3, .int l1), (2, .int l2_14), (0, .ref 0), (1, .int l1)] e_18 rfl (by decide) d_W_chain_18 ?_
    exact G_sub _ [3, 2, 1, 0] rfl (t_W_chain_20 FU S l2_14 l1 l4_18 _ h)
  · replace h := ob_t h c_8
    refine G_iconst (-1) (by decide) d_W_chain_11 ?_
    cases h
    exact G_iret rfl d_W_chain_12
theorem d_W_orders_0 : decode m_W_orders.2.1 0 = .ok (.aload_n 0, 1) := by decide +kernel
theorem d_W_orders_1 : decode m_W_orders.2.1 1 = .ok (.getfield 28, 3) := by decide +kernel
theorem d_W_orders_4 : decode m_W_orders.2.1 4 = .ok (.invokevirtual 196, 3) := by decide +kernel
theorem d_W_orders_7 : decode m_W_orders.2.1 7 = .ok (.ireturn, 1) := by decide +kernel
def f_W_orders (S : St) : Option (Int32) :=
    (f_Parish_ordersLeft S 4).bind fun v_4 =>
    some v_4
set_option maxHeartbeats 4000000 in
set_option maxRecDepth 20000 in
theorem t_W_orders  {S : St} {w : Int32} (h : f_W_orders S = some w) : Ct SX m_W_orders 4 [.ref 0] S (some w) S := by
  unfold f_W_orders at h
  refine Ct.of pn_W (Nat.le_of_ble_eq_true rfl) ?_
  show G SX m_W_orders 4 (some w) S 0 [(0, .ref 0)] [] S
  refine G_aload_n 0 rfl d_W_orders_0 ?_
  refine G_getR fl_W_28 kx_0 sx_0 rfl (by decide) d_W_orders_1 ?_
  obtain ⟨v_4, q_4, h⟩ := ob_b h
  refine G_callV [] [] (t_Parish_ordersLeft isP_4 q_4) (by decide) (by decide) mv_Parish_ordersLeft rfl ml_W_196 kx_4 sx_4 cl_2 rfl (Nat.le_of_ble_eq_true rfl) d_W_orders_4 ?_
  cases h
  exact G_iret rfl d_W_orders_7
theorem d_W_light_0 : decode m_W_light.2.1 0 = .ok (.iload_n 1, 1) := by decide +kernel
theorem d_W_light_1 : decode m_W_light.2.1 1 = .ok (.iconst 0, 1) := by decide +kernel
theorem d_W_light_2 : decode m_W_light.2.1 2 = .ok (.bipush 16, 2) := by decide +kernel
theorem d_W_light_4 : decode m_W_light.2.1 4 = .ok (.invokestatic 133, 3) := by decide +kernel
theorem d_W_light_7 : decode m_W_light.2.1 7 = .ok (.ifCond .ne 5, 3) := by decide +kernel
theorem d_W_light_10 : decode m_W_light.2.1 10 = .ok (.iconst (-1), 1) := by decide +kernel
theorem d_W_light_11 : decode m_W_light.2.1 11 = .ok (.ireturn, 1) := by decide +kernel
theorem d_W_light_12 : decode m_W_light.2.1 12 = .ok (.aload_n 0, 1) := by decide +kernel
theorem d_W_light_13 : decode m_W_light.2.1 13 = .ok (.getfield 28, 3) := by decide +kernel
theorem d_W_light_16 : decode m_W_light.2.1 16 = .ok (.iload_n 1, 1) := by decide +kernel
theorem d_W_light_17 : decode m_W_light.2.1 17 = .ok (.invokevirtual 199, 3) := by decide +kernel
theorem d_W_light_20 : decode m_W_light.2.1 20 = .ok (.ireturn, 1) := by decide +kernel
def f_W_light (S : St) (l1 : Int32) : Option (Int32) :=
    (f_W_within S l1 (0 : Int32) (16 : Int32)).bind fun v_4 =>
    if v_4 = 0 then (
    some ((-1) : Int32))
    else (
    (f_Parish_lightOf S 4 l1).bind fun v_17 =>
    some v_17)
set_option maxHeartbeats 4000000 in
set_option maxRecDepth 20000 in
theorem t_W_light  {S : St} {l1 : Int32} {w : Int32} (h : f_W_light S l1 = some w) : Ct SX m_W_light 3 [.ref 0, .int l1] S (some w) S := by
  unfold f_W_light at h
  refine Ct.of pn_W (Nat.le_of_ble_eq_true rfl) ?_
  show G SX m_W_light 3 (some w) S 0 [(0, .ref 0), (1, .int l1)] [] S
  refine G_iload_n 1 rfl d_W_light_0 ?_
  refine G_iconst 0 (by decide) d_W_light_1 ?_
  refine G_bipush 16 (by decide) d_W_light_2 ?_
  obtain ⟨v_4, q_4, h⟩ := ob_b h
  refine G_callS [.int l1, .int 0, .int 16] [] (t_W_within q_4) (by decide) (by decide) mt_W_within rfl ml_W_133 rfl (Nat.le_of_ble_eq_true rfl) d_W_light_4 ?_
  refine G_if_ne 12 (by decide) d_W_light_7 (fun c_7 => ?_) (fun c_7 => ?_)
  · replace h := ob_f h c_7
    refine G_aload_n 0 rfl d_W_light_12 ?_
    refine G_getR fl_W_28 kx_0 sx_0 rfl (by decide) d_W_light_13 ?_
    refine G_iload_n 1 rfl d_W_light_16 ?_
    obtain ⟨v_17, q_17, h⟩ := ob_b h
    refine G_callV [.int l1] [] (t_Parish_lightOf isP_4 q_17) (by decide) (by decide) mv_Parish_lightOf rfl ml_W_199 kx_4 sx_4 cl_2 rfl (Nat.le_of_ble_eq_true rfl) d_W_light_17 ?_
    cases h
    exact G_iret rfl d_W_light_20
  · replace h := ob_t h c_7
    refine G_iconst (-1) (by decide) d_W_light_10 ?_
    cases h
    exact G_iret rfl d_W_light_11
theorem d_W_worstNews_0 : decode m_W_worstNews.2.1 0 = .ok (.iload_n 1, 1) := by decide +kernel
theorem d_W_worstNews_1 : decode m_W_worstNews.2.1 1 = .ok (.iconst 0, 1) := by decide +kernel
theorem d_W_worstNews_2 : decode m_W_worstNews.2.1 2 = .ok (.iconst 1, 1) := by decide +kernel
theorem d_W_worstNews_3 : decode m_W_worstNews.2.1 3 = .ok (.invokestatic 133, 3) := by decide +kernel
theorem d_W_worstNews_6 : decode m_W_worstNews.2.1 6 = .ok (.ifCond .ne 5, 3) := by decide +kernel
theorem d_W_worstNews_9 : decode m_W_worstNews.2.1 9 = .ok (.iconst (-1), 1) := by decide +kernel
theorem d_W_worstNews_10 : decode m_W_worstNews.2.1 10 = .ok (.ireturn, 1) := by decide +kernel
theorem d_W_worstNews_11 : decode m_W_worstNews.2.1 11 = .ok (.aload_n 0, 1) := by decide +kernel
theorem d_W_worstNews_12 : decode m_W_worstNews.2.1 12 = .ok (.getfield 28, 3) := by decide +kernel
theorem d_W_worstNews_15 : decode m_W_worstNews.2.1 15 = .ok (.invokevirtual 202, 3) := by decide +kernel
theorem d_W_worstNews_18 : decode m_W_worstNews.2.1 18 = .ok (.istore_n 2, 1) := by decide +kernel
theorem d_W_worstNews_19 : decode m_W_worstNews.2.1 19 = .ok (.iload_n 1, 1) := by decide +kernel
theorem d_W_worstNews_20 : decode m_W_worstNews.2.1 20 = .ok (.ifCond .ne 5, 3) := by decide +kernel
theorem d_W_worstNews_23 : decode m_W_worstNews.2.1 23 = .ok (.iload_n 2, 1) := by decide +kernel
theorem d_W_worstNews_24 : decode m_W_worstNews.2.1 24 = .ok (.ireturn, 1) := by decide +kernel
theorem d_W_worstNews_25 : decode m_W_worstNews.2.1 25 = .ok (.iload_n 2, 1) := by decide +kernel
theorem d_W_worstNews_26 : decode m_W_worstNews.2.1 26 = .ok (.ifCond .ge 7, 3) := by decide +kernel
theorem d_W_worstNews_29 : decode m_W_worstNews.2.1 29 = .ok (.iconst 0, 1) := by decide +kernel
theorem d_W_worstNews_30 : decode m_W_worstNews.2.1 30 = .ok (.goto 11, 3) := by decide +kernel
theorem d_W_worstNews_33 : decode m_W_worstNews.2.1 33 = .ok (.aload_n 0, 1) := by decide +kernel
theorem d_W_worstNews_34 : decode m_W_worstNews.2.1 34 = .ok (.getfield 28, 3) := by decide +kernel
theorem d_W_worstNews_37 : decode m_W_worstNews.2.1 37 = .ok (.iload_n 2, 1) := by decide +kernel
theorem d_W_worstNews_38 : decode m_W_worstNews.2.1 38 = .ok (.invokevirtual 199, 3) := by decide +kernel
theorem d_W_worstNews_41 : decode m_W_worstNews.2.1 41 = .ok (.ireturn, 1) := by decide +kernel
def f_W_worstNews (S : St) (l1 : Int32) : Option (Int32) :=
    (f_W_within S l1 (0 : Int32) (1 : Int32)).bind fun v_3 =>
    if v_3 = 0 then (
    some ((-1) : Int32))
    else (
    (f_Parish_brightestOwner S 4).bind fun v_15 =>
    if l1 = 0 then (
    some v_15)
    else (
    if 0 ≤ v_15 then (
    (f_Parish_lightOf S 4 v_15).bind fun v_38 =>
    some v_38)
    else (
    some (0 : Int32))))
set_option maxHeartbeats 4000000 in
set_option maxRecDepth 20000 in
theorem t_W_worstNews  {S : St} {l1 : Int32} {w : Int32} (h : f_W_worstNews S l1 = some w) : Ct SX m_W_worstNews 4 [.ref 0, .int l1] S (some w) S := by
  unfold f_W_worstNews at h
  refine Ct.of pn_W (Nat.le_of_ble_eq_true rfl) ?_
  show G SX m_W_worstNews 4 (some w) S 0 [(0, .ref 0), (1, .int l1)] [] S
  refine G_iload_n 1 rfl d_W_worstNews_0 ?_
  refine G_iconst 0 (by decide) d_W_worstNews_1 ?_
  refine G_iconst 1 (by decide) d_W_worstNews_2 ?_
  obtain ⟨v_3, q_3, h⟩ := ob_b h
  refine G_callS [.int l1, .int 0, .int 1] [] (t_W_within q_3) (by decide) (by decide) mt_W_within rfl ml_W_133 rfl (Nat.le_of_ble_eq_true rfl) d_W_worstNews_3 ?_
  refine G_if_ne 11 (by decide) d_W_worstNews_6 (fun c_6 => ?_) (fun c_6 => ?_)
  · replace h := ob_f h c_6
    refine G_aload_n 0 rfl d_W_worstNews_11 ?_
    refine G_getR fl_W_28 kx_0 sx_0 rfl (by decide) d_W_worstNews_12 ?_
    obtain ⟨v_15, q_15, h⟩ := ob_b h
    refine G_callV [] [] (t_Parish_brightestOwner isP_4 q_15) (by decide) (by decide) mv_Parish_brightestOwner rfl ml_W_202 kx_4 sx_4 cl_2 rfl (Nat.le_of_ble_eq_true rfl) d_W_worstNews_15 ?_
    refine G_istore_n [(2, .int v_15), (0, .ref 0), (1, .int l1)] rfl rfl (by decide) d_W_worstNews_18 ?_
    refine G_iload_n 2 rfl d_W_worstNews_19 ?_
    refine G_if_ne 25 (by decide) d_W_worstNews_20 (fun c_20 => ?_) (fun c_20 => ?_)
    · replace h := ob_f h c_20
      refine G_iload_n 0 rfl d_W_worstNews_25 ?_
      refine G_if_ge 33 (by decide) d_W_worstNews_26 (fun c_26 => ?_) (fun c_26 => ?_)
      · replace h := ob_t h c_26
        refine G_aload_n 1 rfl d_W_worstNews_33 ?_
        refine G_getR fl_W_28 kx_0 sx_0 rfl (by decide) d_W_worstNews_34 ?_
        refine G_iload_n 0 rfl d_W_worstNews_37 ?_
        obtain ⟨v_38, q_38, h⟩ := ob_b h
        refine G_callV [.int v_15] [] (t_Parish_lightOf isP_4 q_38) (by decide) (by decide) mv_Parish_lightOf rfl ml_W_199 kx_4 sx_4 cl_2 rfl (Nat.le_of_ble_eq_true rfl) d_W_worstNews_38 ?_
        cases h
        exact G_iret rfl d_W_worstNews_41
      · replace h := ob_f h c_26
        refine G_iconst 0 (by decide) d_W_worstNews_29 ?_
        refine G_goto 41 (by decide) d_W_worstNews_30 ?_
        cases h
        exact G_iret rfl d_W_worstNews_41
    · replace h := ob_t h c_20
      refine G_iload_n 0 rfl d_W_worstNews_23 ?_
      cases h
      exact G_iret rfl d_W_worstNews_24
  · replace h := ob_t h c_6
    refine G_iconst (-1) (by decide) d_W_worstNews_9 ?_
    cases h
    exact G_iret rfl d_W_worstNews_10
theorem d_W_median_0 : decode m_W_median.2.1 0 = .ok (.aload_n 0, 1) := by decide +kernel
theorem d_W_median_1 : decode m_W_median.2.1 1 = .ok (.getfield 28, 3) := by decide +kernel
theorem d_W_median_4 : decode m_W_median.2.1 4 = .ok (.invokevirtual 205, 3) := by decide +kernel
theorem d_W_median_7 : decode m_W_median.2.1 7 = .ok (.ireturn, 1) := by decide +kernel
def f_W_median (S : St) : Option (Int32) :=
    (f_Parish_middlePutOff S 4).bind fun v_4 =>
    some v_4
set_option maxHeartbeats 4000000 in
set_option maxRecDepth 20000 in
theorem t_W_median  {S : St} {w : Int32} (h : f_W_median S = some w) : Ct SX m_W_median 4 [.ref 0] S (some w) S := by
  unfold f_W_median at h
  refine Ct.of pn_W (Nat.le_of_ble_eq_true rfl) ?_
  show G SX m_W_median 4 (some w) S 0 [(0, .ref 0)] [] S
  refine G_aload_n 0 rfl d_W_median_0 ?_
  refine G_getR fl_W_28 kx_0 sx_0 rfl (by decide) d_W_median_1 ?_
  obtain ⟨v_4, q_4, h⟩ := ob_b h
  refine G_callV [] [] (t_Parish_middlePutOff isP_4 q_4) (by decide) (by decide) mv_Parish_middlePutOff rfl ml_W_205 kx_4 sx_4 cl_2 rfl (Nat.le_of_ble_eq_true rfl) d_W_median_4 ?_
  cases h
  exact G_iret rfl d_W_median_7
theorem d_W_twist_0 : decode m_W_twist.2.1 0 = .ok (.iload_n 1, 1) := by decide +kernel
theorem d_W_twist_1 : decode m_W_twist.2.1 1 = .ok (.iconst 2, 1) := by decide +kernel
theorem d_W_twist_2 : decode m_W_twist.2.1 2 = .ok (.bipush 8, 2) := by decide +kernel
theorem d_W_twist_4 : decode m_W_twist.2.1 4 = .ok (.invokestatic 133, 3) := by decide +kernel
theorem d_W_twist_7 : decode m_W_twist.2.1 7 = .ok (.ifCond .eq 13, 3) := by decide +kernel
theorem d_W_twist_10 : decode m_W_twist.2.1 10 = .ok (.iload_n 2, 1) := by decide +kernel
theorem d_W_twist_11 : decode m_W_twist.2.1 11 = .ok (.iconst 1, 1) := by decide +kernel
theorem d_W_twist_12 : decode m_W_twist.2.1 12 = .ok (.bipush 80, 2) := by decide +kernel
theorem d_W_twist_14 : decode m_W_twist.2.1 14 = .ok (.invokestatic 133, 3) := by decide +kernel
theorem d_W_twist_17 : decode m_W_twist.2.1 17 = .ok (.ifCond .ne 5, 3) := by decide +kernel
theorem d_W_twist_20 : decode m_W_twist.2.1 20 = .ok (.iconst (-1), 1) := by decide +kernel
theorem d_W_twist_21 : decode m_W_twist.2.1 21 = .ok (.ireturn, 1) := by decide +kernel
theorem d_W_twist_22 : decode m_W_twist.2.1 22 = .ok (.iload_n 3, 1) := by decide +kernel
theorem d_W_twist_23 : decode m_W_twist.2.1 23 = .ok (.iconst 0, 1) := by decide +kernel
theorem d_W_twist_24 : decode m_W_twist.2.1 24 = .ok (.iload_n 1, 1) := by decide +kernel
theorem d_W_twist_25 : decode m_W_twist.2.1 25 = .ok (.iconst 1, 1) := by decide +kernel
theorem d_W_twist_26 : decode m_W_twist.2.1 26 = .ok (.isub, 1) := by decide +kernel
theorem d_W_twist_27 : decode m_W_twist.2.1 27 = .ok (.invokestatic 133, 3) := by decide +kernel
theorem d_W_twist_30 : decode m_W_twist.2.1 30 = .ok (.ifCond .ne 14, 3) := by decide +kernel
theorem d_W_twist_33 : decode m_W_twist.2.1 33 = .ok (.iload_n 3, 1) := by decide +kernel
theorem d_W_twist_34 : decode m_W_twist.2.1 34 = .ok (.bipush 100, 2) := by decide +kernel
theorem d_W_twist_36 : decode m_W_twist.2.1 36 = .ok (.bipush 103, 2) := by decide +kernel
theorem d_W_twist_38 : decode m_W_twist.2.1 38 = .ok (.invokestatic 133, 3) := by decide +kernel
theorem d_W_twist_41 : decode m_W_twist.2.1 41 = .ok (.ifCond .eq 14, 3) := by decide +kernel
theorem d_W_twist_44 : decode m_W_twist.2.1 44 = .ok (.aload_n 0, 1) := by decide +kernel
theorem d_W_twist_45 : decode m_W_twist.2.1 45 = .ok (.getfield 10, 3) := by decide +kernel
theorem d_W_twist_48 : decode m_W_twist.2.1 48 = .ok (.iload_n 2, 1) := by decide +kernel
theorem d_W_twist_49 : decode m_W_twist.2.1 49 = .ok (.invokevirtual 137, 3) := by decide +kernel
theorem d_W_twist_52 : decode m_W_twist.2.1 52 = .ok (.ifCond .ne 5, 3) := by decide +kernel
theorem d_W_twist_55 : decode m_W_twist.2.1 55 = .ok (.iconst (-1), 1) := by decide +kernel
theorem d_W_twist_56 : decode m_W_twist.2.1 56 = .ok (.ireturn, 1) := by decide +kernel
theorem d_W_twist_57 : decode m_W_twist.2.1 57 = .ok (.aload_n 0, 1) := by decide +kernel
theorem d_W_twist_58 : decode m_W_twist.2.1 58 = .ok (.getfield 74, 3) := by decide +kernel
theorem d_W_twist_61 : decode m_W_twist.2.1 61 = .ok (.iload_n 1, 1) := by decide +kernel
theorem d_W_twist_62 : decode m_W_twist.2.1 62 = .ok (.invokevirtual 208, 3) := by decide +kernel
theorem d_W_twist_65 : decode m_W_twist.2.1 65 = .ok (.istore 4, 2) := by decide +kernel
theorem d_W_twist_67 : decode m_W_twist.2.1 67 = .ok (.iload 4, 2) := by decide +kernel
theorem d_W_twist_69 : decode m_W_twist.2.1 69 = .ok (.ifCond .eq 6, 3) := by decide +kernel
theorem d_W_twist_72 : decode m_W_twist.2.1 72 = .ok (.iload 4, 2) := by decide +kernel
theorem d_W_twist_74 : decode m_W_twist.2.1 74 = .ok (.ireturn, 1) := by decide +kernel
theorem d_W_twist_75 : decode m_W_twist.2.1 75 = .ok (.iload_n 3, 1) := by decide +kernel
theorem d_W_twist_76 : decode m_W_twist.2.1 76 = .ok (.tableswitch 65 100 103 #[32, 40, 48, 56], 32) := by decide +kernel
theorem d_W_twist_108 : decode m_W_twist.2.1 108 = .ok (.aload_n 0, 1) := by decide +kernel
theorem d_W_twist_109 : decode m_W_twist.2.1 109 = .ok (.getfield 74, 3) := by decide +kernel
theorem d_W_twist_112 : decode m_W_twist.2.1 112 = .ok (.getfield 210, 3) := by decide +kernel
theorem d_W_twist_115 : decode m_W_twist.2.1 115 = .ok (.ireturn, 1) := by decide +kernel
theorem d_W_twist_116 : decode m_W_twist.2.1 116 = .ok (.aload_n 0, 1) := by decide +kernel
theorem d_W_twist_117 : decode m_W_twist.2.1 117 = .ok (.getfield 74, 3) := by decide +kernel
theorem d_W_twist_120 : decode m_W_twist.2.1 120 = .ok (.invokevirtual 213, 3) := by decide +kernel
theorem d_W_twist_123 : decode m_W_twist.2.1 123 = .ok (.ireturn, 1) := by decide +kernel
theorem d_W_twist_124 : decode m_W_twist.2.1 124 = .ok (.aload_n 0, 1) := by decide +kernel
theorem d_W_twist_125 : decode m_W_twist.2.1 125 = .ok (.getfield 74, 3) := by decide +kernel
theorem d_W_twist_128 : decode m_W_twist.2.1 128 = .ok (.invokevirtual 216, 3) := by decide +kernel
theorem d_W_twist_131 : decode m_W_twist.2.1 131 = .ok (.ireturn, 1) := by decide +kernel
theorem d_W_twist_132 : decode m_W_twist.2.1 132 = .ok (.aload_n 0, 1) := by decide +kernel
theorem d_W_twist_133 : decode m_W_twist.2.1 133 = .ok (.getfield 74, 3) := by decide +kernel
theorem d_W_twist_136 : decode m_W_twist.2.1 136 = .ok (.iload_n 1, 1) := by decide +kernel
theorem d_W_twist_137 : decode m_W_twist.2.1 137 = .ok (.invokevirtual 219, 3) := by decide +kernel
theorem d_W_twist_140 : decode m_W_twist.2.1 140 = .ok (.ireturn, 1) := by decide +kernel
theorem d_W_twist_141 : decode m_W_twist.2.1 141 = .ok (.aload_n 0, 1) := by decide +kernel
theorem d_W_twist_142 : decode m_W_twist.2.1 142 = .ok (.getfield 74, 3) := by decide +kernel
theorem d_W_twist_145 : decode m_W_twist.2.1 145 = .ok (.iload_n 3, 1) := by decide +kernel
theorem d_W_twist_146 : decode m_W_twist.2.1 146 = .ok (.invokevirtual 222, 3) := by decide +kernel
theorem d_W_twist_149 : decode m_W_twist.2.1 149 = .ok (.ireturn, 1) := by decide +kernel
def f_W_twist_44 (S : St) (l1 : Int32) (l2 : Int32) (l3 : Int32) : Option (Int32 × St) :=
    (f_Tape_take S l2).bind fun w_49 =>
    if w_49.1 = 0 then (
    some ((-1), w_49.2))
    else (
    (f_Twist_read w_49.2 l1).bind fun w_62 =>
    (some w_62.1).bind fun l4_65 =>
    if l4_65 = 0 then (
    if l3 = 100 then (
    some ((w_62.2 42 8), w_62.2))
    else if l3 = 101 then (
    (f_Twist_oversLessUnders w_62.2).bind fun v_120 =>
    some (v_120, w_62.2))
    else if l3 = 102 then (
    (f_Twist_turnsLeft w_62.2).bind fun w_128 =>
    some (w_128.1, w_128.2))
    else if l3 = 103 then (
    (f_Twist_timesTillHome w_62.2 l1).bind fun w_137 =>
    some (w_137.1, w_137.2))
    else (
    (f_Twist_comesOut w_62.2 l3).bind fun v_146 =>
    some (v_146, w_62.2)))
    else (
    some (l4_65, w_62.2)))
set_option maxHeartbeats 4000000 in
set_option maxRecDepth 20000 in
theorem t_W_twist_44  (S : St) (l1 : Int32) (l2 : Int32) (l3 : Int32) (w : Int32 × St) (h : f_W_twist_44 S l1 l2 l3 = some w) : G SX m_W_twist 5 (some w.1) w.2 44 [(0, .ref 0), (1, .int l1), (2, .int l2), (3, .int l3)] [] S := by
  unfold f_W_twist_44 at h
  refine G_aload_n 0 rfl d_W_twist_44 ?_
  refine G_getR fl_W_10 kx_0 sx_0 rfl (by decide) d_W_twist_45 ?_
  refine G_iload_n 2 rfl d_W_twist_48 ?_
  obtain ⟨w_49, q_49, h⟩ := ob_b h
  refine G_callV [.int l2] [] (t_Tape_take q_49) (by decide) (by decide) mv_Tape_take rfl ml_W_137 kx_1 sx_1 cl_8 rfl (Nat.le_of_ble_eq_true rfl) d_W_twist_49 ?_
  refine G_if_ne 57 (by decide) d_W_twist_52 (fun c_52 => ?_) (fun c_52 => ?_)
  · replace h := ob_f h c_52
    refine G_aload_n 0 rfl d_W_twist_57 ?_
    refine G_getR fl_W_74 kx_0 sx_0 rfl (by decide) d_W_twist_58 ?_
    refine G_iload_n 1 rfl d_W_twist_61 ?_
    obtain ⟨w_62, q_62, h⟩ := ob_b h
    refine G_callV [.int l1] [] (t_Twist_read q_62) (by decide) (by decide) mv_Twist_read rfl ml_W_208 kx_42 sx_42 cl_9 rfl (Nat.le_of_ble_eq_true rfl) d_W_twist_62 ?_
    obtain ⟨l4_65, e_65, h⟩ := ob_s h
    refine G_istore [(4, .int l4_65), (0, .ref 0), (1, .int l1), (2, .int l2), (3, .int l3)] e_65 rfl (by decide) d_W_twist_65 ?_
    refine G_iload 0 rfl d_W_twist_67 ?_
    refine G_if_eq 75 (by decide) d_W_twist_69 (fun c_69 => ?_) (fun c_69 => ?_)
    · replace h := ob_t h c_69
      refine G_iload_n 4 rfl d_W_twist_75 ?_
      by_cases c_76_0 : l3 = 100
      · replace h := ob_t h c_76_0
        refine G_tin (100) (by rw [c_76_0]; decide) 108 (by decide) (by decide) rfl (by decide) d_W_twist_76 ?_
        refine G_aload_n 1 rfl d_W_twist_108 ?_
        refine G_getR fl_W_74 kx_0 sx_0 rfl (by decide) d_W_twist_109 ?_
        refine G_getI fl_W_210 kx_42 sx_42 rfl d_W_twist_112 ?_
        cases h
        exact G_iret rfl d_W_twist_115
      replace h := ob_f h c_76_0
      by_cases c_76_1 : l3 = 101
      · replace h := ob_t h c_76_1
        refine G_tin (101) (by rw [c_76_1]; decide) 116 (by decide) (by decide) rfl (by decide) d_W_twist_76 ?_
        refine G_aload_n 1 rfl d_W_twist_116 ?_
        refine G_getR fl_W_74 kx_0 sx_0 rfl (by decide) d_W_twist_117 ?_
        obtain ⟨v_120, q_120, h⟩ := ob_b h
        refine G_callV [] [] (t_Twist_oversLessUnders q_120) (by decide) (by decide) mv_Twist_oversLessUnders rfl ml_W_213 kx_42 sx_42 cl_9 rfl (Nat.le_of_ble_eq_true rfl) d_W_twist_120 ?_
        cases h
        exact G_iret rfl d_W_twist_123
      replace h := ob_f h c_76_1
      by_cases c_76_2 : l3 = 102
      · replace h := ob_t h c_76_2
        refine G_tin (102) (by rw [c_76_2]; decide) 124 (by decide) (by decide) rfl (by decide) d_W_twist_76 ?_
        refine G_aload_n 1 rfl d_W_twist_124 ?_
        refine G_getR fl_W_74 kx_0 sx_0 rfl (by decide) d_W_twist_125 ?_
        obtain ⟨w_128, q_128, h⟩ := ob_b h
        refine G_callV [] [] (t_Twist_turnsLeft q_128) (by decide) (by decide) mv_Twist_turnsLeft rfl ml_W_216 kx_42 sx_42 cl_9 rfl (Nat.le_of_ble_eq_true rfl) d_W_twist_128 ?_
        cases h
        exact G_iret rfl d_W_twist_131
      replace h := ob_f h c_76_2
      by_cases c_76_3 : l3 = 103
      · replace h := ob_t h c_76_3
        refine G_tin (103) (by rw [c_76_3]; decide) 132 (by decide) (by decide) rfl (by decide) d_W_twist_76 ?_
        refine G_aload_n 1 rfl d_W_twist_132 ?_
        refine G_getR fl_W_74 kx_0 sx_0 rfl (by decide) d_W_twist_133 ?_
        refine G_iload_n 2 rfl d_W_twist_136 ?_
        obtain ⟨w_137, q_137, h⟩ := ob_b h
        refine G_callV [.int l1] [] (t_Twist_timesTillHome q_137) (by decide) (by decide) mv_Twist_timesTillHome rfl ml_W_219 kx_42 sx_42 cl_9 rfl (Nat.le_of_ble_eq_true rfl) d_W_twist_137 ?_
        cases h
        exact G_iret rfl d_W_twist_140
      replace h := ob_f h c_76_3
      have n_76_0 := lv_neT c_76_0 (a := 100) (by decide)
      have n_76_1 := lv_neT c_76_1 (a := 101) (by decide)
      have n_76_2 := lv_neT c_76_2 (a := 102) (by decide)
      have n_76_3 := lv_neT c_76_3 (a := 103) (by decide)
      refine G_tout (by omega) 141 (by decide) d_W_twist_76 ?_
      refine G_aload_n 1 rfl d_W_twist_141 ?_
      refine G_getR fl_W_74 kx_0 sx_0 rfl (by decide) d_W_twist_142 ?_
      refine G_iload_n 4 rfl d_W_twist_145 ?_
      obtain ⟨v_146, q_146, h⟩ := ob_b h
      refine G_callV [.int l3] [] (t_Twist_comesOut q_146) (by decide) (by decide) mv_Twist_comesOut rfl ml_W_222 kx_42 sx_42 cl_9 rfl (Nat.le_of_ble_eq_true rfl) d_W_twist_146 ?_
      cases h
      exact G_iret rfl d_W_twist_149
    · replace h := ob_f h c_69
      refine G_iload 0 rfl d_W_twist_72 ?_
      cases h
      exact G_iret rfl d_W_twist_74
  · replace h := ob_t h c_52
    refine G_iconst (-1) (by decide) d_W_twist_55 ?_
    cases h
    exact G_iret rfl d_W_twist_56
def f_W_twist (S : St) (l1 : Int32) (l2 : Int32) (l3 : Int32) : Option (Int32 × St) :=
    (f_W_within S l1 (2 : Int32) (8 : Int32)).bind fun v_4 =>
    if v_4 = 0 then (
    some ((-1), S))
    else (
    (f_W_within S l2 (1 : Int32) (80 : Int32)).bind fun v_14 =>
    if v_14 = 0 then (
    some ((-1), S))
    else (
    (f_W_within S l3 (0 : Int32) (l1 - 1)).bind fun v_27 =>
    if v_27 = 0 then (
    (f_W_within S l3 (100 : Int32) (103 : Int32)).bind fun v_38 =>
    if v_38 = 0 then (
    some ((-1), S))
    else (
    f_W_twist_44 S l1 l2 l3))
    else (
    f_W_twist_44 S l1 l2 l3)))
set_option maxHeartbeats 4000000 in
set_option maxRecDepth 20000 in
theorem t_W_twist  {S : St} {l1 : Int32} {l2 : Int32} {l3 : Int32} {w : Int32 × St} (h : f_W_twist S l1 l2 l3 = some w) : Ct SX m_W_twist 5 [.ref 0, .int l1, .int l2, .int l3] S (some w.1) w.2 := by
  unfold f_W_twist at h
  refine Ct.of pn_W (Nat.le_of_ble_eq_true rfl) ?_
  show G SX m_W_twist 5 (some w.1) w.2 0 [(0, .ref 0), (1, .int l1), (2, .int l2), (3, .int l3)] [] S
  refine G_iload_n 1 rfl d_W_twist_0 ?_
  refine G_iconst 2 (by decide) d_W_twist_1 ?_
  refine G_bipush 8 (by decide) d_W_twist_2 ?_
  obtain ⟨v_4, q_4, h⟩ := ob_b h
  refine G_callS [.int l1, .int 2, .int 8] [] (t_W_within q_4) (by decide) (by decide) mt_W_within rfl ml_W_133 rfl (Nat.le_of_ble_eq_true rfl) d_W_twist_4 ?_
  refine G_if_eq 20 (by decide) d_W_twist_7 (fun c_7 => ?_) (fun c_7 => ?_)
  · replace h := ob_t h c_7
    refine G_iconst (-1) (by decide) d_W_twist_20 ?_
    cases h
    exact G_iret rfl d_W_twist_21
  · replace h := ob_f h c_7
    refine G_iload_n 2 rfl d_W_twist_10 ?_
    refine G_iconst 1 (by decide) d_W_twist_11 ?_
    refine G_bipush 80 (by decide) d_W_twist_12 ?_
    obtain ⟨v_14, q_14, h⟩ := ob_b h
    refine G_callS [.int l2, .int 1, .int 80] [] (t_W_within q_14) (by decide) (by decide) mt_W_within rfl ml_W_133 rfl (Nat.le_of_ble_eq_true rfl) d_W_twist_14 ?_
    refine G_if_ne 22 (by decide) d_W_twist_17 (fun c_17 => ?_) (fun c_17 => ?_)
    · replace h := ob_f h c_17
      refine G_iload_n 3 rfl d_W_twist_22 ?_
      refine G_iconst 0 (by decide) d_W_twist_23 ?_
      refine G_iload_n 1 rfl d_W_twist_24 ?_
      refine G_iconst 1 (by decide) d_W_twist_25 ?_
      refine G_isub d_W_twist_26 ?_
      obtain ⟨v_27, q_27, h⟩ := ob_b h
      refine G_callS [.int l3, .int 0, .int (l1 - 1)] [] (t_W_within q_27) (by decide) (by decide) mt_W_within rfl ml_W_133 rfl (Nat.le_of_ble_eq_true rfl) d_W_twist_27 ?_
      refine G_if_ne 44 (by decide) d_W_twist_30 (fun c_30 => ?_) (fun c_30 => ?_)
      · replace h := ob_f h c_30
        exact G_sub _ [0, 1, 2, 3] rfl (t_W_twist_44 S l1 l2 l3 _ h)
      · replace h := ob_t h c_30
        refine G_iload_n 3 rfl d_W_twist_33 ?_
        refine G_bipush 100 (by decide) d_W_twist_34 ?_
        refine G_bipush 103 (by decide) d_W_twist_36 ?_
        obtain ⟨v_38, q_38, h⟩ := ob_b h
        refine G_callS [.int l3, .int 100, .int 103] [] (t_W_within q_38) (by decide) (by decide) mt_W_within rfl ml_W_133 rfl (Nat.le_of_ble_eq_true rfl) d_W_twist_38 ?_
        refine G_if_eq 55 (by decide) d_W_twist_41 (fun c_41 => ?_) (fun c_41 => ?_)
        · replace h := ob_t h c_41
          refine G_iconst (-1) (by decide) d_W_twist_55 ?_
          cases h
          exact G_iret rfl d_W_twist_56
        · replace h := ob_f h c_41
          exact G_sub _ [0, 1, 2, 3] rfl (t_W_twist_44 S l1 l2 l3 _ h)
    · replace h := ob_t h c_17
      refine G_iconst (-1) (by decide) d_W_twist_20 ?_
      cases h
      exact G_iret rfl d_W_twist_21
theorem d_W_waiting_0 : decode m_W_waiting.2.1 0 = .ok (.iload_n 1, 1) := by decide +kernel
theorem d_W_waiting_1 : decode m_W_waiting.2.1 1 = .ok (.iconst 1, 1) := by decide +kernel
theorem d_W_waiting_2 : decode m_W_waiting.2.1 2 = .ok (.bipush 20, 2) := by decide +kernel
theorem d_W_waiting_4 : decode m_W_waiting.2.1 4 = .ok (.invokestatic 133, 3) := by decide +kernel
theorem d_W_waiting_7 : decode m_W_waiting.2.1 7 = .ok (.ifCond .eq 25, 3) := by decide +kernel
theorem d_W_waiting_10 : decode m_W_waiting.2.1 10 = .ok (.iload_n 2, 1) := by decide +kernel
theorem d_W_waiting_11 : decode m_W_waiting.2.1 11 = .ok (.iconst 0, 1) := by decide +kernel
theorem d_W_waiting_12 : decode m_W_waiting.2.1 12 = .ok (.iconst 1, 1) := by decide +kernel
theorem d_W_waiting_13 : decode m_W_waiting.2.1 13 = .ok (.invokestatic 133, 3) := by decide +kernel
theorem d_W_waiting_16 : decode m_W_waiting.2.1 16 = .ok (.ifCond .eq 16, 3) := by decide +kernel
theorem d_W_waiting_19 : decode m_W_waiting.2.1 19 = .ok (.aload_n 0, 1) := by decide +kernel
theorem d_W_waiting_20 : decode m_W_waiting.2.1 20 = .ok (.getfield 10, 3) := by decide +kernel
theorem d_W_waiting_23 : decode m_W_waiting.2.1 23 = .ok (.iconst 2, 1) := by decide +kernel
theorem d_W_waiting_24 : decode m_W_waiting.2.1 24 = .ok (.iload_n 1, 1) := by decide +kernel
theorem d_W_waiting_25 : decode m_W_waiting.2.1 25 = .ok (.imul, 1) := by decide +kernel
theorem d_W_waiting_26 : decode m_W_waiting.2.1 26 = .ok (.invokevirtual 137, 3) := by decide +kernel
theorem d_W_waiting_29 : decode m_W_waiting.2.1 29 = .ok (.ifCond .ne 5, 3) := by decide +kernel
theorem d_W_waiting_32 : decode m_W_waiting.2.1 32 = .ok (.iconst (-1), 1) := by decide +kernel
theorem d_W_waiting_33 : decode m_W_waiting.2.1 33 = .ok (.ireturn, 1) := by decide +kernel
theorem d_W_waiting_34 : decode m_W_waiting.2.1 34 = .ok (.aload_n 0, 1) := by decide +kernel
theorem d_W_waiting_35 : decode m_W_waiting.2.1 35 = .ok (.getfield 81, 3) := by decide +kernel
theorem d_W_waiting_38 : decode m_W_waiting.2.1 38 = .ok (.iload_n 1, 1) := by decide +kernel
theorem d_W_waiting_39 : decode m_W_waiting.2.1 39 = .ok (.invokevirtual 225, 3) := by decide +kernel
theorem d_W_waiting_42 : decode m_W_waiting.2.1 42 = .ok (.ifCond .ne 6, 3) := by decide +kernel
theorem d_W_waiting_45 : decode m_W_waiting.2.1 45 = .ok (.bipush (-3), 2) := by decide +kernel
theorem d_W_waiting_47 : decode m_W_waiting.2.1 47 = .ok (.ireturn, 1) := by decide +kernel
theorem d_W_waiting_48 : decode m_W_waiting.2.1 48 = .ok (.iload_n 2, 1) := by decide +kernel
theorem d_W_waiting_49 : decode m_W_waiting.2.1 49 = .ok (.ifCond .ne 13, 3) := by decide +kernel
theorem d_W_waiting_52 : decode m_W_waiting.2.1 52 = .ok (.aload_n 0, 1) := by decide +kernel
theorem d_W_waiting_53 : decode m_W_waiting.2.1 53 = .ok (.getfield 81, 3) := by decide +kernel
theorem d_W_waiting_56 : decode m_W_waiting.2.1 56 = .ok (.invokevirtual 227, 3) := by decide +kernel
theorem d_W_waiting_59 : decode m_W_waiting.2.1 59 = .ok (.goto 10, 3) := by decide +kernel
theorem d_W_waiting_62 : decode m_W_waiting.2.1 62 = .ok (.aload_n 0, 1) := by decide +kernel
theorem d_W_waiting_63 : decode m_W_waiting.2.1 63 = .ok (.getfield 81, 3) := by decide +kernel
theorem d_W_waiting_66 : decode m_W_waiting.2.1 66 = .ok (.invokevirtual 230, 3) := by decide +kernel
theorem d_W_waiting_69 : decode m_W_waiting.2.1 69 = .ok (.ireturn, 1) := by decide +kernel
def f_W_waiting (S : St) (l1 : Int32) (l2 : Int32) : Option (Int32 × St) :=
    (f_W_within S l1 (1 : Int32) (20 : Int32)).bind fun v_4 =>
    if v_4 = 0 then (
    some ((-1), S))
    else (
    (f_W_within S l2 (0 : Int32) (1 : Int32)).bind fun v_13 =>
    if v_13 = 0 then (
    some ((-1), S))
    else (
    (f_Tape_take S (2 * l1)).bind fun w_26 =>
    if w_26.1 = 0 then (
    some ((-1), w_26.2))
    else (
    (f_Waits_read w_26.2 l1).bind fun w_39 =>
    if w_39.1 = 0 then (
    some ((-3), w_39.2))
    else (
    if l2 = 0 then (
    (f_Waits_forEver w_39.2).bind fun v_56 =>
    some (v_56, w_39.2))
    else (
    (f_Waits_fewestToEnd w_39.2).bind fun w_66 =>
    some (w_66.1, w_66.2))))))
set_option maxHeartbeats 4000000 in
set_option maxRecDepth 20000 in
theorem t_W_waiting  {S : St} {l1 : Int32} {l2 : Int32} {w : Int32 × St} (h : f_W_waiting S l1 l2 = some w) : Ct SX m_W_waiting 62 [.ref 0, .int l1, .int l2] S (some w.1) w.2 := by
  unfold f_W_waiting at h
  refine Ct.of pn_W (Nat.le_of_ble_eq_true rfl) ?_
  show G SX m_W_waiting 62 (some w.1) w.2 0 [(0, .ref 0), (1, .int l1), (2, .int l2)] [] S
  refine G_iload_n 1 rfl d_W_waiting_0 ?_
  refine G_iconst 1 (by decide) d_W_waiting_1 ?_
  refine G_bipush 20 (by decide) d_W_waiting_2 ?_
  obtain ⟨v_4, q_4, h⟩ := ob_b h
  refine G_callS [.int l1, .int 1, .int 20] [] (t_W_within q_4) (by decide) (by decide) mt_W_within rfl ml_W_133 rfl (Nat.le_of_ble_eq_true rfl) d_W_waiting_4 ?_
  refine G_if_eq 32 (by decide) d_W_waiting_7 (fun c_7 => ?_) (fun c_7 => ?_)
  · replace h := ob_t h c_7
    refine G_iconst (-1) (by decide) d_W_waiting_32 ?_
    cases h
    exact G_iret rfl d_W_waiting_33
  · replace h := ob_f h c_7
    refine G_iload_n 2 rfl d_W_waiting_10 ?_
    refine G_iconst 0 (by decide) d_W_waiting_11 ?_
    refine G_iconst 1 (by decide) d_W_waiting_12 ?_
    obtain ⟨v_13, q_13, h⟩ := ob_b h
    refine G_callS [.int l2, .int 0, .int 1] [] (t_W_within q_13) (by decide) (by decide) mt_W_within rfl ml_W_133 rfl (Nat.le_of_ble_eq_true rfl) d_W_waiting_13 ?_
    refine G_if_eq 32 (by decide) d_W_waiting_16 (fun c_16 => ?_) (fun c_16 => ?_)
    · replace h := ob_t h c_16
      refine G_iconst (-1) (by decide) d_W_waiting_32 ?_
      cases h
      exact G_iret rfl d_W_waiting_33
    · replace h := ob_f h c_16
      refine G_aload_n 0 rfl d_W_waiting_19 ?_
      refine G_getR fl_W_10 kx_0 sx_0 rfl (by decide) d_W_waiting_20 ?_
      refine G_iconst 2 (by decide) d_W_waiting_23 ?_
      refine G_iload_n 1 rfl d_W_waiting_24 ?_
      refine G_imul d_W_waiting_25 ?_
      obtain ⟨w_26, q_26, h⟩ := ob_b h
      refine G_callV [.int (2 * l1)] [] (t_Tape_take q_26) (by decide) (by decide) mv_Tape_take rfl ml_W_137 kx_1 sx_1 cl_8 rfl (Nat.le_of_ble_eq_true rfl) d_W_waiting_26 ?_
      refine G_if_ne 34 (by decide) d_W_waiting_29 (fun c_29 => ?_) (fun c_29 => ?_)
      · replace h := ob_f h c_29
        refine G_aload_n 0 rfl d_W_waiting_34 ?_
        refine G_getR fl_W_81 kx_0 sx_0 rfl (by decide) d_W_waiting_35 ?_
        refine G_iload_n 1 rfl d_W_waiting_38 ?_
        obtain ⟨w_39, q_39, h⟩ := ob_b h
        refine G_callV [.int l1] [] (t_Waits_read q_39) (by decide) (by decide) mv_Waits_read rfl ml_W_225 kx_49 sx_49 cl_10 rfl (Nat.le_of_ble_eq_true rfl) d_W_waiting_39 ?_
        refine G_if_ne 48 (by decide) d_W_waiting_42 (fun c_42 => ?_) (fun c_42 => ?_)
        · replace h := ob_f h c_42
          refine G_iload_n 2 rfl d_W_waiting_48 ?_
          refine G_if_ne 62 (by decide) d_W_waiting_49 (fun c_49 => ?_) (fun c_49 => ?_)
          · replace h := ob_f h c_49
            refine G_aload_n 0 rfl d_W_waiting_62 ?_
            refine G_getR fl_W_81 kx_0 sx_0 rfl (by decide) d_W_waiting_63 ?_
            obtain ⟨w_66, q_66, h⟩ := ob_b h
            refine G_callV [] [] (t_Waits_fewestToEnd q_66) (by decide) (by decide) mv_Waits_fewestToEnd rfl ml_W_230 kx_49 sx_49 cl_10 rfl (Nat.le_of_ble_eq_true rfl) d_W_waiting_66 ?_
            cases h
            exact G_iret rfl d_W_waiting_69
          · replace h := ob_t h c_49
            refine G_aload_n 0 rfl d_W_waiting_52 ?_
            refine G_getR fl_W_81 kx_0 sx_0 rfl (by decide) d_W_waiting_53 ?_
            obtain ⟨v_56, q_56, h⟩ := ob_b h
            refine G_callV [] [] (t_Waits_forEver q_56) (by decide) (by decide) mv_Waits_forEver rfl ml_W_227 kx_49 sx_49 cl_10 rfl (Nat.le_of_ble_eq_true rfl) d_W_waiting_56 ?_
            refine G_goto 69 (by decide) d_W_waiting_59 ?_
            cases h
            exact G_iret rfl d_W_waiting_69
        · replace h := ob_t h c_42
          refine G_bipush (-3) (by decide) d_W_waiting_45 ?_
          cases h
          exact G_iret rfl d_W_waiting_47
      · replace h := ob_t h c_29
        refine G_iconst (-1) (by decide) d_W_waiting_32 ?_
        cases h
        exact G_iret rfl d_W_waiting_33
theorem d_W_spun_0 : decode m_W_spun.2.1 0 = .ok (.iload_n 1, 1) := by decide +kernel
theorem d_W_spun_1 : decode m_W_spun.2.1 1 = .ok (.iconst 1, 1) := by decide +kernel
theorem d_W_spun_2 : decode m_W_spun.2.1 2 = .ok (.bipush 8, 2) := by decide +kernel
theorem d_W_spun_4 : decode m_W_spun.2.1 4 = .ok (.invokestatic 133, 3) := by decide +kernel
theorem d_W_spun_7 : decode m_W_spun.2.1 7 = .ok (.ifCond .eq 25, 3) := by decide +kernel
theorem d_W_spun_10 : decode m_W_spun.2.1 10 = .ok (.iload_n 2, 1) := by decide +kernel
theorem d_W_spun_11 : decode m_W_spun.2.1 11 = .ok (.iconst 0, 1) := by decide +kernel
theorem d_W_spun_12 : decode m_W_spun.2.1 12 = .ok (.iconst 1, 1) := by decide +kernel
theorem d_W_spun_13 : decode m_W_spun.2.1 13 = .ok (.invokestatic 133, 3) := by decide +kernel
theorem d_W_spun_16 : decode m_W_spun.2.1 16 = .ok (.ifCond .eq 16, 3) := by decide +kernel
theorem d_W_spun_19 : decode m_W_spun.2.1 19 = .ok (.aload_n 0, 1) := by decide +kernel
theorem d_W_spun_20 : decode m_W_spun.2.1 20 = .ok (.getfield 10, 3) := by decide +kernel
theorem d_W_spun_23 : decode m_W_spun.2.1 23 = .ok (.iconst 2, 1) := by decide +kernel
theorem d_W_spun_24 : decode m_W_spun.2.1 24 = .ok (.iload_n 1, 1) := by decide +kernel
theorem d_W_spun_25 : decode m_W_spun.2.1 25 = .ok (.imul, 1) := by decide +kernel
theorem d_W_spun_26 : decode m_W_spun.2.1 26 = .ok (.invokevirtual 137, 3) := by decide +kernel
theorem d_W_spun_29 : decode m_W_spun.2.1 29 = .ok (.ifCond .ne 5, 3) := by decide +kernel
theorem d_W_spun_32 : decode m_W_spun.2.1 32 = .ok (.iconst (-1), 1) := by decide +kernel
theorem d_W_spun_33 : decode m_W_spun.2.1 33 = .ok (.ireturn, 1) := by decide +kernel
theorem d_W_spun_34 : decode m_W_spun.2.1 34 = .ok (.aload_n 0, 1) := by decide +kernel
theorem d_W_spun_35 : decode m_W_spun.2.1 35 = .ok (.getfield 95, 3) := by decide +kernel
theorem d_W_spun_38 : decode m_W_spun.2.1 38 = .ok (.iload_n 1, 1) := by decide +kernel
theorem d_W_spun_39 : decode m_W_spun.2.1 39 = .ok (.invokevirtual 233, 3) := by decide +kernel
theorem d_W_spun_42 : decode m_W_spun.2.1 42 = .ok (.istore_n 3, 1) := by decide +kernel
theorem d_W_spun_43 : decode m_W_spun.2.1 43 = .ok (.iload_n 2, 1) := by decide +kernel
theorem d_W_spun_44 : decode m_W_spun.2.1 44 = .ok (.ifCond .ne 15, 3) := by decide +kernel
theorem d_W_spun_47 : decode m_W_spun.2.1 47 = .ok (.aload_n 0, 1) := by decide +kernel
theorem d_W_spun_48 : decode m_W_spun.2.1 48 = .ok (.getfield 95, 3) := by decide +kernel
theorem d_W_spun_51 : decode m_W_spun.2.1 51 = .ok (.iload_n 3, 1) := by decide +kernel
theorem d_W_spun_52 : decode m_W_spun.2.1 52 = .ok (.iload_n 1, 1) := by decide +kernel
theorem d_W_spun_53 : decode m_W_spun.2.1 53 = .ok (.invokevirtual 236, 3) := by decide +kernel
theorem d_W_spun_56 : decode m_W_spun.2.1 56 = .ok (.goto 4, 3) := by decide +kernel
theorem d_W_spun_59 : decode m_W_spun.2.1 59 = .ok (.iload_n 3, 1) := by decide +kernel
theorem d_W_spun_60 : decode m_W_spun.2.1 60 = .ok (.ireturn, 1) := by decide +kernel
def f_W_spun (S : St) (l1 : Int32) (l2 : Int32) : Option (Int32 × St) :=
    (f_W_within S l1 (1 : Int32) (8 : Int32)).bind fun v_4 =>
    if v_4 = 0 then (
    some ((-1), S))
    else (
    (f_W_within S l2 (0 : Int32) (1 : Int32)).bind fun v_13 =>
    if v_13 = 0 then (
    some ((-1), S))
    else (
    (f_Tape_take S (2 * l1)).bind fun w_26 =>
    if w_26.1 = 0 then (
    some ((-1), w_26.2))
    else (
    (f_Rows_bestFirst w_26.2 l1).bind fun v_39 =>
    if l2 = 0 then (
    (f_Rows_hoursBehind w_26.2 v_39 l1).bind fun v_53 =>
    some (v_53, w_26.2))
    else (
    some (v_39, w_26.2)))))
set_option maxHeartbeats 4000000 in
set_option maxRecDepth 20000 in
theorem t_W_spun  {S : St} {l1 : Int32} {l2 : Int32} {w : Int32 × St} (h : f_W_spun S l1 l2 = some w) : Ct SX m_W_spun 6 [.ref 0, .int l1, .int l2] S (some w.1) w.2 := by
  unfold f_W_spun at h
  refine Ct.of pn_W (Nat.le_of_ble_eq_true rfl) ?_
  show G SX m_W_spun 6 (some w.1) w.2 0 [(0, .ref 0), (1, .int l1), (2, .int l2)] [] S
  refine G_iload_n 1 rfl d_W_spun_0 ?_
  refine G_iconst 1 (by decide) d_W_spun_1 ?_
  refine G_bipush 8 (by decide) d_W_spun_2 ?_
  obtain ⟨v_4, q_4, h⟩ := ob_b h
  refine G_callS [.int l1, .int 1, .int 8] [] (t_W_within q_4) (by decide) (by decide) mt_W_within rfl ml_W_133 rfl (Nat.le_of_ble_eq_true rfl) d_W_spun_4 ?_
  refine G_if_eq 32 (by decide) d_W_spun_7 (fun c_7 => ?_) (fun c_7 => ?_)
  · replace h := ob_t h c_7
    refine G_iconst (-1) (by decide) d_W_spun_32 ?_
    cases h
    exact G_iret rfl d_W_spun_33
  · replace h := ob_f h c_7
    refine G_iload_n 2 rfl d_W_spun_10 ?_
    refine G_iconst 0 (by decide) d_W_spun_11 ?_
    refine G_iconst 1 (by decide) d_W_spun_12 ?_
    obtain ⟨v_13, q_13, h⟩ := ob_b h
    refine G_callS [.int l2, .int 0, .int 1] [] (t_W_within q_13) (by decide) (by decide) mt_W_within rfl ml_W_133 rfl (Nat.le_of_ble_eq_true rfl) d_W_spun_13 ?_
    refine G_if_eq 32 (by decide) d_W_spun_16 (fun c_16 => ?_) (fun c_16 => ?_)
    · replace h := ob_t h c_16
      refine G_iconst (-1) (by decide) d_W_spun_32 ?_
      cases h
      exact G_iret rfl d_W_spun_33
    · replace h := ob_f h c_16
      refine G_aload_n 0 rfl d_W_spun_19 ?_
      refine G_getR fl_W_10 kx_0 sx_0 rfl (by decide) d_W_spun_20 ?_
      refine G_iconst 2 (by decide) d_W_spun_23 ?_
      refine G_iload_n 1 rfl d_W_spun_24 ?_
      refine G_imul d_W_spun_25 ?_
      obtain ⟨w_26, q_26, h⟩ := ob_b h
      refine G_callV [.int (2 * l1)] [] (t_Tape_take q_26) (by decide) (by decide) mv_Tape_take rfl ml_W_137 kx_1 sx_1 cl_8 rfl (Nat.le_of_ble_eq_true rfl) d_W_spun_26 ?_
      refine G_if_ne 34 (by decide) d_W_spun_29 (fun c_29 => ?_) (fun c_29 => ?_)
      · replace h := ob_f h c_29
        refine G_aload_n 0 rfl d_W_spun_34 ?_
        refine G_getR fl_W_95 kx_0 sx_0 rfl (by decide) d_W_spun_35 ?_
        refine G_iload_n 1 rfl d_W_spun_38 ?_
        obtain ⟨v_39, q_39, h⟩ := ob_b h
        refine G_callV [.int l1] [] (t_Rows_bestFirst q_39) (by decide) (by decide) mv_Rows_bestFirst rfl ml_W_233 kx_56 sx_56 cl_6 rfl (Nat.le_of_ble_eq_true rfl) d_W_spun_39 ?_
        refine G_istore_n [(3, .int v_39), (0, .ref 0), (1, .int l1), (2, .int l2)] rfl rfl (by decide) d_W_spun_42 ?_
        refine G_iload_n 3 rfl d_W_spun_43 ?_
        refine G_if_ne 59 (by decide) d_W_spun_44 (fun c_44 => ?_) (fun c_44 => ?_)
        · replace h := ob_f h c_44
          refine G_iload_n 0 rfl d_W_spun_59 ?_
          cases h
          exact G_iret rfl d_W_spun_60
        · replace h := ob_t h c_44
          refine G_aload_n 1 rfl d_W_spun_47 ?_
          refine G_getR fl_W_95 kx_0 sx_0 rfl (by decide) d_W_spun_48 ?_
          refine G_iload_n 0 rfl d_W_spun_51 ?_
          refine G_iload_n 2 rfl d_W_spun_52 ?_
          obtain ⟨v_53, q_53, h⟩ := ob_b h
          refine G_callV [.int v_39, .int l1] [] (t_Rows_hoursBehind q_53) (by decide) (by decide) mv_Rows_hoursBehind rfl ml_W_236 kx_56 sx_56 cl_6 rfl (Nat.le_of_ble_eq_true rfl) d_W_spun_53 ?_
          refine G_goto 60 (by decide) d_W_spun_56 ?_
          cases h
          exact G_iret rfl d_W_spun_60
      · replace h := ob_t h c_29
        refine G_iconst (-1) (by decide) d_W_spun_32 ?_
        cases h
        exact G_iret rfl d_W_spun_33
theorem d_W_night_0 : decode m_W_night.2.1 0 = .ok (.iload_n 1, 1) := by decide +kernel
theorem d_W_night_1 : decode m_W_night.2.1 1 = .ok (.iconst 1, 1) := by decide +kernel
theorem d_W_night_2 : decode m_W_night.2.1 2 = .ok (.bipush 16, 2) := by decide +kernel
theorem d_W_night_4 : decode m_W_night.2.1 4 = .ok (.invokestatic 133, 3) := by decide +kernel
theorem d_W_night_7 : decode m_W_night.2.1 7 = .ok (.ifCond .eq 27, 3) := by decide +kernel
theorem d_W_night_10 : decode m_W_night.2.1 10 = .ok (.iload_n 2, 1) := by decide +kernel
theorem d_W_night_11 : decode m_W_night.2.1 11 = .ok (.iconst 1, 1) := by decide +kernel
theorem d_W_night_12 : decode m_W_night.2.1 12 = .ok (.sipush 255, 3) := by decide +kernel
theorem d_W_night_15 : decode m_W_night.2.1 15 = .ok (.invokestatic 133, 3) := by decide +kernel
theorem d_W_night_18 : decode m_W_night.2.1 18 = .ok (.ifCond .eq 16, 3) := by decide +kernel
theorem d_W_night_21 : decode m_W_night.2.1 21 = .ok (.aload_n 0, 1) := by decide +kernel
theorem d_W_night_22 : decode m_W_night.2.1 22 = .ok (.getfield 10, 3) := by decide +kernel
theorem d_W_night_25 : decode m_W_night.2.1 25 = .ok (.iconst 2, 1) := by decide +kernel
theorem d_W_night_26 : decode m_W_night.2.1 26 = .ok (.iload_n 1, 1) := by decide +kernel
theorem d_W_night_27 : decode m_W_night.2.1 27 = .ok (.imul, 1) := by decide +kernel
theorem d_W_night_28 : decode m_W_night.2.1 28 = .ok (.invokevirtual 137, 3) := by decide +kernel
theorem d_W_night_31 : decode m_W_night.2.1 31 = .ok (.ifCond .ne 5, 3) := by decide +kernel
theorem d_W_night_34 : decode m_W_night.2.1 34 = .ok (.iconst (-1), 1) := by decide +kernel
theorem d_W_night_35 : decode m_W_night.2.1 35 = .ok (.ireturn, 1) := by decide +kernel
theorem d_W_night_36 : decode m_W_night.2.1 36 = .ok (.aload_n 0, 1) := by decide +kernel
theorem d_W_night_37 : decode m_W_night.2.1 37 = .ok (.getfield 95, 3) := by decide +kernel
theorem d_W_night_40 : decode m_W_night.2.1 40 = .ok (.iload_n 1, 1) := by decide +kernel
theorem d_W_night_41 : decode m_W_night.2.1 41 = .ok (.iload_n 2, 1) := by decide +kernel
theorem d_W_night_42 : decode m_W_night.2.1 42 = .ok (.invokevirtual 240, 3) := by decide +kernel
theorem d_W_night_45 : decode m_W_night.2.1 45 = .ok (.ireturn, 1) := by decide +kernel
def f_W_night (S : St) (l1 : Int32) (l2 : Int32) : Option (Int32 × St) :=
    (f_W_within S l1 (1 : Int32) (16 : Int32)).bind fun v_4 =>
    if v_4 = 0 then (
    some ((-1), S))
    else (
    (f_W_within S l2 (1 : Int32) (255 : Int32)).bind fun v_15 =>
    if v_15 = 0 then (
    some ((-1), S))
    else (
    (f_Tape_take S (2 * l1)).bind fun w_28 =>
    if w_28.1 = 0 then (
    some ((-1), w_28.2))
    else (
    (f_Rows_fewestWicks w_28.2 l1 l2).bind fun v_42 =>
    some (v_42, w_28.2))))
set_option maxHeartbeats 4000000 in
set_option maxRecDepth 20000 in
theorem t_W_night  {S : St} {l1 : Int32} {l2 : Int32} {w : Int32 × St} (h : f_W_night S l1 l2 = some w) : Ct SX m_W_night 4 [.ref 0, .int l1, .int l2] S (some w.1) w.2 := by
  unfold f_W_night at h
  refine Ct.of pn_W (Nat.le_of_ble_eq_true rfl) ?_
  show G SX m_W_night 4 (some w.1) w.2 0 [(0, .ref 0), (1, .int l1), (2, .int l2)] [] S
  refine G_iload_n 1 rfl d_W_night_0 ?_
  refine G_iconst 1 (by decide) d_W_night_1 ?_
  refine G_bipush 16 (by decide) d_W_night_2 ?_
  obtain ⟨v_4, q_4, h⟩ := ob_b h
  refine G_callS [.int l1, .int 1, .int 16] [] (t_W_within q_4) (by decide) (by decide) mt_W_within rfl ml_W_133 rfl (Nat.le_of_ble_eq_true rfl) d_W_night_4 ?_
  refine G_if_eq 34 (by decide) d_W_night_7 (fun c_7 => ?_) (fun c_7 => ?_)
  · replace h := ob_t h c_7
    refine G_iconst (-1) (by decide) d_W_night_34 ?_
    cases h
    exact G_iret rfl d_W_night_35
  · replace h := ob_f h c_7
    refine G_iload_n 2 rfl d_W_night_10 ?_
    refine G_iconst 1 (by decide) d_W_night_11 ?_
    refine G_sipush 255 (by decide) d_W_night_12 ?_
    obtain ⟨v_15, q_15, h⟩ := ob_b h
    refine G_callS [.int l2, .int 1, .int 255] [] (t_W_within q_15) (by decide) (by decide) mt_W_within rfl ml_W_133 rfl (Nat.le_of_ble_eq_true rfl) d_W_night_15 ?_
    refine G_if_eq 34 (by decide) d_W_night_18 (fun c_18 => ?_) (fun c_18 => ?_)
    · replace h := ob_t h c_18
      refine G_iconst (-1) (by decide) d_W_night_34 ?_
      cases h
      exact G_iret rfl d_W_night_35
    · replace h := ob_f h c_18
      refine G_aload_n 0 rfl d_W_night_21 ?_
      refine G_getR fl_W_10 kx_0 sx_0 rfl (by decide) d_W_night_22 ?_
      refine G_iconst 2 (by decide) d_W_night_25 ?_
      refine G_iload_n 1 rfl d_W_night_26 ?_
      refine G_imul d_W_night_27 ?_
      obtain ⟨w_28, q_28, h⟩ := ob_b h
      refine G_callV [.int (2 * l1)] [] (t_Tape_take q_28) (by decide) (by decide) mv_Tape_take rfl ml_W_137 kx_1 sx_1 cl_8 rfl (Nat.le_of_ble_eq_true rfl) d_W_night_28 ?_
      refine G_if_ne 36 (by decide) d_W_night_31 (fun c_31 => ?_) (fun c_31 => ?_)
      · replace h := ob_f h c_31
        refine G_aload_n 0 rfl d_W_night_36 ?_
        refine G_getR fl_W_95 kx_0 sx_0 rfl (by decide) d_W_night_37 ?_
        refine G_iload_n 1 rfl d_W_night_40 ?_
        refine G_iload_n 2 rfl d_W_night_41 ?_
        obtain ⟨v_42, q_42, h⟩ := ob_b h
        refine G_callV [.int l1, .int l2] [] (t_Rows_fewestWicks q_42) (by decide) (by decide) mv_Rows_fewestWicks rfl ml_W_240 kx_56 sx_56 cl_6 rfl (Nat.le_of_ble_eq_true rfl) d_W_night_42 ?_
        cases h
        exact G_iret rfl d_W_night_45
      · replace h := ob_t h c_31
        refine G_iconst (-1) (by decide) d_W_night_34 ?_
        cases h
        exact G_iret rfl d_W_night_35
theorem d_W_putsOff_0 : decode m_W_putsOff.2.1 0 = .ok (.iload_n 1, 1) := by decide +kernel
theorem d_W_putsOff_1 : decode m_W_putsOff.2.1 1 = .ok (.iconst 1, 1) := by decide +kernel
theorem d_W_putsOff_2 : decode m_W_putsOff.2.1 2 = .ok (.bipush 16, 2) := by decide +kernel
theorem d_W_putsOff_4 : decode m_W_putsOff.2.1 4 = .ok (.invokestatic 133, 3) := by decide +kernel
theorem d_W_putsOff_7 : decode m_W_putsOff.2.1 7 = .ok (.ifCond .eq 34, 3) := by decide +kernel
theorem d_W_putsOff_10 : decode m_W_putsOff.2.1 10 = .ok (.iload_n 2, 1) := by decide +kernel
theorem d_W_putsOff_11 : decode m_W_putsOff.2.1 11 = .ok (.iconst 1, 1) := by decide +kernel
theorem d_W_putsOff_12 : decode m_W_putsOff.2.1 12 = .ok (.bipush 10, 2) := by decide +kernel
theorem d_W_putsOff_14 : decode m_W_putsOff.2.1 14 = .ok (.invokestatic 133, 3) := by decide +kernel
theorem d_W_putsOff_17 : decode m_W_putsOff.2.1 17 = .ok (.ifCond .eq 24, 3) := by decide +kernel
theorem d_W_putsOff_20 : decode m_W_putsOff.2.1 20 = .ok (.iload 4, 2) := by decide +kernel
theorem d_W_putsOff_22 : decode m_W_putsOff.2.1 22 = .ok (.iconst 0, 1) := by decide +kernel
theorem d_W_putsOff_23 : decode m_W_putsOff.2.1 23 = .ok (.iconst 1, 1) := by decide +kernel
theorem d_W_putsOff_24 : decode m_W_putsOff.2.1 24 = .ok (.invokestatic 133, 3) := by decide +kernel
theorem d_W_putsOff_27 : decode m_W_putsOff.2.1 27 = .ok (.ifCond .eq 14, 3) := by decide +kernel
theorem d_W_putsOff_30 : decode m_W_putsOff.2.1 30 = .ok (.aload_n 0, 1) := by decide +kernel
theorem d_W_putsOff_31 : decode m_W_putsOff.2.1 31 = .ok (.getfield 10, 3) := by decide +kernel
theorem d_W_putsOff_34 : decode m_W_putsOff.2.1 34 = .ok (.iload_n 1, 1) := by decide +kernel
theorem d_W_putsOff_35 : decode m_W_putsOff.2.1 35 = .ok (.invokevirtual 137, 3) := by decide +kernel
theorem d_W_putsOff_38 : decode m_W_putsOff.2.1 38 = .ok (.ifCond .ne 5, 3) := by decide +kernel
theorem d_W_putsOff_41 : decode m_W_putsOff.2.1 41 = .ok (.iconst (-1), 1) := by decide +kernel
theorem d_W_putsOff_42 : decode m_W_putsOff.2.1 42 = .ok (.ireturn, 1) := by decide +kernel
theorem d_W_putsOff_43 : decode m_W_putsOff.2.1 43 = .ok (.iload_n 3, 1) := by decide +kernel
theorem d_W_putsOff_44 : decode m_W_putsOff.2.1 44 = .ok (.ifCond .eq 15, 3) := by decide +kernel
theorem d_W_putsOff_47 : decode m_W_putsOff.2.1 47 = .ok (.aload_n 0, 1) := by decide +kernel
theorem d_W_putsOff_48 : decode m_W_putsOff.2.1 48 = .ok (.getfield 95, 3) := by decide +kernel
theorem d_W_putsOff_51 : decode m_W_putsOff.2.1 51 = .ok (.iload_n 1, 1) := by decide +kernel
theorem d_W_putsOff_52 : decode m_W_putsOff.2.1 52 = .ok (.iload_n 2, 1) := by decide +kernel
theorem d_W_putsOff_53 : decode m_W_putsOff.2.1 53 = .ok (.invokevirtual 243, 3) := by decide +kernel
theorem d_W_putsOff_56 : decode m_W_putsOff.2.1 56 = .ok (.goto 12, 3) := by decide +kernel
theorem d_W_putsOff_59 : decode m_W_putsOff.2.1 59 = .ok (.aload_n 0, 1) := by decide +kernel
theorem d_W_putsOff_60 : decode m_W_putsOff.2.1 60 = .ok (.getfield 95, 3) := by decide +kernel
theorem d_W_putsOff_63 : decode m_W_putsOff.2.1 63 = .ok (.iload_n 1, 1) := by decide +kernel
theorem d_W_putsOff_64 : decode m_W_putsOff.2.1 64 = .ok (.iload_n 2, 1) := by decide +kernel
theorem d_W_putsOff_65 : decode m_W_putsOff.2.1 65 = .ok (.invokevirtual 246, 3) := by decide +kernel
theorem d_W_putsOff_68 : decode m_W_putsOff.2.1 68 = .ok (.istore 5, 2) := by decide +kernel
theorem d_W_putsOff_70 : decode m_W_putsOff.2.1 70 = .ok (.iload 4, 2) := by decide +kernel
theorem d_W_putsOff_72 : decode m_W_putsOff.2.1 72 = .ok (.ifCond .ne 8, 3) := by decide +kernel
theorem d_W_putsOff_75 : decode m_W_putsOff.2.1 75 = .ok (.iload 5, 2) := by decide +kernel
theorem d_W_putsOff_77 : decode m_W_putsOff.2.1 77 = .ok (.goto 12, 3) := by decide +kernel
theorem d_W_putsOff_80 : decode m_W_putsOff.2.1 80 = .ok (.aload_n 0, 1) := by decide +kernel
theorem d_W_putsOff_81 : decode m_W_putsOff.2.1 81 = .ok (.getfield 10, 3) := by decide +kernel
theorem d_W_putsOff_84 : decode m_W_putsOff.2.1 84 = .ok (.iload 5, 2) := by decide +kernel
theorem d_W_putsOff_86 : decode m_W_putsOff.2.1 86 = .ok (.invokevirtual 249, 3) := by decide +kernel
theorem d_W_putsOff_89 : decode m_W_putsOff.2.1 89 = .ok (.ireturn, 1) := by decide +kernel
def f_W_putsOff_68 (S : St) (l4 : Int32) (s0 : Int32) : Option (Int32 × St) :=
    if l4 = 0 then (
    some (s0, S))
    else (
    (f_Tape_at S s0).bind fun v_86 =>
    some (v_86, S))
set_option maxHeartbeats 4000000 in
set_option maxRecDepth 20000 in
theorem t_W_putsOff_68  (S : St) (l4 : Int32) (s0 : Int32) (w : Int32 × St) (h : f_W_putsOff_68 S l4 s0 = some w) : G SX m_W_putsOff 3 (some w.1) w.2 68 [(0, .ref 0), (4, .int l4)] [.int s0] S := by
  unfold f_W_putsOff_68 at h
  refine G_istore [(5, .int s0), (0, .ref 0), (4, .int l4)] rfl rfl (by decide) d_W_putsOff_68 ?_
  refine G_iload 2 rfl d_W_putsOff_70 ?_
  refine G_if_ne 80 (by decide) d_W_putsOff_72 (fun c_72 => ?_) (fun c_72 => ?_)
  · replace h := ob_f h c_72
    refine G_aload_n 1 rfl d_W_putsOff_80 ?_
    refine G_getR fl_W_10 kx_0 sx_0 rfl (by decide) d_W_putsOff_81 ?_
    refine G_iload 0 rfl d_W_putsOff_84 ?_
    obtain ⟨v_86, q_86, h⟩ := ob_b h
    refine G_callV [.int s0] [] (t_Tape_at q_86) (by decide) (by decide) mv_Tape_at rfl ml_W_249 kx_1 sx_1 cl_8 rfl (Nat.le_of_ble_eq_true rfl) d_W_putsOff_86 ?_
    cases h
    exact G_iret rfl d_W_putsOff_89
  · replace h := ob_t h c_72
    refine G_iload 0 rfl d_W_putsOff_75 ?_
    refine G_goto 89 (by decide) d_W_putsOff_77 ?_
    cases h
    exact G_iret rfl d_W_putsOff_89
def f_W_putsOff (S : St) (l1 : Int32) (l2 : Int32) (l3 : Int32) (l4 : Int32) : Option (Int32 × St) :=
    (f_W_within S l1 (1 : Int32) (16 : Int32)).bind fun v_4 =>
    if v_4 = 0 then (
    some ((-1), S))
    else (
    (f_W_within S l2 (1 : Int32) (10 : Int32)).bind fun v_14 =>
    if v_14 = 0 then (
    some ((-1), S))
    else (
    (f_W_within S l4 (0 : Int32) (1 : Int32)).bind fun v_24 =>
    if v_24 = 0 then (
    some ((-1), S))
    else (
    (f_Tape_take S l1).bind fun w_35 =>
    if w_35.1 = 0 then (
    some ((-1), w_35.2))
    else (
    if l3 = 0 then (
    (f_Rows_dayIfNotKnowing w_35.2 l1 l2).bind fun v_65 =>
    f_W_putsOff_68 w_35.2 l4 v_65)
    else (
    (f_Rows_dayIfKnowing w_35.2 l1 l2).bind fun v_53 =>
    f_W_putsOff_68 w_35.2 l4 v_53)))))
set_option maxHeartbeats 4000000 in
set_option maxRecDepth 20000 in
theorem t_W_putsOff  {S : St} {l1 : Int32} {l2 : Int32} {l3 : Int32} {l4 : Int32} {w : Int32 × St} (h : f_W_putsOff S l1 l2 l3 l4 = some w) : Ct SX m_W_putsOff 3 [.ref 0, .int l1, .int l2, .int l3, .int l4] S (some w.1) w.2 := by
  unfold f_W_putsOff at h
  refine Ct.of pn_W (Nat.le_of_ble_eq_true rfl) ?_
  show G SX m_W_putsOff 3 (some w.1) w.2 0 [(0, .ref 0), (1, .int l1), (2, .int l2), (3, .int l3), (4, .int l4)] [] S
  refine G_iload_n 1 rfl d_W_putsOff_0 ?_
  refine G_iconst 1 (by decide) d_W_putsOff_1 ?_
  refine G_bipush 16 (by decide) d_W_putsOff_2 ?_
  obtain ⟨v_4, q_4, h⟩ := ob_b h
  refine G_callS [.int l1, .int 1, .int 16] [] (t_W_within q_4) (by decide) (by decide) mt_W_within rfl ml_W_133 rfl (Nat.le_of_ble_eq_true rfl) d_W_putsOff_4 ?_
  refine G_if_eq 41 (by decide) d_W_putsOff_7 (fun c_7 => ?_) (fun c_7 => ?_)
  · replace h := ob_t h c_7
    refine G_iconst (-1) (by decide) d_W_putsOff_41 ?_
    cases h
    exact G_iret rfl d_W_putsOff_42
  · replace h := ob_f h c_7
    refine G_iload_n 2 rfl d_W_putsOff_10 ?_
    refine G_iconst 1 (by decide) d_W_putsOff_11 ?_
    refine G_bipush 10 (by decide) d_W_putsOff_12 ?_
    obtain ⟨v_14, q_14, h⟩ := ob_b h
    refine G_callS [.int l2, .int 1, .int 10] [] (t_W_within q_14) (by decide) (by decide) mt_W_within rfl ml_W_133 rfl (Nat.le_of_ble_eq_true rfl) d_W_putsOff_14 ?_
    refine G_if_eq 41 (by decide) d_W_putsOff_17 (fun c_17 => ?_) (fun c_17 => ?_)
    · replace h := ob_t h c_17
      refine G_iconst (-1) (by decide) d_W_putsOff_41 ?_
      cases h
      exact G_iret rfl d_W_putsOff_42
    · replace h := ob_f h c_17
      refine G_iload 4 rfl d_W_putsOff_20 ?_
      refine G_iconst 0 (by decide) d_W_putsOff_22 ?_
      refine G_iconst 1 (by decide) d_W_putsOff_23 ?_
      obtain ⟨v_24, q_24, h⟩ := ob_b h
      refine G_callS [.int l4, .int 0, .int 1] [] (t_W_within q_24) (by decide) (by decide) mt_W_within rfl ml_W_133 rfl (Nat.le_of_ble_eq_true rfl) d_W_putsOff_24 ?_
      refine G_if_eq 41 (by decide) d_W_putsOff_27 (fun c_27 => ?_) (fun c_27 => ?_)
      · replace h := ob_t h c_27
        refine G_iconst (-1) (by decide) d_W_putsOff_41 ?_
        cases h
        exact G_iret rfl d_W_putsOff_42
      · replace h := ob_f h c_27
        refine G_aload_n 0 rfl d_W_putsOff_30 ?_
        refine G_getR fl_W_10 kx_0 sx_0 rfl (by decide) d_W_putsOff_31 ?_
        refine G_iload_n 1 rfl d_W_putsOff_34 ?_
        obtain ⟨w_35, q_35, h⟩ := ob_b h
        refine G_callV [.int l1] [] (t_Tape_take q_35) (by decide) (by decide) mv_Tape_take rfl ml_W_137 kx_1 sx_1 cl_8 rfl (Nat.le_of_ble_eq_true rfl) d_W_putsOff_35 ?_
        refine G_if_ne 43 (by decide) d_W_putsOff_38 (fun c_38 => ?_) (fun c_38 => ?_)
        · replace h := ob_f h c_38
          refine G_iload_n 3 rfl d_W_putsOff_43 ?_
          refine G_if_eq 59 (by decide) d_W_putsOff_44 (fun c_44 => ?_) (fun c_44 => ?_)
          · replace h := ob_t h c_44
            refine G_aload_n 0 rfl d_W_putsOff_59 ?_
            refine G_getR fl_W_95 kx_0 sx_0 rfl (by decide) d_W_putsOff_60 ?_
            refine G_iload_n 1 rfl d_W_putsOff_63 ?_
            refine G_iload_n 2 rfl d_W_putsOff_64 ?_
            obtain ⟨v_65, q_65, h⟩ := ob_b h
            refine G_callV [.int l1, .int l2] [] (t_Rows_dayIfNotKnowing q_65) (by decide) (by decide) mv_Rows_dayIfNotKnowing rfl ml_W_246 kx_56 sx_56 cl_6 rfl (Nat.le_of_ble_eq_true rfl) d_W_putsOff_65 ?_
            exact G_sub _ [0, 4] rfl (t_W_putsOff_68 w_35.2 l4 v_65 _ h)
          · replace h := ob_f h c_44
            refine G_aload_n 0 rfl d_W_putsOff_47 ?_
            refine G_getR fl_W_95 kx_0 sx_0 rfl (by decide) d_W_putsOff_48 ?_
            refine G_iload_n 1 rfl d_W_putsOff_51 ?_
            refine G_iload_n 2 rfl d_W_putsOff_52 ?_
            obtain ⟨v_53, q_53, h⟩ := ob_b h
            refine G_callV [.int l1, .int l2] [] (t_Rows_dayIfKnowing q_53) (by decide) (by decide) mv_Rows_dayIfKnowing rfl ml_W_243 kx_56 sx_56 cl_6 rfl (Nat.le_of_ble_eq_true rfl) d_W_putsOff_53 ?_
            refine G_goto 68 (by decide) d_W_putsOff_56 ?_
            exact G_sub _ [0, 4] rfl (t_W_putsOff_68 w_35.2 l4 v_53 _ h)
        · replace h := ob_t h c_38
          refine G_iconst (-1) (by decide) d_W_putsOff_41 ?_
          cases h
          exact G_iret rfl d_W_putsOff_42
theorem d_W_cord_0 : decode m_W_cord.2.1 0 = .ok (.iload_n 1, 1) := by decide +kernel
theorem d_W_cord_1 : decode m_W_cord.2.1 1 = .ok (.iconst 2, 1) := by decide +kernel
theorem d_W_cord_2 : decode m_W_cord.2.1 2 = .ok (.bipush 12, 2) := by decide +kernel
theorem d_W_cord_4 : decode m_W_cord.2.1 4 = .ok (.invokestatic 133, 3) := by decide +kernel
theorem d_W_cord_7 : decode m_W_cord.2.1 7 = .ok (.ifCond .eq 24, 3) := by decide +kernel
theorem d_W_cord_10 : decode m_W_cord.2.1 10 = .ok (.iload_n 2, 1) := by decide +kernel
theorem d_W_cord_11 : decode m_W_cord.2.1 11 = .ok (.iconst 1, 1) := by decide +kernel
theorem d_W_cord_12 : decode m_W_cord.2.1 12 = .ok (.bipush 8, 2) := by decide +kernel
theorem d_W_cord_14 : decode m_W_cord.2.1 14 = .ok (.invokestatic 133, 3) := by decide +kernel
theorem d_W_cord_17 : decode m_W_cord.2.1 17 = .ok (.ifCond .eq 14, 3) := by decide +kernel
theorem d_W_cord_20 : decode m_W_cord.2.1 20 = .ok (.aload_n 0, 1) := by decide +kernel
theorem d_W_cord_21 : decode m_W_cord.2.1 21 = .ok (.getfield 10, 3) := by decide +kernel
theorem d_W_cord_24 : decode m_W_cord.2.1 24 = .ok (.iload_n 1, 1) := by decide +kernel
theorem d_W_cord_25 : decode m_W_cord.2.1 25 = .ok (.invokevirtual 137, 3) := by decide +kernel
theorem d_W_cord_28 : decode m_W_cord.2.1 28 = .ok (.ifCond .ne 5, 3) := by decide +kernel
theorem d_W_cord_31 : decode m_W_cord.2.1 31 = .ok (.iconst (-1), 1) := by decide +kernel
theorem d_W_cord_32 : decode m_W_cord.2.1 32 = .ok (.ireturn, 1) := by decide +kernel
theorem d_W_cord_33 : decode m_W_cord.2.1 33 = .ok (.aload_n 0, 1) := by decide +kernel
theorem d_W_cord_34 : decode m_W_cord.2.1 34 = .ok (.getfield 95, 3) := by decide +kernel
theorem d_W_cord_37 : decode m_W_cord.2.1 37 = .ok (.iload_n 1, 1) := by decide +kernel
theorem d_W_cord_38 : decode m_W_cord.2.1 38 = .ok (.iload_n 2, 1) := by decide +kernel
theorem d_W_cord_39 : decode m_W_cord.2.1 39 = .ok (.invokevirtual 252, 3) := by decide +kernel
theorem d_W_cord_42 : decode m_W_cord.2.1 42 = .ok (.ireturn, 1) := by decide +kernel
def f_W_cord (S : St) (l1 : Int32) (l2 : Int32) : Option (Int32 × St) :=
    (f_W_within S l1 (2 : Int32) (12 : Int32)).bind fun v_4 =>
    if v_4 = 0 then (
    some ((-1), S))
    else (
    (f_W_within S l2 (1 : Int32) (8 : Int32)).bind fun v_14 =>
    if v_14 = 0 then (
    some ((-1), S))
    else (
    (f_Tape_take S l1).bind fun w_25 =>
    if w_25.1 = 0 then (
    some ((-1), w_25.2))
    else (
    (f_Rows_longestCord w_25.2 l1 l2).bind fun v_39 =>
    some (v_39, w_25.2))))
set_option maxHeartbeats 4000000 in
set_option maxRecDepth 20000 in
theorem t_W_cord  {S : St} {l1 : Int32} {l2 : Int32} {w : Int32 × St} (h : f_W_cord S l1 l2 = some w) : Ct SX m_W_cord 4 [.ref 0, .int l1, .int l2] S (some w.1) w.2 := by
  unfold f_W_cord at h
  refine Ct.of pn_W (Nat.le_of_ble_eq_true rfl) ?_
  show G SX m_W_cord 4 (some w.1) w.2 0 [(0, .ref 0), (1, .int l1), (2, .int l2)] [] S
  refine G_iload_n 1 rfl d_W_cord_0 ?_
  refine G_iconst 2 (by decide) d_W_cord_1 ?_
  refine G_bipush 12 (by decide) d_W_cord_2 ?_
  obtain ⟨v_4, q_4, h⟩ := ob_b h
  refine G_callS [.int l1, .int 2, .int 12] [] (t_W_within q_4) (by decide) (by decide) mt_W_within rfl ml_W_133 rfl (Nat.le_of_ble_eq_true rfl) d_W_cord_4 ?_
  refine G_if_eq 31 (by decide) d_W_cord_7 (fun c_7 => ?_) (fun c_7 => ?_)
  · replace h := ob_t h c_7
    refine G_iconst (-1) (by decide) d_W_cord_31 ?_
    cases h
    exact G_iret rfl d_W_cord_32
  · replace h := ob_f h c_7
    refine G_iload_n 2 rfl d_W_cord_10 ?_
    refine G_iconst 1 (by decide) d_W_cord_11 ?_
    refine G_bipush 8 (by decide) d_W_cord_12 ?_
    obtain ⟨v_14, q_14, h⟩ := ob_b h
    refine G_callS [.int l2, .int 1, .int 8] [] (t_W_within q_14) (by decide) (by decide) mt_W_within rfl ml_W_133 rfl (Nat.le_of_ble_eq_true rfl) d_W_cord_14 ?_
    refine G_if_eq 31 (by decide) d_W_cord_17 (fun c_17 => ?_) (fun c_17 => ?_)
    · replace h := ob_t h c_17
      refine G_iconst (-1) (by decide) d_W_cord_31 ?_
      cases h
      exact G_iret rfl d_W_cord_32
    · replace h := ob_f h c_17
      refine G_aload_n 0 rfl d_W_cord_20 ?_
      refine G_getR fl_W_10 kx_0 sx_0 rfl (by decide) d_W_cord_21 ?_
      refine G_iload_n 1 rfl d_W_cord_24 ?_
      obtain ⟨w_25, q_25, h⟩ := ob_b h
      refine G_callV [.int l1] [] (t_Tape_take q_25) (by decide) (by decide) mv_Tape_take rfl ml_W_137 kx_1 sx_1 cl_8 rfl (Nat.le_of_ble_eq_true rfl) d_W_cord_25 ?_
      refine G_if_ne 33 (by decide) d_W_cord_28 (fun c_28 => ?_) (fun c_28 => ?_)
      · replace h := ob_f h c_28
        refine G_aload_n 0 rfl d_W_cord_33 ?_
        refine G_getR fl_W_95 kx_0 sx_0 rfl (by decide) d_W_cord_34 ?_
        refine G_iload_n 1 rfl d_W_cord_37 ?_
        refine G_iload_n 2 rfl d_W_cord_38 ?_
        obtain ⟨v_39, q_39, h⟩ := ob_b h
        refine G_callV [.int l1, .int l2] [] (t_Rows_longestCord q_39) (by decide) (by decide) mv_Rows_longestCord rfl ml_W_252 kx_56 sx_56 cl_6 rfl (Nat.le_of_ble_eq_true rfl) d_W_cord_39 ?_
        cases h
        exact G_iret rfl d_W_cord_42
      · replace h := ob_t h c_28
        refine G_iconst (-1) (by decide) d_W_cord_31 ?_
        cases h
        exact G_iret rfl d_W_cord_32
theorem d_W_seen_0 : decode m_W_seen.2.1 0 = .ok (.iload_n 1, 1) := by decide +kernel
theorem d_W_seen_1 : decode m_W_seen.2.1 1 = .ok (.iconst 1, 1) := by decide +kernel
theorem d_W_seen_2 : decode m_W_seen.2.1 2 = .ok (.bipush 12, 2) := by decide +kernel
theorem d_W_seen_4 : decode m_W_seen.2.1 4 = .ok (.invokestatic 133, 3) := by decide +kernel
theorem d_W_seen_7 : decode m_W_seen.2.1 7 = .ok (.ifCond .eq 35, 3) := by decide +kernel
theorem d_W_seen_10 : decode m_W_seen.2.1 10 = .ok (.iload_n 2, 1) := by decide +kernel
theorem d_W_seen_11 : decode m_W_seen.2.1 11 = .ok (.iconst 1, 1) := by decide +kernel
theorem d_W_seen_12 : decode m_W_seen.2.1 12 = .ok (.bipush 12, 2) := by decide +kernel
theorem d_W_seen_14 : decode m_W_seen.2.1 14 = .ok (.invokestatic 133, 3) := by decide +kernel
theorem d_W_seen_17 : decode m_W_seen.2.1 17 = .ok (.ifCond .eq 25, 3) := by decide +kernel
theorem d_W_seen_20 : decode m_W_seen.2.1 20 = .ok (.iload_n 3, 1) := by decide +kernel
theorem d_W_seen_21 : decode m_W_seen.2.1 21 = .ok (.iconst 0, 1) := by decide +kernel
theorem d_W_seen_22 : decode m_W_seen.2.1 22 = .ok (.iconst 1, 1) := by decide +kernel
theorem d_W_seen_23 : decode m_W_seen.2.1 23 = .ok (.invokestatic 133, 3) := by decide +kernel
theorem d_W_seen_26 : decode m_W_seen.2.1 26 = .ok (.ifCond .eq 16, 3) := by decide +kernel
theorem d_W_seen_29 : decode m_W_seen.2.1 29 = .ok (.aload_n 0, 1) := by decide +kernel
theorem d_W_seen_30 : decode m_W_seen.2.1 30 = .ok (.getfield 10, 3) := by decide +kernel
theorem d_W_seen_33 : decode m_W_seen.2.1 33 = .ok (.iconst 2, 1) := by decide +kernel
theorem d_W_seen_34 : decode m_W_seen.2.1 34 = .ok (.iload_n 1, 1) := by decide +kernel
theorem d_W_seen_35 : decode m_W_seen.2.1 35 = .ok (.imul, 1) := by decide +kernel
theorem d_W_seen_36 : decode m_W_seen.2.1 36 = .ok (.invokevirtual 137, 3) := by decide +kernel
theorem d_W_seen_39 : decode m_W_seen.2.1 39 = .ok (.ifCond .ne 5, 3) := by decide +kernel
theorem d_W_seen_42 : decode m_W_seen.2.1 42 = .ok (.iconst (-1), 1) := by decide +kernel
theorem d_W_seen_43 : decode m_W_seen.2.1 43 = .ok (.ireturn, 1) := by decide +kernel
theorem d_W_seen_44 : decode m_W_seen.2.1 44 = .ok (.iload_n 3, 1) := by decide +kernel
theorem d_W_seen_45 : decode m_W_seen.2.1 45 = .ok (.ifCond .ne 15, 3) := by decide +kernel
theorem d_W_seen_48 : decode m_W_seen.2.1 48 = .ok (.aload_n 0, 1) := by decide +kernel
theorem d_W_seen_49 : decode m_W_seen.2.1 49 = .ok (.getfield 88, 3) := by decide +kernel
theorem d_W_seen_52 : decode m_W_seen.2.1 52 = .ok (.iload_n 1, 1) := by decide +kernel
theorem d_W_seen_53 : decode m_W_seen.2.1 53 = .ok (.iload_n 2, 1) := by decide +kernel
theorem d_W_seen_54 : decode m_W_seen.2.1 54 = .ok (.invokevirtual 255, 3) := by decide +kernel
theorem d_W_seen_57 : decode m_W_seen.2.1 57 = .ok (.goto 12, 3) := by decide +kernel
theorem d_W_seen_60 : decode m_W_seen.2.1 60 = .ok (.aload_n 0, 1) := by decide +kernel
theorem d_W_seen_61 : decode m_W_seen.2.1 61 = .ok (.getfield 88, 3) := by decide +kernel
theorem d_W_seen_64 : decode m_W_seen.2.1 64 = .ok (.iload_n 1, 1) := by decide +kernel
theorem d_W_seen_65 : decode m_W_seen.2.1 65 = .ok (.iload_n 2, 1) := by decide +kernel
theorem d_W_seen_66 : decode m_W_seen.2.1 66 = .ok (.invokevirtual 258, 3) := by decide +kernel
theorem d_W_seen_69 : decode m_W_seen.2.1 69 = .ok (.ireturn, 1) := by decide +kernel
def f_W_seen (S : St) (l1 : Int32) (l2 : Int32) (l3 : Int32) : Option (Int32 × St) :=
    (f_W_within S l1 (1 : Int32) (12 : Int32)).bind fun v_4 =>
    if v_4 = 0 then (
    some ((-1), S))
    else (
    (f_W_within S l2 (1 : Int32) (12 : Int32)).bind fun v_14 =>
    if v_14 = 0 then (
    some ((-1), S))
    else (
    (f_W_within S l3 (0 : Int32) (1 : Int32)).bind fun v_23 =>
    if v_23 = 0 then (
    some ((-1), S))
    else (
    (f_Tape_take S (2 * l1)).bind fun w_36 =>
    if w_36.1 = 0 then (
    some ((-1), w_36.2))
    else (
    if l3 = 0 then (
    (f_Shore_placesSeeing w_36.2 l1 l2).bind fun v_54 =>
    some (v_54, w_36.2))
    else (
    (f_Shore_longestRow w_36.2 l1 l2).bind fun v_66 =>
    some (v_66, w_36.2))))))
set_option maxHeartbeats 4000000 in
set_option maxRecDepth 20000 in
theorem t_W_seen  {S : St} {l1 : Int32} {l2 : Int32} {l3 : Int32} {w : Int32 × St} (h : f_W_seen S l1 l2 l3 = some w) : Ct SX m_W_seen 5 [.ref 0, .int l1, .int l2, .int l3] S (some w.1) w.2 := by
  unfold f_W_seen at h
  refine Ct.of pn_W (Nat.le_of_ble_eq_true rfl) ?_
  show G SX m_W_seen 5 (some w.1) w.2 0 [(0, .ref 0), (1, .int l1), (2, .int l2), (3, .int l3)] [] S
  refine G_iload_n 1 rfl d_W_seen_0 ?_
  refine G_iconst 1 (by decide) d_W_seen_1 ?_
  refine G_bipush 12 (by decide) d_W_seen_2 ?_
  obtain ⟨v_4, q_4, h⟩ := ob_b h
  refine G_callS [.int l1, .int 1, .int 12] [] (t_W_within q_4) (by decide) (by decide) mt_W_within rfl ml_W_133 rfl (Nat.le_of_ble_eq_true rfl) d_W_seen_4 ?_
  refine G_if_eq 42 (by decide) d_W_seen_7 (fun c_7 => ?_) (fun c_7 => ?_)
  · replace h := ob_t h c_7
    refine G_iconst (-1) (by decide) d_W_seen_42 ?_
    cases h
    exact G_iret rfl d_W_seen_43
  · replace h := ob_f h c_7
    refine G_iload_n 2 rfl d_W_seen_10 ?_
    refine G_iconst 1 (by decide) d_W_seen_11 ?_
    refine G_bipush 12 (by decide) d_W_seen_12 ?_
    obtain ⟨v_14, q_14, h⟩ := ob_b h
    refine G_callS [.int l2, .int 1, .int 12] [] (t_W_within q_14) (by decide) (by decide) mt_W_within rfl ml_W_133 rfl (Nat.le_of_ble_eq_true rfl) d_W_seen_14 ?_
    refine G_if_eq 42 (by decide) d_W_seen_17 (fun c_17 => ?_) (fun c_17 => ?_)
    · replace h := ob_t h c_17
      refine G_iconst (-1) (by decide) d_W_seen_42 ?_
      cases h
      exact G_iret rfl d_W_seen_43
    · replace h := ob_f h c_17
      refine G_iload_n 3 rfl d_W_seen_20 ?_
      refine G_iconst 0 (by decide) d_W_seen_21 ?_
      refine G_iconst 1 (by decide) d_W_seen_22 ?_
      obtain ⟨v_23, q_23, h⟩ := ob_b h
      refine G_callS [.int l3, .int 0, .int 1] [] (t_W_within q_23) (by decide) (by decide) mt_W_within rfl ml_W_133 rfl (Nat.le_of_ble_eq_true rfl) d_W_seen_23 ?_
      refine G_if_eq 42 (by decide) d_W_seen_26 (fun c_26 => ?_) (fun c_26 => ?_)
      · replace h := ob_t h c_26
        refine G_iconst (-1) (by decide) d_W_seen_42 ?_
        cases h
        exact G_iret rfl d_W_seen_43
      · replace h := ob_f h c_26
        refine G_aload_n 0 rfl d_W_seen_29 ?_
        refine G_getR fl_W_10 kx_0 sx_0 rfl (by decide) d_W_seen_30 ?_
        refine G_iconst 2 (by decide) d_W_seen_33 ?_
        refine G_iload_n 1 rfl d_W_seen_34 ?_
        refine G_imul d_W_seen_35 ?_
        obtain ⟨w_36, q_36, h⟩ := ob_b h
        refine G_callV [.int (2 * l1)] [] (t_Tape_take q_36) (by decide) (by decide) mv_Tape_take rfl ml_W_137 kx_1 sx_1 cl_8 rfl (Nat.le_of_ble_eq_true rfl) d_W_seen_36 ?_
        refine G_if_ne 44 (by decide) d_W_seen_39 (fun c_39 => ?_) (fun c_39 => ?_)
        · replace h := ob_f h c_39
          refine G_iload_n 3 rfl d_W_seen_44 ?_
          refine G_if_ne 60 (by decide) d_W_seen_45 (fun c_45 => ?_) (fun c_45 => ?_)
          · replace h := ob_f h c_45
            refine G_aload_n 0 rfl d_W_seen_60 ?_
            refine G_getR fl_W_88 kx_0 sx_0 rfl (by decide) d_W_seen_61 ?_
            refine G_iload_n 1 rfl d_W_seen_64 ?_
            refine G_iload_n 2 rfl d_W_seen_65 ?_
            obtain ⟨v_66, q_66, h⟩ := ob_b h
            refine G_callV [.int l1, .int l2] [] (t_Shore_longestRow q_66) (by decide) (by decide) mv_Shore_longestRow rfl ml_W_258 kx_54 sx_54 cl_7 rfl (Nat.le_of_ble_eq_true rfl) d_W_seen_66 ?_
            cases h
            exact G_iret rfl d_W_seen_69
          · replace h := ob_t h c_45
            refine G_aload_n 0 rfl d_W_seen_48 ?_
            refine G_getR fl_W_88 kx_0 sx_0 rfl (by decide) d_W_seen_49 ?_
            refine G_iload_n 1 rfl d_W_seen_52 ?_
            refine G_iload_n 2 rfl d_W_seen_53 ?_
            obtain ⟨v_54, q_54, h⟩ := ob_b h
            refine G_callV [.int l1, .int l2] [] (t_Shore_placesSeeing q_54) (by decide) (by decide) mv_Shore_placesSeeing rfl ml_W_255 kx_54 sx_54 cl_7 rfl (Nat.le_of_ble_eq_true rfl) d_W_seen_54 ?_
            refine G_goto 69 (by decide) d_W_seen_57 ?_
            cases h
            exact G_iret rfl d_W_seen_69
        · replace h := ob_t h c_39
          refine G_iconst (-1) (by decide) d_W_seen_42 ?_
          cases h
          exact G_iret rfl d_W_seen_43
theorem d_W_brightest_0 : decode m_W_brightest.2.1 0 = .ok (.iload_n 1, 1) := by decide +kernel
theorem d_W_brightest_1 : decode m_W_brightest.2.1 1 = .ok (.iconst 1, 1) := by decide +kernel
theorem d_W_brightest_2 : decode m_W_brightest.2.1 2 = .ok (.bipush 12, 2) := by decide +kernel
theorem d_W_brightest_4 : decode m_W_brightest.2.1 4 = .ok (.invokestatic 133, 3) := by decide +kernel
theorem d_W_brightest_7 : decode m_W_brightest.2.1 7 = .ok (.ifCond .eq 34, 3) := by decide +kernel
theorem d_W_brightest_10 : decode m_W_brightest.2.1 10 = .ok (.iload_n 2, 1) := by decide +kernel
theorem d_W_brightest_11 : decode m_W_brightest.2.1 11 = .ok (.iconst 1, 1) := by decide +kernel
theorem d_W_brightest_12 : decode m_W_brightest.2.1 12 = .ok (.iload_n 1, 1) := by decide +kernel
theorem d_W_brightest_13 : decode m_W_brightest.2.1 13 = .ok (.invokestatic 133, 3) := by decide +kernel
theorem d_W_brightest_16 : decode m_W_brightest.2.1 16 = .ok (.ifCond .eq 25, 3) := by decide +kernel
theorem d_W_brightest_19 : decode m_W_brightest.2.1 19 = .ok (.iload_n 3, 1) := by decide +kernel
theorem d_W_brightest_20 : decode m_W_brightest.2.1 20 = .ok (.iconst 0, 1) := by decide +kernel
theorem d_W_brightest_21 : decode m_W_brightest.2.1 21 = .ok (.iconst 1, 1) := by decide +kernel
theorem d_W_brightest_22 : decode m_W_brightest.2.1 22 = .ok (.invokestatic 133, 3) := by decide +kernel
theorem d_W_brightest_25 : decode m_W_brightest.2.1 25 = .ok (.ifCond .eq 16, 3) := by decide +kernel
theorem d_W_brightest_28 : decode m_W_brightest.2.1 28 = .ok (.aload_n 0, 1) := by decide +kernel
theorem d_W_brightest_29 : decode m_W_brightest.2.1 29 = .ok (.getfield 10, 3) := by decide +kernel
theorem d_W_brightest_32 : decode m_W_brightest.2.1 32 = .ok (.iconst 2, 1) := by decide +kernel
theorem d_W_brightest_33 : decode m_W_brightest.2.1 33 = .ok (.iload_n 1, 1) := by decide +kernel
theorem d_W_brightest_34 : decode m_W_brightest.2.1 34 = .ok (.imul, 1) := by decide +kernel
theorem d_W_brightest_35 : decode m_W_brightest.2.1 35 = .ok (.invokevirtual 137, 3) := by decide +kernel
theorem d_W_brightest_38 : decode m_W_brightest.2.1 38 = .ok (.ifCond .ne 5, 3) := by decide +kernel
theorem d_W_brightest_41 : decode m_W_brightest.2.1 41 = .ok (.iconst (-1), 1) := by decide +kernel
theorem d_W_brightest_42 : decode m_W_brightest.2.1 42 = .ok (.ireturn, 1) := by decide +kernel
theorem d_W_brightest_43 : decode m_W_brightest.2.1 43 = .ok (.aload_n 0, 1) := by decide +kernel
theorem d_W_brightest_44 : decode m_W_brightest.2.1 44 = .ok (.getfield 88, 3) := by decide +kernel
theorem d_W_brightest_47 : decode m_W_brightest.2.1 47 = .ok (.iload_n 1, 1) := by decide +kernel
theorem d_W_brightest_48 : decode m_W_brightest.2.1 48 = .ok (.iload_n 2, 1) := by decide +kernel
theorem d_W_brightest_49 : decode m_W_brightest.2.1 49 = .ok (.invokevirtual 261, 3) := by decide +kernel
theorem d_W_brightest_52 : decode m_W_brightest.2.1 52 = .ok (.istore 4, 2) := by decide +kernel
theorem d_W_brightest_54 : decode m_W_brightest.2.1 54 = .ok (.iload_n 3, 1) := by decide +kernel
theorem d_W_brightest_55 : decode m_W_brightest.2.1 55 = .ok (.ifCond .ne 16, 3) := by decide +kernel
theorem d_W_brightest_58 : decode m_W_brightest.2.1 58 = .ok (.aload_n 0, 1) := by decide +kernel
theorem d_W_brightest_59 : decode m_W_brightest.2.1 59 = .ok (.getfield 88, 3) := by decide +kernel
theorem d_W_brightest_62 : decode m_W_brightest.2.1 62 = .ok (.iload 4, 2) := by decide +kernel
theorem d_W_brightest_64 : decode m_W_brightest.2.1 64 = .ok (.iload_n 1, 1) := by decide +kernel
theorem d_W_brightest_65 : decode m_W_brightest.2.1 65 = .ok (.invokevirtual 264, 3) := by decide +kernel
theorem d_W_brightest_68 : decode m_W_brightest.2.1 68 = .ok (.goto 5, 3) := by decide +kernel
theorem d_W_brightest_71 : decode m_W_brightest.2.1 71 = .ok (.iload 4, 2) := by decide +kernel
theorem d_W_brightest_73 : decode m_W_brightest.2.1 73 = .ok (.ireturn, 1) := by decide +kernel
def f_W_brightest (S : St) (l1 : Int32) (l2 : Int32) (l3 : Int32) : Option (Int32 × St) :=
    (f_W_within S l1 (1 : Int32) (12 : Int32)).bind fun v_4 =>
    if v_4 = 0 then (
    some ((-1), S))
    else (
    (f_W_within S l2 (1 : Int32) l1).bind fun v_13 =>
    if v_13 = 0 then (
    some ((-1), S))
    else (
    (f_W_within S l3 (0 : Int32) (1 : Int32)).bind fun v_22 =>
    if v_22 = 0 then (
    some ((-1), S))
    else (
    (f_Tape_take S (2 * l1)).bind fun w_35 =>
    if w_35.1 = 0 then (
    some ((-1), w_35.2))
    else (
    (f_Shore_bestLights w_35.2 l1 l2).bind fun w_49 =>
    (some w_49.1).bind fun l4_52 =>
    if l3 = 0 then (
    (f_Shore_placesOf w_49.2 l4_52 l1).bind fun v_65 =>
    some (v_65, w_49.2))
    else (
    some (l4_52, w_49.2))))))
set_option maxHeartbeats 4000000 in
set_option maxRecDepth 20000 in
theorem t_W_brightest  {S : St} {l1 : Int32} {l2 : Int32} {l3 : Int32} {w : Int32 × St} (h : f_W_brightest S l1 l2 l3 = some w) : Ct SX m_W_brightest 5 [.ref 0, .int l1, .int l2, .int l3] S (some w.1) w.2 := by
  unfold f_W_brightest at h
  refine Ct.of pn_W (Nat.le_of_ble_eq_true rfl) ?_
  show G SX m_W_brightest 5 (some w.1) w.2 0 [(0, .ref 0), (1, .int l1), (2, .int l2), (3, .int l3)] [] S
  refine G_iload_n 1 rfl d_W_brightest_0 ?_
  refine G_iconst 1 (by decide) d_W_brightest_1 ?_
  refine G_bipush 12 (by decide) d_W_brightest_2 ?_
  obtain ⟨v_4, q_4, h⟩ := ob_b h
  refine G_callS [.int l1, .int 1, .int 12] [] (t_W_within q_4) (by decide) (by decide) mt_W_within rfl ml_W_133 rfl (Nat.le_of_ble_eq_true rfl) d_W_brightest_4 ?_
  refine G_if_eq 41 (by decide) d_W_brightest_7 (fun c_7 => ?_) (fun c_7 => ?_)
  · replace h := ob_t h c_7
    refine G_iconst (-1) (by decide) d_W_brightest_41 ?_
    cases h
    exact G_iret rfl d_W_brightest_42
  · replace h := ob_f h c_7
    refine G_iload_n 2 rfl d_W_brightest_10 ?_
    refine G_iconst 1 (by decide) d_W_brightest_11 ?_
    refine G_iload_n 1 rfl d_W_brightest_12 ?_
    obtain ⟨v_13, q_13, h⟩ := ob_b h
    refine G_callS [.int l2, .int 1, .int l1] [] (t_W_within q_13) (by decide) (by decide) mt_W_within rfl ml_W_133 rfl (Nat.le_of_ble_eq_true rfl) d_W_brightest_13 ?_
    refine G_if_eq 41 (by decide) d_W_brightest_16 (fun c_16 => ?_) (fun c_16 => ?_)
    · replace h := ob_t h c_16
      refine G_iconst (-1) (by decide) d_W_brightest_41 ?_
      cases h
      exact G_iret rfl d_W_brightest_42
    · replace h := ob_f h c_16
      refine G_iload_n 3 rfl d_W_brightest_19 ?_
      refine G_iconst 0 (by decide) d_W_brightest_20 ?_
      refine G_iconst 1 (by decide) d_W_brightest_21 ?_
      obtain ⟨v_22, q_22, h⟩ := ob_b h
      refine G_callS [.int l3, .int 0, .int 1] [] (t_W_within q_22) (by decide) (by decide) mt_W_within rfl ml_W_133 rfl (Nat.le_of_ble_eq_true rfl) d_W_brightest_22 ?_
      refine G_if_eq 41 (by decide) d_W_brightest_25 (fun c_25 => ?_) (fun c_25 => ?_)
      · replace h := ob_t h c_25
        refine G_iconst (-1) (by decide) d_W_brightest_41 ?_
        cases h
        exact G_iret rfl d_W_brightest_42
      · replace h := ob_f h c_25
        refine G_aload_n 0 rfl d_W_brightest_28 ?_
        refine G_getR fl_W_10 kx_0 sx_0 rfl (by decide) d_W_brightest_29 ?_
        refine G_iconst 2 (by decide) d_W_brightest_32 ?_
        refine G_iload_n 1 rfl d_W_brightest_33 ?_
        refine G_imul d_W_brightest_34 ?_
        obtain ⟨w_35, q_35, h⟩ := ob_b h
        refine G_callV [.int (2 * l1)] [] (t_Tape_take q_35) (by decide) (by decide) mv_Tape_take rfl ml_W_137 kx_1 sx_1 cl_8 rfl (Nat.le_of_ble_eq_true rfl) d_W_brightest_35 ?_
        refine G_if_ne 43 (by decide) d_W_brightest_38 (fun c_38 => ?_) (fun c_38 => ?_)
        · replace h := ob_f h c_38
          refine G_aload_n 0 rfl d_W_brightest_43 ?_
          refine G_getR fl_W_88 kx_0 sx_0 rfl (by decide) d_W_brightest_44 ?_
          refine G_iload_n 1 rfl d_W_brightest_47 ?_
          refine G_iload_n 2 rfl d_W_brightest_48 ?_
          obtain ⟨w_49, q_49, h⟩ := ob_b h
          refine G_callV [.int l1, .int l2] [] (t_Shore_bestLights q_49) (by decide) (by decide) mv_Shore_bestLights rfl ml_W_261 kx_54 sx_54 cl_7 rfl (Nat.le_of_ble_eq_true rfl) d_W_brightest_49 ?_
          obtain ⟨l4_52, e_52, h⟩ := ob_s h
          refine G_istore [(4, .int l4_52), (0, .ref 0), (1, .int l1), (2, .int l2), (3, .int l3)] e_52 rfl (by decide) d_W_brightest_52 ?_
          refine G_iload_n 4 rfl d_W_brightest_54 ?_
          refine G_if_ne 71 (by decide) d_W_brightest_55 (fun c_55 => ?_) (fun c_55 => ?_)
          · replace h := ob_f h c_55
            refine G_iload 0 rfl d_W_brightest_71 ?_
            cases h
            exact G_iret rfl d_W_brightest_73
          · replace h := ob_t h c_55
            refine G_aload_n 1 rfl d_W_brightest_58 ?_
            refine G_getR fl_W_88 kx_0 sx_0 rfl (by decide) d_W_brightest_59 ?_
            refine G_iload 0 rfl d_W_brightest_62 ?_
            refine G_iload_n 2 rfl d_W_brightest_64 ?_
            obtain ⟨v_65, q_65, h⟩ := ob_b h
            refine G_callV [.int l4_52, .int l1] [] (t_Shore_placesOf q_65) (by decide) (by decide) mv_Shore_placesOf rfl ml_W_264 kx_54 sx_54 cl_7 rfl (Nat.le_of_ble_eq_true rfl) d_W_brightest_65 ?_
            refine G_goto 73 (by decide) d_W_brightest_68 ?_
            cases h
            exact G_iret rfl d_W_brightest_73
        · replace h := ob_t h c_38
          refine G_iconst (-1) (by decide) d_W_brightest_41 ?_
          cases h
          exact G_iret rfl d_W_brightest_42
theorem d_W_halves_0 : decode m_W_halves.2.1 0 = .ok (.iload_n 1, 1) := by decide +kernel
theorem d_W_halves_1 : decode m_W_halves.2.1 1 = .ok (.iconst 2, 1) := by decide +kernel
theorem d_W_halves_2 : decode m_W_halves.2.1 2 = .ok (.bipush 16, 2) := by decide +kernel
theorem d_W_halves_4 : decode m_W_halves.2.1 4 = .ok (.invokestatic 133, 3) := by decide +kernel
theorem d_W_halves_7 : decode m_W_halves.2.1 7 = .ok (.ifCond .eq 23, 3) := by decide +kernel
theorem d_W_halves_10 : decode m_W_halves.2.1 10 = .ok (.iload_n 2, 1) := by decide +kernel
theorem d_W_halves_11 : decode m_W_halves.2.1 11 = .ok (.iconst 0, 1) := by decide +kernel
theorem d_W_halves_12 : decode m_W_halves.2.1 12 = .ok (.iconst 1, 1) := by decide +kernel
theorem d_W_halves_13 : decode m_W_halves.2.1 13 = .ok (.invokestatic 133, 3) := by decide +kernel
theorem d_W_halves_16 : decode m_W_halves.2.1 16 = .ok (.ifCond .eq 14, 3) := by decide +kernel
theorem d_W_halves_19 : decode m_W_halves.2.1 19 = .ok (.aload_n 0, 1) := by decide +kernel
theorem d_W_halves_20 : decode m_W_halves.2.1 20 = .ok (.getfield 10, 3) := by decide +kernel
theorem d_W_halves_23 : decode m_W_halves.2.1 23 = .ok (.iload_n 1, 1) := by decide +kernel
theorem d_W_halves_24 : decode m_W_halves.2.1 24 = .ok (.invokevirtual 137, 3) := by decide +kernel
theorem d_W_halves_27 : decode m_W_halves.2.1 27 = .ok (.ifCond .ne 5, 3) := by decide +kernel
theorem d_W_halves_30 : decode m_W_halves.2.1 30 = .ok (.iconst (-1), 1) := by decide +kernel
theorem d_W_halves_31 : decode m_W_halves.2.1 31 = .ok (.ireturn, 1) := by decide +kernel
theorem d_W_halves_32 : decode m_W_halves.2.1 32 = .ok (.aload_n 0, 1) := by decide +kernel
theorem d_W_halves_33 : decode m_W_halves.2.1 33 = .ok (.getfield 95, 3) := by decide +kernel
theorem d_W_halves_36 : decode m_W_halves.2.1 36 = .ok (.iload_n 1, 1) := by decide +kernel
theorem d_W_halves_37 : decode m_W_halves.2.1 37 = .ok (.invokevirtual 267, 3) := by decide +kernel
theorem d_W_halves_40 : decode m_W_halves.2.1 40 = .ok (.istore_n 3, 1) := by decide +kernel
theorem d_W_halves_41 : decode m_W_halves.2.1 41 = .ok (.iload_n 2, 1) := by decide +kernel
theorem d_W_halves_42 : decode m_W_halves.2.1 42 = .ok (.ifCond .ne 7, 3) := by decide +kernel
theorem d_W_halves_45 : decode m_W_halves.2.1 45 = .ok (.iload_n 3, 1) := by decide +kernel
theorem d_W_halves_46 : decode m_W_halves.2.1 46 = .ok (.goto 12, 3) := by decide +kernel
theorem d_W_halves_49 : decode m_W_halves.2.1 49 = .ok (.aload_n 0, 1) := by decide +kernel
theorem d_W_halves_50 : decode m_W_halves.2.1 50 = .ok (.getfield 95, 3) := by decide +kernel
theorem d_W_halves_53 : decode m_W_halves.2.1 53 = .ok (.iload_n 1, 1) := by decide +kernel
theorem d_W_halves_54 : decode m_W_halves.2.1 54 = .ok (.iload_n 3, 1) := by decide +kernel
theorem d_W_halves_55 : decode m_W_halves.2.1 55 = .ok (.invokevirtual 270, 3) := by decide +kernel
theorem d_W_halves_58 : decode m_W_halves.2.1 58 = .ok (.ireturn, 1) := by decide +kernel
def f_W_halves (S : St) (l1 : Int32) (l2 : Int32) : Option (Int32 × St) :=
    (f_W_within S l1 (2 : Int32) (16 : Int32)).bind fun v_4 =>
    if v_4 = 0 then (
    some ((-1), S))
    else (
    (f_W_within S l2 (0 : Int32) (1 : Int32)).bind fun v_13 =>
    if v_13 = 0 then (
    some ((-1), S))
    else (
    (f_Tape_take S l1).bind fun w_24 =>
    if w_24.1 = 0 then (
    some ((-1), w_24.2))
    else (
    (f_Rows_evenestCut w_24.2 l1).bind fun v_37 =>
    if l2 = 0 then (
    some (v_37, w_24.2))
    else (
    (f_Rows_difference w_24.2 l1 v_37).bind fun v_55 =>
    some (v_55, w_24.2)))))
set_option maxHeartbeats 4000000 in
set_option maxRecDepth 20000 in
theorem t_W_halves  {S : St} {l1 : Int32} {l2 : Int32} {w : Int32 × St} (h : f_W_halves S l1 l2 = some w) : Ct SX m_W_halves 4 [.ref 0, .int l1, .int l2] S (some w.1) w.2 := by
  unfold f_W_halves at h
  refine Ct.of pn_W (Nat.le_of_ble_eq_true rfl) ?_
  show G SX m_W_halves 4 (some w.1) w.2 0 [(0, .ref 0), (1, .int l1), (2, .int l2)] [] S
  refine G_iload_n 1 rfl d_W_halves_0 ?_
  refine G_iconst 2 (by decide) d_W_halves_1 ?_
  refine G_bipush 16 (by decide) d_W_halves_2 ?_
  obtain ⟨v_4, q_4, h⟩ := ob_b h
  refine G_callS [.int l1, .int 2, .int 16] [] (t_W_within q_4) (by decide) (by decide) mt_W_within rfl ml_W_133 rfl (Nat.le_of_ble_eq_true rfl) d_W_halves_4 ?_
  refine G_if_eq 30 (by decide) d_W_halves_7 (fun c_7 => ?_) (fun c_7 => ?_)
  · replace h := ob_t h c_7
    refine G_iconst (-1) (by decide) d_W_halves_30 ?_
    cases h
    exact G_iret rfl d_W_halves_31
  · replace h := ob_f h c_7
    refine G_iload_n 2 rfl d_W_halves_10 ?_
    refine G_iconst 0 (by decide) d_W_halves_11 ?_
    refine G_iconst 1 (by decide) d_W_halves_12 ?_
    obtain ⟨v_13, q_13, h⟩ := ob_b h
    refine G_callS [.int l2, .int 0, .int 1] [] (t_W_within q_13) (by decide) (by decide) mt_W_within rfl ml_W_133 rfl (Nat.le_of_ble_eq_true rfl) d_W_halves_13 ?_
    refine G_if_eq 30 (by decide) d_W_halves_16 (fun c_16 => ?_) (fun c_16 => ?_)
    · replace h := ob_t h c_16
      refine G_iconst (-1) (by decide) d_W_halves_30 ?_
      cases h
      exact G_iret rfl d_W_halves_31
    · replace h := ob_f h c_16
      refine G_aload_n 0 rfl d_W_halves_19 ?_
      refine G_getR fl_W_10 kx_0 sx_0 rfl (by decide) d_W_halves_20 ?_
      refine G_iload_n 1 rfl d_W_halves_23 ?_
      obtain ⟨w_24, q_24, h⟩ := ob_b h
      refine G_callV [.int l1] [] (t_Tape_take q_24) (by decide) (by decide) mv_Tape_take rfl ml_W_137 kx_1 sx_1 cl_8 rfl (Nat.le_of_ble_eq_true rfl) d_W_halves_24 ?_
      refine G_if_ne 32 (by decide) d_W_halves_27 (fun c_27 => ?_) (fun c_27 => ?_)
      · replace h := ob_f h c_27
        refine G_aload_n 0 rfl d_W_halves_32 ?_
        refine G_getR fl_W_95 kx_0 sx_0 rfl (by decide) d_W_halves_33 ?_
        refine G_iload_n 1 rfl d_W_halves_36 ?_
        obtain ⟨v_37, q_37, h⟩ := ob_b h
        refine G_callV [.int l1] [] (t_Rows_evenestCut q_37) (by decide) (by decide) mv_Rows_evenestCut rfl ml_W_267 kx_56 sx_56 cl_6 rfl (Nat.le_of_ble_eq_true rfl) d_W_halves_37 ?_
        refine G_istore_n [(3, .int v_37), (0, .ref 0), (1, .int l1), (2, .int l2)] rfl rfl (by decide) d_W_halves_40 ?_
        refine G_iload_n 3 rfl d_W_halves_41 ?_
        refine G_if_ne 49 (by decide) d_W_halves_42 (fun c_42 => ?_) (fun c_42 => ?_)
        · replace h := ob_f h c_42
          refine G_aload_n 1 rfl d_W_halves_49 ?_
          refine G_getR fl_W_95 kx_0 sx_0 rfl (by decide) d_W_halves_50 ?_
          refine G_iload_n 2 rfl d_W_halves_53 ?_
          refine G_iload_n 0 rfl d_W_halves_54 ?_
          obtain ⟨v_55, q_55, h⟩ := ob_b h
          refine G_callV [.int l1, .int v_37] [] (t_Rows_difference q_55) (by decide) (by decide) mv_Rows_difference rfl ml_W_270 kx_56 sx_56 cl_6 rfl (Nat.le_of_ble_eq_true rfl) d_W_halves_55 ?_
          cases h
          exact G_iret rfl d_W_halves_58
        · replace h := ob_t h c_42
          refine G_iload_n 0 rfl d_W_halves_45 ?_
          refine G_goto 58 (by decide) d_W_halves_46 ?_
          cases h
          exact G_iret rfl d_W_halves_58
      · replace h := ob_t h c_27
        refine G_iconst (-1) (by decide) d_W_halves_30 ?_
        cases h
        exact G_iret rfl d_W_halves_31
theorem d_W_forgiven_0 : decode m_W_forgiven.2.1 0 = .ok (.iload_n 1, 1) := by decide +kernel
theorem d_W_forgiven_1 : decode m_W_forgiven.2.1 1 = .ok (.iconst 1, 1) := by decide +kernel
theorem d_W_forgiven_2 : decode m_W_forgiven.2.1 2 = .ok (.bipush 16, 2) := by decide +kernel
theorem d_W_forgiven_4 : decode m_W_forgiven.2.1 4 = .ok (.invokestatic 133, 3) := by decide +kernel
theorem d_W_forgiven_7 : decode m_W_forgiven.2.1 7 = .ok (.ifCond .eq 16, 3) := by decide +kernel
theorem d_W_forgiven_10 : decode m_W_forgiven.2.1 10 = .ok (.aload_n 0, 1) := by decide +kernel
theorem d_W_forgiven_11 : decode m_W_forgiven.2.1 11 = .ok (.getfield 10, 3) := by decide +kernel
theorem d_W_forgiven_14 : decode m_W_forgiven.2.1 14 = .ok (.iconst 2, 1) := by decide +kernel
theorem d_W_forgiven_15 : decode m_W_forgiven.2.1 15 = .ok (.iload_n 1, 1) := by decide +kernel
theorem d_W_forgiven_16 : decode m_W_forgiven.2.1 16 = .ok (.imul, 1) := by decide +kernel
theorem d_W_forgiven_17 : decode m_W_forgiven.2.1 17 = .ok (.invokevirtual 137, 3) := by decide +kernel
theorem d_W_forgiven_20 : decode m_W_forgiven.2.1 20 = .ok (.ifCond .ne 5, 3) := by decide +kernel
theorem d_W_forgiven_23 : decode m_W_forgiven.2.1 23 = .ok (.iconst (-1), 1) := by decide +kernel
theorem d_W_forgiven_24 : decode m_W_forgiven.2.1 24 = .ok (.ireturn, 1) := by decide +kernel
theorem d_W_forgiven_25 : decode m_W_forgiven.2.1 25 = .ok (.aload_n 0, 1) := by decide +kernel
theorem d_W_forgiven_26 : decode m_W_forgiven.2.1 26 = .ok (.getfield 95, 3) := by decide +kernel
theorem d_W_forgiven_29 : decode m_W_forgiven.2.1 29 = .ok (.iload_n 1, 1) := by decide +kernel
theorem d_W_forgiven_30 : decode m_W_forgiven.2.1 30 = .ok (.invokevirtual 273, 3) := by decide +kernel
theorem d_W_forgiven_33 : decode m_W_forgiven.2.1 33 = .ok (.ireturn, 1) := by decide +kernel
def f_W_forgiven (S : St) (l1 : Int32) : Option (Int32 × St) :=
    (f_W_within S l1 (1 : Int32) (16 : Int32)).bind fun v_4 =>
    if v_4 = 0 then (
    some ((-1), S))
    else (
    (f_Tape_take S (2 * l1)).bind fun w_17 =>
    if w_17.1 = 0 then (
    some ((-1), w_17.2))
    else (
    (f_Rows_unbeaten w_17.2 l1).bind fun v_30 =>
    some (v_30, w_17.2)))
set_option maxHeartbeats 4000000 in
set_option maxRecDepth 20000 in
theorem t_W_forgiven  {S : St} {l1 : Int32} {w : Int32 × St} (h : f_W_forgiven S l1 = some w) : Ct SX m_W_forgiven 4 [.ref 0, .int l1] S (some w.1) w.2 := by
  unfold f_W_forgiven at h
  refine Ct.of pn_W (Nat.le_of_ble_eq_true rfl) ?_
  show G SX m_W_forgiven 4 (some w.1) w.2 0 [(0, .ref 0), (1, .int l1)] [] S
  refine G_iload_n 1 rfl d_W_forgiven_0 ?_
  refine G_iconst 1 (by decide) d_W_forgiven_1 ?_
  refine G_bipush 16 (by decide) d_W_forgiven_2 ?_
  obtain ⟨v_4, q_4, h⟩ := ob_b h
  refine G_callS [.int l1, .int 1, .int 16] [] (t_W_within q_4) (by decide) (by decide) mt_W_within rfl ml_W_133 rfl (Nat.le_of_ble_eq_true rfl) d_W_forgiven_4 ?_
  refine G_if_eq 23 (by decide) d_W_forgiven_7 (fun c_7 => ?_) (fun c_7 => ?_)
  · replace h := ob_t h c_7
    refine G_iconst (-1) (by decide) d_W_forgiven_23 ?_
    cases h
    exact G_iret rfl d_W_forgiven_24
  · replace h := ob_f h c_7
    refine G_aload_n 0 rfl d_W_forgiven_10 ?_
    refine G_getR fl_W_10 kx_0 sx_0 rfl (by decide) d_W_forgiven_11 ?_
    refine G_iconst 2 (by decide) d_W_forgiven_14 ?_
    refine G_iload_n 1 rfl d_W_forgiven_15 ?_
    refine G_imul d_W_forgiven_16 ?_
    obtain ⟨w_17, q_17, h⟩ := ob_b h
    refine G_callV [.int (2 * l1)] [] (t_Tape_take q_17) (by decide) (by decide) mv_Tape_take rfl ml_W_137 kx_1 sx_1 cl_8 rfl (Nat.le_of_ble_eq_true rfl) d_W_forgiven_17 ?_
    refine G_if_ne 25 (by decide) d_W_forgiven_20 (fun c_20 => ?_) (fun c_20 => ?_)
    · replace h := ob_f h c_20
      refine G_aload_n 0 rfl d_W_forgiven_25 ?_
      refine G_getR fl_W_95 kx_0 sx_0 rfl (by decide) d_W_forgiven_26 ?_
      refine G_iload_n 1 rfl d_W_forgiven_29 ?_
      obtain ⟨v_30, q_30, h⟩ := ob_b h
      refine G_callV [.int l1] [] (t_Rows_unbeaten q_30) (by decide) (by decide) mv_Rows_unbeaten rfl ml_W_273 kx_56 sx_56 cl_6 rfl (Nat.le_of_ble_eq_true rfl) d_W_forgiven_30 ?_
      cases h
      exact G_iret rfl d_W_forgiven_33
    · replace h := ob_t h c_20
      refine G_iconst (-1) (by decide) d_W_forgiven_23 ?_
      cases h
      exact G_iret rfl d_W_forgiven_24
theorem d_W_seed_0 : decode m_W_seed.2.1 0 = .ok (.iload_n 1, 1) := by decide +kernel
theorem d_W_seed_1 : decode m_W_seed.2.1 1 = .ok (.iconst 0, 1) := by decide +kernel
theorem d_W_seed_2 : decode m_W_seed.2.1 2 = .ok (.ldc_w 276, 3) := by decide +kernel
theorem d_W_seed_5 : decode m_W_seed.2.1 5 = .ok (.invokestatic 133, 3) := by decide +kernel
theorem d_W_seed_8 : decode m_W_seed.2.1 8 = .ok (.ifCond .ne 5, 3) := by decide +kernel
theorem d_W_seed_11 : decode m_W_seed.2.1 11 = .ok (.iconst 0, 1) := by decide +kernel
theorem d_W_seed_12 : decode m_W_seed.2.1 12 = .ok (.ireturn, 1) := by decide +kernel
theorem d_W_seed_13 : decode m_W_seed.2.1 13 = .ok (.aload_n 0, 1) := by decide +kernel
theorem d_W_seed_14 : decode m_W_seed.2.1 14 = .ok (.getfield 28, 3) := by decide +kernel
theorem d_W_seed_17 : decode m_W_seed.2.1 17 = .ok (.iload_n 1, 1) := by decide +kernel
theorem d_W_seed_18 : decode m_W_seed.2.1 18 = .ok (.putfield 103, 3) := by decide +kernel
theorem d_W_seed_21 : decode m_W_seed.2.1 21 = .ok (.iconst 1, 1) := by decide +kernel
theorem d_W_seed_22 : decode m_W_seed.2.1 22 = .ok (.ireturn, 1) := by decide +kernel
def f_W_seed (S : St) (l1 : Int32) : Option (Int32 × St) :=
    (f_W_within S l1 (0 : Int32) (65535 : Int32)).bind fun v_5 =>
    if v_5 = 0 then (
    some (0, S))
    else (
    (some (sF S 4 9 l1)).bind fun S_18 =>
    some (1, S_18))
set_option maxHeartbeats 4000000 in
set_option maxRecDepth 20000 in
theorem t_W_seed  {S : St} {l1 : Int32} {w : Int32 × St} (h : f_W_seed S l1 = some w) : Ct SX m_W_seed 2 [.ref 0, .int l1] S (some w.1) w.2 := by
  unfold f_W_seed at h
  refine Ct.of pn_W (Nat.le_of_ble_eq_true rfl) ?_
  show G SX m_W_seed 2 (some w.1) w.2 0 [(0, .ref 0), (1, .int l1)] [] S
  refine G_iload_n 1 rfl d_W_seed_0 ?_
  refine G_iconst 0 (by decide) d_W_seed_1 ?_
  refine G_ldcw c_W_276 d_W_seed_2 ?_
  obtain ⟨v_5, q_5, h⟩ := ob_b h
  refine G_callS [.int l1, .int 0, .int 65535] [] (t_W_within q_5) (by decide) (by decide) mt_W_within rfl ml_W_133 rfl (Nat.le_of_ble_eq_true rfl) d_W_seed_5 ?_
  refine G_if_ne 13 (by decide) d_W_seed_8 (fun c_8 => ?_) (fun c_8 => ?_)
  · replace h := ob_f h c_8
    refine G_aload_n 0 rfl d_W_seed_13 ?_
    refine G_getR fl_W_28 kx_0 sx_0 rfl (by decide) d_W_seed_14 ?_
    refine G_iload_n 1 rfl d_W_seed_17 ?_
    obtain ⟨S_18, e_18, h⟩ := ob_s h
    refine G_putI e_18 fp_W_103 kx_4 sx_4 rfl d_W_seed_18 ?_
    refine G_iconst 1 (by decide) d_W_seed_21 ?_
    cases h
    exact G_zret (Or.inr rfl) rfl d_W_seed_22
  · replace h := ob_t h c_8
    refine G_iconst 0 (by decide) d_W_seed_11 ?_
    cases h
    exact G_zret (Or.inl rfl) rfl d_W_seed_12
theorem d_W_keep_0 : decode m_W_keep.2.1 0 = .ok (.aload_n 0, 1) := by decide +kernel
theorem d_W_keep_1 : decode m_W_keep.2.1 1 = .ok (.getfield 32, 3) := by decide +kernel
theorem d_W_keep_4 : decode m_W_keep.2.1 4 = .ok (.aload_n 0, 1) := by decide +kernel
theorem d_W_keep_5 : decode m_W_keep.2.1 5 = .ok (.getfield 28, 3) := by decide +kernel
theorem d_W_keep_8 : decode m_W_keep.2.1 8 = .ok (.invokevirtual 166, 3) := by decide +kernel
theorem d_W_keep_11 : decode m_W_keep.2.1 11 = .ok (.aload_n 0, 1) := by decide +kernel
theorem d_W_keep_12 : decode m_W_keep.2.1 12 = .ok (.iconst 1, 1) := by decide +kernel
theorem d_W_keep_13 : decode m_W_keep.2.1 13 = .ok (.putfield 99, 3) := by decide +kernel
theorem d_W_keep_16 : decode m_W_keep.2.1 16 = .ok (.aload_n 0, 1) := by decide +kernel
theorem d_W_keep_17 : decode m_W_keep.2.1 17 = .ok (.getfield 28, 3) := by decide +kernel
theorem d_W_keep_20 : decode m_W_keep.2.1 20 = .ok (.getfield 277, 3) := by decide +kernel
theorem d_W_keep_23 : decode m_W_keep.2.1 23 = .ok (.ireturn, 1) := by decide +kernel
def f_W_keep (S : St) : Option (Int32 × St) :=
    (f_Parish_copyFrom S 9 4).bind fun w_8 =>
    (some (sF w_8 0 13 1)).bind fun S_13 =>
    some ((S_13 4 8), S_13)
set_option maxHeartbeats 4000000 in
set_option maxRecDepth 20000 in
theorem t_W_keep  {S : St} {w : Int32 × St} (h : f_W_keep S = some w) : Ct SX m_W_keep 2 [.ref 0] S (some w.1) w.2 := by
  unfold f_W_keep at h
  refine Ct.of pn_W (Nat.le_of_ble_eq_true rfl) ?_
  show G SX m_W_keep 2 (some w.1) w.2 0 [(0, .ref 0)] [] S
  refine G_aload_n 0 rfl d_W_keep_0 ?_
  refine G_getR fl_W_32 kx_0 sx_0 rfl (by decide) d_W_keep_1 ?_
  refine G_aload_n 0 rfl d_W_keep_4 ?_
  refine G_getR fl_W_28 kx_0 sx_0 rfl (by decide) d_W_keep_5 ?_
  obtain ⟨w_8, q_8, h⟩ := ob_b h
  refine G_callV [.ref 4] [] (t_Parish_copyFrom isP_9 isP_4 q_8) (by decide) (by decide) mv_Parish_copyFrom rfl ml_W_166 kx_9 sx_9 cl_2 rfl (Nat.le_of_ble_eq_true rfl) d_W_keep_8 ?_
  refine G_aload_n 0 rfl d_W_keep_11 ?_
  refine G_iconst 1 (by decide) d_W_keep_12 ?_
  obtain ⟨S_13, e_13, h⟩ := ob_s h
  refine G_putZ e_13 (by decide) fp_W_99 kx_0 sx_0 rfl d_W_keep_13 ?_
  refine G_aload_n 0 rfl d_W_keep_16 ?_
  refine G_getR fl_W_28 kx_0 sx_0 rfl (by decide) d_W_keep_17 ?_
  refine G_getI fl_W_277 kx_4 sx_4 rfl d_W_keep_20 ?_
  cases h
  exact G_iret rfl d_W_keep_23
theorem d_W_undo_0 : decode m_W_undo.2.1 0 = .ok (.aload_n 0, 1) := by decide +kernel
theorem d_W_undo_1 : decode m_W_undo.2.1 1 = .ok (.getfield 99, 3) := by decide +kernel
theorem d_W_undo_4 : decode m_W_undo.2.1 4 = .ok (.ifCond .ne 5, 3) := by decide +kernel
theorem d_W_undo_7 : decode m_W_undo.2.1 7 = .ok (.iconst 0, 1) := by decide +kernel
theorem d_W_undo_8 : decode m_W_undo.2.1 8 = .ok (.ireturn, 1) := by decide +kernel
theorem d_W_undo_9 : decode m_W_undo.2.1 9 = .ok (.aload_n 0, 1) := by decide +kernel
theorem d_W_undo_10 : decode m_W_undo.2.1 10 = .ok (.getfield 28, 3) := by decide +kernel
theorem d_W_undo_13 : decode m_W_undo.2.1 13 = .ok (.aload_n 0, 1) := by decide +kernel
theorem d_W_undo_14 : decode m_W_undo.2.1 14 = .ok (.getfield 32, 3) := by decide +kernel
theorem d_W_undo_17 : decode m_W_undo.2.1 17 = .ok (.invokevirtual 280, 3) := by decide +kernel
theorem d_W_undo_20 : decode m_W_undo.2.1 20 = .ok (.iconst 1, 1) := by decide +kernel
theorem d_W_undo_21 : decode m_W_undo.2.1 21 = .ok (.ireturn, 1) := by decide +kernel
def f_W_undo (S : St) : Option (Int32 × St) :=
    if (S 0 13) = 0 then (
    some (0, S))
    else (
    (f_Parish_comeBackTo S 4 9).bind fun w_17 =>
    some (1, w_17))
set_option maxHeartbeats 4000000 in
set_option maxRecDepth 20000 in
theorem t_W_undo  {S : St} {w : Int32 × St} (h : f_W_undo S = some w) : Ct SX m_W_undo 3 [.ref 0] S (some w.1) w.2 := by
  unfold f_W_undo at h
  refine Ct.of pn_W (Nat.le_of_ble_eq_true rfl) ?_
  show G SX m_W_undo 3 (some w.1) w.2 0 [(0, .ref 0)] [] S
  refine G_aload_n 0 rfl d_W_undo_0 ?_
  refine G_getI fl_W_99 kx_0 sx_0 rfl d_W_undo_1 ?_
  refine G_if_ne 9 (by decide) d_W_undo_4 (fun c_4 => ?_) (fun c_4 => ?_)
  · replace h := ob_f h c_4
    refine G_aload_n 0 rfl d_W_undo_9 ?_
    refine G_getR fl_W_28 kx_0 sx_0 rfl (by decide) d_W_undo_10 ?_
    refine G_aload_n 0 rfl d_W_undo_13 ?_
    refine G_getR fl_W_32 kx_0 sx_0 rfl (by decide) d_W_undo_14 ?_
    obtain ⟨w_17, q_17, h⟩ := ob_b h
    refine G_callV [.ref 9] [] (t_Parish_comeBackTo isP_4 isP_9 q_17) (by decide) (by decide) mv_Parish_comeBackTo rfl ml_W_280 kx_4 sx_4 cl_2 rfl (Nat.le_of_ble_eq_true rfl) d_W_undo_17 ?_
    refine G_iconst 1 (by decide) d_W_undo_20 ?_
    cases h
    exact G_zret (Or.inr rfl) rfl d_W_undo_21
  · replace h := ob_t h c_4
    refine G_iconst 0 (by decide) d_W_undo_7 ?_
    cases h
    exact G_zret (Or.inl rfl) rfl d_W_undo_8
theorem d_W_check_0 : decode m_W_check.2.1 0 = .ok (.iload_n 1, 1) := by decide +kernel
theorem d_W_check_1 : decode m_W_check.2.1 1 = .ok (.iconst 0, 1) := by decide +kernel
theorem d_W_check_2 : decode m_W_check.2.1 2 = .ok (.bipush 24, 2) := by decide +kernel
theorem d_W_check_4 : decode m_W_check.2.1 4 = .ok (.invokestatic 133, 3) := by decide +kernel
theorem d_W_check_7 : decode m_W_check.2.1 7 = .ok (.ifCond .eq 14, 3) := by decide +kernel
theorem d_W_check_10 : decode m_W_check.2.1 10 = .ok (.aload_n 0, 1) := by decide +kernel
theorem d_W_check_11 : decode m_W_check.2.1 11 = .ok (.getfield 10, 3) := by decide +kernel
theorem d_W_check_14 : decode m_W_check.2.1 14 = .ok (.iload_n 1, 1) := by decide +kernel
theorem d_W_check_15 : decode m_W_check.2.1 15 = .ok (.invokevirtual 137, 3) := by decide +kernel
theorem d_W_check_18 : decode m_W_check.2.1 18 = .ok (.ifCond .ne 6, 3) := by decide +kernel
theorem d_W_check_21 : decode m_W_check.2.1 21 = .ok (.bipush (-2), 2) := by decide +kernel
theorem d_W_check_23 : decode m_W_check.2.1 23 = .ok (.ireturn, 1) := by decide +kernel
theorem d_W_check_24 : decode m_W_check.2.1 24 = .ok (.iconst 0, 1) := by decide +kernel
theorem d_W_check_25 : decode m_W_check.2.1 25 = .ok (.istore_n 2, 1) := by decide +kernel
theorem d_W_check_26 : decode m_W_check.2.1 26 = .ok (.iload_n 2, 1) := by decide +kernel
theorem d_W_check_27 : decode m_W_check.2.1 27 = .ok (.iload_n 1, 1) := by decide +kernel
theorem d_W_check_28 : decode m_W_check.2.1 28 = .ok (.if_icmp .ge 52, 3) := by decide +kernel
theorem d_W_check_31 : decode m_W_check.2.1 31 = .ok (.aload_n 0, 1) := by decide +kernel
theorem d_W_check_32 : decode m_W_check.2.1 32 = .ok (.getfield 28, 3) := by decide +kernel
theorem d_W_check_35 : decode m_W_check.2.1 35 = .ok (.iload_n 2, 1) := by decide +kernel
theorem d_W_check_36 : decode m_W_check.2.1 36 = .ok (.invokevirtual 107, 3) := by decide +kernel
theorem d_W_check_39 : decode m_W_check.2.1 39 = .ok (.ifCond .eq 19, 3) := by decide +kernel
theorem d_W_check_42 : decode m_W_check.2.1 42 = .ok (.aload_n 0, 1) := by decide +kernel
theorem d_W_check_43 : decode m_W_check.2.1 43 = .ok (.getfield 28, 3) := by decide +kernel
theorem d_W_check_46 : decode m_W_check.2.1 46 = .ok (.getfield 114, 3) := by decide +kernel
theorem d_W_check_49 : decode m_W_check.2.1 49 = .ok (.iload_n 2, 1) := by decide +kernel
theorem d_W_check_50 : decode m_W_check.2.1 50 = .ok (.iaload, 1) := by decide +kernel
theorem d_W_check_51 : decode m_W_check.2.1 51 = .ok (.sipush 256, 3) := by decide +kernel
theorem d_W_check_54 : decode m_W_check.2.1 54 = .ok (.irem, 1) := by decide +kernel
theorem d_W_check_55 : decode m_W_check.2.1 55 = .ok (.goto 4, 3) := by decide +kernel
theorem d_W_check_58 : decode m_W_check.2.1 58 = .ok (.iconst 0, 1) := by decide +kernel
theorem d_W_check_59 : decode m_W_check.2.1 59 = .ok (.istore_n 3, 1) := by decide +kernel
theorem d_W_check_60 : decode m_W_check.2.1 60 = .ok (.aload_n 0, 1) := by decide +kernel
theorem d_W_check_61 : decode m_W_check.2.1 61 = .ok (.getfield 10, 3) := by decide +kernel
theorem d_W_check_64 : decode m_W_check.2.1 64 = .ok (.iload_n 2, 1) := by decide +kernel
theorem d_W_check_65 : decode m_W_check.2.1 65 = .ok (.invokevirtual 249, 3) := by decide +kernel
theorem d_W_check_68 : decode m_W_check.2.1 68 = .ok (.iload_n 3, 1) := by decide +kernel
theorem d_W_check_69 : decode m_W_check.2.1 69 = .ok (.if_icmp .eq 5, 3) := by decide +kernel
theorem d_W_check_72 : decode m_W_check.2.1 72 = .ok (.iload_n 2, 1) := by decide +kernel
theorem d_W_check_73 : decode m_W_check.2.1 73 = .ok (.ireturn, 1) := by decide +kernel
theorem d_W_check_74 : decode m_W_check.2.1 74 = .ok (.iinc 2 1, 3) := by decide +kernel
theorem d_W_check_77 : decode m_W_check.2.1 77 = .ok (.goto (-51), 3) := by decide +kernel
theorem d_W_check_80 : decode m_W_check.2.1 80 = .ok (.iconst (-1), 1) := by decide +kernel
theorem d_W_check_81 : decode m_W_check.2.1 81 = .ok (.ireturn, 1) := by decide +kernel
def f_W_check_59 (k_26 : St → Int32 → Int32 → Option (Int32 × St)) (S : St) (l1 : Int32) (l2 : Int32) (s0 : Int32) : Option (Int32 × St) :=
    (f_Tape_at S l2).bind fun v_65 =>
    if v_65 = s0 then (
    (some (l2 + 1)).bind fun l2_74 =>
    k_26 S l1 l2_74)
    else (
    some (l2, S))
set_option maxHeartbeats 4000000 in
set_option maxRecDepth 20000 in
theorem t_W_check_59  {k_26 : St → Int32 → Int32 → Option (Int32 × St)} (hk_26 : ∀ (S : St) (l1 : Int32) (l2 : Int32) (w : Int32 × St), k_26 S l1 l2 = some w → G SX m_W_check 2 (some w.1) w.2 26 [(0, .ref 0), (1, .int l1), (2, .int l2)] [] S) (S : St) (l1 : Int32) (l2 : Int32) (s0 : Int32) (w : Int32 × St) (h : f_W_check_59 k_26 S l1 l2 s0 = some w) : G SX m_W_check 2 (some w.1) w.2 59 [(0, .ref 0), (1, .int l1), (2, .int l2)] [.int s0] S := by
  unfold f_W_check_59 at h
  refine G_istore_n [(3, .int s0), (0, .ref 0), (1, .int l1), (2, .int l2)] rfl rfl (by decide) d_W_check_59 ?_
  refine G_aload_n 1 rfl d_W_check_60 ?_
  refine G_getR fl_W_10 kx_0 sx_0 rfl (by decide) d_W_check_61 ?_
  refine G_iload_n 3 rfl d_W_check_64 ?_
  obtain ⟨v_65, q_65, h⟩ := ob_b h
  refine G_callV [.int l2] [] (t_Tape_at q_65) (by decide) (by decide) mv_Tape_at rfl ml_W_249 kx_1 sx_1 cl_8 rfl (Nat.le_of_ble_eq_true rfl) d_W_check_65 ?_
  refine G_iload_n 0 rfl d_W_check_68 ?_
  refine G_icmp_eq 74 (by decide) d_W_check_69 (fun c_69 => ?_) (fun c_69 => ?_)
  · replace h := ob_t h c_69
    obtain ⟨l2_74, e_74, h⟩ := ob_s h
    refine G_iinc 1 3 [(2, .int l2_74), (3, .int s0), (0, .ref 0), (1, .int l1)] (by decide) rfl e_74 rfl (by decide) d_W_check_74 ?_
    refine G_goto 26 (by decide) d_W_check_77 ?_
    exact G_sub _ [2, 3, 0] rfl (hk_26 S l1 l2_74 _ h)
  · replace h := ob_f h c_69
    refine G_iload_n 3 rfl d_W_check_72 ?_
    cases h
    exact G_iret rfl d_W_check_73
def f_W_check_26 : Nat → St → Int32 → Int32 → Option (Int32 × St)
  | 0, _, _, _ => none
  | n + 1, S, l1, l2 =>
    if l1 ≤ l2 then (
    some ((-1), S))
    else (
    (f_Parish_has S 4 l2).bind fun v_36 =>
    if v_36 = 0 then (
    f_W_check_59 (f_W_check_26 n) S l1 l2 (0 : Int32))
    else (
    if ig l2 24 then (
    f_W_check_59 (f_W_check_26 n) S l1 l2 (jrem (S 7 l2.toNatClampNeg) 256)) else none))
set_option maxHeartbeats 4000000 in
set_option maxRecDepth 20000 in
theorem t_W_check_26  : ∀ (n : Nat) (S : St) (l1 : Int32) (l2 : Int32) (w : Int32 × St), f_W_check_26 n S l1 l2 = some w → G SX m_W_check 2 (some w.1) w.2 26 [(0, .ref 0), (1, .int l1), (2, .int l2)] [] S := by
  intro n
  induction n with
  | zero =>
    intro S l1 l2 w h
    rw [f_W_check_26] at h
    cases h
  | succ n ih =>
    intro S l1 l2 w h
    rw [f_W_check_26] at h
    refine G_iload_n 2 rfl d_W_check_26 ?_
    refine G_iload_n 1 rfl d_W_check_27 ?_
    refine G_icmp_ge 80 (by decide) d_W_check_28 (fun c_28 => ?_) (fun c_28 => ?_)
    · replace h := ob_t h c_28
      refine G_iconst (-1) (by decide) d_W_check_80 ?_
      cases h
      exact G_iret rfl d_W_check_81
    · replace h := ob_f h c_28
      refine G_aload_n 0 rfl d_W_check_31 ?_
      refine G_getR fl_W_28 kx_0 sx_0 rfl (by decide) d_W_check_32 ?_
      refine G_iload_n 2 rfl d_W_check_35 ?_
      obtain ⟨v_36, q_36, h⟩ := ob_b h
      refine G_callV [.int l2] [] (t_Parish_has isP_4 q_36) (by decide) (by decide) mv_Parish_has rfl ml_W_107 kx_4 sx_4 cl_2 rfl (Nat.le_of_ble_eq_true rfl) d_W_check_36 ?_
      refine G_if_eq 58 (by decide) d_W_check_39 (fun c_39 => ?_) (fun c_39 => ?_)
      · replace h := ob_t h c_39
        refine G_iconst 0 (by decide) d_W_check_58 ?_
        exact G_sub _ [0, 1, 2] rfl (t_W_check_59 ih S l1 l2 (0 : Int32) _ h)
      · replace h := ob_f h c_39
        refine G_aload_n 0 rfl d_W_check_42 ?_
        refine G_getR fl_W_28 kx_0 sx_0 rfl (by decide) d_W_check_43 ?_
        refine G_getR fl_W_114 kx_4 sx_4 rfl (by decide) d_W_check_46 ?_
        refine G_iload_n 2 rfl d_W_check_49 ?_
        obtain ⟨g_50, h⟩ := ob_g h
        refine G_iaload kx_7 sx_7 g_50 d_W_check_50 ?_
        refine G_sipush 256 (by decide) d_W_check_51 ?_
        refine G_irem (by decide) d_W_check_54 ?_
        refine G_goto 59 (by decide) d_W_check_55 ?_
        exact G_sub _ [0, 1, 2] rfl (t_W_check_59 ih S l1 l2 (jrem (S 7 l2.toNatClampNeg) 256) _ h)
def f_W_check (S : St) (l1 : Int32) : Option (Int32 × St) :=
    (f_W_within S l1 (0 : Int32) (24 : Int32)).bind fun v_4 =>
    if v_4 = 0 then (
    some ((-2), S))
    else (
    (f_Tape_take S l1).bind fun w_15 =>
    if w_15.1 = 0 then (
    some ((-2), w_15.2))
    else (
    (some (0 : Int32)).bind fun l2_25 =>
    f_W_check_26 FU w_15.2 l1 l2_25))
set_option maxHeartbeats 4000000 in
set_option maxRecDepth 20000 in
theorem t_W_check  {S : St} {l1 : Int32} {w : Int32 × St} (h : f_W_check S l1 = some w) : Ct SX m_W_check 2 [.ref 0, .int l1] S (some w.1) w.2 := by
  unfold f_W_check at h
  refine Ct.of pn_W (Nat.le_of_ble_eq_true rfl) ?_
  show G SX m_W_check 2 (some w.1) w.2 0 [(0, .ref 0), (1, .int l1)] [] S
  refine G_iload_n 1 rfl d_W_check_0 ?_
  refine G_iconst 0 (by decide) d_W_check_1 ?_
  refine G_bipush 24 (by decide) d_W_check_2 ?_
  obtain ⟨v_4, q_4, h⟩ := ob_b h
  refine G_callS [.int l1, .int 0, .int 24] [] (t_W_within q_4) (by decide) (by decide) mt_W_within rfl ml_W_133 rfl (Nat.le_of_ble_eq_true rfl) d_W_check_4 ?_
  refine G_if_eq 21 (by decide) d_W_check_7 (fun c_7 => ?_) (fun c_7 => ?_)
  · replace h := ob_t h c_7
    refine G_bipush (-2) (by decide) d_W_check_21 ?_
    cases h
    exact G_iret rfl d_W_check_23
  · replace h := ob_f h c_7
    refine G_aload_n 0 rfl d_W_check_10 ?_
    refine G_getR fl_W_10 kx_0 sx_0 rfl (by decide) d_W_check_11 ?_
    refine G_iload_n 1 rfl d_W_check_14 ?_
    obtain ⟨w_15, q_15, h⟩ := ob_b h
    refine G_callV [.int l1] [] (t_Tape_take q_15) (by decide) (by decide) mv_Tape_take rfl ml_W_137 kx_1 sx_1 cl_8 rfl (Nat.le_of_ble_eq_true rfl) d_W_check_15 ?_
    refine G_if_ne 24 (by decide) d_W_check_18 (fun c_18 => ?_) (fun c_18 => ?_)
    · replace h := ob_f h c_18
      refine G_iconst 0 (by decide) d_W_check_24 ?_
      obtain ⟨l2_25, e_25, h⟩ := ob_s h
      refine G_istore_n [(2, .int l2_25), (0, .ref 0), (1, .int l1)] e_25 rfl (by decide) d_W_check_25 ?_
      exact G_sub _ [1, 2, 0] rfl (t_W_check_26 FU w_15.2 l1 l2_25 _ h)
    · replace h := ob_t h c_18
      refine G_bipush (-2) (by decide) d_W_check_21 ?_
      cases h
      exact G_iret rfl d_W_check_23
theorem d_W_count_0 : decode m_W_count.2.1 0 = .ok (.iload_n 1, 1) := by decide +kernel
theorem d_W_count_1 : decode m_W_count.2.1 1 = .ok (.tableswitch 123 0 8 #[51, 59, 67, 75, 83, 91, 99, 107, 115], 51) := by decide +kernel
theorem d_W_count_52 : decode m_W_count.2.1 52 = .ok (.aload_n 0, 1) := by decide +kernel
theorem d_W_count_53 : decode m_W_count.2.1 53 = .ok (.getfield 28, 3) := by decide +kernel
theorem d_W_count_56 : decode m_W_count.2.1 56 = .ok (.getfield 277, 3) := by decide +kernel
theorem d_W_count_59 : decode m_W_count.2.1 59 = .ok (.ireturn, 1) := by decide +kernel
theorem d_W_count_60 : decode m_W_count.2.1 60 = .ok (.aload_n 0, 1) := by decide +kernel
theorem d_W_count_61 : decode m_W_count.2.1 61 = .ok (.getfield 28, 3) := by decide +kernel
theorem d_W_count_64 : decode m_W_count.2.1 64 = .ok (.getfield 159, 3) := by decide +kernel
theorem d_W_count_67 : decode m_W_count.2.1 67 = .ok (.ireturn, 1) := by decide +kernel
theorem d_W_count_68 : decode m_W_count.2.1 68 = .ok (.aload_n 0, 1) := by decide +kernel
theorem d_W_count_69 : decode m_W_count.2.1 69 = .ok (.getfield 28, 3) := by decide +kernel
theorem d_W_count_72 : decode m_W_count.2.1 72 = .ok (.getfield 174, 3) := by decide +kernel
theorem d_W_count_75 : decode m_W_count.2.1 75 = .ok (.ireturn, 1) := by decide +kernel
theorem d_W_count_76 : decode m_W_count.2.1 76 = .ok (.aload_n 0, 1) := by decide +kernel
theorem d_W_count_77 : decode m_W_count.2.1 77 = .ok (.getfield 28, 3) := by decide +kernel
theorem d_W_count_80 : decode m_W_count.2.1 80 = .ok (.getfield 177, 3) := by decide +kernel
theorem d_W_count_83 : decode m_W_count.2.1 83 = .ok (.ireturn, 1) := by decide +kernel
theorem d_W_count_84 : decode m_W_count.2.1 84 = .ok (.aload_n 0, 1) := by decide +kernel
theorem d_W_count_85 : decode m_W_count.2.1 85 = .ok (.getfield 28, 3) := by decide +kernel
theorem d_W_count_88 : decode m_W_count.2.1 88 = .ok (.getfield 171, 3) := by decide +kernel
theorem d_W_count_91 : decode m_W_count.2.1 91 = .ok (.ireturn, 1) := by decide +kernel
theorem d_W_count_92 : decode m_W_count.2.1 92 = .ok (.aload_n 0, 1) := by decide +kernel
theorem d_W_count_93 : decode m_W_count.2.1 93 = .ok (.getfield 50, 3) := by decide +kernel
theorem d_W_count_96 : decode m_W_count.2.1 96 = .ok (.getfield 148, 3) := by decide +kernel
theorem d_W_count_99 : decode m_W_count.2.1 99 = .ok (.ireturn, 1) := by decide +kernel
theorem d_W_count_100 : decode m_W_count.2.1 100 = .ok (.aload_n 0, 1) := by decide +kernel
theorem d_W_count_101 : decode m_W_count.2.1 101 = .ok (.getfield 10, 3) := by decide +kernel
theorem d_W_count_104 : decode m_W_count.2.1 104 = .ok (.getfield 130, 3) := by decide +kernel
theorem d_W_count_107 : decode m_W_count.2.1 107 = .ok (.ireturn, 1) := by decide +kernel
theorem d_W_count_108 : decode m_W_count.2.1 108 = .ok (.aload_n 0, 1) := by decide +kernel
theorem d_W_count_109 : decode m_W_count.2.1 109 = .ok (.getfield 28, 3) := by decide +kernel
theorem d_W_count_112 : decode m_W_count.2.1 112 = .ok (.getfield 103, 3) := by decide +kernel
theorem d_W_count_115 : decode m_W_count.2.1 115 = .ok (.ireturn, 1) := by decide +kernel
theorem d_W_count_116 : decode m_W_count.2.1 116 = .ok (.aload_n 0, 1) := by decide +kernel
theorem d_W_count_117 : decode m_W_count.2.1 117 = .ok (.getfield 28, 3) := by decide +kernel
theorem d_W_count_120 : decode m_W_count.2.1 120 = .ok (.invokevirtual 283, 3) := by decide +kernel
theorem d_W_count_123 : decode m_W_count.2.1 123 = .ok (.ireturn, 1) := by decide +kernel
theorem d_W_count_124 : decode m_W_count.2.1 124 = .ok (.iconst (-1), 1) := by decide +kernel
theorem d_W_count_125 : decode m_W_count.2.1 125 = .ok (.ireturn, 1) := by decide +kernel
def f_W_count (S : St) (l1 : Int32) : Option (Int32) :=
    if l1 = 0 then (
    some (S 4 8))
    else if l1 = 1 then (
    some (S 4 6))
    else if l1 = 2 then (
    some (S 4 4))
    else if l1 = 3 then (
    some (S 4 5))
    else if l1 = 4 then (
    some (S 4 7))
    else if l1 = 5 then (
    some (S 25 8))
    else if l1 = 6 then (
    some (S 1 2))
    else if l1 = 7 then (
    some (S 4 9))
    else if l1 = 8 then (
    (f_Parish_ownersLeft S 4).bind fun v_120 =>
    some v_120)
    else (
    some ((-1) : Int32))
set_option maxHeartbeats 4000000 in
set_option maxRecDepth 20000 in
theorem t_W_count  {S : St} {l1 : Int32} {w : Int32} (h : f_W_count S l1 = some w) : Ct SX m_W_count 3 [.ref 0, .int l1] S (some w) S := by
  unfold f_W_count at h
  refine Ct.of pn_W (Nat.le_of_ble_eq_true rfl) ?_
  show G SX m_W_count 3 (some w) S 0 [(0, .ref 0), (1, .int l1)] [] S
  refine G_iload_n 1 rfl d_W_count_0 ?_
  by_cases c_1_0 : l1 = 0
  · replace h := ob_t h c_1_0
    refine G_tin (0) (by rw [c_1_0]; decide) 52 (by decide) (by decide) rfl (by decide) d_W_count_1 ?_
    refine G_aload_n 0 rfl d_W_count_52 ?_
    refine G_getR fl_W_28 kx_0 sx_0 rfl (by decide) d_W_count_53 ?_
    refine G_getI fl_W_277 kx_4 sx_4 rfl d_W_count_56 ?_
    cases h
    exact G_iret rfl d_W_count_59
  replace h := ob_f h c_1_0
  by_cases c_1_1 : l1 = 1
  · replace h := ob_t h c_1_1
    refine G_tin (1) (by rw [c_1_1]; decide) 60 (by decide) (by decide) rfl (by decide) d_W_count_1 ?_
    refine G_aload_n 0 rfl d_W_count_60 ?_
    refine G_getR fl_W_28 kx_0 sx_0 rfl (by decide) d_W_count_61 ?_
    refine G_getI fl_W_159 kx_4 sx_4 rfl d_W_count_64 ?_
    cases h
    exact G_iret rfl d_W_count_67
  replace h := ob_f h c_1_1
  by_cases c_1_2 : l1 = 2
  · replace h := ob_t h c_1_2
    refine G_tin (2) (by rw [c_1_2]; decide) 68 (by decide) (by decide) rfl (by decide) d_W_count_1 ?_
    refine G_aload_n 0 rfl d_W_count_68 ?_
    refine G_getR fl_W_28 kx_0 sx_0 rfl (by decide) d_W_count_69 ?_
    refine G_getI fl_W_174 kx_4 sx_4 rfl d_W_count_72 ?_
    cases h
    exact G_iret rfl d_W_count_75
  replace h := ob_f h c_1_2
  by_cases c_1_3 : l1 = 3
  · replace h := ob_t h c_1_3
    refine G_tin (3) (by rw [c_1_3]; decide) 76 (by decide) (by decide) rfl (by decide) d_W_count_1 ?_
    refine G_aload_n 0 rfl d_W_count_76 ?_
    refine G_getR fl_W_28 kx_0 sx_0 rfl (by decide) d_W_count_77 ?_
    refine G_getI fl_W_177 kx_4 sx_4 rfl d_W_count_80 ?_
    cases h
    exact G_iret rfl d_W_count_83
  replace h := ob_f h c_1_3
  by_cases c_1_4 : l1 = 4
  · replace h := ob_t h c_1_4
    refine G_tin (4) (by rw [c_1_4]; decide) 84 (by decide) (by decide) rfl (by decide) d_W_count_1 ?_
    refine G_aload_n 0 rfl d_W_count_84 ?_
    refine G_getR fl_W_28 kx_0 sx_0 rfl (by decide) d_W_count_85 ?_
    refine G_getI fl_W_171 kx_4 sx_4 rfl d_W_count_88 ?_
    cases h
    exact G_iret rfl d_W_count_91
  replace h := ob_f h c_1_4
  by_cases c_1_5 : l1 = 5
  · replace h := ob_t h c_1_5
    refine G_tin (5) (by rw [c_1_5]; decide) 92 (by decide) (by decide) rfl (by decide) d_W_count_1 ?_
    refine G_aload_n 0 rfl d_W_count_92 ?_
    refine G_getR fl_W_50 kx_0 sx_0 rfl (by decide) d_W_count_93 ?_
    refine G_getI fl_W_148 kx_25 sx_25 rfl d_W_count_96 ?_
    cases h
    exact G_iret rfl d_W_count_99
  replace h := ob_f h c_1_5
  by_cases c_1_6 : l1 = 6
  · replace h := ob_t h c_1_6
    refine G_tin (6) (by rw [c_1_6]; decide) 100 (by decide) (by decide) rfl (by decide) d_W_count_1 ?_
    refine G_aload_n 0 rfl d_W_count_100 ?_
    refine G_getR fl_W_10 kx_0 sx_0 rfl (by decide) d_W_count_101 ?_
    refine G_getI fl_W_130 kx_1 sx_1 rfl d_W_count_104 ?_
    cases h
    exact G_iret rfl d_W_count_107
  replace h := ob_f h c_1_6
  by_cases c_1_7 : l1 = 7
  · replace h := ob_t h c_1_7
    refine G_tin (7) (by rw [c_1_7]; decide) 108 (by decide) (by decide) rfl (by decide) d_W_count_1 ?_
    refine G_aload_n 0 rfl d_W_count_108 ?_
    refine G_getR fl_W_28 kx_0 sx_0 rfl (by decide) d_W_count_109 ?_
    refine G_getI fl_W_103 kx_4 sx_4 rfl d_W_count_112 ?_
    cases h
    exact G_iret rfl d_W_count_115
  replace h := ob_f h c_1_7
  by_cases c_1_8 : l1 = 8
  · replace h := ob_t h c_1_8
    refine G_tin (8) (by rw [c_1_8]; decide) 116 (by decide) (by decide) rfl (by decide) d_W_count_1 ?_
    refine G_aload_n 0 rfl d_W_count_116 ?_
    refine G_getR fl_W_28 kx_0 sx_0 rfl (by decide) d_W_count_117 ?_
    obtain ⟨v_120, q_120, h⟩ := ob_b h
    refine G_callV [] [] (t_Parish_ownersLeft isP_4 q_120) (by decide) (by decide) mv_Parish_ownersLeft rfl ml_W_283 kx_4 sx_4 cl_2 rfl (Nat.le_of_ble_eq_true rfl) d_W_count_120 ?_
    cases h
    exact G_iret rfl d_W_count_123
  replace h := ob_f h c_1_8
  have n_1_0 := lv_neT c_1_0 (a := 0) (by decide)
  have n_1_1 := lv_neT c_1_1 (a := 1) (by decide)
  have n_1_2 := lv_neT c_1_2 (a := 2) (by decide)
  have n_1_3 := lv_neT c_1_3 (a := 3) (by decide)
  have n_1_4 := lv_neT c_1_4 (a := 4) (by decide)
  have n_1_5 := lv_neT c_1_5 (a := 5) (by decide)
  have n_1_6 := lv_neT c_1_6 (a := 6) (by decide)
  have n_1_7 := lv_neT c_1_7 (a := 7) (by decide)
  have n_1_8 := lv_neT c_1_8 (a := 8) (by decide)
  refine G_tout (by omega) 124 (by decide) d_W_count_1 ?_
  refine G_iconst (-1) (by decide) d_W_count_124 ?_
  cases h
  exact G_iret rfl d_W_count_125
