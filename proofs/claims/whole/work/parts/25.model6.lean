theorem d_Mo_halves_0 : decode m_Mo_halves.2.1 0 = .ok (.iload_n 1, 1) := by decide +kernel
theorem d_Mo_halves_1 : decode m_Mo_halves.2.1 1 = .ok (.iconst 2, 1) := by decide +kernel
theorem d_Mo_halves_2 : decode m_Mo_halves.2.1 2 = .ok (.bipush 16, 2) := by decide +kernel
theorem d_Mo_halves_4 : decode m_Mo_halves.2.1 4 = .ok (.invokestatic 124, 3) := by decide +kernel
theorem d_Mo_halves_7 : decode m_Mo_halves.2.1 7 = .ok (.ifCond .eq 20, 3) := by decide +kernel
theorem d_Mo_halves_10 : decode m_Mo_halves.2.1 10 = .ok (.iload_n 2, 1) := by decide +kernel
theorem d_Mo_halves_11 : decode m_Mo_halves.2.1 11 = .ok (.iconst 0, 1) := by decide +kernel
theorem d_Mo_halves_12 : decode m_Mo_halves.2.1 12 = .ok (.iconst 1, 1) := by decide +kernel
theorem d_Mo_halves_13 : decode m_Mo_halves.2.1 13 = .ok (.invokestatic 124, 3) := by decide +kernel
theorem d_Mo_halves_16 : decode m_Mo_halves.2.1 16 = .ok (.ifCond .eq 11, 3) := by decide +kernel
theorem d_Mo_halves_19 : decode m_Mo_halves.2.1 19 = .ok (.iload_n 1, 1) := by decide +kernel
theorem d_Mo_halves_20 : decode m_Mo_halves.2.1 20 = .ok (.aload_n 0, 1) := by decide +kernel
theorem d_Mo_halves_21 : decode m_Mo_halves.2.1 21 = .ok (.getfield 135, 3) := by decide +kernel
theorem d_Mo_halves_24 : decode m_Mo_halves.2.1 24 = .ok (.if_icmp .le 5, 3) := by decide +kernel
theorem d_Mo_halves_27 : decode m_Mo_halves.2.1 27 = .ok (.iconst (-1), 1) := by decide +kernel
theorem d_Mo_halves_28 : decode m_Mo_halves.2.1 28 = .ok (.ireturn, 1) := by decide +kernel
theorem d_Mo_halves_29 : decode m_Mo_halves.2.1 29 = .ok (.aload_n 0, 1) := by decide +kernel
theorem d_Mo_halves_30 : decode m_Mo_halves.2.1 30 = .ok (.iconst 0, 1) := by decide +kernel
theorem d_Mo_halves_31 : decode m_Mo_halves.2.1 31 = .ok (.putfield 135, 3) := by decide +kernel
theorem d_Mo_halves_34 : decode m_Mo_halves.2.1 34 = .ok (.iconst 0, 1) := by decide +kernel
theorem d_Mo_halves_35 : decode m_Mo_halves.2.1 35 = .ok (.istore_n 3, 1) := by decide +kernel
theorem d_Mo_halves_36 : decode m_Mo_halves.2.1 36 = .ok (.iconst 0, 1) := by decide +kernel
theorem d_Mo_halves_37 : decode m_Mo_halves.2.1 37 = .ok (.istore 4, 2) := by decide +kernel
theorem d_Mo_halves_39 : decode m_Mo_halves.2.1 39 = .ok (.iload 4, 2) := by decide +kernel
theorem d_Mo_halves_41 : decode m_Mo_halves.2.1 41 = .ok (.iload_n 1, 1) := by decide +kernel
theorem d_Mo_halves_42 : decode m_Mo_halves.2.1 42 = .ok (.if_icmp .ge 18, 3) := by decide +kernel
theorem d_Mo_halves_45 : decode m_Mo_halves.2.1 45 = .ok (.iload_n 3, 1) := by decide +kernel
theorem d_Mo_halves_46 : decode m_Mo_halves.2.1 46 = .ok (.aload_n 0, 1) := by decide +kernel
theorem d_Mo_halves_47 : decode m_Mo_halves.2.1 47 = .ok (.iload 4, 2) := by decide +kernel
theorem d_Mo_halves_49 : decode m_Mo_halves.2.1 49 = .ok (.invokevirtual 370, 3) := by decide +kernel
theorem d_Mo_halves_52 : decode m_Mo_halves.2.1 52 = .ok (.iadd, 1) := by decide +kernel
theorem d_Mo_halves_53 : decode m_Mo_halves.2.1 53 = .ok (.istore_n 3, 1) := by decide +kernel
theorem d_Mo_halves_54 : decode m_Mo_halves.2.1 54 = .ok (.iinc 4 1, 3) := by decide +kernel
theorem d_Mo_halves_57 : decode m_Mo_halves.2.1 57 = .ok (.goto (-18), 3) := by decide +kernel
theorem d_Mo_halves_60 : decode m_Mo_halves.2.1 60 = .ok (.ldc_w 366, 3) := by decide +kernel
theorem d_Mo_halves_63 : decode m_Mo_halves.2.1 63 = .ok (.istore 4, 2) := by decide +kernel
theorem d_Mo_halves_65 : decode m_Mo_halves.2.1 65 = .ok (.iconst 0, 1) := by decide +kernel
theorem d_Mo_halves_66 : decode m_Mo_halves.2.1 66 = .ok (.istore 5, 2) := by decide +kernel
theorem d_Mo_halves_68 : decode m_Mo_halves.2.1 68 = .ok (.iconst 0, 1) := by decide +kernel
theorem d_Mo_halves_69 : decode m_Mo_halves.2.1 69 = .ok (.istore 6, 2) := by decide +kernel
theorem d_Mo_halves_71 : decode m_Mo_halves.2.1 71 = .ok (.iconst 1, 1) := by decide +kernel
theorem d_Mo_halves_72 : decode m_Mo_halves.2.1 72 = .ok (.istore 7, 2) := by decide +kernel
theorem d_Mo_halves_74 : decode m_Mo_halves.2.1 74 = .ok (.iload 7, 2) := by decide +kernel
theorem d_Mo_halves_76 : decode m_Mo_halves.2.1 76 = .ok (.iload_n 1, 1) := by decide +kernel
theorem d_Mo_halves_77 : decode m_Mo_halves.2.1 77 = .ok (.if_icmp .ge 54, 3) := by decide +kernel
theorem d_Mo_halves_80 : decode m_Mo_halves.2.1 80 = .ok (.iload 6, 2) := by decide +kernel
theorem d_Mo_halves_82 : decode m_Mo_halves.2.1 82 = .ok (.aload_n 0, 1) := by decide +kernel
theorem d_Mo_halves_83 : decode m_Mo_halves.2.1 83 = .ok (.iload 7, 2) := by decide +kernel
theorem d_Mo_halves_85 : decode m_Mo_halves.2.1 85 = .ok (.iconst 1, 1) := by decide +kernel
theorem d_Mo_halves_86 : decode m_Mo_halves.2.1 86 = .ok (.isub, 1) := by decide +kernel
theorem d_Mo_halves_87 : decode m_Mo_halves.2.1 87 = .ok (.invokevirtual 370, 3) := by decide +kernel
theorem d_Mo_halves_90 : decode m_Mo_halves.2.1 90 = .ok (.iadd, 1) := by decide +kernel
theorem d_Mo_halves_91 : decode m_Mo_halves.2.1 91 = .ok (.istore 6, 2) := by decide +kernel
theorem d_Mo_halves_93 : decode m_Mo_halves.2.1 93 = .ok (.iload_n 3, 1) := by decide +kernel
theorem d_Mo_halves_94 : decode m_Mo_halves.2.1 94 = .ok (.iconst 2, 1) := by decide +kernel
theorem d_Mo_halves_95 : decode m_Mo_halves.2.1 95 = .ok (.iload 6, 2) := by decide +kernel
theorem d_Mo_halves_97 : decode m_Mo_halves.2.1 97 = .ok (.imul, 1) := by decide +kernel
theorem d_Mo_halves_98 : decode m_Mo_halves.2.1 98 = .ok (.isub, 1) := by decide +kernel
theorem d_Mo_halves_99 : decode m_Mo_halves.2.1 99 = .ok (.invokestatic 341, 3) := by decide +kernel
theorem d_Mo_halves_102 : decode m_Mo_halves.2.1 102 = .ok (.iload 4, 2) := by decide +kernel
theorem d_Mo_halves_104 : decode m_Mo_halves.2.1 104 = .ok (.if_icmp .lt 6, 3) := by decide +kernel
theorem d_Mo_halves_107 : decode m_Mo_halves.2.1 107 = .ok (.goto 18, 3) := by decide +kernel
theorem d_Mo_halves_110 : decode m_Mo_halves.2.1 110 = .ok (.iload_n 3, 1) := by decide +kernel
theorem d_Mo_halves_111 : decode m_Mo_halves.2.1 111 = .ok (.iconst 2, 1) := by decide +kernel
theorem d_Mo_halves_112 : decode m_Mo_halves.2.1 112 = .ok (.iload 6, 2) := by decide +kernel
theorem d_Mo_halves_114 : decode m_Mo_halves.2.1 114 = .ok (.imul, 1) := by decide +kernel
theorem d_Mo_halves_115 : decode m_Mo_halves.2.1 115 = .ok (.isub, 1) := by decide +kernel
theorem d_Mo_halves_116 : decode m_Mo_halves.2.1 116 = .ok (.invokestatic 341, 3) := by decide +kernel
theorem d_Mo_halves_119 : decode m_Mo_halves.2.1 119 = .ok (.istore 4, 2) := by decide +kernel
theorem d_Mo_halves_121 : decode m_Mo_halves.2.1 121 = .ok (.iload 7, 2) := by decide +kernel
theorem d_Mo_halves_123 : decode m_Mo_halves.2.1 123 = .ok (.istore 5, 2) := by decide +kernel
theorem d_Mo_halves_125 : decode m_Mo_halves.2.1 125 = .ok (.iinc 7 1, 3) := by decide +kernel
theorem d_Mo_halves_128 : decode m_Mo_halves.2.1 128 = .ok (.goto (-54), 3) := by decide +kernel
theorem d_Mo_halves_131 : decode m_Mo_halves.2.1 131 = .ok (.iload_n 2, 1) := by decide +kernel
theorem d_Mo_halves_132 : decode m_Mo_halves.2.1 132 = .ok (.ifCond .ne 8, 3) := by decide +kernel
theorem d_Mo_halves_135 : decode m_Mo_halves.2.1 135 = .ok (.iload 5, 2) := by decide +kernel
theorem d_Mo_halves_137 : decode m_Mo_halves.2.1 137 = .ok (.goto 5, 3) := by decide +kernel
theorem d_Mo_halves_140 : decode m_Mo_halves.2.1 140 = .ok (.iload 4, 2) := by decide +kernel
theorem d_Mo_halves_142 : decode m_Mo_halves.2.1 142 = .ok (.ireturn, 1) := by decide +kernel
def f_Mo_halves_125 (k_74 : St → Int32 → Int32 → Int32 → Int32 → Int32 → Int32 → Int32 → Option (Int32 × St)) (S : St) (l1 : Int32) (l2 : Int32) (l3 : Int32) (l4 : Int32) (l5 : Int32) (l6 : Int32) (l7 : Int32) : Option (Int32 × St) :=
    (some (l7 + 1)).bind fun l7_125 =>
    k_74 S l1 l2 l3 l4 l5 l6 l7_125
set_option maxHeartbeats 4000000 in
set_option maxRecDepth 20000 in
theorem t_Mo_halves_125  {k_74 : St → Int32 → Int32 → Int32 → Int32 → Int32 → Int32 → Int32 → Option (Int32 × St)} (hk_74 : ∀ (S : St) (l1 : Int32) (l2 : Int32) (l3 : Int32) (l4 : Int32) (l5 : Int32) (l6 : Int32) (l7 : Int32) (w : Int32 × St), k_74 S l1 l2 l3 l4 l5 l6 l7 = some w → G SM m_Mo_halves 2 (some w.1) w.2 74 [(0, .ref 0), (1, .int l1), (2, .int l2), (3, .int l3), (4, .int l4), (5, .int l5), (6, .int l6), (7, .int l7)] [] S) (S : St) (l1 : Int32) (l2 : Int32) (l3 : Int32) (l4 : Int32) (l5 : Int32) (l6 : Int32) (l7 : Int32) (w : Int32 × St) (h : f_Mo_halves_125 k_74 S l1 l2 l3 l4 l5 l6 l7 = some w) : G SM m_Mo_halves 2 (some w.1) w.2 125 [(0, .ref 0), (1, .int l1), (2, .int l2), (3, .int l3), (4, .int l4), (5, .int l5), (6, .int l6), (7, .int l7)] [] S := by
  unfold f_Mo_halves_125 at h
  obtain ⟨l7_125, e_125, h⟩ := ob_s h
  refine G_iinc 1 7 [(7, .int l7_125), (0, .ref 0), (1, .int l1), (2, .int l2), (3, .int l3), (4, .int l4), (5, .int l5), (6, .int l6)] (by decide) rfl e_125 rfl (by decide) d_Mo_halves_125 ?_
  refine G_goto 74 (by decide) d_Mo_halves_128 ?_
  exact G_sub _ [1, 2, 3, 4, 5, 6, 7, 0] rfl (hk_74 S l1 l2 l3 l4 l5 l6 l7_125 _ h)
def f_Mo_halves_74 : Nat → St → Int32 → Int32 → Int32 → Int32 → Int32 → Int32 → Int32 → Option (Int32 × St)
  | 0, _, _, _, _, _, _, _, _ => none
  | n + 1, S, l1, l2, l3, l4, l5, l6, l7 =>
    if l1 ≤ l7 then (
    if l2 = 0 then (
    some (l5, S))
    else (
    some (l4, S)))
    else (
    (f_Mo_octet S (l7 - 1)).bind fun v_87 =>
    (some (l6 + v_87)).bind fun l6_91 =>
    (f_Mo_size S (l3 - (2 * l6_91))).bind fun v_99 =>
    if v_99 < l4 then (
    (f_Mo_size S (l3 - (2 * l6_91))).bind fun v_116 =>
    f_Mo_halves_125 (f_Mo_halves_74 n) S l1 l2 l3 v_116 l7 l6_91 l7)
    else (
    f_Mo_halves_125 (f_Mo_halves_74 n) S l1 l2 l3 l4 l5 l6_91 l7))
set_option maxHeartbeats 4000000 in
set_option maxRecDepth 20000 in
theorem t_Mo_halves_74  : ∀ (n : Nat) (S : St) (l1 : Int32) (l2 : Int32) (l3 : Int32) (l4 : Int32) (l5 : Int32) (l6 : Int32) (l7 : Int32) (w : Int32 × St), f_Mo_halves_74 n S l1 l2 l3 l4 l5 l6 l7 = some w → G SM m_Mo_halves 2 (some w.1) w.2 74 [(0, .ref 0), (1, .int l1), (2, .int l2), (3, .int l3), (4, .int l4), (5, .int l5), (6, .int l6), (7, .int l7)] [] S := by
  intro n
  induction n with
  | zero =>
    intro S l1 l2 l3 l4 l5 l6 l7 w h
    rw [f_Mo_halves_74] at h
    cases h
  | succ n ih =>
    intro S l1 l2 l3 l4 l5 l6 l7 w h
    rw [f_Mo_halves_74] at h
    refine G_iload 7 rfl d_Mo_halves_74 ?_
    refine G_iload_n 1 rfl d_Mo_halves_76 ?_
    refine G_icmp_ge 131 (by decide) d_Mo_halves_77 (fun c_77 => ?_) (fun c_77 => ?_)
    · replace h := ob_t h c_77
      refine G_iload_n 2 rfl d_Mo_halves_131 ?_
      refine G_if_ne 140 (by decide) d_Mo_halves_132 (fun c_132 => ?_) (fun c_132 => ?_)
      · replace h := ob_f h c_132
        refine G_iload 4 rfl d_Mo_halves_140 ?_
        cases h
        exact G_iret rfl d_Mo_halves_142
      · replace h := ob_t h c_132
        refine G_iload 5 rfl d_Mo_halves_135 ?_
        refine G_goto 142 (by decide) d_Mo_halves_137 ?_
        cases h
        exact G_iret rfl d_Mo_halves_142
    · replace h := ob_f h c_77
      refine G_iload 6 rfl d_Mo_halves_80 ?_
      refine G_aload_n 0 rfl d_Mo_halves_82 ?_
      refine G_iload 7 rfl d_Mo_halves_83 ?_
      refine G_iconst 1 (by decide) d_Mo_halves_85 ?_
      refine G_isub d_Mo_halves_86 ?_
      obtain ⟨v_87, q_87, h⟩ := ob_b h
      refine G_callV [.int (l7 - 1)] [.int l6] (t_Mo_octet q_87) (by decide) (by decide) mv_Mo_octet rfl ml_Mo_370 km_0 sm_0 cl_12 rfl (Nat.le_of_ble_eq_true rfl) d_Mo_halves_87 ?_
      refine G_iadd d_Mo_halves_90 ?_
      obtain ⟨l6_91, e_91, h⟩ := ob_s h
      refine G_istore [(6, .int l6_91), (0, .ref 0), (1, .int l1), (2, .int l2), (3, .int l3), (4, .int l4), (5, .int l5), (7, .int l7)] e_91 rfl (by decide) d_Mo_halves_91 ?_
      refine G_iload_n 4 rfl d_Mo_halves_93 ?_
      refine G_iconst 2 (by decide) d_Mo_halves_94 ?_
      refine G_iload 0 rfl d_Mo_halves_95 ?_
      refine G_imul d_Mo_halves_97 ?_
      refine G_isub d_Mo_halves_98 ?_
      obtain ⟨v_99, q_99, h⟩ := ob_b h
      refine G_callS [.int (l3 - (2 * l6_91))] [] (t_Mo_size q_99) (by decide) (by decide) mt_Mo_size rfl ml_Mo_341 rfl (Nat.le_of_ble_eq_true rfl) d_Mo_halves_99 ?_
      refine G_iload 5 rfl d_Mo_halves_102 ?_
      refine G_icmp_lt 110 (by decide) d_Mo_halves_104 (fun c_104 => ?_) (fun c_104 => ?_)
      · replace h := ob_t h c_104
        refine G_iload_n 4 rfl d_Mo_halves_110 ?_
        refine G_iconst 2 (by decide) d_Mo_halves_111 ?_
        refine G_iload 0 rfl d_Mo_halves_112 ?_
        refine G_imul d_Mo_halves_114 ?_
        refine G_isub d_Mo_halves_115 ?_
        obtain ⟨v_116, q_116, h⟩ := ob_b h
        refine G_callS [.int (l3 - (2 * l6_91))] [] (t_Mo_size q_116) (by decide) (by decide) mt_Mo_size rfl ml_Mo_341 rfl (Nat.le_of_ble_eq_true rfl) d_Mo_halves_116 ?_
        refine G_istore [(4, .int v_116), (6, .int l6_91), (0, .ref 0), (1, .int l1), (2, .int l2), (3, .int l3), (5, .int l5), (7, .int l7)] rfl rfl (by decide) d_Mo_halves_119 ?_
        refine G_iload 7 rfl d_Mo_halves_121 ?_
        refine G_istore [(5, .int l7), (4, .int v_116), (6, .int l6_91), (0, .ref 0), (1, .int l1), (2, .int l2), (3, .int l3), (7, .int l7)] rfl rfl (by decide) d_Mo_halves_123 ?_
        exact G_sub _ [3, 4, 5, 6, 1, 0, 2, 7] rfl (t_Mo_halves_125 ih S l1 l2 l3 v_116 l7 l6_91 l7 _ h)
      · replace h := ob_f h c_104
        refine G_goto 125 (by decide) d_Mo_halves_107 ?_
        exact G_sub _ [1, 2, 3, 4, 5, 6, 0, 7] rfl (t_Mo_halves_125 ih S l1 l2 l3 l4 l5 l6_91 l7 _ h)
def f_Mo_halves_39 : Nat → St → Int32 → Int32 → Int32 → Int32 → Option (Int32 × St)
  | 0, _, _, _, _, _ => none
  | n + 1, S, l1, l2, l3, l4 =>
    if l1 ≤ l4 then (
    (some (1000000 : Int32)).bind fun l4_63 =>
    (some (0 : Int32)).bind fun l5_66 =>
    (some (0 : Int32)).bind fun l6_69 =>
    (some (1 : Int32)).bind fun l7_72 =>
    f_Mo_halves_74 FU S l1 l2 l3 l4_63 l5_66 l6_69 l7_72)
    else (
    (f_Mo_octet S l4).bind fun v_49 =>
    (some (l3 + v_49)).bind fun l3_53 =>
    (some (l4 + 1)).bind fun l4_54 =>
    f_Mo_halves_39 n S l1 l2 l3_53 l4_54)
set_option maxHeartbeats 4000000 in
set_option maxRecDepth 20000 in
theorem t_Mo_halves_39  : ∀ (n : Nat) (S : St) (l1 : Int32) (l2 : Int32) (l3 : Int32) (l4 : Int32) (w : Int32 × St), f_Mo_halves_39 n S l1 l2 l3 l4 = some w → G SM m_Mo_halves 2 (some w.1) w.2 39 [(0, .ref 0), (1, .int l1), (2, .int l2), (3, .int l3), (4, .int l4)] [] S := by
  intro n
  induction n with
  | zero =>
    intro S l1 l2 l3 l4 w h
    rw [f_Mo_halves_39] at h
    cases h
  | succ n ih =>
    intro S l1 l2 l3 l4 w h
    rw [f_Mo_halves_39] at h
    refine G_iload 4 rfl d_Mo_halves_39 ?_
    refine G_iload_n 1 rfl d_Mo_halves_41 ?_
    refine G_icmp_ge 60 (by decide) d_Mo_halves_42 (fun c_42 => ?_) (fun c_42 => ?_)
    · replace h := ob_t h c_42
      refine G_ldcw c_Mo_366 d_Mo_halves_60 ?_
      obtain ⟨l4_63, e_63, h⟩ := ob_s h
      refine G_istore [(4, .int l4_63), (0, .ref 0), (1, .int l1), (2, .int l2), (3, .int l3)] e_63 rfl (by decide) d_Mo_halves_63 ?_
      refine G_iconst 0 (by decide) d_Mo_halves_65 ?_
      obtain ⟨l5_66, e_66, h⟩ := ob_s h
      refine G_istore [(5, .int l5_66), (4, .int l4_63), (0, .ref 0), (1, .int l1), (2, .int l2), (3, .int l3)] e_66 rfl (by decide) d_Mo_halves_66 ?_
      refine G_iconst 0 (by decide) d_Mo_halves_68 ?_
      obtain ⟨l6_69, e_69, h⟩ := ob_s h
      refine G_istore [(6, .int l6_69), (5, .int l5_66), (4, .int l4_63), (0, .ref 0), (1, .int l1), (2, .int l2), (3, .int l3)] e_69 rfl (by decide) d_Mo_halves_69 ?_
      refine G_iconst 1 (by decide) d_Mo_halves_71 ?_
      obtain ⟨l7_72, e_72, h⟩ := ob_s h
      refine G_istore [(7, .int l7_72), (6, .int l6_69), (5, .int l5_66), (4, .int l4_63), (0, .ref 0), (1, .int l1), (2, .int l2), (3, .int l3)] e_72 rfl (by decide) d_Mo_halves_72 ?_
      exact G_sub _ [4, 5, 6, 7, 3, 2, 1, 0] rfl (t_Mo_halves_74 FU S l1 l2 l3 l4_63 l5_66 l6_69 l7_72 _ h)
    · replace h := ob_f h c_42
      refine G_iload_n 3 rfl d_Mo_halves_45 ?_
      refine G_aload_n 0 rfl d_Mo_halves_46 ?_
      refine G_iload 4 rfl d_Mo_halves_47 ?_
      obtain ⟨v_49, q_49, h⟩ := ob_b h
      refine G_callV [.int l4] [.int l3] (t_Mo_octet q_49) (by decide) (by decide) mv_Mo_octet rfl ml_Mo_370 km_0 sm_0 cl_12 rfl (Nat.le_of_ble_eq_true rfl) d_Mo_halves_49 ?_
      refine G_iadd d_Mo_halves_52 ?_
      obtain ⟨l3_53, e_53, h⟩ := ob_s h
      refine G_istore_n [(3, .int l3_53), (0, .ref 0), (1, .int l1), (2, .int l2), (4, .int l4)] e_53 rfl (by decide) d_Mo_halves_53 ?_
      obtain ⟨l4_54, e_54, h⟩ := ob_s h
      refine G_iinc 1 4 [(4, .int l4_54), (3, .int l3_53), (0, .ref 0), (1, .int l1), (2, .int l2)] (by decide) rfl e_54 rfl (by decide) d_Mo_halves_54 ?_
      refine G_goto 39 (by decide) d_Mo_halves_57 ?_
      exact G_sub _ [2, 3, 4, 1, 0] rfl (ih S l1 l2 l3_53 l4_54 _ h)
def f_Mo_halves (S : St) (l1 : Int32) (l2 : Int32) : Option (Int32 × St) :=
    (f_Mo_in S l1 (2 : Int32) (16 : Int32)).bind fun v_4 =>
    if v_4 = 0 then (
    some ((-1), S))
    else (
    (f_Mo_in S l2 (0 : Int32) (1 : Int32)).bind fun v_13 =>
    if v_13 = 0 then (
    some ((-1), S))
    else (
    if l1 ≤ (S 0 7) then (
    (some (sF S 0 7 0)).bind fun S_31 =>
    (some (0 : Int32)).bind fun l3_35 =>
    (some (0 : Int32)).bind fun l4_37 =>
    f_Mo_halves_39 FU S_31 l1 l2 l3_35 l4_37)
    else (
    some ((-1), S))))
set_option maxHeartbeats 4000000 in
set_option maxRecDepth 20000 in
theorem t_Mo_halves  {S : St} {l1 : Int32} {l2 : Int32} {w : Int32 × St} (h : f_Mo_halves S l1 l2 = some w) : Ct SM m_Mo_halves 2 [.ref 0, .int l1, .int l2] S (some w.1) w.2 := by
  unfold f_Mo_halves at h
  refine Ct.of pn_Mo (Nat.le_of_ble_eq_true rfl) ?_
  show G SM m_Mo_halves 2 (some w.1) w.2 0 [(0, .ref 0), (1, .int l1), (2, .int l2)] [] S
  refine G_iload_n 1 rfl d_Mo_halves_0 ?_
  refine G_iconst 2 (by decide) d_Mo_halves_1 ?_
  refine G_bipush 16 (by decide) d_Mo_halves_2 ?_
  obtain ⟨v_4, q_4, h⟩ := ob_b h
  refine G_callS [.int l1, .int 2, .int 16] [] (t_Mo_in q_4) (by decide) (by decide) mt_Mo_in rfl ml_Mo_124 rfl (Nat.le_of_ble_eq_true rfl) d_Mo_halves_4 ?_
  refine G_if_eq 27 (by decide) d_Mo_halves_7 (fun c_7 => ?_) (fun c_7 => ?_)
  · replace h := ob_t h c_7
    refine G_iconst (-1) (by decide) d_Mo_halves_27 ?_
    cases h
    exact G_iret rfl d_Mo_halves_28
  · replace h := ob_f h c_7
    refine G_iload_n 2 rfl d_Mo_halves_10 ?_
    refine G_iconst 0 (by decide) d_Mo_halves_11 ?_
    refine G_iconst 1 (by decide) d_Mo_halves_12 ?_
    obtain ⟨v_13, q_13, h⟩ := ob_b h
    refine G_callS [.int l2, .int 0, .int 1] [] (t_Mo_in q_13) (by decide) (by decide) mt_Mo_in rfl ml_Mo_124 rfl (Nat.le_of_ble_eq_true rfl) d_Mo_halves_13 ?_
    refine G_if_eq 27 (by decide) d_Mo_halves_16 (fun c_16 => ?_) (fun c_16 => ?_)
    · replace h := ob_t h c_16
      refine G_iconst (-1) (by decide) d_Mo_halves_27 ?_
      cases h
      exact G_iret rfl d_Mo_halves_28
    · replace h := ob_f h c_16
      refine G_iload_n 1 rfl d_Mo_halves_19 ?_
      refine G_aload_n 0 rfl d_Mo_halves_20 ?_
      refine G_getI fl_Mo_135 km_0 sm_0 rfl d_Mo_halves_21 ?_
      refine G_icmp_le 29 (by decide) d_Mo_halves_24 (fun c_24 => ?_) (fun c_24 => ?_)
      · replace h := ob_t h c_24
        refine G_aload_n 0 rfl d_Mo_halves_29 ?_
        refine G_iconst 0 (by decide) d_Mo_halves_30 ?_
        obtain ⟨S_31, e_31, h⟩ := ob_s h
        refine G_putI e_31 fp_Mo_135 km_0 sm_0 rfl d_Mo_halves_31 ?_
        refine G_iconst 0 (by decide) d_Mo_halves_34 ?_
        obtain ⟨l3_35, e_35, h⟩ := ob_s h
        refine G_istore_n [(3, .int l3_35), (0, .ref 0), (1, .int l1), (2, .int l2)] e_35 rfl (by decide) d_Mo_halves_35 ?_
        refine G_iconst 0 (by decide) d_Mo_halves_36 ?_
        obtain ⟨l4_37, e_37, h⟩ := ob_s h
        refine G_istore [(4, .int l4_37), (3, .int l3_35), (0, .ref 0), (1, .int l1), (2, .int l2)] e_37 rfl (by decide) d_Mo_halves_37 ?_
        exact G_sub _ [2, 3, 4, 1, 0] rfl (t_Mo_halves_39 FU S_31 l1 l2 l3_35 l4_37 _ h)
      · replace h := ob_f h c_24
        refine G_iconst (-1) (by decide) d_Mo_halves_27 ?_
        cases h
        exact G_iret rfl d_Mo_halves_28
theorem d_Mo_isBetter_0 : decode m_Mo_isBetter.2.1 0 = .ok (.aload_n 0, 1) := by decide +kernel
theorem d_Mo_isBetter_1 : decode m_Mo_isBetter.2.1 1 = .ok (.iconst 2, 1) := by decide +kernel
theorem d_Mo_isBetter_2 : decode m_Mo_isBetter.2.1 2 = .ok (.iload_n 2, 1) := by decide +kernel
theorem d_Mo_isBetter_3 : decode m_Mo_isBetter.2.1 3 = .ok (.imul, 1) := by decide +kernel
theorem d_Mo_isBetter_4 : decode m_Mo_isBetter.2.1 4 = .ok (.invokevirtual 370, 3) := by decide +kernel
theorem d_Mo_isBetter_7 : decode m_Mo_isBetter.2.1 7 = .ok (.aload_n 0, 1) := by decide +kernel
theorem d_Mo_isBetter_8 : decode m_Mo_isBetter.2.1 8 = .ok (.iconst 2, 1) := by decide +kernel
theorem d_Mo_isBetter_9 : decode m_Mo_isBetter.2.1 9 = .ok (.iload_n 1, 1) := by decide +kernel
theorem d_Mo_isBetter_10 : decode m_Mo_isBetter.2.1 10 = .ok (.imul, 1) := by decide +kernel
theorem d_Mo_isBetter_11 : decode m_Mo_isBetter.2.1 11 = .ok (.invokevirtual 370, 3) := by decide +kernel
theorem d_Mo_isBetter_14 : decode m_Mo_isBetter.2.1 14 = .ok (.isub, 1) := by decide +kernel
theorem d_Mo_isBetter_15 : decode m_Mo_isBetter.2.1 15 = .ok (.istore_n 3, 1) := by decide +kernel
theorem d_Mo_isBetter_16 : decode m_Mo_isBetter.2.1 16 = .ok (.aload_n 0, 1) := by decide +kernel
theorem d_Mo_isBetter_17 : decode m_Mo_isBetter.2.1 17 = .ok (.iconst 2, 1) := by decide +kernel
theorem d_Mo_isBetter_18 : decode m_Mo_isBetter.2.1 18 = .ok (.iload_n 1, 1) := by decide +kernel
theorem d_Mo_isBetter_19 : decode m_Mo_isBetter.2.1 19 = .ok (.imul, 1) := by decide +kernel
theorem d_Mo_isBetter_20 : decode m_Mo_isBetter.2.1 20 = .ok (.iconst 1, 1) := by decide +kernel
theorem d_Mo_isBetter_21 : decode m_Mo_isBetter.2.1 21 = .ok (.iadd, 1) := by decide +kernel
theorem d_Mo_isBetter_22 : decode m_Mo_isBetter.2.1 22 = .ok (.invokevirtual 370, 3) := by decide +kernel
theorem d_Mo_isBetter_25 : decode m_Mo_isBetter.2.1 25 = .ok (.aload_n 0, 1) := by decide +kernel
theorem d_Mo_isBetter_26 : decode m_Mo_isBetter.2.1 26 = .ok (.iconst 2, 1) := by decide +kernel
theorem d_Mo_isBetter_27 : decode m_Mo_isBetter.2.1 27 = .ok (.iload_n 2, 1) := by decide +kernel
theorem d_Mo_isBetter_28 : decode m_Mo_isBetter.2.1 28 = .ok (.imul, 1) := by decide +kernel
theorem d_Mo_isBetter_29 : decode m_Mo_isBetter.2.1 29 = .ok (.iconst 1, 1) := by decide +kernel
theorem d_Mo_isBetter_30 : decode m_Mo_isBetter.2.1 30 = .ok (.iadd, 1) := by decide +kernel
theorem d_Mo_isBetter_31 : decode m_Mo_isBetter.2.1 31 = .ok (.invokevirtual 370, 3) := by decide +kernel
theorem d_Mo_isBetter_34 : decode m_Mo_isBetter.2.1 34 = .ok (.isub, 1) := by decide +kernel
theorem d_Mo_isBetter_35 : decode m_Mo_isBetter.2.1 35 = .ok (.istore 4, 2) := by decide +kernel
theorem d_Mo_isBetter_37 : decode m_Mo_isBetter.2.1 37 = .ok (.iload_n 3, 1) := by decide +kernel
theorem d_Mo_isBetter_38 : decode m_Mo_isBetter.2.1 38 = .ok (.ifCond .lt 19, 3) := by decide +kernel
theorem d_Mo_isBetter_41 : decode m_Mo_isBetter.2.1 41 = .ok (.iload 4, 2) := by decide +kernel
theorem d_Mo_isBetter_43 : decode m_Mo_isBetter.2.1 43 = .ok (.ifCond .lt 14, 3) := by decide +kernel
theorem d_Mo_isBetter_46 : decode m_Mo_isBetter.2.1 46 = .ok (.iload_n 3, 1) := by decide +kernel
theorem d_Mo_isBetter_47 : decode m_Mo_isBetter.2.1 47 = .ok (.iload 4, 2) := by decide +kernel
theorem d_Mo_isBetter_49 : decode m_Mo_isBetter.2.1 49 = .ok (.iadd, 1) := by decide +kernel
theorem d_Mo_isBetter_50 : decode m_Mo_isBetter.2.1 50 = .ok (.ifCond .le 7, 3) := by decide +kernel
theorem d_Mo_isBetter_53 : decode m_Mo_isBetter.2.1 53 = .ok (.iconst 1, 1) := by decide +kernel
theorem d_Mo_isBetter_54 : decode m_Mo_isBetter.2.1 54 = .ok (.goto 4, 3) := by decide +kernel
theorem d_Mo_isBetter_57 : decode m_Mo_isBetter.2.1 57 = .ok (.iconst 0, 1) := by decide +kernel
theorem d_Mo_isBetter_58 : decode m_Mo_isBetter.2.1 58 = .ok (.ireturn, 1) := by decide +kernel
def f_Mo_isBetter (S : St) (l1 : Int32) (l2 : Int32) : Option (Int32) :=
    (f_Mo_octet S (2 * l2)).bind fun v_4 =>
    (f_Mo_octet S (2 * l1)).bind fun v_11 =>
    (some (v_4 - v_11)).bind fun l3_15 =>
    (f_Mo_octet S ((2 * l1) + 1)).bind fun v_22 =>
    (f_Mo_octet S ((2 * l2) + 1)).bind fun v_31 =>
    (some (v_22 - v_31)).bind fun l4_35 =>
    if l3_15 < 0 then (
    some (0 : Int32))
    else (
    if l4_35 < 0 then (
    some (0 : Int32))
    else (
    if (l3_15 + l4_35) ≤ 0 then (
    some (0 : Int32))
    else (
    some (1 : Int32))))
set_option maxHeartbeats 4000000 in
set_option maxRecDepth 20000 in
theorem t_Mo_isBetter  {S : St} {l1 : Int32} {l2 : Int32} {w : Int32} (h : f_Mo_isBetter S l1 l2 = some w) : Ct SM m_Mo_isBetter 2 [.ref 0, .int l1, .int l2] S (some w) S := by
  unfold f_Mo_isBetter at h
  refine Ct.of pn_Mo (Nat.le_of_ble_eq_true rfl) ?_
  show G SM m_Mo_isBetter 2 (some w) S 0 [(0, .ref 0), (1, .int l1), (2, .int l2)] [] S
  refine G_aload_n 0 rfl d_Mo_isBetter_0 ?_
  refine G_iconst 2 (by decide) d_Mo_isBetter_1 ?_
  refine G_iload_n 2 rfl d_Mo_isBetter_2 ?_
  refine G_imul d_Mo_isBetter_3 ?_
  obtain ⟨v_4, q_4, h⟩ := ob_b h
  refine G_callV [.int (2 * l2)] [] (t_Mo_octet q_4) (by decide) (by decide) mv_Mo_octet rfl ml_Mo_370 km_0 sm_0 cl_12 rfl (Nat.le_of_ble_eq_true rfl) d_Mo_isBetter_4 ?_
  refine G_aload_n 0 rfl d_Mo_isBetter_7 ?_
  refine G_iconst 2 (by decide) d_Mo_isBetter_8 ?_
  refine G_iload_n 1 rfl d_Mo_isBetter_9 ?_
  refine G_imul d_Mo_isBetter_10 ?_
  obtain ⟨v_11, q_11, h⟩ := ob_b h
  refine G_callV [.int (2 * l1)] [.int v_4] (t_Mo_octet q_11) (by decide) (by decide) mv_Mo_octet rfl ml_Mo_370 km_0 sm_0 cl_12 rfl (Nat.le_of_ble_eq_true rfl) d_Mo_isBetter_11 ?_
  refine G_isub d_Mo_isBetter_14 ?_
  obtain ⟨l3_15, e_15, h⟩ := ob_s h
  refine G_istore_n [(3, .int l3_15), (0, .ref 0), (1, .int l1), (2, .int l2)] e_15 rfl (by decide) d_Mo_isBetter_15 ?_
  refine G_aload_n 1 rfl d_Mo_isBetter_16 ?_
  refine G_iconst 2 (by decide) d_Mo_isBetter_17 ?_
  refine G_iload_n 2 rfl d_Mo_isBetter_18 ?_
  refine G_imul d_Mo_isBetter_19 ?_
  refine G_iconst 1 (by decide) d_Mo_isBetter_20 ?_
  refine G_iadd d_Mo_isBetter_21 ?_
  obtain ⟨v_22, q_22, h⟩ := ob_b h
  refine G_callV [.int ((2 * l1) + 1)] [] (t_Mo_octet q_22) (by decide) (by decide) mv_Mo_octet rfl ml_Mo_370 km_0 sm_0 cl_12 rfl (Nat.le_of_ble_eq_true rfl) d_Mo_isBetter_22 ?_
  refine G_aload_n 1 rfl d_Mo_isBetter_25 ?_
  refine G_iconst 2 (by decide) d_Mo_isBetter_26 ?_
  refine G_iload_n 3 rfl d_Mo_isBetter_27 ?_
  refine G_imul d_Mo_isBetter_28 ?_
  refine G_iconst 1 (by decide) d_Mo_isBetter_29 ?_
  refine G_iadd d_Mo_isBetter_30 ?_
  obtain ⟨v_31, q_31, h⟩ := ob_b h
  refine G_callV [.int ((2 * l2) + 1)] [.int v_22] (t_Mo_octet q_31) (by decide) (by decide) mv_Mo_octet rfl ml_Mo_370 km_0 sm_0 cl_12 rfl (Nat.le_of_ble_eq_true rfl) d_Mo_isBetter_31 ?_
  refine G_isub d_Mo_isBetter_34 ?_
  obtain ⟨l4_35, e_35, h⟩ := ob_s h
  refine G_istore [(4, .int l4_35), (3, .int l3_15), (0, .ref 0), (1, .int l1), (2, .int l2)] e_35 rfl (by decide) d_Mo_isBetter_35 ?_
  refine G_iload_n 1 rfl d_Mo_isBetter_37 ?_
  refine G_if_lt 57 (by decide) d_Mo_isBetter_38 (fun c_38 => ?_) (fun c_38 => ?_)
  · replace h := ob_t h c_38
    refine G_iconst 0 (by decide) d_Mo_isBetter_57 ?_
    cases h
    exact G_zret (Or.inl rfl) rfl d_Mo_isBetter_58
  · replace h := ob_f h c_38
    refine G_iload 0 rfl d_Mo_isBetter_41 ?_
    refine G_if_lt 57 (by decide) d_Mo_isBetter_43 (fun c_43 => ?_) (fun c_43 => ?_)
    · replace h := ob_t h c_43
      refine G_iconst 0 (by decide) d_Mo_isBetter_57 ?_
      cases h
      exact G_zret (Or.inl rfl) rfl d_Mo_isBetter_58
    · replace h := ob_f h c_43
      refine G_iload_n 1 rfl d_Mo_isBetter_46 ?_
      refine G_iload 0 rfl d_Mo_isBetter_47 ?_
      refine G_iadd d_Mo_isBetter_49 ?_
      refine G_if_le 57 (by decide) d_Mo_isBetter_50 (fun c_50 => ?_) (fun c_50 => ?_)
      · replace h := ob_t h c_50
        refine G_iconst 0 (by decide) d_Mo_isBetter_57 ?_
        cases h
        exact G_zret (Or.inl rfl) rfl d_Mo_isBetter_58
      · replace h := ob_f h c_50
        refine G_iconst 1 (by decide) d_Mo_isBetter_53 ?_
        refine G_goto 58 (by decide) d_Mo_isBetter_54 ?_
        cases h
        exact G_zret (Or.inr rfl) rfl d_Mo_isBetter_58
theorem d_Mo_forgiven_0 : decode m_Mo_forgiven.2.1 0 = .ok (.iload_n 1, 1) := by decide +kernel
theorem d_Mo_forgiven_1 : decode m_Mo_forgiven.2.1 1 = .ok (.iconst 1, 1) := by decide +kernel
theorem d_Mo_forgiven_2 : decode m_Mo_forgiven.2.1 2 = .ok (.bipush 16, 2) := by decide +kernel
theorem d_Mo_forgiven_4 : decode m_Mo_forgiven.2.1 4 = .ok (.invokestatic 124, 3) := by decide +kernel
theorem d_Mo_forgiven_7 : decode m_Mo_forgiven.2.1 7 = .ok (.ifCond .eq 13, 3) := by decide +kernel
theorem d_Mo_forgiven_10 : decode m_Mo_forgiven.2.1 10 = .ok (.iconst 2, 1) := by decide +kernel
theorem d_Mo_forgiven_11 : decode m_Mo_forgiven.2.1 11 = .ok (.iload_n 1, 1) := by decide +kernel
theorem d_Mo_forgiven_12 : decode m_Mo_forgiven.2.1 12 = .ok (.imul, 1) := by decide +kernel
theorem d_Mo_forgiven_13 : decode m_Mo_forgiven.2.1 13 = .ok (.aload_n 0, 1) := by decide +kernel
theorem d_Mo_forgiven_14 : decode m_Mo_forgiven.2.1 14 = .ok (.getfield 135, 3) := by decide +kernel
theorem d_Mo_forgiven_17 : decode m_Mo_forgiven.2.1 17 = .ok (.if_icmp .le 5, 3) := by decide +kernel
theorem d_Mo_forgiven_20 : decode m_Mo_forgiven.2.1 20 = .ok (.iconst (-1), 1) := by decide +kernel
theorem d_Mo_forgiven_21 : decode m_Mo_forgiven.2.1 21 = .ok (.ireturn, 1) := by decide +kernel
theorem d_Mo_forgiven_22 : decode m_Mo_forgiven.2.1 22 = .ok (.aload_n 0, 1) := by decide +kernel
theorem d_Mo_forgiven_23 : decode m_Mo_forgiven.2.1 23 = .ok (.iconst 0, 1) := by decide +kernel
theorem d_Mo_forgiven_24 : decode m_Mo_forgiven.2.1 24 = .ok (.putfield 135, 3) := by decide +kernel
theorem d_Mo_forgiven_27 : decode m_Mo_forgiven.2.1 27 = .ok (.iconst 0, 1) := by decide +kernel
theorem d_Mo_forgiven_28 : decode m_Mo_forgiven.2.1 28 = .ok (.istore_n 2, 1) := by decide +kernel
theorem d_Mo_forgiven_29 : decode m_Mo_forgiven.2.1 29 = .ok (.iconst 0, 1) := by decide +kernel
theorem d_Mo_forgiven_30 : decode m_Mo_forgiven.2.1 30 = .ok (.istore_n 3, 1) := by decide +kernel
theorem d_Mo_forgiven_31 : decode m_Mo_forgiven.2.1 31 = .ok (.iload_n 3, 1) := by decide +kernel
theorem d_Mo_forgiven_32 : decode m_Mo_forgiven.2.1 32 = .ok (.iload_n 1, 1) := by decide +kernel
theorem d_Mo_forgiven_33 : decode m_Mo_forgiven.2.1 33 = .ok (.if_icmp .ge 58, 3) := by decide +kernel
theorem d_Mo_forgiven_36 : decode m_Mo_forgiven.2.1 36 = .ok (.iconst 1, 1) := by decide +kernel
theorem d_Mo_forgiven_37 : decode m_Mo_forgiven.2.1 37 = .ok (.istore 4, 2) := by decide +kernel
theorem d_Mo_forgiven_39 : decode m_Mo_forgiven.2.1 39 = .ok (.iconst 0, 1) := by decide +kernel
theorem d_Mo_forgiven_40 : decode m_Mo_forgiven.2.1 40 = .ok (.istore 5, 2) := by decide +kernel
theorem d_Mo_forgiven_42 : decode m_Mo_forgiven.2.1 42 = .ok (.iload 5, 2) := by decide +kernel
theorem d_Mo_forgiven_44 : decode m_Mo_forgiven.2.1 44 = .ok (.iload_n 1, 1) := by decide +kernel
theorem d_Mo_forgiven_45 : decode m_Mo_forgiven.2.1 45 = .ok (.if_icmp .ge 31, 3) := by decide +kernel
theorem d_Mo_forgiven_48 : decode m_Mo_forgiven.2.1 48 = .ok (.iload 4, 2) := by decide +kernel
theorem d_Mo_forgiven_50 : decode m_Mo_forgiven.2.1 50 = .ok (.ifCond .eq 17, 3) := by decide +kernel
theorem d_Mo_forgiven_53 : decode m_Mo_forgiven.2.1 53 = .ok (.aload_n 0, 1) := by decide +kernel
theorem d_Mo_forgiven_54 : decode m_Mo_forgiven.2.1 54 = .ok (.iload 5, 2) := by decide +kernel
theorem d_Mo_forgiven_56 : decode m_Mo_forgiven.2.1 56 = .ok (.iload_n 3, 1) := by decide +kernel
theorem d_Mo_forgiven_57 : decode m_Mo_forgiven.2.1 57 = .ok (.invokevirtual 406, 3) := by decide +kernel
theorem d_Mo_forgiven_60 : decode m_Mo_forgiven.2.1 60 = .ok (.ifCond .ne 7, 3) := by decide +kernel
theorem d_Mo_forgiven_63 : decode m_Mo_forgiven.2.1 63 = .ok (.iconst 1, 1) := by decide +kernel
theorem d_Mo_forgiven_64 : decode m_Mo_forgiven.2.1 64 = .ok (.goto 4, 3) := by decide +kernel
theorem d_Mo_forgiven_67 : decode m_Mo_forgiven.2.1 67 = .ok (.iconst 0, 1) := by decide +kernel
theorem d_Mo_forgiven_68 : decode m_Mo_forgiven.2.1 68 = .ok (.istore 4, 2) := by decide +kernel
theorem d_Mo_forgiven_70 : decode m_Mo_forgiven.2.1 70 = .ok (.iinc 5 1, 3) := by decide +kernel
theorem d_Mo_forgiven_73 : decode m_Mo_forgiven.2.1 73 = .ok (.goto (-31), 3) := by decide +kernel
theorem d_Mo_forgiven_76 : decode m_Mo_forgiven.2.1 76 = .ok (.iload 4, 2) := by decide +kernel
theorem d_Mo_forgiven_78 : decode m_Mo_forgiven.2.1 78 = .ok (.ifCond .eq 7, 3) := by decide +kernel
theorem d_Mo_forgiven_81 : decode m_Mo_forgiven.2.1 81 = .ok (.iload_n 2, 1) := by decide +kernel
theorem d_Mo_forgiven_82 : decode m_Mo_forgiven.2.1 82 = .ok (.iconst 1, 1) := by decide +kernel
theorem d_Mo_forgiven_83 : decode m_Mo_forgiven.2.1 83 = .ok (.iadd, 1) := by decide +kernel
theorem d_Mo_forgiven_84 : decode m_Mo_forgiven.2.1 84 = .ok (.istore_n 2, 1) := by decide +kernel
theorem d_Mo_forgiven_85 : decode m_Mo_forgiven.2.1 85 = .ok (.iinc 3 1, 3) := by decide +kernel
theorem d_Mo_forgiven_88 : decode m_Mo_forgiven.2.1 88 = .ok (.goto (-57), 3) := by decide +kernel
theorem d_Mo_forgiven_91 : decode m_Mo_forgiven.2.1 91 = .ok (.iload_n 2, 1) := by decide +kernel
theorem d_Mo_forgiven_92 : decode m_Mo_forgiven.2.1 92 = .ok (.ireturn, 1) := by decide +kernel
def f_Mo_forgiven_68 (k_31 : St → Int32 → Int32 → Int32 → Option (Int32 × St)) (k_42 : St → Int32 → Int32 → Int32 → Int32 → Int32 → Option (Int32 × St)) (S : St) (l1 : Int32) (l2 : Int32) (l3 : Int32) (l5 : Int32) (s0 : Int32) : Option (Int32 × St) :=
    (some (l5 + 1)).bind fun l5_70 =>
    k_42 S l1 l2 l3 s0 l5_70
set_option maxHeartbeats 4000000 in
set_option maxRecDepth 20000 in
theorem t_Mo_forgiven_68  {k_31 : St → Int32 → Int32 → Int32 → Option (Int32 × St)} {k_42 : St → Int32 → Int32 → Int32 → Int32 → Int32 → Option (Int32 × St)} (hk_31 : ∀ (S : St) (l1 : Int32) (l2 : Int32) (l3 : Int32) (w : Int32 × St), k_31 S l1 l2 l3 = some w → G SM m_Mo_forgiven 3 (some w.1) w.2 31 [(0, .ref 0), (1, .int l1), (2, .int l2), (3, .int l3)] [] S) (hk_42 : ∀ (S : St) (l1 : Int32) (l2 : Int32) (l3 : Int32) (l4 : Int32) (l5 : Int32) (w : Int32 × St), k_42 S l1 l2 l3 l4 l5 = some w → G SM m_Mo_forgiven 3 (some w.1) w.2 42 [(0, .ref 0), (1, .int l1), (2, .int l2), (3, .int l3), (4, .int l4), (5, .int l5)] [] S) (S : St) (l1 : Int32) (l2 : Int32) (l3 : Int32) (l5 : Int32) (s0 : Int32) (w : Int32 × St) (h : f_Mo_forgiven_68 k_31 k_42 S l1 l2 l3 l5 s0 = some w) : G SM m_Mo_forgiven 3 (some w.1) w.2 68 [(0, .ref 0), (1, .int l1), (2, .int l2), (3, .int l3), (5, .int l5)] [.int s0] S := by
  unfold f_Mo_forgiven_68 at h
  refine G_istore [(4, .int s0), (0, .ref 0), (1, .int l1), (2, .int l2), (3, .int l3), (5, .int l5)] rfl rfl (by decide) d_Mo_forgiven_68 ?_
  obtain ⟨l5_70, e_70, h⟩ := ob_s h
  refine G_iinc 1 5 [(5, .int l5_70), (4, .int s0), (0, .ref 0), (1, .int l1), (2, .int l2), (3, .int l3)] (by decide) rfl e_70 rfl (by decide) d_Mo_forgiven_70 ?_
  refine G_goto 42 (by decide) d_Mo_forgiven_73 ?_
  exact G_sub _ [2, 3, 4, 5, 1, 0] rfl (hk_42 S l1 l2 l3 s0 l5_70 _ h)
def f_Mo_forgiven_67 (k_31 : St → Int32 → Int32 → Int32 → Option (Int32 × St)) (k_42 : St → Int32 → Int32 → Int32 → Int32 → Int32 → Option (Int32 × St)) (S : St) (l1 : Int32) (l2 : Int32) (l3 : Int32) (l5 : Int32) : Option (Int32 × St) :=
    f_Mo_forgiven_68 k_31 k_42 S l1 l2 l3 l5 (0 : Int32)
set_option maxHeartbeats 4000000 in
set_option maxRecDepth 20000 in
theorem t_Mo_forgiven_67  {k_31 : St → Int32 → Int32 → Int32 → Option (Int32 × St)} {k_42 : St → Int32 → Int32 → Int32 → Int32 → Int32 → Option (Int32 × St)} (hk_31 : ∀ (S : St) (l1 : Int32) (l2 : Int32) (l3 : Int32) (w : Int32 × St), k_31 S l1 l2 l3 = some w → G SM m_Mo_forgiven 3 (some w.1) w.2 31 [(0, .ref 0), (1, .int l1), (2, .int l2), (3, .int l3)] [] S) (hk_42 : ∀ (S : St) (l1 : Int32) (l2 : Int32) (l3 : Int32) (l4 : Int32) (l5 : Int32) (w : Int32 × St), k_42 S l1 l2 l3 l4 l5 = some w → G SM m_Mo_forgiven 3 (some w.1) w.2 42 [(0, .ref 0), (1, .int l1), (2, .int l2), (3, .int l3), (4, .int l4), (5, .int l5)] [] S) (S : St) (l1 : Int32) (l2 : Int32) (l3 : Int32) (l5 : Int32) (w : Int32 × St) (h : f_Mo_forgiven_67 k_31 k_42 S l1 l2 l3 l5 = some w) : G SM m_Mo_forgiven 3 (some w.1) w.2 67 [(0, .ref 0), (1, .int l1), (2, .int l2), (3, .int l3), (5, .int l5)] [] S := by
  unfold f_Mo_forgiven_67 at h
  refine G_iconst 0 (by decide) d_Mo_forgiven_67 ?_
  exact G_sub _ [0, 1, 2, 3, 4] rfl (t_Mo_forgiven_68 hk_31 hk_42 S l1 l2 l3 l5 (0 : Int32) _ h)
def f_Mo_forgiven_85 (k_31 : St → Int32 → Int32 → Int32 → Option (Int32 × St)) (S : St) (l1 : Int32) (l2 : Int32) (l3 : Int32) : Option (Int32 × St) :=
    (some (l3 + 1)).bind fun l3_85 =>
    k_31 S l1 l2 l3_85
set_option maxHeartbeats 4000000 in
set_option maxRecDepth 20000 in
theorem t_Mo_forgiven_85  {k_31 : St → Int32 → Int32 → Int32 → Option (Int32 × St)} (hk_31 : ∀ (S : St) (l1 : Int32) (l2 : Int32) (l3 : Int32) (w : Int32 × St), k_31 S l1 l2 l3 = some w → G SM m_Mo_forgiven 3 (some w.1) w.2 31 [(0, .ref 0), (1, .int l1), (2, .int l2), (3, .int l3)] [] S) (S : St) (l1 : Int32) (l2 : Int32) (l3 : Int32) (w : Int32 × St) (h : f_Mo_forgiven_85 k_31 S l1 l2 l3 = some w) : G SM m_Mo_forgiven 3 (some w.1) w.2 85 [(0, .ref 0), (1, .int l1), (2, .int l2), (3, .int l3)] [] S := by
  unfold f_Mo_forgiven_85 at h
  obtain ⟨l3_85, e_85, h⟩ := ob_s h
  refine G_iinc 1 3 [(3, .int l3_85), (0, .ref 0), (1, .int l1), (2, .int l2)] (by decide) rfl e_85 rfl (by decide) d_Mo_forgiven_85 ?_
  refine G_goto 31 (by decide) d_Mo_forgiven_88 ?_
  exact G_sub _ [1, 2, 3, 0] rfl (hk_31 S l1 l2 l3_85 _ h)
def f_Mo_forgiven_42 (k_31 : St → Int32 → Int32 → Int32 → Option (Int32 × St)) : Nat → St → Int32 → Int32 → Int32 → Int32 → Int32 → Option (Int32 × St)
  | 0, _, _, _, _, _, _ => none
  | n + 1, S, l1, l2, l3, l4, l5 =>
    if l1 ≤ l5 then (
    if l4 = 0 then (
    f_Mo_forgiven_85 k_31 S l1 l2 l3)
    else (
    (some (l2 + 1)).bind fun l2_84 =>
    f_Mo_forgiven_85 k_31 S l1 l2_84 l3))
    else (
    if l4 = 0 then (
    f_Mo_forgiven_67 k_31 (f_Mo_forgiven_42 k_31 n) S l1 l2 l3 l5)
    else (
    (f_Mo_isBetter S l5 l3).bind fun v_57 =>
    if v_57 = 0 then (
    f_Mo_forgiven_68 k_31 (f_Mo_forgiven_42 k_31 n) S l1 l2 l3 l5 (1 : Int32))
    else (
    f_Mo_forgiven_67 k_31 (f_Mo_forgiven_42 k_31 n) S l1 l2 l3 l5)))
set_option maxHeartbeats 4000000 in
set_option maxRecDepth 20000 in
theorem t_Mo_forgiven_42  {k_31 : St → Int32 → Int32 → Int32 → Option (Int32 × St)} (hk_31 : ∀ (S : St) (l1 : Int32) (l2 : Int32) (l3 : Int32) (w : Int32 × St), k_31 S l1 l2 l3 = some w → G SM m_Mo_forgiven 3 (some w.1) w.2 31 [(0, .ref 0), (1, .int l1), (2, .int l2), (3, .int l3)] [] S) : ∀ (n : Nat) (S : St) (l1 : Int32) (l2 : Int32) (l3 : Int32) (l4 : Int32) (l5 : Int32) (w : Int32 × St), f_Mo_forgiven_42 k_31 n S l1 l2 l3 l4 l5 = some w → G SM m_Mo_forgiven 3 (some w.1) w.2 42 [(0, .ref 0), (1, .int l1), (2, .int l2), (3, .int l3), (4, .int l4), (5, .int l5)] [] S := by
  intro n
  induction n with
  | zero =>
    intro S l1 l2 l3 l4 l5 w h
    rw [f_Mo_forgiven_42] at h
    cases h
  | succ n ih =>
    intro S l1 l2 l3 l4 l5 w h
    rw [f_Mo_forgiven_42] at h
    refine G_iload 5 rfl d_Mo_forgiven_42 ?_
    refine G_iload_n 1 rfl d_Mo_forgiven_44 ?_
    refine G_icmp_ge 76 (by decide) d_Mo_forgiven_45 (fun c_45 => ?_) (fun c_45 => ?_)
    · replace h := ob_t h c_45
      refine G_iload 4 rfl d_Mo_forgiven_76 ?_
      refine G_if_eq 85 (by decide) d_Mo_forgiven_78 (fun c_78 => ?_) (fun c_78 => ?_)
      · replace h := ob_t h c_78
        exact G_sub _ [0, 1, 2, 3] rfl (t_Mo_forgiven_85 hk_31 S l1 l2 l3 _ h)
      · replace h := ob_f h c_78
        refine G_iload_n 2 rfl d_Mo_forgiven_81 ?_
        refine G_iconst 1 (by decide) d_Mo_forgiven_82 ?_
        refine G_iadd d_Mo_forgiven_83 ?_
        obtain ⟨l2_84, e_84, h⟩ := ob_s h
        refine G_istore_n [(2, .int l2_84), (0, .ref 0), (1, .int l1), (3, .int l3), (4, .int l4), (5, .int l5)] e_84 rfl (by decide) d_Mo_forgiven_84 ?_
        exact G_sub _ [1, 2, 0, 3] rfl (t_Mo_forgiven_85 hk_31 S l1 l2_84 l3 _ h)
    · replace h := ob_f h c_45
      refine G_iload 4 rfl d_Mo_forgiven_48 ?_
      refine G_if_eq 67 (by decide) d_Mo_forgiven_50 (fun c_50 => ?_) (fun c_50 => ?_)
      · replace h := ob_t h c_50
        exact G_sub _ [0, 1, 2, 3, 5] rfl (t_Mo_forgiven_67 hk_31 ih S l1 l2 l3 l5 _ h)
      · replace h := ob_f h c_50
        refine G_aload_n 0 rfl d_Mo_forgiven_53 ?_
        refine G_iload 5 rfl d_Mo_forgiven_54 ?_
        refine G_iload_n 3 rfl d_Mo_forgiven_56 ?_
        obtain ⟨v_57, q_57, h⟩ := ob_b h
        refine G_callV [.int l5, .int l3] [] (t_Mo_isBetter q_57) (by decide) (by decide) mv_Mo_isBetter rfl ml_Mo_406 km_0 sm_0 cl_12 rfl (Nat.le_of_ble_eq_true rfl) d_Mo_forgiven_57 ?_
        refine G_if_ne 67 (by decide) d_Mo_forgiven_60 (fun c_60 => ?_) (fun c_60 => ?_)
        · replace h := ob_f h c_60
          exact G_sub _ [0, 1, 2, 3, 5] rfl (t_Mo_forgiven_67 hk_31 ih S l1 l2 l3 l5 _ h)
        · replace h := ob_t h c_60
          refine G_iconst 1 (by decide) d_Mo_forgiven_63 ?_
          refine G_goto 68 (by decide) d_Mo_forgiven_64 ?_
          exact G_sub _ [0, 1, 2, 3, 5] rfl (t_Mo_forgiven_68 hk_31 ih S l1 l2 l3 l5 (1 : Int32) _ h)
def f_Mo_forgiven_31 : Nat → St → Int32 → Int32 → Int32 → Option (Int32 × St)
  | 0, _, _, _, _ => none
  | n + 1, S, l1, l2, l3 =>
    if l1 ≤ l3 then (
    some (l2, S))
    else (
    (some (1 : Int32)).bind fun l4_37 =>
    (some (0 : Int32)).bind fun l5_40 =>
    f_Mo_forgiven_42 (f_Mo_forgiven_31 n) FU S l1 l2 l3 l4_37 l5_40)
set_option maxHeartbeats 4000000 in
set_option maxRecDepth 20000 in
theorem t_Mo_forgiven_31  : ∀ (n : Nat) (S : St) (l1 : Int32) (l2 : Int32) (l3 : Int32) (w : Int32 × St), f_Mo_forgiven_31 n S l1 l2 l3 = some w → G SM m_Mo_forgiven 3 (some w.1) w.2 31 [(0, .ref 0), (1, .int l1), (2, .int l2), (3, .int l3)] [] S := by
  intro n
  induction n with
  | zero =>
    intro S l1 l2 l3 w h
    rw [f_Mo_forgiven_31] at h
    cases h
  | succ n ih =>
    intro S l1 l2 l3 w h
    rw [f_Mo_forgiven_31] at h
    refine G_iload_n 3 rfl d_Mo_forgiven_31 ?_
    refine G_iload_n 1 rfl d_Mo_forgiven_32 ?_
    refine G_icmp_ge 91 (by decide) d_Mo_forgiven_33 (fun c_33 => ?_) (fun c_33 => ?_)
    · replace h := ob_t h c_33
      refine G_iload_n 2 rfl d_Mo_forgiven_91 ?_
      cases h
      exact G_iret rfl d_Mo_forgiven_92
    · replace h := ob_f h c_33
      refine G_iconst 1 (by decide) d_Mo_forgiven_36 ?_
      obtain ⟨l4_37, e_37, h⟩ := ob_s h
      refine G_istore [(4, .int l4_37), (0, .ref 0), (1, .int l1), (2, .int l2), (3, .int l3)] e_37 rfl (by decide) d_Mo_forgiven_37 ?_
      refine G_iconst 0 (by decide) d_Mo_forgiven_39 ?_
      obtain ⟨l5_40, e_40, h⟩ := ob_s h
      refine G_istore [(5, .int l5_40), (4, .int l4_37), (0, .ref 0), (1, .int l1), (2, .int l2), (3, .int l3)] e_40 rfl (by decide) d_Mo_forgiven_40 ?_
      exact G_sub _ [2, 3, 4, 5, 1, 0] rfl (t_Mo_forgiven_42 ih FU S l1 l2 l3 l4_37 l5_40 _ h)
def f_Mo_forgiven (S : St) (l1 : Int32) : Option (Int32 × St) :=
    (f_Mo_in S l1 (1 : Int32) (16 : Int32)).bind fun v_4 =>
    if v_4 = 0 then (
    some ((-1), S))
    else (
    if (2 * l1) ≤ (S 0 7) then (
    (some (sF S 0 7 0)).bind fun S_24 =>
    (some (0 : Int32)).bind fun l2_28 =>
    (some (0 : Int32)).bind fun l3_30 =>
    f_Mo_forgiven_31 FU S_24 l1 l2_28 l3_30)
    else (
    some ((-1), S)))
set_option maxHeartbeats 4000000 in
set_option maxRecDepth 20000 in
theorem t_Mo_forgiven  {S : St} {l1 : Int32} {w : Int32 × St} (h : f_Mo_forgiven S l1 = some w) : Ct SM m_Mo_forgiven 3 [.ref 0, .int l1] S (some w.1) w.2 := by
  unfold f_Mo_forgiven at h
  refine Ct.of pn_Mo (Nat.le_of_ble_eq_true rfl) ?_
  show G SM m_Mo_forgiven 3 (some w.1) w.2 0 [(0, .ref 0), (1, .int l1)] [] S
  refine G_iload_n 1 rfl d_Mo_forgiven_0 ?_
  refine G_iconst 1 (by decide) d_Mo_forgiven_1 ?_
  refine G_bipush 16 (by decide) d_Mo_forgiven_2 ?_
  obtain ⟨v_4, q_4, h⟩ := ob_b h
  refine G_callS [.int l1, .int 1, .int 16] [] (t_Mo_in q_4) (by decide) (by decide) mt_Mo_in rfl ml_Mo_124 rfl (Nat.le_of_ble_eq_true rfl) d_Mo_forgiven_4 ?_
  refine G_if_eq 20 (by decide) d_Mo_forgiven_7 (fun c_7 => ?_) (fun c_7 => ?_)
  · replace h := ob_t h c_7
    refine G_iconst (-1) (by decide) d_Mo_forgiven_20 ?_
    cases h
    exact G_iret rfl d_Mo_forgiven_21
  · replace h := ob_f h c_7
    refine G_iconst 2 (by decide) d_Mo_forgiven_10 ?_
    refine G_iload_n 1 rfl d_Mo_forgiven_11 ?_
    refine G_imul d_Mo_forgiven_12 ?_
    refine G_aload_n 0 rfl d_Mo_forgiven_13 ?_
    refine G_getI fl_Mo_135 km_0 sm_0 rfl d_Mo_forgiven_14 ?_
    refine G_icmp_le 22 (by decide) d_Mo_forgiven_17 (fun c_17 => ?_) (fun c_17 => ?_)
    · replace h := ob_t h c_17
      refine G_aload_n 0 rfl d_Mo_forgiven_22 ?_
      refine G_iconst 0 (by decide) d_Mo_forgiven_23 ?_
      obtain ⟨S_24, e_24, h⟩ := ob_s h
      refine G_putI e_24 fp_Mo_135 km_0 sm_0 rfl d_Mo_forgiven_24 ?_
      refine G_iconst 0 (by decide) d_Mo_forgiven_27 ?_
      obtain ⟨l2_28, e_28, h⟩ := ob_s h
      refine G_istore_n [(2, .int l2_28), (0, .ref 0), (1, .int l1)] e_28 rfl (by decide) d_Mo_forgiven_28 ?_
      refine G_iconst 0 (by decide) d_Mo_forgiven_29 ?_
      obtain ⟨l3_30, e_30, h⟩ := ob_s h
      refine G_istore_n [(3, .int l3_30), (2, .int l2_28), (0, .ref 0), (1, .int l1)] e_30 rfl (by decide) d_Mo_forgiven_30 ?_
      exact G_sub _ [2, 3, 1, 0] rfl (t_Mo_forgiven_31 FU S_24 l1 l2_28 l3_30 _ h)
    · replace h := ob_f h c_17
      refine G_iconst (-1) (by decide) d_Mo_forgiven_20 ?_
      cases h
      exact G_iret rfl d_Mo_forgiven_21
theorem d_Mo_seed_0 : decode m_Mo_seed.2.1 0 = .ok (.iload_n 1, 1) := by decide +kernel
theorem d_Mo_seed_1 : decode m_Mo_seed.2.1 1 = .ok (.iconst 0, 1) := by decide +kernel
theorem d_Mo_seed_2 : decode m_Mo_seed.2.1 2 = .ok (.ldc_w 365, 3) := by decide +kernel
theorem d_Mo_seed_5 : decode m_Mo_seed.2.1 5 = .ok (.invokestatic 124, 3) := by decide +kernel
theorem d_Mo_seed_8 : decode m_Mo_seed.2.1 8 = .ok (.ifCond .ne 5, 3) := by decide +kernel
theorem d_Mo_seed_11 : decode m_Mo_seed.2.1 11 = .ok (.iconst 0, 1) := by decide +kernel
theorem d_Mo_seed_12 : decode m_Mo_seed.2.1 12 = .ok (.ireturn, 1) := by decide +kernel
theorem d_Mo_seed_13 : decode m_Mo_seed.2.1 13 = .ok (.aload_n 0, 1) := by decide +kernel
theorem d_Mo_seed_14 : decode m_Mo_seed.2.1 14 = .ok (.getfield 7, 3) := by decide +kernel
theorem d_Mo_seed_17 : decode m_Mo_seed.2.1 17 = .ok (.bipush 98, 2) := by decide +kernel
theorem d_Mo_seed_19 : decode m_Mo_seed.2.1 19 = .ok (.iload_n 1, 1) := by decide +kernel
theorem d_Mo_seed_20 : decode m_Mo_seed.2.1 20 = .ok (.iastore, 1) := by decide +kernel
theorem d_Mo_seed_21 : decode m_Mo_seed.2.1 21 = .ok (.iconst 1, 1) := by decide +kernel
theorem d_Mo_seed_22 : decode m_Mo_seed.2.1 22 = .ok (.ireturn, 1) := by decide +kernel
def f_Mo_seed (S : St) (l1 : Int32) : Option (Int32 × St) :=
    (f_Mo_in S l1 (0 : Int32) (65535 : Int32)).bind fun v_5 =>
    if v_5 = 0 then (
    some (0, S))
    else (
    if ig (98 : Int32) 99 then (
    (some (sF S 1 (98 : Int32).toNatClampNeg l1)).bind fun S_20 =>
    some (1, S_20)) else none)
set_option maxHeartbeats 4000000 in
set_option maxRecDepth 20000 in
theorem t_Mo_seed  {S : St} {l1 : Int32} {w : Int32 × St} (h : f_Mo_seed S l1 = some w) : Ct SM m_Mo_seed 2 [.ref 0, .int l1] S (some w.1) w.2 := by
  unfold f_Mo_seed at h
  refine Ct.of pn_Mo (Nat.le_of_ble_eq_true rfl) ?_
  show G SM m_Mo_seed 2 (some w.1) w.2 0 [(0, .ref 0), (1, .int l1)] [] S
  refine G_iload_n 1 rfl d_Mo_seed_0 ?_
  refine G_iconst 0 (by decide) d_Mo_seed_1 ?_
  refine G_ldcw c_Mo_365 d_Mo_seed_2 ?_
  obtain ⟨v_5, q_5, h⟩ := ob_b h
  refine G_callS [.int l1, .int 0, .int 65535] [] (t_Mo_in q_5) (by decide) (by decide) mt_Mo_in rfl ml_Mo_124 rfl (Nat.le_of_ble_eq_true rfl) d_Mo_seed_5 ?_
  refine G_if_ne 13 (by decide) d_Mo_seed_8 (fun c_8 => ?_) (fun c_8 => ?_)
  · replace h := ob_f h c_8
    refine G_aload_n 0 rfl d_Mo_seed_13 ?_
    refine G_getR fl_Mo_7 km_0 sm_0 rfl (by decide) d_Mo_seed_14 ?_
    refine G_bipush 98 (by decide) d_Mo_seed_17 ?_
    refine G_iload_n 1 rfl d_Mo_seed_19 ?_
    obtain ⟨g_20, h⟩ := ob_g h
    obtain ⟨S_20, e_20, h⟩ := ob_s h
    refine G_iastore e_20 km_1 sm_1 g_20 d_Mo_seed_20 ?_
    refine G_iconst 1 (by decide) d_Mo_seed_21 ?_
    cases h
    exact G_zret (Or.inr rfl) rfl d_Mo_seed_22
  · replace h := ob_t h c_8
    refine G_iconst 0 (by decide) d_Mo_seed_11 ?_
    cases h
    exact G_zret (Or.inl rfl) rfl d_Mo_seed_12
theorem d_Mo_keep_0 : decode m_Mo_keep.2.1 0 = .ok (.aload_n 0, 1) := by decide +kernel
theorem d_Mo_keep_1 : decode m_Mo_keep.2.1 1 = .ok (.iconst 1, 1) := by decide +kernel
theorem d_Mo_keep_2 : decode m_Mo_keep.2.1 2 = .ok (.putfield 409, 3) := by decide +kernel
theorem d_Mo_keep_5 : decode m_Mo_keep.2.1 5 = .ok (.aload_n 0, 1) := by decide +kernel
theorem d_Mo_keep_6 : decode m_Mo_keep.2.1 6 = .ok (.aload_n 0, 1) := by decide +kernel
theorem d_Mo_keep_7 : decode m_Mo_keep.2.1 7 = .ok (.getfield 120, 3) := by decide +kernel
theorem d_Mo_keep_10 : decode m_Mo_keep.2.1 10 = .ok (.putfield 413, 3) := by decide +kernel
theorem d_Mo_keep_13 : decode m_Mo_keep.2.1 13 = .ok (.aload_n 0, 1) := by decide +kernel
theorem d_Mo_keep_14 : decode m_Mo_keep.2.1 14 = .ok (.getfield 7, 3) := by decide +kernel
theorem d_Mo_keep_17 : decode m_Mo_keep.2.1 17 = .ok (.aload_n 0, 1) := by decide +kernel
theorem d_Mo_keep_18 : decode m_Mo_keep.2.1 18 = .ok (.getfield 16, 3) := by decide +kernel
theorem d_Mo_keep_21 : decode m_Mo_keep.2.1 21 = .ok (.invokestatic 301, 3) := by decide +kernel
theorem d_Mo_keep_24 : decode m_Mo_keep.2.1 24 = .ok (.aload_n 0, 1) := by decide +kernel
theorem d_Mo_keep_25 : decode m_Mo_keep.2.1 25 = .ok (.getfield 7, 3) := by decide +kernel
theorem d_Mo_keep_28 : decode m_Mo_keep.2.1 28 = .ok (.bipush 97, 2) := by decide +kernel
theorem d_Mo_keep_30 : decode m_Mo_keep.2.1 30 = .ok (.iaload, 1) := by decide +kernel
theorem d_Mo_keep_31 : decode m_Mo_keep.2.1 31 = .ok (.ireturn, 1) := by decide +kernel
def f_Mo_keep (S : St) : Option (Int32 × St) :=
    (some (sF S 0 53 1)).bind fun S_2 =>
    (some (sF S_2 0 54 (S_2 0 5))).bind fun S_10 =>
    (f_Mo_copies S_10 1 3).bind fun w_21 =>
    if ig (97 : Int32) 99 then (
    some ((w_21 1 (97 : Int32).toNatClampNeg), w_21)) else none
set_option maxHeartbeats 4000000 in
set_option maxRecDepth 20000 in
theorem t_Mo_keep  {S : St} {w : Int32 × St} (h : f_Mo_keep S = some w) : Ct SM m_Mo_keep 2 [.ref 0] S (some w.1) w.2 := by
  unfold f_Mo_keep at h
  refine Ct.of pn_Mo (Nat.le_of_ble_eq_true rfl) ?_
  show G SM m_Mo_keep 2 (some w.1) w.2 0 [(0, .ref 0)] [] S
  refine G_aload_n 0 rfl d_Mo_keep_0 ?_
  refine G_iconst 1 (by decide) d_Mo_keep_1 ?_
  obtain ⟨S_2, e_2, h⟩ := ob_s h
  refine G_putZ e_2 (by decide) fp_Mo_409 km_0 sm_0 rfl d_Mo_keep_2 ?_
  refine G_aload_n 0 rfl d_Mo_keep_5 ?_
  refine G_aload_n 0 rfl d_Mo_keep_6 ?_
  refine G_getI fl_Mo_120 km_0 sm_0 rfl d_Mo_keep_7 ?_
  obtain ⟨S_10, e_10, h⟩ := ob_s h
  refine G_putI e_10 fp_Mo_413 km_0 sm_0 rfl d_Mo_keep_10 ?_
  refine G_aload_n 0 rfl d_Mo_keep_13 ?_
  refine G_getR fl_Mo_7 km_0 sm_0 rfl (by decide) d_Mo_keep_14 ?_
  refine G_aload_n 0 rfl d_Mo_keep_17 ?_
  refine G_getR fl_Mo_16 km_0 sm_0 rfl (by decide) d_Mo_keep_18 ?_
  obtain ⟨w_21, q_21, h⟩ := ob_b h
  refine G_callS [.ref 1, .ref 3] [] (t_Mo_copies km_1 sm_1 km_3 sm_3 q_21) (by decide) (by decide) mt_Mo_copies rfl ml_Mo_301 rfl (Nat.le_of_ble_eq_true rfl) d_Mo_keep_21 ?_
  refine G_aload_n 0 rfl d_Mo_keep_24 ?_
  refine G_getR fl_Mo_7 km_0 sm_0 rfl (by decide) d_Mo_keep_25 ?_
  refine G_bipush 97 (by decide) d_Mo_keep_28 ?_
  obtain ⟨g_30, h⟩ := ob_g h
  refine G_iaload km_1 sm_1 g_30 d_Mo_keep_30 ?_
  cases h
  exact G_iret rfl d_Mo_keep_31
theorem d_Mo_undo_0 : decode m_Mo_undo.2.1 0 = .ok (.aload_n 0, 1) := by decide +kernel
theorem d_Mo_undo_1 : decode m_Mo_undo.2.1 1 = .ok (.getfield 409, 3) := by decide +kernel
theorem d_Mo_undo_4 : decode m_Mo_undo.2.1 4 = .ok (.ifCond .ne 5, 3) := by decide +kernel
theorem d_Mo_undo_7 : decode m_Mo_undo.2.1 7 = .ok (.iconst 0, 1) := by decide +kernel
theorem d_Mo_undo_8 : decode m_Mo_undo.2.1 8 = .ok (.ireturn, 1) := by decide +kernel
theorem d_Mo_undo_9 : decode m_Mo_undo.2.1 9 = .ok (.iconst 0, 1) := by decide +kernel
theorem d_Mo_undo_10 : decode m_Mo_undo.2.1 10 = .ok (.istore_n 1, 1) := by decide +kernel
theorem d_Mo_undo_11 : decode m_Mo_undo.2.1 11 = .ok (.iload_n 1, 1) := by decide +kernel
theorem d_Mo_undo_12 : decode m_Mo_undo.2.1 12 = .ok (.bipush 96, 2) := by decide +kernel
theorem d_Mo_undo_14 : decode m_Mo_undo.2.1 14 = .ok (.if_icmp .ge 50, 3) := by decide +kernel
theorem d_Mo_undo_17 : decode m_Mo_undo.2.1 17 = .ok (.iconst 0, 1) := by decide +kernel
theorem d_Mo_undo_18 : decode m_Mo_undo.2.1 18 = .ok (.istore_n 2, 1) := by decide +kernel
theorem d_Mo_undo_19 : decode m_Mo_undo.2.1 19 = .ok (.iload_n 2, 1) := by decide +kernel
theorem d_Mo_undo_20 : decode m_Mo_undo.2.1 20 = .ok (.aload_n 0, 1) := by decide +kernel
theorem d_Mo_undo_21 : decode m_Mo_undo.2.1 21 = .ok (.getfield 120, 3) := by decide +kernel
theorem d_Mo_undo_24 : decode m_Mo_undo.2.1 24 = .ok (.aload_n 0, 1) := by decide +kernel
theorem d_Mo_undo_25 : decode m_Mo_undo.2.1 25 = .ok (.getfield 413, 3) := by decide +kernel
theorem d_Mo_undo_28 : decode m_Mo_undo.2.1 28 = .ok (.invokestatic 271, 3) := by decide +kernel
theorem d_Mo_undo_31 : decode m_Mo_undo.2.1 31 = .ok (.if_icmp .ge 25, 3) := by decide +kernel
theorem d_Mo_undo_34 : decode m_Mo_undo.2.1 34 = .ok (.aload_n 0, 1) := by decide +kernel
theorem d_Mo_undo_35 : decode m_Mo_undo.2.1 35 = .ok (.getfield 7, 3) := by decide +kernel
theorem d_Mo_undo_38 : decode m_Mo_undo.2.1 38 = .ok (.iload_n 1, 1) := by decide +kernel
theorem d_Mo_undo_39 : decode m_Mo_undo.2.1 39 = .ok (.iload_n 2, 1) := by decide +kernel
theorem d_Mo_undo_40 : decode m_Mo_undo.2.1 40 = .ok (.iadd, 1) := by decide +kernel
theorem d_Mo_undo_41 : decode m_Mo_undo.2.1 41 = .ok (.aload_n 0, 1) := by decide +kernel
theorem d_Mo_undo_42 : decode m_Mo_undo.2.1 42 = .ok (.getfield 16, 3) := by decide +kernel
theorem d_Mo_undo_45 : decode m_Mo_undo.2.1 45 = .ok (.iload_n 1, 1) := by decide +kernel
theorem d_Mo_undo_46 : decode m_Mo_undo.2.1 46 = .ok (.iload_n 2, 1) := by decide +kernel
theorem d_Mo_undo_47 : decode m_Mo_undo.2.1 47 = .ok (.iadd, 1) := by decide +kernel
theorem d_Mo_undo_48 : decode m_Mo_undo.2.1 48 = .ok (.iaload, 1) := by decide +kernel
theorem d_Mo_undo_49 : decode m_Mo_undo.2.1 49 = .ok (.iastore, 1) := by decide +kernel
theorem d_Mo_undo_50 : decode m_Mo_undo.2.1 50 = .ok (.iinc 2 1, 3) := by decide +kernel
theorem d_Mo_undo_53 : decode m_Mo_undo.2.1 53 = .ok (.goto (-34), 3) := by decide +kernel
theorem d_Mo_undo_56 : decode m_Mo_undo.2.1 56 = .ok (.iload_n 1, 1) := by decide +kernel
theorem d_Mo_undo_57 : decode m_Mo_undo.2.1 57 = .ok (.bipush 24, 2) := by decide +kernel
theorem d_Mo_undo_59 : decode m_Mo_undo.2.1 59 = .ok (.iadd, 1) := by decide +kernel
theorem d_Mo_undo_60 : decode m_Mo_undo.2.1 60 = .ok (.istore_n 1, 1) := by decide +kernel
theorem d_Mo_undo_61 : decode m_Mo_undo.2.1 61 = .ok (.goto (-50), 3) := by decide +kernel
theorem d_Mo_undo_64 : decode m_Mo_undo.2.1 64 = .ok (.aload_n 0, 1) := by decide +kernel
theorem d_Mo_undo_65 : decode m_Mo_undo.2.1 65 = .ok (.getfield 7, 3) := by decide +kernel
theorem d_Mo_undo_68 : decode m_Mo_undo.2.1 68 = .ok (.bipush 96, 2) := by decide +kernel
theorem d_Mo_undo_70 : decode m_Mo_undo.2.1 70 = .ok (.aload_n 0, 1) := by decide +kernel
theorem d_Mo_undo_71 : decode m_Mo_undo.2.1 71 = .ok (.getfield 16, 3) := by decide +kernel
theorem d_Mo_undo_74 : decode m_Mo_undo.2.1 74 = .ok (.bipush 96, 2) := by decide +kernel
theorem d_Mo_undo_76 : decode m_Mo_undo.2.1 76 = .ok (.iaload, 1) := by decide +kernel
theorem d_Mo_undo_77 : decode m_Mo_undo.2.1 77 = .ok (.iastore, 1) := by decide +kernel
theorem d_Mo_undo_78 : decode m_Mo_undo.2.1 78 = .ok (.aload_n 0, 1) := by decide +kernel
theorem d_Mo_undo_79 : decode m_Mo_undo.2.1 79 = .ok (.getfield 7, 3) := by decide +kernel
theorem d_Mo_undo_82 : decode m_Mo_undo.2.1 82 = .ok (.bipush 97, 2) := by decide +kernel
theorem d_Mo_undo_84 : decode m_Mo_undo.2.1 84 = .ok (.aload_n 0, 1) := by decide +kernel
theorem d_Mo_undo_85 : decode m_Mo_undo.2.1 85 = .ok (.getfield 16, 3) := by decide +kernel
theorem d_Mo_undo_88 : decode m_Mo_undo.2.1 88 = .ok (.bipush 97, 2) := by decide +kernel
theorem d_Mo_undo_90 : decode m_Mo_undo.2.1 90 = .ok (.iaload, 1) := by decide +kernel
theorem d_Mo_undo_91 : decode m_Mo_undo.2.1 91 = .ok (.iastore, 1) := by decide +kernel
theorem d_Mo_undo_92 : decode m_Mo_undo.2.1 92 = .ok (.aload_n 0, 1) := by decide +kernel
theorem d_Mo_undo_93 : decode m_Mo_undo.2.1 93 = .ok (.getfield 7, 3) := by decide +kernel
theorem d_Mo_undo_96 : decode m_Mo_undo.2.1 96 = .ok (.bipush 98, 2) := by decide +kernel
theorem d_Mo_undo_98 : decode m_Mo_undo.2.1 98 = .ok (.aload_n 0, 1) := by decide +kernel
theorem d_Mo_undo_99 : decode m_Mo_undo.2.1 99 = .ok (.getfield 16, 3) := by decide +kernel
theorem d_Mo_undo_102 : decode m_Mo_undo.2.1 102 = .ok (.bipush 98, 2) := by decide +kernel
theorem d_Mo_undo_104 : decode m_Mo_undo.2.1 104 = .ok (.iaload, 1) := by decide +kernel
theorem d_Mo_undo_105 : decode m_Mo_undo.2.1 105 = .ok (.iastore, 1) := by decide +kernel
theorem d_Mo_undo_106 : decode m_Mo_undo.2.1 106 = .ok (.iconst 1, 1) := by decide +kernel
theorem d_Mo_undo_107 : decode m_Mo_undo.2.1 107 = .ok (.ireturn, 1) := by decide +kernel
def f_Mo_undo_19 (k_11 : St → Int32 → Option (Int32 × St)) : Nat → St → Int32 → Int32 → Option (Int32 × St)
  | 0, _, _, _ => none
  | n + 1, S, l1, l2 =>
    (f_Mo_min S (S 0 5) (S 0 54)).bind fun v_28 =>
    if v_28 ≤ l2 then (
    (some (l1 + 24)).bind fun l1_60 =>
    k_11 S l1_60)
    else (
    if ig (l1 + l2) 99 then (
    if ig (l1 + l2) 99 then (
    (some (sF S 1 (l1 + l2).toNatClampNeg (S 3 (l1 + l2).toNatClampNeg))).bind fun S_49 =>
    (some (l2 + 1)).bind fun l2_50 =>
    f_Mo_undo_19 k_11 n S_49 l1 l2_50) else none) else none)
set_option maxHeartbeats 4000000 in
set_option maxRecDepth 20000 in
theorem t_Mo_undo_19  {k_11 : St → Int32 → Option (Int32 × St)} (hk_11 : ∀ (S : St) (l1 : Int32) (w : Int32 × St), k_11 S l1 = some w → G SM m_Mo_undo 2 (some w.1) w.2 11 [(0, .ref 0), (1, .int l1)] [] S) : ∀ (n : Nat) (S : St) (l1 : Int32) (l2 : Int32) (w : Int32 × St), f_Mo_undo_19 k_11 n S l1 l2 = some w → G SM m_Mo_undo 2 (some w.1) w.2 19 [(0, .ref 0), (1, .int l1), (2, .int l2)] [] S := by
  intro n
  induction n with
  | zero =>
    intro S l1 l2 w h
    rw [f_Mo_undo_19] at h
    cases h
  | succ n ih =>
    intro S l1 l2 w h
    rw [f_Mo_undo_19] at h
    refine G_iload_n 2 rfl d_Mo_undo_19 ?_
    refine G_aload_n 0 rfl d_Mo_undo_20 ?_
    refine G_getI fl_Mo_120 km_0 sm_0 rfl d_Mo_undo_21 ?_
    refine G_aload_n 0 rfl d_Mo_undo_24 ?_
    refine G_getI fl_Mo_413 km_0 sm_0 rfl d_Mo_undo_25 ?_
    obtain ⟨v_28, q_28, h⟩ := ob_b h
    refine G_callS [.int (S 0 5), .int (S 0 54)] [.int l2] (t_Mo_min q_28) (by decide) (by decide) mt_Mo_min rfl ml_Mo_271 rfl (Nat.le_of_ble_eq_true rfl) d_Mo_undo_28 ?_
    refine G_icmp_ge 56 (by decide) d_Mo_undo_31 (fun c_31 => ?_) (fun c_31 => ?_)
    · replace h := ob_t h c_31
      refine G_iload_n 1 rfl d_Mo_undo_56 ?_
      refine G_bipush 24 (by decide) d_Mo_undo_57 ?_
      refine G_iadd d_Mo_undo_59 ?_
      obtain ⟨l1_60, e_60, h⟩ := ob_s h
      refine G_istore_n [(1, .int l1_60), (0, .ref 0), (2, .int l2)] e_60 rfl (by decide) d_Mo_undo_60 ?_
      refine G_goto 11 (by decide) d_Mo_undo_61 ?_
      exact G_sub _ [1, 0] rfl (hk_11 S l1_60 _ h)
    · replace h := ob_f h c_31
      refine G_aload_n 0 rfl d_Mo_undo_34 ?_
      refine G_getR fl_Mo_7 km_0 sm_0 rfl (by decide) d_Mo_undo_35 ?_
      refine G_iload_n 1 rfl d_Mo_undo_38 ?_
      refine G_iload_n 2 rfl d_Mo_undo_39 ?_
      refine G_iadd d_Mo_undo_40 ?_
      refine G_aload_n 0 rfl d_Mo_undo_41 ?_
      refine G_getR fl_Mo_16 km_0 sm_0 rfl (by decide) d_Mo_undo_42 ?_
      refine G_iload_n 1 rfl d_Mo_undo_45 ?_
      refine G_iload_n 2 rfl d_Mo_undo_46 ?_
      refine G_iadd d_Mo_undo_47 ?_
      obtain ⟨g_48, h⟩ := ob_g h
      refine G_iaload km_3 sm_3 g_48 d_Mo_undo_48 ?_
      obtain ⟨g_49, h⟩ := ob_g h
      obtain ⟨S_49, e_49, h⟩ := ob_s h
      refine G_iastore e_49 km_1 sm_1 g_49 d_Mo_undo_49 ?_
      obtain ⟨l2_50, e_50, h⟩ := ob_s h
      refine G_iinc 1 2 [(2, .int l2_50), (0, .ref 0), (1, .int l1)] (by decide) rfl e_50 rfl (by decide) d_Mo_undo_50 ?_
      refine G_goto 19 (by decide) d_Mo_undo_53 ?_
      exact G_sub _ [1, 2, 0] rfl (ih S_49 l1 l2_50 _ h)
def f_Mo_undo_11 : Nat → St → Int32 → Option (Int32 × St)
  | 0, _, _ => none
  | n + 1, S, l1 =>
    if (96 : Int32) ≤ l1 then (
    if ig (96 : Int32) 99 then (
    if ig (96 : Int32) 99 then (
    (some (sF S 1 (96 : Int32).toNatClampNeg (S 3 (96 : Int32).toNatClampNeg))).bind fun S_77 =>
    if ig (97 : Int32) 99 then (
    if ig (97 : Int32) 99 then (
    (some (sF S_77 1 (97 : Int32).toNatClampNeg (S_77 3 (97 : Int32).toNatClampNeg))).bind fun S_91 =>
    if ig (98 : Int32) 99 then (
    if ig (98 : Int32) 99 then (
    (some (sF S_91 1 (98 : Int32).toNatClampNeg (S_91 3 (98 : Int32).toNatClampNeg))).bind fun S_105 =>
    some (1, S_105)) else none) else none) else none) else none) else none) else none)
    else (
    (some (0 : Int32)).bind fun l2_18 =>
    f_Mo_undo_19 (f_Mo_undo_11 n) FU S l1 l2_18)
set_option maxHeartbeats 4000000 in
set_option maxRecDepth 20000 in
theorem t_Mo_undo_11  : ∀ (n : Nat) (S : St) (l1 : Int32) (w : Int32 × St), f_Mo_undo_11 n S l1 = some w → G SM m_Mo_undo 2 (some w.1) w.2 11 [(0, .ref 0), (1, .int l1)] [] S := by
  intro n
  induction n with
  | zero =>
    intro S l1 w h
    rw [f_Mo_undo_11] at h
    cases h
  | succ n ih =>
    intro S l1 w h
    rw [f_Mo_undo_11] at h
    refine G_iload_n 1 rfl d_Mo_undo_11 ?_
    refine G_bipush 96 (by decide) d_Mo_undo_12 ?_
    refine G_icmp_ge 64 (by decide) d_Mo_undo_14 (fun c_14 => ?_) (fun c_14 => ?_)
    · replace h := ob_t h c_14
      refine G_aload_n 0 rfl d_Mo_undo_64 ?_
      refine G_getR fl_Mo_7 km_0 sm_0 rfl (by decide) d_Mo_undo_65 ?_
      refine G_bipush 96 (by decide) d_Mo_undo_68 ?_
      refine G_aload_n 0 rfl d_Mo_undo_70 ?_
      refine G_getR fl_Mo_16 km_0 sm_0 rfl (by decide) d_Mo_undo_71 ?_
      refine G_bipush 96 (by decide) d_Mo_undo_74 ?_
      obtain ⟨g_76, h⟩ := ob_g h
      refine G_iaload km_3 sm_3 g_76 d_Mo_undo_76 ?_
      obtain ⟨g_77, h⟩ := ob_g h
      obtain ⟨S_77, e_77, h⟩ := ob_s h
      refine G_iastore e_77 km_1 sm_1 g_77 d_Mo_undo_77 ?_
      refine G_aload_n 0 rfl d_Mo_undo_78 ?_
      refine G_getR fl_Mo_7 km_0 sm_0 rfl (by decide) d_Mo_undo_79 ?_
      refine G_bipush 97 (by decide) d_Mo_undo_82 ?_
      refine G_aload_n 0 rfl d_Mo_undo_84 ?_
      refine G_getR fl_Mo_16 km_0 sm_0 rfl (by decide) d_Mo_undo_85 ?_
      refine G_bipush 97 (by decide) d_Mo_undo_88 ?_
      obtain ⟨g_90, h⟩ := ob_g h
      refine G_iaload km_3 sm_3 g_90 d_Mo_undo_90 ?_
      obtain ⟨g_91, h⟩ := ob_g h
      obtain ⟨S_91, e_91, h⟩ := ob_s h
      refine G_iastore e_91 km_1 sm_1 g_91 d_Mo_undo_91 ?_
      refine G_aload_n 0 rfl d_Mo_undo_92 ?_
      refine G_getR fl_Mo_7 km_0 sm_0 rfl (by decide) d_Mo_undo_93 ?_
      refine G_bipush 98 (by decide) d_Mo_undo_96 ?_
      refine G_aload_n 0 rfl d_Mo_undo_98 ?_
      refine G_getR fl_Mo_16 km_0 sm_0 rfl (by decide) d_Mo_undo_99 ?_
      refine G_bipush 98 (by decide) d_Mo_undo_102 ?_
      obtain ⟨g_104, h⟩ := ob_g h
      refine G_iaload km_3 sm_3 g_104 d_Mo_undo_104 ?_
      obtain ⟨g_105, h⟩ := ob_g h
      obtain ⟨S_105, e_105, h⟩ := ob_s h
      refine G_iastore e_105 km_1 sm_1 g_105 d_Mo_undo_105 ?_
      refine G_iconst 1 (by decide) d_Mo_undo_106 ?_
      cases h
      exact G_zret (Or.inr rfl) rfl d_Mo_undo_107
    · replace h := ob_f h c_14
      refine G_iconst 0 (by decide) d_Mo_undo_17 ?_
      obtain ⟨l2_18, e_18, h⟩ := ob_s h
      refine G_istore_n [(2, .int l2_18), (0, .ref 0), (1, .int l1)] e_18 rfl (by decide) d_Mo_undo_18 ?_
      exact G_sub _ [1, 2, 0] rfl (t_Mo_undo_19 ih FU S l1 l2_18 _ h)
def f_Mo_undo (S : St) : Option (Int32 × St) :=
    if (S 0 53) = 0 then (
    some (0, S))
    else (
    (some (0 : Int32)).bind fun l1_10 =>
    f_Mo_undo_11 FU S l1_10)
set_option maxHeartbeats 4000000 in
set_option maxRecDepth 20000 in
theorem t_Mo_undo  {S : St} {w : Int32 × St} (h : f_Mo_undo S = some w) : Ct SM m_Mo_undo 2 [.ref 0] S (some w.1) w.2 := by
  unfold f_Mo_undo at h
  refine Ct.of pn_Mo (Nat.le_of_ble_eq_true rfl) ?_
  show G SM m_Mo_undo 2 (some w.1) w.2 0 [(0, .ref 0)] [] S
  refine G_aload_n 0 rfl d_Mo_undo_0 ?_
  refine G_getI fl_Mo_409 km_0 sm_0 rfl d_Mo_undo_1 ?_
  refine G_if_ne 9 (by decide) d_Mo_undo_4 (fun c_4 => ?_) (fun c_4 => ?_)
  · replace h := ob_f h c_4
    refine G_iconst 0 (by decide) d_Mo_undo_9 ?_
    obtain ⟨l1_10, e_10, h⟩ := ob_s h
    refine G_istore_n [(1, .int l1_10), (0, .ref 0)] e_10 rfl (by decide) d_Mo_undo_10 ?_
    exact G_sub _ [1, 0] rfl (t_Mo_undo_11 FU S l1_10 _ h)
  · replace h := ob_t h c_4
    refine G_iconst 0 (by decide) d_Mo_undo_7 ?_
    cases h
    exact G_zret (Or.inl rfl) rfl d_Mo_undo_8
theorem d_Mo_check_0 : decode m_Mo_check.2.1 0 = .ok (.iload_n 1, 1) := by decide +kernel
theorem d_Mo_check_1 : decode m_Mo_check.2.1 1 = .ok (.iconst 0, 1) := by decide +kernel
theorem d_Mo_check_2 : decode m_Mo_check.2.1 2 = .ok (.bipush 24, 2) := by decide +kernel
theorem d_Mo_check_4 : decode m_Mo_check.2.1 4 = .ok (.invokestatic 124, 3) := by decide +kernel
theorem d_Mo_check_7 : decode m_Mo_check.2.1 7 = .ok (.ifCond .eq 11, 3) := by decide +kernel
theorem d_Mo_check_10 : decode m_Mo_check.2.1 10 = .ok (.iload_n 1, 1) := by decide +kernel
theorem d_Mo_check_11 : decode m_Mo_check.2.1 11 = .ok (.aload_n 0, 1) := by decide +kernel
theorem d_Mo_check_12 : decode m_Mo_check.2.1 12 = .ok (.getfield 135, 3) := by decide +kernel
theorem d_Mo_check_15 : decode m_Mo_check.2.1 15 = .ok (.if_icmp .le 6, 3) := by decide +kernel
theorem d_Mo_check_18 : decode m_Mo_check.2.1 18 = .ok (.bipush (-2), 2) := by decide +kernel
theorem d_Mo_check_20 : decode m_Mo_check.2.1 20 = .ok (.ireturn, 1) := by decide +kernel
theorem d_Mo_check_21 : decode m_Mo_check.2.1 21 = .ok (.aload_n 0, 1) := by decide +kernel
theorem d_Mo_check_22 : decode m_Mo_check.2.1 22 = .ok (.iconst 0, 1) := by decide +kernel
theorem d_Mo_check_23 : decode m_Mo_check.2.1 23 = .ok (.putfield 135, 3) := by decide +kernel
theorem d_Mo_check_26 : decode m_Mo_check.2.1 26 = .ok (.iconst 0, 1) := by decide +kernel
theorem d_Mo_check_27 : decode m_Mo_check.2.1 27 = .ok (.istore_n 2, 1) := by decide +kernel
theorem d_Mo_check_28 : decode m_Mo_check.2.1 28 = .ok (.iload_n 2, 1) := by decide +kernel
theorem d_Mo_check_29 : decode m_Mo_check.2.1 29 = .ok (.iload_n 1, 1) := by decide +kernel
theorem d_Mo_check_30 : decode m_Mo_check.2.1 30 = .ok (.if_icmp .ge 43, 3) := by decide +kernel
theorem d_Mo_check_33 : decode m_Mo_check.2.1 33 = .ok (.aload_n 0, 1) := by decide +kernel
theorem d_Mo_check_34 : decode m_Mo_check.2.1 34 = .ok (.iload_n 2, 1) := by decide +kernel
theorem d_Mo_check_35 : decode m_Mo_check.2.1 35 = .ok (.invokevirtual 370, 3) := by decide +kernel
theorem d_Mo_check_38 : decode m_Mo_check.2.1 38 = .ok (.aload_n 0, 1) := by decide +kernel
theorem d_Mo_check_39 : decode m_Mo_check.2.1 39 = .ok (.iload_n 2, 1) := by decide +kernel
theorem d_Mo_check_40 : decode m_Mo_check.2.1 40 = .ok (.invokevirtual 128, 3) := by decide +kernel
theorem d_Mo_check_43 : decode m_Mo_check.2.1 43 = .ok (.ifCond .eq 18, 3) := by decide +kernel
theorem d_Mo_check_46 : decode m_Mo_check.2.1 46 = .ok (.aload_n 0, 1) := by decide +kernel
theorem d_Mo_check_47 : decode m_Mo_check.2.1 47 = .ok (.getfield 7, 3) := by decide +kernel
theorem d_Mo_check_50 : decode m_Mo_check.2.1 50 = .ok (.iconst 0, 1) := by decide +kernel
theorem d_Mo_check_51 : decode m_Mo_check.2.1 51 = .ok (.iload_n 2, 1) := by decide +kernel
theorem d_Mo_check_52 : decode m_Mo_check.2.1 52 = .ok (.iadd, 1) := by decide +kernel
theorem d_Mo_check_53 : decode m_Mo_check.2.1 53 = .ok (.iaload, 1) := by decide +kernel
theorem d_Mo_check_54 : decode m_Mo_check.2.1 54 = .ok (.sipush 256, 3) := by decide +kernel
theorem d_Mo_check_57 : decode m_Mo_check.2.1 57 = .ok (.irem, 1) := by decide +kernel
theorem d_Mo_check_58 : decode m_Mo_check.2.1 58 = .ok (.goto 4, 3) := by decide +kernel
theorem d_Mo_check_61 : decode m_Mo_check.2.1 61 = .ok (.iconst 0, 1) := by decide +kernel
theorem d_Mo_check_62 : decode m_Mo_check.2.1 62 = .ok (.if_icmp .eq 5, 3) := by decide +kernel
theorem d_Mo_check_65 : decode m_Mo_check.2.1 65 = .ok (.iload_n 2, 1) := by decide +kernel
theorem d_Mo_check_66 : decode m_Mo_check.2.1 66 = .ok (.ireturn, 1) := by decide +kernel
theorem d_Mo_check_67 : decode m_Mo_check.2.1 67 = .ok (.iinc 2 1, 3) := by decide +kernel
theorem d_Mo_check_70 : decode m_Mo_check.2.1 70 = .ok (.goto (-42), 3) := by decide +kernel
theorem d_Mo_check_73 : decode m_Mo_check.2.1 73 = .ok (.iconst (-1), 1) := by decide +kernel
theorem d_Mo_check_74 : decode m_Mo_check.2.1 74 = .ok (.ireturn, 1) := by decide +kernel
def f_Mo_check_62 (k_28 : St → Int32 → Int32 → Option (Int32 × St)) (S : St) (l1 : Int32) (l2 : Int32) (s0 : Int32) (s1 : Int32) : Option (Int32 × St) :=
    if s1 = s0 then (
    (some (l2 + 1)).bind fun l2_67 =>
    k_28 S l1 l2_67)
    else (
    some (l2, S))
set_option maxHeartbeats 4000000 in
set_option maxRecDepth 20000 in
theorem t_Mo_check_62  {k_28 : St → Int32 → Int32 → Option (Int32 × St)} (hk_28 : ∀ (S : St) (l1 : Int32) (l2 : Int32) (w : Int32 × St), k_28 S l1 l2 = some w → G SM m_Mo_check 3 (some w.1) w.2 28 [(0, .ref 0), (1, .int l1), (2, .int l2)] [] S) (S : St) (l1 : Int32) (l2 : Int32) (s0 : Int32) (s1 : Int32) (w : Int32 × St) (h : f_Mo_check_62 k_28 S l1 l2 s0 s1 = some w) : G SM m_Mo_check 3 (some w.1) w.2 62 [(0, .ref 0), (1, .int l1), (2, .int l2)] [.int s0, .int s1] S := by
  unfold f_Mo_check_62 at h
  refine G_icmp_eq 67 (by decide) d_Mo_check_62 (fun c_62 => ?_) (fun c_62 => ?_)
  · replace h := ob_t h c_62
    obtain ⟨l2_67, e_67, h⟩ := ob_s h
    refine G_iinc 1 2 [(2, .int l2_67), (0, .ref 0), (1, .int l1)] (by decide) rfl e_67 rfl (by decide) d_Mo_check_67 ?_
    refine G_goto 28 (by decide) d_Mo_check_70 ?_
    exact G_sub _ [1, 2, 0] rfl (hk_28 S l1 l2_67 _ h)
  · replace h := ob_f h c_62
    refine G_iload_n 2 rfl d_Mo_check_65 ?_
    cases h
    exact G_iret rfl d_Mo_check_66
def f_Mo_check_28 : Nat → St → Int32 → Int32 → Option (Int32 × St)
  | 0, _, _, _ => none
  | n + 1, S, l1, l2 =>
    if l1 ≤ l2 then (
    some ((-1), S))
    else (
    (f_Mo_octet S l2).bind fun v_35 =>
    (f_Mo_isThing S l2).bind fun v_40 =>
    if v_40 = 0 then (
    f_Mo_check_62 (f_Mo_check_28 n) S l1 l2 (0 : Int32) v_35)
    else (
    if ig (0 + l2) 99 then (
    f_Mo_check_62 (f_Mo_check_28 n) S l1 l2 (jrem (S 1 (0 + l2).toNatClampNeg) 256) v_35) else none))
set_option maxHeartbeats 4000000 in
set_option maxRecDepth 20000 in
theorem t_Mo_check_28  : ∀ (n : Nat) (S : St) (l1 : Int32) (l2 : Int32) (w : Int32 × St), f_Mo_check_28 n S l1 l2 = some w → G SM m_Mo_check 3 (some w.1) w.2 28 [(0, .ref 0), (1, .int l1), (2, .int l2)] [] S := by
  intro n
  induction n with
  | zero =>
    intro S l1 l2 w h
    rw [f_Mo_check_28] at h
    cases h
  | succ n ih =>
    intro S l1 l2 w h
    rw [f_Mo_check_28] at h
    refine G_iload_n 2 rfl d_Mo_check_28 ?_
    refine G_iload_n 1 rfl d_Mo_check_29 ?_
    refine G_icmp_ge 73 (by decide) d_Mo_check_30 (fun c_30 => ?_) (fun c_30 => ?_)
    · replace h := ob_t h c_30
      refine G_iconst (-1) (by decide) d_Mo_check_73 ?_
      cases h
      exact G_iret rfl d_Mo_check_74
    · replace h := ob_f h c_30
      refine G_aload_n 0 rfl d_Mo_check_33 ?_
      refine G_iload_n 2 rfl d_Mo_check_34 ?_
      obtain ⟨v_35, q_35, h⟩ := ob_b h
      refine G_callV [.int l2] [] (t_Mo_octet q_35) (by decide) (by decide) mv_Mo_octet rfl ml_Mo_370 km_0 sm_0 cl_12 rfl (Nat.le_of_ble_eq_true rfl) d_Mo_check_35 ?_
      refine G_aload_n 0 rfl d_Mo_check_38 ?_
      refine G_iload_n 2 rfl d_Mo_check_39 ?_
      obtain ⟨v_40, q_40, h⟩ := ob_b h
      refine G_callV [.int l2] [.int v_35] (t_Mo_isThing q_40) (by decide) (by decide) mv_Mo_isThing rfl ml_Mo_128 km_0 sm_0 cl_12 rfl (Nat.le_of_ble_eq_true rfl) d_Mo_check_40 ?_
      refine G_if_eq 61 (by decide) d_Mo_check_43 (fun c_43 => ?_) (fun c_43 => ?_)
      · replace h := ob_t h c_43
        refine G_iconst 0 (by decide) d_Mo_check_61 ?_
        exact G_sub _ [0, 1, 2] rfl (t_Mo_check_62 ih S l1 l2 (0 : Int32) v_35 _ h)
      · replace h := ob_f h c_43
        refine G_aload_n 0 rfl d_Mo_check_46 ?_
        refine G_getR fl_Mo_7 km_0 sm_0 rfl (by decide) d_Mo_check_47 ?_
        refine G_iconst 0 (by decide) d_Mo_check_50 ?_
        refine G_iload_n 2 rfl d_Mo_check_51 ?_
        refine G_iadd d_Mo_check_52 ?_
        obtain ⟨g_53, h⟩ := ob_g h
        refine G_iaload km_1 sm_1 g_53 d_Mo_check_53 ?_
        refine G_sipush 256 (by decide) d_Mo_check_54 ?_
        refine G_irem (by decide) d_Mo_check_57 ?_
        refine G_goto 62 (by decide) d_Mo_check_58 ?_
        exact G_sub _ [0, 1, 2] rfl (t_Mo_check_62 ih S l1 l2 (jrem (S 1 (0 + l2).toNatClampNeg) 256) v_35 _ h)
def f_Mo_check (S : St) (l1 : Int32) : Option (Int32 × St) :=
    (f_Mo_in S l1 (0 : Int32) (24 : Int32)).bind fun v_4 =>
    if v_4 = 0 then (
    some ((-2), S))
    else (
    if l1 ≤ (S 0 7) then (
    (some (sF S 0 7 0)).bind fun S_23 =>
    (some (0 : Int32)).bind fun l2_27 =>
    f_Mo_check_28 FU S_23 l1 l2_27)
    else (
    some ((-2), S)))
set_option maxHeartbeats 4000000 in
set_option maxRecDepth 20000 in
theorem t_Mo_check  {S : St} {l1 : Int32} {w : Int32 × St} (h : f_Mo_check S l1 = some w) : Ct SM m_Mo_check 3 [.ref 0, .int l1] S (some w.1) w.2 := by
  unfold f_Mo_check at h
  refine Ct.of pn_Mo (Nat.le_of_ble_eq_true rfl) ?_
  show G SM m_Mo_check 3 (some w.1) w.2 0 [(0, .ref 0), (1, .int l1)] [] S
  refine G_iload_n 1 rfl d_Mo_check_0 ?_
  refine G_iconst 0 (by decide) d_Mo_check_1 ?_
  refine G_bipush 24 (by decide) d_Mo_check_2 ?_
  obtain ⟨v_4, q_4, h⟩ := ob_b h
  refine G_callS [.int l1, .int 0, .int 24] [] (t_Mo_in q_4) (by decide) (by decide) mt_Mo_in rfl ml_Mo_124 rfl (Nat.le_of_ble_eq_true rfl) d_Mo_check_4 ?_
  refine G_if_eq 18 (by decide) d_Mo_check_7 (fun c_7 => ?_) (fun c_7 => ?_)
  · replace h := ob_t h c_7
    refine G_bipush (-2) (by decide) d_Mo_check_18 ?_
    cases h
    exact G_iret rfl d_Mo_check_20
  · replace h := ob_f h c_7
    refine G_iload_n 1 rfl d_Mo_check_10 ?_
    refine G_aload_n 0 rfl d_Mo_check_11 ?_
    refine G_getI fl_Mo_135 km_0 sm_0 rfl d_Mo_check_12 ?_
    refine G_icmp_le 21 (by decide) d_Mo_check_15 (fun c_15 => ?_) (fun c_15 => ?_)
    · replace h := ob_t h c_15
      refine G_aload_n 0 rfl d_Mo_check_21 ?_
      refine G_iconst 0 (by decide) d_Mo_check_22 ?_
      obtain ⟨S_23, e_23, h⟩ := ob_s h
      refine G_putI e_23 fp_Mo_135 km_0 sm_0 rfl d_Mo_check_23 ?_
      refine G_iconst 0 (by decide) d_Mo_check_26 ?_
      obtain ⟨l2_27, e_27, h⟩ := ob_s h
      refine G_istore_n [(2, .int l2_27), (0, .ref 0), (1, .int l1)] e_27 rfl (by decide) d_Mo_check_27 ?_
      exact G_sub _ [1, 2, 0] rfl (t_Mo_check_28 FU S_23 l1 l2_27 _ h)
    · replace h := ob_f h c_15
      refine G_bipush (-2) (by decide) d_Mo_check_18 ?_
      cases h
      exact G_iret rfl d_Mo_check_20
theorem d_Mo_whoHasLeft_0 : decode m_Mo_whoHasLeft.2.1 0 = .ok (.iconst 0, 1) := by decide +kernel
theorem d_Mo_whoHasLeft_1 : decode m_Mo_whoHasLeft.2.1 1 = .ok (.istore_n 1, 1) := by decide +kernel
theorem d_Mo_whoHasLeft_2 : decode m_Mo_whoHasLeft.2.1 2 = .ok (.iconst 0, 1) := by decide +kernel
theorem d_Mo_whoHasLeft_3 : decode m_Mo_whoHasLeft.2.1 3 = .ok (.istore_n 2, 1) := by decide +kernel
theorem d_Mo_whoHasLeft_4 : decode m_Mo_whoHasLeft.2.1 4 = .ok (.iload_n 2, 1) := by decide +kernel
theorem d_Mo_whoHasLeft_5 : decode m_Mo_whoHasLeft.2.1 5 = .ok (.bipush 16, 2) := by decide +kernel
theorem d_Mo_whoHasLeft_7 : decode m_Mo_whoHasLeft.2.1 7 = .ok (.if_icmp .ge 23, 3) := by decide +kernel
theorem d_Mo_whoHasLeft_10 : decode m_Mo_whoHasLeft.2.1 10 = .ok (.aload_n 0, 1) := by decide +kernel
theorem d_Mo_whoHasLeft_11 : decode m_Mo_whoHasLeft.2.1 11 = .ok (.iload_n 2, 1) := by decide +kernel
theorem d_Mo_whoHasLeft_12 : decode m_Mo_whoHasLeft.2.1 12 = .ok (.invokevirtual 256, 3) := by decide +kernel
theorem d_Mo_whoHasLeft_15 : decode m_Mo_whoHasLeft.2.1 15 = .ok (.ifCond .le 9, 3) := by decide +kernel
theorem d_Mo_whoHasLeft_18 : decode m_Mo_whoHasLeft.2.1 18 = .ok (.iload_n 1, 1) := by decide +kernel
theorem d_Mo_whoHasLeft_19 : decode m_Mo_whoHasLeft.2.1 19 = .ok (.iconst 1, 1) := by decide +kernel
theorem d_Mo_whoHasLeft_20 : decode m_Mo_whoHasLeft.2.1 20 = .ok (.iload_n 2, 1) := by decide +kernel
theorem d_Mo_whoHasLeft_21 : decode m_Mo_whoHasLeft.2.1 21 = .ok (.ishl, 1) := by decide +kernel
theorem d_Mo_whoHasLeft_22 : decode m_Mo_whoHasLeft.2.1 22 = .ok (.ior, 1) := by decide +kernel
theorem d_Mo_whoHasLeft_23 : decode m_Mo_whoHasLeft.2.1 23 = .ok (.istore_n 1, 1) := by decide +kernel
theorem d_Mo_whoHasLeft_24 : decode m_Mo_whoHasLeft.2.1 24 = .ok (.iinc 2 1, 3) := by decide +kernel
theorem d_Mo_whoHasLeft_27 : decode m_Mo_whoHasLeft.2.1 27 = .ok (.goto (-23), 3) := by decide +kernel
theorem d_Mo_whoHasLeft_30 : decode m_Mo_whoHasLeft.2.1 30 = .ok (.iload_n 1, 1) := by decide +kernel
theorem d_Mo_whoHasLeft_31 : decode m_Mo_whoHasLeft.2.1 31 = .ok (.ireturn, 1) := by decide +kernel
def f_Mo_whoHasLeft_24 (k_4 : St → Int32 → Int32 → Option (Int32)) (S : St) (l1 : Int32) (l2 : Int32) : Option (Int32) :=
    (some (l2 + 1)).bind fun l2_24 =>
    k_4 S l1 l2_24
set_option maxHeartbeats 4000000 in
set_option maxRecDepth 20000 in
theorem t_Mo_whoHasLeft_24  {k_4 : St → Int32 → Int32 → Option (Int32)} (hk_4 : ∀ (S : St) (l1 : Int32) (l2 : Int32) (w : Int32), k_4 S l1 l2 = some w → G SM m_Mo_whoHasLeft 5 (some w) S 4 [(0, .ref 0), (1, .int l1), (2, .int l2)] [] S) (S : St) (l1 : Int32) (l2 : Int32) (w : Int32) (h : f_Mo_whoHasLeft_24 k_4 S l1 l2 = some w) : G SM m_Mo_whoHasLeft 5 (some w) S 24 [(0, .ref 0), (1, .int l1), (2, .int l2)] [] S := by
  unfold f_Mo_whoHasLeft_24 at h
  obtain ⟨l2_24, e_24, h⟩ := ob_s h
  refine G_iinc 1 2 [(2, .int l2_24), (0, .ref 0), (1, .int l1)] (by decide) rfl e_24 rfl (by decide) d_Mo_whoHasLeft_24 ?_
  refine G_goto 4 (by decide) d_Mo_whoHasLeft_27 ?_
  exact G_sub _ [1, 2, 0] rfl (hk_4 S l1 l2_24 _ h)
def f_Mo_whoHasLeft_4 : Nat → St → Int32 → Int32 → Option (Int32)
  | 0, _, _, _ => none
  | n + 1, S, l1, l2 =>
    if (16 : Int32) ≤ l2 then (
    some l1)
    else (
    (f_Mo_leftOf S l2).bind fun v_12 =>
    if v_12 ≤ 0 then (
    f_Mo_whoHasLeft_24 (f_Mo_whoHasLeft_4 n) S l1 l2)
    else (
    (some (l1 ||| (jshl 1 l2))).bind fun l1_23 =>
    f_Mo_whoHasLeft_24 (f_Mo_whoHasLeft_4 n) S l1_23 l2))
set_option maxHeartbeats 4000000 in
set_option maxRecDepth 20000 in
theorem t_Mo_whoHasLeft_4  : ∀ (n : Nat) (S : St) (l1 : Int32) (l2 : Int32) (w : Int32), f_Mo_whoHasLeft_4 n S l1 l2 = some w → G SM m_Mo_whoHasLeft 5 (some w) S 4 [(0, .ref 0), (1, .int l1), (2, .int l2)] [] S := by
  intro n
  induction n with
  | zero =>
    intro S l1 l2 w h
    rw [f_Mo_whoHasLeft_4] at h
    cases h
  | succ n ih =>
    intro S l1 l2 w h
    rw [f_Mo_whoHasLeft_4] at h
    refine G_iload_n 2 rfl d_Mo_whoHasLeft_4 ?_
    refine G_bipush 16 (by decide) d_Mo_whoHasLeft_5 ?_
    refine G_icmp_ge 30 (by decide) d_Mo_whoHasLeft_7 (fun c_7 => ?_) (fun c_7 => ?_)
    · replace h := ob_t h c_7
      refine G_iload_n 1 rfl d_Mo_whoHasLeft_30 ?_
      cases h
      exact G_iret rfl d_Mo_whoHasLeft_31
    · replace h := ob_f h c_7
      refine G_aload_n 0 rfl d_Mo_whoHasLeft_10 ?_
      refine G_iload_n 2 rfl d_Mo_whoHasLeft_11 ?_
      obtain ⟨v_12, q_12, h⟩ := ob_b h
      refine G_callV [.int l2] [] (t_Mo_leftOf q_12) (by decide) (by decide) mv_Mo_leftOf rfl ml_Mo_256 km_0 sm_0 cl_12 rfl (Nat.le_of_ble_eq_true rfl) d_Mo_whoHasLeft_12 ?_
      refine G_if_le 24 (by decide) d_Mo_whoHasLeft_15 (fun c_15 => ?_) (fun c_15 => ?_)
      · replace h := ob_t h c_15
        exact G_sub _ [0, 1, 2] rfl (t_Mo_whoHasLeft_24 ih S l1 l2 _ h)
      · replace h := ob_f h c_15
        refine G_iload_n 1 rfl d_Mo_whoHasLeft_18 ?_
        refine G_iconst 1 (by decide) d_Mo_whoHasLeft_19 ?_
        refine G_iload_n 2 rfl d_Mo_whoHasLeft_20 ?_
        refine G_ishl d_Mo_whoHasLeft_21 ?_
        refine G_ior d_Mo_whoHasLeft_22 ?_
        obtain ⟨l1_23, e_23, h⟩ := ob_s h
        refine G_istore_n [(1, .int l1_23), (0, .ref 0), (2, .int l2)] e_23 rfl (by decide) d_Mo_whoHasLeft_23 ?_
        exact G_sub _ [1, 0, 2] rfl (t_Mo_whoHasLeft_24 ih S l1_23 l2 _ h)
def f_Mo_whoHasLeft (S : St) : Option (Int32) :=
    (some (0 : Int32)).bind fun l1_1 =>
    (some (0 : Int32)).bind fun l2_3 =>
    f_Mo_whoHasLeft_4 FU S l1_1 l2_3
set_option maxHeartbeats 4000000 in
set_option maxRecDepth 20000 in
theorem t_Mo_whoHasLeft  {S : St} {w : Int32} (h : f_Mo_whoHasLeft S = some w) : Ct SM m_Mo_whoHasLeft 5 [.ref 0] S (some w) S := by
  unfold f_Mo_whoHasLeft at h
  refine Ct.of pn_Mo (Nat.le_of_ble_eq_true rfl) ?_
  show G SM m_Mo_whoHasLeft 5 (some w) S 0 [(0, .ref 0)] [] S
  refine G_iconst 0 (by decide) d_Mo_whoHasLeft_0 ?_
  obtain ⟨l1_1, e_1, h⟩ := ob_s h
  refine G_istore_n [(1, .int l1_1), (0, .ref 0)] e_1 rfl (by decide) d_Mo_whoHasLeft_1 ?_
  refine G_iconst 0 (by decide) d_Mo_whoHasLeft_2 ?_
  obtain ⟨l2_3, e_3, h⟩ := ob_s h
  refine G_istore_n [(2, .int l2_3), (1, .int l1_1), (0, .ref 0)] e_3 rfl (by decide) d_Mo_whoHasLeft_3 ?_
  exact G_sub _ [2, 1, 0] rfl (t_Mo_whoHasLeft_4 FU S l1_1 l2_3 _ h)
theorem d_Mo_count_0 : decode m_Mo_count.2.1 0 = .ok (.iload_n 1, 1) := by decide +kernel
theorem d_Mo_count_1 : decode m_Mo_count.2.1 1 = .ok (.tableswitch 109 0 8 #[51, 59, 64, 71, 78, 86, 91, 96, 104], 51) := by decide +kernel
theorem d_Mo_count_52 : decode m_Mo_count.2.1 52 = .ok (.aload_n 0, 1) := by decide +kernel
theorem d_Mo_count_53 : decode m_Mo_count.2.1 53 = .ok (.getfield 7, 3) := by decide +kernel
theorem d_Mo_count_56 : decode m_Mo_count.2.1 56 = .ok (.bipush 97, 2) := by decide +kernel
theorem d_Mo_count_58 : decode m_Mo_count.2.1 58 = .ok (.iaload, 1) := by decide +kernel
theorem d_Mo_count_59 : decode m_Mo_count.2.1 59 = .ok (.ireturn, 1) := by decide +kernel
theorem d_Mo_count_60 : decode m_Mo_count.2.1 60 = .ok (.aload_n 0, 1) := by decide +kernel
theorem d_Mo_count_61 : decode m_Mo_count.2.1 61 = .ok (.getfield 120, 3) := by decide +kernel
theorem d_Mo_count_64 : decode m_Mo_count.2.1 64 = .ok (.ireturn, 1) := by decide +kernel
theorem d_Mo_count_65 : decode m_Mo_count.2.1 65 = .ok (.aload_n 0, 1) := by decide +kernel
theorem d_Mo_count_66 : decode m_Mo_count.2.1 66 = .ok (.bipush 24, 2) := by decide +kernel
theorem d_Mo_count_68 : decode m_Mo_count.2.1 68 = .ok (.invokevirtual 305, 3) := by decide +kernel
theorem d_Mo_count_71 : decode m_Mo_count.2.1 71 = .ok (.ireturn, 1) := by decide +kernel
theorem d_Mo_count_72 : decode m_Mo_count.2.1 72 = .ok (.aload_n 0, 1) := by decide +kernel
theorem d_Mo_count_73 : decode m_Mo_count.2.1 73 = .ok (.bipush 72, 2) := by decide +kernel
theorem d_Mo_count_75 : decode m_Mo_count.2.1 75 = .ok (.invokevirtual 305, 3) := by decide +kernel
theorem d_Mo_count_78 : decode m_Mo_count.2.1 78 = .ok (.ireturn, 1) := by decide +kernel
theorem d_Mo_count_79 : decode m_Mo_count.2.1 79 = .ok (.aload_n 0, 1) := by decide +kernel
theorem d_Mo_count_80 : decode m_Mo_count.2.1 80 = .ok (.getfield 7, 3) := by decide +kernel
theorem d_Mo_count_83 : decode m_Mo_count.2.1 83 = .ok (.bipush 96, 2) := by decide +kernel
theorem d_Mo_count_85 : decode m_Mo_count.2.1 85 = .ok (.iaload, 1) := by decide +kernel
theorem d_Mo_count_86 : decode m_Mo_count.2.1 86 = .ok (.ireturn, 1) := by decide +kernel
theorem d_Mo_count_87 : decode m_Mo_count.2.1 87 = .ok (.aload_n 0, 1) := by decide +kernel
theorem d_Mo_count_88 : decode m_Mo_count.2.1 88 = .ok (.getfield 236, 3) := by decide +kernel
theorem d_Mo_count_91 : decode m_Mo_count.2.1 91 = .ok (.ireturn, 1) := by decide +kernel
theorem d_Mo_count_92 : decode m_Mo_count.2.1 92 = .ok (.aload_n 0, 1) := by decide +kernel
theorem d_Mo_count_93 : decode m_Mo_count.2.1 93 = .ok (.getfield 135, 3) := by decide +kernel
theorem d_Mo_count_96 : decode m_Mo_count.2.1 96 = .ok (.ireturn, 1) := by decide +kernel
theorem d_Mo_count_97 : decode m_Mo_count.2.1 97 = .ok (.aload_n 0, 1) := by decide +kernel
theorem d_Mo_count_98 : decode m_Mo_count.2.1 98 = .ok (.getfield 7, 3) := by decide +kernel
theorem d_Mo_count_101 : decode m_Mo_count.2.1 101 = .ok (.bipush 98, 2) := by decide +kernel
theorem d_Mo_count_103 : decode m_Mo_count.2.1 103 = .ok (.iaload, 1) := by decide +kernel
theorem d_Mo_count_104 : decode m_Mo_count.2.1 104 = .ok (.ireturn, 1) := by decide +kernel
theorem d_Mo_count_105 : decode m_Mo_count.2.1 105 = .ok (.aload_n 0, 1) := by decide +kernel
theorem d_Mo_count_106 : decode m_Mo_count.2.1 106 = .ok (.invokevirtual 416, 3) := by decide +kernel
theorem d_Mo_count_109 : decode m_Mo_count.2.1 109 = .ok (.ireturn, 1) := by decide +kernel
theorem d_Mo_count_110 : decode m_Mo_count.2.1 110 = .ok (.iconst (-1), 1) := by decide +kernel
theorem d_Mo_count_111 : decode m_Mo_count.2.1 111 = .ok (.ireturn, 1) := by decide +kernel
def f_Mo_count (S : St) (l1 : Int32) : Option (Int32) :=
    if l1 = 0 then (
    if ig (97 : Int32) 99 then (
    some (S 1 (97 : Int32).toNatClampNeg)) else none)
    else if l1 = 1 then (
    some (S 0 5))
    else if l1 = 2 then (
    (f_Mo_setOf S (24 : Int32)).bind fun v_68 =>
    some v_68)
    else if l1 = 3 then (
    (f_Mo_setOf S (72 : Int32)).bind fun v_75 =>
    some v_75)
    else if l1 = 4 then (
    if ig (96 : Int32) 99 then (
    some (S 1 (96 : Int32).toNatClampNeg)) else none)
    else if l1 = 5 then (
    some (S 0 16))
    else if l1 = 6 then (
    some (S 0 7))
    else if l1 = 7 then (
    if ig (98 : Int32) 99 then (
    some (S 1 (98 : Int32).toNatClampNeg)) else none)
    else if l1 = 8 then (
    (f_Mo_whoHasLeft S).bind fun v_106 =>
    some v_106)
    else (
    some ((-1) : Int32))
set_option maxHeartbeats 4000000 in
set_option maxRecDepth 20000 in
theorem t_Mo_count  {S : St} {l1 : Int32} {w : Int32} (h : f_Mo_count S l1 = some w) : Ct SM m_Mo_count 6 [.ref 0, .int l1] S (some w) S := by
  unfold f_Mo_count at h
  refine Ct.of pn_Mo (Nat.le_of_ble_eq_true rfl) ?_
  show G SM m_Mo_count 6 (some w) S 0 [(0, .ref 0), (1, .int l1)] [] S
  refine G_iload_n 1 rfl d_Mo_count_0 ?_
  by_cases c_1_0 : l1 = 0
  · replace h := ob_t h c_1_0
    refine G_tin (0) (by rw [c_1_0]; decide) 52 (by decide) (by decide) rfl (by decide) d_Mo_count_1 ?_
    refine G_aload_n 0 rfl d_Mo_count_52 ?_
    refine G_getR fl_Mo_7 km_0 sm_0 rfl (by decide) d_Mo_count_53 ?_
    refine G_bipush 97 (by decide) d_Mo_count_56 ?_
    obtain ⟨g_58, h⟩ := ob_g h
    refine G_iaload km_1 sm_1 g_58 d_Mo_count_58 ?_
    cases h
    exact G_iret rfl d_Mo_count_59
  replace h := ob_f h c_1_0
  by_cases c_1_1 : l1 = 1
  · replace h := ob_t h c_1_1
    refine G_tin (1) (by rw [c_1_1]; decide) 60 (by decide) (by decide) rfl (by decide) d_Mo_count_1 ?_
    refine G_aload_n 0 rfl d_Mo_count_60 ?_
    refine G_getI fl_Mo_120 km_0 sm_0 rfl d_Mo_count_61 ?_
    cases h
    exact G_iret rfl d_Mo_count_64
  replace h := ob_f h c_1_1
  by_cases c_1_2 : l1 = 2
  · replace h := ob_t h c_1_2
    refine G_tin (2) (by rw [c_1_2]; decide) 65 (by decide) (by decide) rfl (by decide) d_Mo_count_1 ?_
    refine G_aload_n 0 rfl d_Mo_count_65 ?_
    refine G_bipush 24 (by decide) d_Mo_count_66 ?_
    obtain ⟨v_68, q_68, h⟩ := ob_b h
    refine G_callV [.int 24] [] (t_Mo_setOf q_68) (by decide) (by decide) mv_Mo_setOf rfl ml_Mo_305 km_0 sm_0 cl_12 rfl (Nat.le_of_ble_eq_true rfl) d_Mo_count_68 ?_
    cases h
    exact G_iret rfl d_Mo_count_71
  replace h := ob_f h c_1_2
  by_cases c_1_3 : l1 = 3
  · replace h := ob_t h c_1_3
    refine G_tin (3) (by rw [c_1_3]; decide) 72 (by decide) (by decide) rfl (by decide) d_Mo_count_1 ?_
    refine G_aload_n 0 rfl d_Mo_count_72 ?_
    refine G_bipush 72 (by decide) d_Mo_count_73 ?_
    obtain ⟨v_75, q_75, h⟩ := ob_b h
    refine G_callV [.int 72] [] (t_Mo_setOf q_75) (by decide) (by decide) mv_Mo_setOf rfl ml_Mo_305 km_0 sm_0 cl_12 rfl (Nat.le_of_ble_eq_true rfl) d_Mo_count_75 ?_
    cases h
    exact G_iret rfl d_Mo_count_78
  replace h := ob_f h c_1_3
  by_cases c_1_4 : l1 = 4
  · replace h := ob_t h c_1_4
    refine G_tin (4) (by rw [c_1_4]; decide) 79 (by decide) (by decide) rfl (by decide) d_Mo_count_1 ?_
    refine G_aload_n 0 rfl d_Mo_count_79 ?_
    refine G_getR fl_Mo_7 km_0 sm_0 rfl (by decide) d_Mo_count_80 ?_
    refine G_bipush 96 (by decide) d_Mo_count_83 ?_
    obtain ⟨g_85, h⟩ := ob_g h
    refine G_iaload km_1 sm_1 g_85 d_Mo_count_85 ?_
    cases h
    exact G_iret rfl d_Mo_count_86
  replace h := ob_f h c_1_4
  by_cases c_1_5 : l1 = 5
  · replace h := ob_t h c_1_5
    refine G_tin (5) (by rw [c_1_5]; decide) 87 (by decide) (by decide) rfl (by decide) d_Mo_count_1 ?_
    refine G_aload_n 0 rfl d_Mo_count_87 ?_
    refine G_getI fl_Mo_236 km_0 sm_0 rfl d_Mo_count_88 ?_
    cases h
    exact G_iret rfl d_Mo_count_91
  replace h := ob_f h c_1_5
  by_cases c_1_6 : l1 = 6
  · replace h := ob_t h c_1_6
    refine G_tin (6) (by rw [c_1_6]; decide) 92 (by decide) (by decide) rfl (by decide) d_Mo_count_1 ?_
    refine G_aload_n 0 rfl d_Mo_count_92 ?_
    refine G_getI fl_Mo_135 km_0 sm_0 rfl d_Mo_count_93 ?_
    cases h
    exact G_iret rfl d_Mo_count_96
  replace h := ob_f h c_1_6
  by_cases c_1_7 : l1 = 7
  · replace h := ob_t h c_1_7
    refine G_tin (7) (by rw [c_1_7]; decide) 97 (by decide) (by decide) rfl (by decide) d_Mo_count_1 ?_
    refine G_aload_n 0 rfl d_Mo_count_97 ?_
    refine G_getR fl_Mo_7 km_0 sm_0 rfl (by decide) d_Mo_count_98 ?_
    refine G_bipush 98 (by decide) d_Mo_count_101 ?_
    obtain ⟨g_103, h⟩ := ob_g h
    refine G_iaload km_1 sm_1 g_103 d_Mo_count_103 ?_
    cases h
    exact G_iret rfl d_Mo_count_104
  replace h := ob_f h c_1_7
  by_cases c_1_8 : l1 = 8
  · replace h := ob_t h c_1_8
    refine G_tin (8) (by rw [c_1_8]; decide) 105 (by decide) (by decide) rfl (by decide) d_Mo_count_1 ?_
    refine G_aload_n 0 rfl d_Mo_count_105 ?_
    obtain ⟨v_106, q_106, h⟩ := ob_b h
    refine G_callV [] [] (t_Mo_whoHasLeft q_106) (by decide) (by decide) mv_Mo_whoHasLeft rfl ml_Mo_416 km_0 sm_0 cl_12 rfl (Nat.le_of_ble_eq_true rfl) d_Mo_count_106 ?_
    cases h
    exact G_iret rfl d_Mo_count_109
  replace h := ob_f h c_1_8
  have n_1_0 := lv_neT c_1_0 (a := 0) (by decide)
  have n_1_1 := lv_neT c_1_1 (a := 1) (by decide)
  have n_1_2 := lv_neT c_1_2 (a := 2) (by decide)
  have n_1_3 := lv_neT c_1_3 (a := 3) (by decide)
  have n_1_4 := lv_neT c_1_4 (a := 4) (by decide)
  have n_1_5 := lv_neT c_1_5 (a := 5) (by decide)
  have n_1_6 := lv_neT c_1_6 (a := 6) (by decide)
  have n_1_7 := lv_neT c_1_7 (a := 7) (by decide)
  have n_1_8 := lv_neT c_1_8 (a := 8) (by decide)
  refine G_tout (by omega) 110 (by decide) d_Mo_count_1 ?_
  refine G_iconst (-1) (by decide) d_Mo_count_110 ?_
  cases h
  exact G_iret rfl d_Mo_count_111
