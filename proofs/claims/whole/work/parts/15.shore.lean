theorem d_Shore_isSeen_0 : decode m_Shore_isSeen.2.1 0 = .ok (.aload_n 0, 1) := by decide +kernel
theorem d_Shore_isSeen_1 : decode m_Shore_isSeen.2.1 1 = .ok (.getfield 13, 3) := by decide +kernel
theorem d_Shore_isSeen_4 : decode m_Shore_isSeen.2.1 4 = .ok (.iconst 2, 1) := by decide +kernel
theorem d_Shore_isSeen_5 : decode m_Shore_isSeen.2.1 5 = .ok (.iload_n 1, 1) := by decide +kernel
theorem d_Shore_isSeen_6 : decode m_Shore_isSeen.2.1 6 = .ok (.imul, 1) := by decide +kernel
theorem d_Shore_isSeen_7 : decode m_Shore_isSeen.2.1 7 = .ok (.invokevirtual 17, 3) := by decide +kernel
theorem d_Shore_isSeen_10 : decode m_Shore_isSeen.2.1 10 = .ok (.iload_n 2, 1) := by decide +kernel
theorem d_Shore_isSeen_11 : decode m_Shore_isSeen.2.1 11 = .ok (.isub, 1) := by decide +kernel
theorem d_Shore_isSeen_12 : decode m_Shore_isSeen.2.1 12 = .ok (.invokestatic 23, 3) := by decide +kernel
theorem d_Shore_isSeen_15 : decode m_Shore_isSeen.2.1 15 = .ok (.aload_n 0, 1) := by decide +kernel
theorem d_Shore_isSeen_16 : decode m_Shore_isSeen.2.1 16 = .ok (.getfield 13, 3) := by decide +kernel
theorem d_Shore_isSeen_19 : decode m_Shore_isSeen.2.1 19 = .ok (.iconst 2, 1) := by decide +kernel
theorem d_Shore_isSeen_20 : decode m_Shore_isSeen.2.1 20 = .ok (.iload_n 1, 1) := by decide +kernel
theorem d_Shore_isSeen_21 : decode m_Shore_isSeen.2.1 21 = .ok (.imul, 1) := by decide +kernel
theorem d_Shore_isSeen_22 : decode m_Shore_isSeen.2.1 22 = .ok (.iconst 1, 1) := by decide +kernel
theorem d_Shore_isSeen_23 : decode m_Shore_isSeen.2.1 23 = .ok (.iadd, 1) := by decide +kernel
theorem d_Shore_isSeen_24 : decode m_Shore_isSeen.2.1 24 = .ok (.invokevirtual 17, 3) := by decide +kernel
theorem d_Shore_isSeen_27 : decode m_Shore_isSeen.2.1 27 = .ok (.if_icmp .gt 7, 3) := by decide +kernel
theorem d_Shore_isSeen_30 : decode m_Shore_isSeen.2.1 30 = .ok (.iconst 1, 1) := by decide +kernel
theorem d_Shore_isSeen_31 : decode m_Shore_isSeen.2.1 31 = .ok (.goto 4, 3) := by decide +kernel
theorem d_Shore_isSeen_34 : decode m_Shore_isSeen.2.1 34 = .ok (.iconst 0, 1) := by decide +kernel
theorem d_Shore_isSeen_35 : decode m_Shore_isSeen.2.1 35 = .ok (.ireturn, 1) := by decide +kernel
def f_Shore_isSeen (S : St) (l1 : Int32) (l2 : Int32) : Option (Int32) :=
    (f_Tape_at S (2 * l1)).bind fun v_7 =>
    (f_Tape_at S ((2 * l1) + 1)).bind fun v_24 =>
    if v_24 < (jabs (v_7 - l2)) then (
    some (0 : Int32))
    else (
    some (1 : Int32))
set_option maxHeartbeats 4000000 in
set_option maxRecDepth 20000 in
theorem t_Shore_isSeen  {S : St} {l1 : Int32} {l2 : Int32} {w : Int32} (h : f_Shore_isSeen S l1 l2 = some w) : Ct SX m_Shore_isSeen 2 [.ref 54, .int l1, .int l2] S (some w) S := by
  unfold f_Shore_isSeen at h
  refine Ct.of pn_Shore (Nat.le_of_ble_eq_true rfl) ?_
  show G SX m_Shore_isSeen 2 (some w) S 0 [(0, .ref 54), (1, .int l1), (2, .int l2)] [] S
  refine G_aload_n 0 rfl d_Shore_isSeen_0 ?_
  refine G_getR fl_Shore_13 kx_54 sx_54 rfl (by decide) d_Shore_isSeen_1 ?_
  refine G_iconst 2 (by decide) d_Shore_isSeen_4 ?_
  refine G_iload_n 1 rfl d_Shore_isSeen_5 ?_
  refine G_imul d_Shore_isSeen_6 ?_
  obtain ⟨v_7, q_7, h⟩ := ob_b h
  refine G_callV [.int (2 * l1)] [] (t_Tape_at q_7) (by decide) (by decide) mv_Tape_at rfl ml_Shore_17 kx_1 sx_1 cl_8 rfl (Nat.le_of_ble_eq_true rfl) d_Shore_isSeen_7 ?_
  refine G_iload_n 2 rfl d_Shore_isSeen_10 ?_
  refine G_isub d_Shore_isSeen_11 ?_
  refine G_mabs ms_Shore_23 (by decide) (Nat.le_of_ble_eq_true rfl) d_Shore_isSeen_12 ?_
  refine G_aload_n 0 rfl d_Shore_isSeen_15 ?_
  refine G_getR fl_Shore_13 kx_54 sx_54 rfl (by decide) d_Shore_isSeen_16 ?_
  refine G_iconst 2 (by decide) d_Shore_isSeen_19 ?_
  refine G_iload_n 1 rfl d_Shore_isSeen_20 ?_
  refine G_imul d_Shore_isSeen_21 ?_
  refine G_iconst 1 (by decide) d_Shore_isSeen_22 ?_
  refine G_iadd d_Shore_isSeen_23 ?_
  obtain ⟨v_24, q_24, h⟩ := ob_b h
  refine G_callV [.int ((2 * l1) + 1)] [.int (jabs (v_7 - l2))] (t_Tape_at q_24) (by decide) (by decide) mv_Tape_at rfl ml_Shore_17 kx_1 sx_1 cl_8 rfl (Nat.le_of_ble_eq_true rfl) d_Shore_isSeen_24 ?_
  refine G_icmp_gt 34 (by decide) d_Shore_isSeen_27 (fun c_27 => ?_) (fun c_27 => ?_)
  · replace h := ob_t h c_27
    refine G_iconst 0 (by decide) d_Shore_isSeen_34 ?_
    cases h
    exact G_zret (Or.inl rfl) rfl d_Shore_isSeen_35
  · replace h := ob_f h c_27
    refine G_iconst 1 (by decide) d_Shore_isSeen_30 ?_
    refine G_goto 35 (by decide) d_Shore_isSeen_31 ?_
    cases h
    exact G_zret (Or.inr rfl) rfl d_Shore_isSeen_35
theorem d_Shore_sees_0 : decode m_Shore_sees.2.1 0 = .ok (.iconst 0, 1) := by decide +kernel
theorem d_Shore_sees_1 : decode m_Shore_sees.2.1 1 = .ok (.istore 4, 2) := by decide +kernel
theorem d_Shore_sees_3 : decode m_Shore_sees.2.1 3 = .ok (.iconst 0, 1) := by decide +kernel
theorem d_Shore_sees_4 : decode m_Shore_sees.2.1 4 = .ok (.istore 5, 2) := by decide +kernel
theorem d_Shore_sees_6 : decode m_Shore_sees.2.1 6 = .ok (.iload 5, 2) := by decide +kernel
theorem d_Shore_sees_8 : decode m_Shore_sees.2.1 8 = .ok (.iload_n 2, 1) := by decide +kernel
theorem d_Shore_sees_9 : decode m_Shore_sees.2.1 9 = .ok (.if_icmp .ge 22, 3) := by decide +kernel
theorem d_Shore_sees_12 : decode m_Shore_sees.2.1 12 = .ok (.aload_n 0, 1) := by decide +kernel
theorem d_Shore_sees_13 : decode m_Shore_sees.2.1 13 = .ok (.iload 5, 2) := by decide +kernel
theorem d_Shore_sees_15 : decode m_Shore_sees.2.1 15 = .ok (.iload_n 1, 1) := by decide +kernel
theorem d_Shore_sees_16 : decode m_Shore_sees.2.1 16 = .ok (.invokevirtual 28, 3) := by decide +kernel
theorem d_Shore_sees_19 : decode m_Shore_sees.2.1 19 = .ok (.ifCond .eq 6, 3) := by decide +kernel
theorem d_Shore_sees_22 : decode m_Shore_sees.2.1 22 = .ok (.iinc 4 1, 3) := by decide +kernel
theorem d_Shore_sees_25 : decode m_Shore_sees.2.1 25 = .ok (.iinc 5 1, 3) := by decide +kernel
theorem d_Shore_sees_28 : decode m_Shore_sees.2.1 28 = .ok (.goto (-22), 3) := by decide +kernel
theorem d_Shore_sees_31 : decode m_Shore_sees.2.1 31 = .ok (.iload 4, 2) := by decide +kernel
theorem d_Shore_sees_33 : decode m_Shore_sees.2.1 33 = .ok (.iload_n 3, 1) := by decide +kernel
theorem d_Shore_sees_34 : decode m_Shore_sees.2.1 34 = .ok (.if_icmp .lt 7, 3) := by decide +kernel
theorem d_Shore_sees_37 : decode m_Shore_sees.2.1 37 = .ok (.iconst 1, 1) := by decide +kernel
theorem d_Shore_sees_38 : decode m_Shore_sees.2.1 38 = .ok (.goto 4, 3) := by decide +kernel
theorem d_Shore_sees_41 : decode m_Shore_sees.2.1 41 = .ok (.iconst 0, 1) := by decide +kernel
theorem d_Shore_sees_42 : decode m_Shore_sees.2.1 42 = .ok (.ireturn, 1) := by decide +kernel
def f_Shore_sees_25 (k_6 : St → Int32 → Int32 → Int32 → Int32 → Int32 → Option (Int32)) (S : St) (l1 : Int32) (l2 : Int32) (l3 : Int32) (l4 : Int32) (l5 : Int32) : Option (Int32) :=
    (some (l5 + 1)).bind fun l5_25 =>
    k_6 S l1 l2 l3 l4 l5_25
set_option maxHeartbeats 4000000 in
set_option maxRecDepth 20000 in
theorem t_Shore_sees_25  {k_6 : St → Int32 → Int32 → Int32 → Int32 → Int32 → Option (Int32)} (hk_6 : ∀ (S : St) (l1 : Int32) (l2 : Int32) (l3 : Int32) (l4 : Int32) (l5 : Int32) (w : Int32), k_6 S l1 l2 l3 l4 l5 = some w → G SX m_Shore_sees 3 (some w) S 6 [(0, .ref 54), (1, .int l1), (2, .int l2), (3, .int l3), (4, .int l4), (5, .int l5)] [] S) (S : St) (l1 : Int32) (l2 : Int32) (l3 : Int32) (l4 : Int32) (l5 : Int32) (w : Int32) (h : f_Shore_sees_25 k_6 S l1 l2 l3 l4 l5 = some w) : G SX m_Shore_sees 3 (some w) S 25 [(0, .ref 54), (1, .int l1), (2, .int l2), (3, .int l3), (4, .int l4), (5, .int l5)] [] S := by
  unfold f_Shore_sees_25 at h
  obtain ⟨l5_25, e_25, h⟩ := ob_s h
  refine G_iinc 1 5 [(5, .int l5_25), (0, .ref 54), (1, .int l1), (2, .int l2), (3, .int l3), (4, .int l4)] (by decide) rfl e_25 rfl (by decide) d_Shore_sees_25 ?_
  refine G_goto 6 (by decide) d_Shore_sees_28 ?_
  exact G_sub _ [1, 2, 3, 4, 5, 0] rfl (hk_6 S l1 l2 l3 l4 l5_25 _ h)
def f_Shore_sees_6 : Nat → St → Int32 → Int32 → Int32 → Int32 → Int32 → Option (Int32)
  | 0, _, _, _, _, _, _ => none
  | n + 1, S, l1, l2, l3, l4, l5 =>
    if l2 ≤ l5 then (
    if l4 < l3 then (
    some (0 : Int32))
    else (
    some (1 : Int32)))
    else (
    (f_Shore_isSeen S l5 l1).bind fun v_16 =>
    if v_16 = 0 then (
    f_Shore_sees_25 (f_Shore_sees_6 n) S l1 l2 l3 l4 l5)
    else (
    (some (l4 + 1)).bind fun l4_22 =>
    f_Shore_sees_25 (f_Shore_sees_6 n) S l1 l2 l3 l4_22 l5))
set_option maxHeartbeats 4000000 in
set_option maxRecDepth 20000 in
theorem t_Shore_sees_6  : ∀ (n : Nat) (S : St) (l1 : Int32) (l2 : Int32) (l3 : Int32) (l4 : Int32) (l5 : Int32) (w : Int32), f_Shore_sees_6 n S l1 l2 l3 l4 l5 = some w → G SX m_Shore_sees 3 (some w) S 6 [(0, .ref 54), (1, .int l1), (2, .int l2), (3, .int l3), (4, .int l4), (5, .int l5)] [] S := by
  intro n
  induction n with
  | zero =>
    intro S l1 l2 l3 l4 l5 w h
    rw [f_Shore_sees_6] at h
    cases h
  | succ n ih =>
    intro S l1 l2 l3 l4 l5 w h
    rw [f_Shore_sees_6] at h
    refine G_iload 5 rfl d_Shore_sees_6 ?_
    refine G_iload_n 2 rfl d_Shore_sees_8 ?_
    refine G_icmp_ge 31 (by decide) d_Shore_sees_9 (fun c_9 => ?_) (fun c_9 => ?_)
    · replace h := ob_t h c_9
      refine G_iload 4 rfl d_Shore_sees_31 ?_
      refine G_iload_n 3 rfl d_Shore_sees_33 ?_
      refine G_icmp_lt 41 (by decide) d_Shore_sees_34 (fun c_34 => ?_) (fun c_34 => ?_)
      · replace h := ob_t h c_34
        refine G_iconst 0 (by decide) d_Shore_sees_41 ?_
        cases h
        exact G_zret (Or.inl rfl) rfl d_Shore_sees_42
      · replace h := ob_f h c_34
        refine G_iconst 1 (by decide) d_Shore_sees_37 ?_
        refine G_goto 42 (by decide) d_Shore_sees_38 ?_
        cases h
        exact G_zret (Or.inr rfl) rfl d_Shore_sees_42
    · replace h := ob_f h c_9
      refine G_aload_n 0 rfl d_Shore_sees_12 ?_
      refine G_iload 5 rfl d_Shore_sees_13 ?_
      refine G_iload_n 1 rfl d_Shore_sees_15 ?_
      obtain ⟨v_16, q_16, h⟩ := ob_b h
      refine G_callV [.int l5, .int l1] [] (t_Shore_isSeen q_16) (by decide) (by decide) mv_Shore_isSeen rfl ml_Shore_28 kx_54 sx_54 cl_7 rfl (Nat.le_of_ble_eq_true rfl) d_Shore_sees_16 ?_
      refine G_if_eq 25 (by decide) d_Shore_sees_19 (fun c_19 => ?_) (fun c_19 => ?_)
      · replace h := ob_t h c_19
        exact G_sub _ [0, 1, 2, 3, 4, 5] rfl (t_Shore_sees_25 ih S l1 l2 l3 l4 l5 _ h)
      · replace h := ob_f h c_19
        obtain ⟨l4_22, e_22, h⟩ := ob_s h
        refine G_iinc 1 4 [(4, .int l4_22), (0, .ref 54), (1, .int l1), (2, .int l2), (3, .int l3), (5, .int l5)] (by decide) rfl e_22 rfl (by decide) d_Shore_sees_22 ?_
        exact G_sub _ [1, 2, 3, 4, 0, 5] rfl (t_Shore_sees_25 ih S l1 l2 l3 l4_22 l5 _ h)
def f_Shore_sees (S : St) (l1 : Int32) (l2 : Int32) (l3 : Int32) : Option (Int32) :=
    (some (0 : Int32)).bind fun l4_1 =>
    (some (0 : Int32)).bind fun l5_4 =>
    f_Shore_sees_6 FU S l1 l2 l3 l4_1 l5_4
set_option maxHeartbeats 4000000 in
set_option maxRecDepth 20000 in
theorem t_Shore_sees  {S : St} {l1 : Int32} {l2 : Int32} {l3 : Int32} {w : Int32} (h : f_Shore_sees S l1 l2 l3 = some w) : Ct SX m_Shore_sees 3 [.ref 54, .int l1, .int l2, .int l3] S (some w) S := by
  unfold f_Shore_sees at h
  refine Ct.of pn_Shore (Nat.le_of_ble_eq_true rfl) ?_
  show G SX m_Shore_sees 3 (some w) S 0 [(0, .ref 54), (1, .int l1), (2, .int l2), (3, .int l3)] [] S
  refine G_iconst 0 (by decide) d_Shore_sees_0 ?_
  obtain ⟨l4_1, e_1, h⟩ := ob_s h
  refine G_istore [(4, .int l4_1), (0, .ref 54), (1, .int l1), (2, .int l2), (3, .int l3)] e_1 rfl (by decide) d_Shore_sees_1 ?_
  refine G_iconst 0 (by decide) d_Shore_sees_3 ?_
  obtain ⟨l5_4, e_4, h⟩ := ob_s h
  refine G_istore [(5, .int l5_4), (4, .int l4_1), (0, .ref 54), (1, .int l1), (2, .int l2), (3, .int l3)] e_4 rfl (by decide) d_Shore_sees_4 ?_
  exact G_sub _ [2, 3, 4, 5, 1, 0] rfl (t_Shore_sees_6 FU S l1 l2 l3 l4_1 l5_4 _ h)
theorem d_Shore_placesSeeing_0 : decode m_Shore_placesSeeing.2.1 0 = .ok (.iconst 0, 1) := by decide +kernel
theorem d_Shore_placesSeeing_1 : decode m_Shore_placesSeeing.2.1 1 = .ok (.istore_n 3, 1) := by decide +kernel
theorem d_Shore_placesSeeing_2 : decode m_Shore_placesSeeing.2.1 2 = .ok (.iconst 0, 1) := by decide +kernel
theorem d_Shore_placesSeeing_3 : decode m_Shore_placesSeeing.2.1 3 = .ok (.istore 4, 2) := by decide +kernel
theorem d_Shore_placesSeeing_5 : decode m_Shore_placesSeeing.2.1 5 = .ok (.iload 4, 2) := by decide +kernel
theorem d_Shore_placesSeeing_7 : decode m_Shore_placesSeeing.2.1 7 = .ok (.sipush 256, 3) := by decide +kernel
theorem d_Shore_placesSeeing_10 : decode m_Shore_placesSeeing.2.1 10 = .ok (.if_icmp .ge 23, 3) := by decide +kernel
theorem d_Shore_placesSeeing_13 : decode m_Shore_placesSeeing.2.1 13 = .ok (.aload_n 0, 1) := by decide +kernel
theorem d_Shore_placesSeeing_14 : decode m_Shore_placesSeeing.2.1 14 = .ok (.iload 4, 2) := by decide +kernel
theorem d_Shore_placesSeeing_16 : decode m_Shore_placesSeeing.2.1 16 = .ok (.iload_n 1, 1) := by decide +kernel
theorem d_Shore_placesSeeing_17 : decode m_Shore_placesSeeing.2.1 17 = .ok (.iload_n 2, 1) := by decide +kernel
theorem d_Shore_placesSeeing_18 : decode m_Shore_placesSeeing.2.1 18 = .ok (.invokevirtual 32, 3) := by decide +kernel
theorem d_Shore_placesSeeing_21 : decode m_Shore_placesSeeing.2.1 21 = .ok (.ifCond .eq 6, 3) := by decide +kernel
theorem d_Shore_placesSeeing_24 : decode m_Shore_placesSeeing.2.1 24 = .ok (.iinc 3 1, 3) := by decide +kernel
theorem d_Shore_placesSeeing_27 : decode m_Shore_placesSeeing.2.1 27 = .ok (.iinc 4 1, 3) := by decide +kernel
theorem d_Shore_placesSeeing_30 : decode m_Shore_placesSeeing.2.1 30 = .ok (.goto (-25), 3) := by decide +kernel
theorem d_Shore_placesSeeing_33 : decode m_Shore_placesSeeing.2.1 33 = .ok (.iload_n 3, 1) := by decide +kernel
theorem d_Shore_placesSeeing_34 : decode m_Shore_placesSeeing.2.1 34 = .ok (.ireturn, 1) := by decide +kernel
def f_Shore_placesSeeing_27 (k_5 : St → Int32 → Int32 → Int32 → Int32 → Option (Int32)) (S : St) (l1 : Int32) (l2 : Int32) (l3 : Int32) (l4 : Int32) : Option (Int32) :=
    (some (l4 + 1)).bind fun l4_27 =>
    k_5 S l1 l2 l3 l4_27
set_option maxHeartbeats 4000000 in
set_option maxRecDepth 20000 in
theorem t_Shore_placesSeeing_27  {k_5 : St → Int32 → Int32 → Int32 → Int32 → Option (Int32)} (hk_5 : ∀ (S : St) (l1 : Int32) (l2 : Int32) (l3 : Int32) (l4 : Int32) (w : Int32), k_5 S l1 l2 l3 l4 = some w → G SX m_Shore_placesSeeing 4 (some w) S 5 [(0, .ref 54), (1, .int l1), (2, .int l2), (3, .int l3), (4, .int l4)] [] S) (S : St) (l1 : Int32) (l2 : Int32) (l3 : Int32) (l4 : Int32) (w : Int32) (h : f_Shore_placesSeeing_27 k_5 S l1 l2 l3 l4 = some w) : G SX m_Shore_placesSeeing 4 (some w) S 27 [(0, .ref 54), (1, .int l1), (2, .int l2), (3, .int l3), (4, .int l4)] [] S := by
  unfold f_Shore_placesSeeing_27 at h
  obtain ⟨l4_27, e_27, h⟩ := ob_s h
  refine G_iinc 1 4 [(4, .int l4_27), (0, .ref 54), (1, .int l1), (2, .int l2), (3, .int l3)] (by decide) rfl e_27 rfl (by decide) d_Shore_placesSeeing_27 ?_
  refine G_goto 5 (by decide) d_Shore_placesSeeing_30 ?_
  exact G_sub _ [1, 2, 3, 4, 0] rfl (hk_5 S l1 l2 l3 l4_27 _ h)
def f_Shore_placesSeeing_5 : Nat → St → Int32 → Int32 → Int32 → Int32 → Option (Int32)
  | 0, _, _, _, _, _ => none
  | n + 1, S, l1, l2, l3, l4 =>
    if (256 : Int32) ≤ l4 then (
    some l3)
    else (
    (f_Shore_sees S l4 l1 l2).bind fun v_18 =>
    if v_18 = 0 then (
    f_Shore_placesSeeing_27 (f_Shore_placesSeeing_5 n) S l1 l2 l3 l4)
    else (
    (some (l3 + 1)).bind fun l3_24 =>
    f_Shore_placesSeeing_27 (f_Shore_placesSeeing_5 n) S l1 l2 l3_24 l4))
set_option maxHeartbeats 4000000 in
set_option maxRecDepth 20000 in
theorem t_Shore_placesSeeing_5  : ∀ (n : Nat) (S : St) (l1 : Int32) (l2 : Int32) (l3 : Int32) (l4 : Int32) (w : Int32), f_Shore_placesSeeing_5 n S l1 l2 l3 l4 = some w → G SX m_Shore_placesSeeing 4 (some w) S 5 [(0, .ref 54), (1, .int l1), (2, .int l2), (3, .int l3), (4, .int l4)] [] S := by
  intro n
  induction n with
  | zero =>
    intro S l1 l2 l3 l4 w h
    rw [f_Shore_placesSeeing_5] at h
    cases h
  | succ n ih =>
    intro S l1 l2 l3 l4 w h
    rw [f_Shore_placesSeeing_5] at h
    refine G_iload 4 rfl d_Shore_placesSeeing_5 ?_
    refine G_sipush 256 (by decide) d_Shore_placesSeeing_7 ?_
    refine G_icmp_ge 33 (by decide) d_Shore_placesSeeing_10 (fun c_10 => ?_) (fun c_10 => ?_)
    · replace h := ob_t h c_10
      refine G_iload_n 3 rfl d_Shore_placesSeeing_33 ?_
      cases h
      exact G_iret rfl d_Shore_placesSeeing_34
    · replace h := ob_f h c_10
      refine G_aload_n 0 rfl d_Shore_placesSeeing_13 ?_
      refine G_iload 4 rfl d_Shore_placesSeeing_14 ?_
      refine G_iload_n 1 rfl d_Shore_placesSeeing_16 ?_
      refine G_iload_n 2 rfl d_Shore_placesSeeing_17 ?_
      obtain ⟨v_18, q_18, h⟩ := ob_b h
      refine G_callV [.int l4, .int l1, .int l2] [] (t_Shore_sees q_18) (by decide) (by decide) mv_Shore_sees rfl ml_Shore_32 kx_54 sx_54 cl_7 rfl (Nat.le_of_ble_eq_true rfl) d_Shore_placesSeeing_18 ?_
      refine G_if_eq 27 (by decide) d_Shore_placesSeeing_21 (fun c_21 => ?_) (fun c_21 => ?_)
      · replace h := ob_t h c_21
        exact G_sub _ [0, 1, 2, 3, 4] rfl (t_Shore_placesSeeing_27 ih S l1 l2 l3 l4 _ h)
      · replace h := ob_f h c_21
        obtain ⟨l3_24, e_24, h⟩ := ob_s h
        refine G_iinc 1 3 [(3, .int l3_24), (0, .ref 54), (1, .int l1), (2, .int l2), (4, .int l4)] (by decide) rfl e_24 rfl (by decide) d_Shore_placesSeeing_24 ?_
        exact G_sub _ [1, 2, 3, 0, 4] rfl (t_Shore_placesSeeing_27 ih S l1 l2 l3_24 l4 _ h)
def f_Shore_placesSeeing (S : St) (l1 : Int32) (l2 : Int32) : Option (Int32) :=
    (some (0 : Int32)).bind fun l3_1 =>
    (some (0 : Int32)).bind fun l4_3 =>
    f_Shore_placesSeeing_5 FU S l1 l2 l3_1 l4_3
set_option maxHeartbeats 4000000 in
set_option maxRecDepth 20000 in
theorem t_Shore_placesSeeing  {S : St} {l1 : Int32} {l2 : Int32} {w : Int32} (h : f_Shore_placesSeeing S l1 l2 = some w) : Ct SX m_Shore_placesSeeing 4 [.ref 54, .int l1, .int l2] S (some w) S := by
  unfold f_Shore_placesSeeing at h
  refine Ct.of pn_Shore (Nat.le_of_ble_eq_true rfl) ?_
  show G SX m_Shore_placesSeeing 4 (some w) S 0 [(0, .ref 54), (1, .int l1), (2, .int l2)] [] S
  refine G_iconst 0 (by decide) d_Shore_placesSeeing_0 ?_
  obtain ⟨l3_1, e_1, h⟩ := ob_s h
  refine G_istore_n [(3, .int l3_1), (0, .ref 54), (1, .int l1), (2, .int l2)] e_1 rfl (by decide) d_Shore_placesSeeing_1 ?_
  refine G_iconst 0 (by decide) d_Shore_placesSeeing_2 ?_
  obtain ⟨l4_3, e_3, h⟩ := ob_s h
  refine G_istore [(4, .int l4_3), (3, .int l3_1), (0, .ref 54), (1, .int l1), (2, .int l2)] e_3 rfl (by decide) d_Shore_placesSeeing_3 ?_
  exact G_sub _ [2, 3, 4, 1, 0] rfl (t_Shore_placesSeeing_5 FU S l1 l2 l3_1 l4_3 _ h)
theorem d_Shore_longestRow_0 : decode m_Shore_longestRow.2.1 0 = .ok (.iconst 0, 1) := by decide +kernel
theorem d_Shore_longestRow_1 : decode m_Shore_longestRow.2.1 1 = .ok (.istore_n 3, 1) := by decide +kernel
theorem d_Shore_longestRow_2 : decode m_Shore_longestRow.2.1 2 = .ok (.iconst 0, 1) := by decide +kernel
theorem d_Shore_longestRow_3 : decode m_Shore_longestRow.2.1 3 = .ok (.istore 4, 2) := by decide +kernel
theorem d_Shore_longestRow_5 : decode m_Shore_longestRow.2.1 5 = .ok (.iconst 0, 1) := by decide +kernel
theorem d_Shore_longestRow_6 : decode m_Shore_longestRow.2.1 6 = .ok (.istore 5, 2) := by decide +kernel
theorem d_Shore_longestRow_8 : decode m_Shore_longestRow.2.1 8 = .ok (.iload 5, 2) := by decide +kernel
theorem d_Shore_longestRow_10 : decode m_Shore_longestRow.2.1 10 = .ok (.sipush 256, 3) := by decide +kernel
theorem d_Shore_longestRow_13 : decode m_Shore_longestRow.2.1 13 = .ok (.if_icmp .ge 37, 3) := by decide +kernel
theorem d_Shore_longestRow_16 : decode m_Shore_longestRow.2.1 16 = .ok (.aload_n 0, 1) := by decide +kernel
theorem d_Shore_longestRow_17 : decode m_Shore_longestRow.2.1 17 = .ok (.iload 5, 2) := by decide +kernel
theorem d_Shore_longestRow_19 : decode m_Shore_longestRow.2.1 19 = .ok (.iload_n 1, 1) := by decide +kernel
theorem d_Shore_longestRow_20 : decode m_Shore_longestRow.2.1 20 = .ok (.iload_n 2, 1) := by decide +kernel
theorem d_Shore_longestRow_21 : decode m_Shore_longestRow.2.1 21 = .ok (.invokevirtual 32, 3) := by decide +kernel
theorem d_Shore_longestRow_24 : decode m_Shore_longestRow.2.1 24 = .ok (.ifCond .eq 10, 3) := by decide +kernel
theorem d_Shore_longestRow_27 : decode m_Shore_longestRow.2.1 27 = .ok (.iload 4, 2) := by decide +kernel
theorem d_Shore_longestRow_29 : decode m_Shore_longestRow.2.1 29 = .ok (.iconst 1, 1) := by decide +kernel
theorem d_Shore_longestRow_30 : decode m_Shore_longestRow.2.1 30 = .ok (.iadd, 1) := by decide +kernel
theorem d_Shore_longestRow_31 : decode m_Shore_longestRow.2.1 31 = .ok (.goto 4, 3) := by decide +kernel
theorem d_Shore_longestRow_34 : decode m_Shore_longestRow.2.1 34 = .ok (.iconst 0, 1) := by decide +kernel
theorem d_Shore_longestRow_35 : decode m_Shore_longestRow.2.1 35 = .ok (.istore 4, 2) := by decide +kernel
theorem d_Shore_longestRow_37 : decode m_Shore_longestRow.2.1 37 = .ok (.iload_n 3, 1) := by decide +kernel
theorem d_Shore_longestRow_38 : decode m_Shore_longestRow.2.1 38 = .ok (.iload 4, 2) := by decide +kernel
theorem d_Shore_longestRow_40 : decode m_Shore_longestRow.2.1 40 = .ok (.invokestatic 36, 3) := by decide +kernel
theorem d_Shore_longestRow_43 : decode m_Shore_longestRow.2.1 43 = .ok (.istore_n 3, 1) := by decide +kernel
theorem d_Shore_longestRow_44 : decode m_Shore_longestRow.2.1 44 = .ok (.iinc 5 1, 3) := by decide +kernel
theorem d_Shore_longestRow_47 : decode m_Shore_longestRow.2.1 47 = .ok (.goto (-39), 3) := by decide +kernel
theorem d_Shore_longestRow_50 : decode m_Shore_longestRow.2.1 50 = .ok (.iload_n 3, 1) := by decide +kernel
theorem d_Shore_longestRow_51 : decode m_Shore_longestRow.2.1 51 = .ok (.ireturn, 1) := by decide +kernel
def f_Shore_longestRow_35 (k_8 : St → Int32 → Int32 → Int32 → Int32 → Int32 → Option (Int32)) (S : St) (l1 : Int32) (l2 : Int32) (l3 : Int32) (l5 : Int32) (s0 : Int32) : Option (Int32) :=
    (some (jmax l3 s0)).bind fun l3_43 =>
    (some (l5 + 1)).bind fun l5_44 =>
    k_8 S l1 l2 l3_43 s0 l5_44
set_option maxHeartbeats 4000000 in
set_option maxRecDepth 20000 in
theorem t_Shore_longestRow_35  {k_8 : St → Int32 → Int32 → Int32 → Int32 → Int32 → Option (Int32)} (hk_8 : ∀ (S : St) (l1 : Int32) (l2 : Int32) (l3 : Int32) (l4 : Int32) (l5 : Int32) (w : Int32), k_8 S l1 l2 l3 l4 l5 = some w → G SX m_Shore_longestRow 4 (some w) S 8 [(0, .ref 54), (1, .int l1), (2, .int l2), (3, .int l3), (4, .int l4), (5, .int l5)] [] S) (S : St) (l1 : Int32) (l2 : Int32) (l3 : Int32) (l5 : Int32) (s0 : Int32) (w : Int32) (h : f_Shore_longestRow_35 k_8 S l1 l2 l3 l5 s0 = some w) : G SX m_Shore_longestRow 4 (some w) S 35 [(0, .ref 54), (1, .int l1), (2, .int l2), (3, .int l3), (5, .int l5)] [.int s0] S := by
  unfold f_Shore_longestRow_35 at h
  refine G_istore [(4, .int s0), (0, .ref 54), (1, .int l1), (2, .int l2), (3, .int l3), (5, .int l5)] rfl rfl (by decide) d_Shore_longestRow_35 ?_
  refine G_iload_n 4 rfl d_Shore_longestRow_37 ?_
  refine G_iload 0 rfl d_Shore_longestRow_38 ?_
  refine G_mmax ms_Shore_36 (by decide) (Nat.le_of_ble_eq_true rfl) d_Shore_longestRow_40 ?_
  obtain ⟨l3_43, e_43, h⟩ := ob_s h
  refine G_istore_n [(3, .int l3_43), (4, .int s0), (0, .ref 54), (1, .int l1), (2, .int l2), (5, .int l5)] e_43 rfl (by decide) d_Shore_longestRow_43 ?_
  obtain ⟨l5_44, e_44, h⟩ := ob_s h
  refine G_iinc 1 5 [(5, .int l5_44), (3, .int l3_43), (4, .int s0), (0, .ref 54), (1, .int l1), (2, .int l2)] (by decide) rfl e_44 rfl (by decide) d_Shore_longestRow_44 ?_
  refine G_goto 8 (by decide) d_Shore_longestRow_47 ?_
  exact G_sub _ [3, 4, 5, 1, 2, 0] rfl (hk_8 S l1 l2 l3_43 s0 l5_44 _ h)
def f_Shore_longestRow_8 : Nat → St → Int32 → Int32 → Int32 → Int32 → Int32 → Option (Int32)
  | 0, _, _, _, _, _, _ => none
  | n + 1, S, l1, l2, l3, l4, l5 =>
    if (256 : Int32) ≤ l5 then (
    some l3)
    else (
    (f_Shore_sees S l5 l1 l2).bind fun v_21 =>
    if v_21 = 0 then (
    f_Shore_longestRow_35 (f_Shore_longestRow_8 n) S l1 l2 l3 l5 (0 : Int32))
    else (
    f_Shore_longestRow_35 (f_Shore_longestRow_8 n) S l1 l2 l3 l5 (l4 + 1)))
set_option maxHeartbeats 4000000 in
set_option maxRecDepth 20000 in
theorem t_Shore_longestRow_8  : ∀ (n : Nat) (S : St) (l1 : Int32) (l2 : Int32) (l3 : Int32) (l4 : Int32) (l5 : Int32) (w : Int32), f_Shore_longestRow_8 n S l1 l2 l3 l4 l5 = some w → G SX m_Shore_longestRow 4 (some w) S 8 [(0, .ref 54), (1, .int l1), (2, .int l2), (3, .int l3), (4, .int l4), (5, .int l5)] [] S := by
  intro n
  induction n with
  | zero =>
    intro S l1 l2 l3 l4 l5 w h
    rw [f_Shore_longestRow_8] at h
    cases h
  | succ n ih =>
    intro S l1 l2 l3 l4 l5 w h
    rw [f_Shore_longestRow_8] at h
    refine G_iload 5 rfl d_Shore_longestRow_8 ?_
    refine G_sipush 256 (by decide) d_Shore_longestRow_10 ?_
    refine G_icmp_ge 50 (by decide) d_Shore_longestRow_13 (fun c_13 => ?_) (fun c_13 => ?_)
    · replace h := ob_t h c_13
      refine G_iload_n 3 rfl d_Shore_longestRow_50 ?_
      cases h
      exact G_iret rfl d_Shore_longestRow_51
    · replace h := ob_f h c_13
      refine G_aload_n 0 rfl d_Shore_longestRow_16 ?_
      refine G_iload 5 rfl d_Shore_longestRow_17 ?_
      refine G_iload_n 1 rfl d_Shore_longestRow_19 ?_
      refine G_iload_n 2 rfl d_Shore_longestRow_20 ?_
      obtain ⟨v_21, q_21, h⟩ := ob_b h
      refine G_callV [.int l5, .int l1, .int l2] [] (t_Shore_sees q_21) (by decide) (by decide) mv_Shore_sees rfl ml_Shore_32 kx_54 sx_54 cl_7 rfl (Nat.le_of_ble_eq_true rfl) d_Shore_longestRow_21 ?_
      refine G_if_eq 34 (by decide) d_Shore_longestRow_24 (fun c_24 => ?_) (fun c_24 => ?_)
      · replace h := ob_t h c_24
        refine G_iconst 0 (by decide) d_Shore_longestRow_34 ?_
        exact G_sub _ [0, 1, 2, 3, 5] rfl (t_Shore_longestRow_35 ih S l1 l2 l3 l5 (0 : Int32) _ h)
      · replace h := ob_f h c_24
        refine G_iload 4 rfl d_Shore_longestRow_27 ?_
        refine G_iconst 1 (by decide) d_Shore_longestRow_29 ?_
        refine G_iadd d_Shore_longestRow_30 ?_
        refine G_goto 35 (by decide) d_Shore_longestRow_31 ?_
        exact G_sub _ [0, 1, 2, 3, 5] rfl (t_Shore_longestRow_35 ih S l1 l2 l3 l5 (l4 + 1) _ h)
def f_Shore_longestRow (S : St) (l1 : Int32) (l2 : Int32) : Option (Int32) :=
    (some (0 : Int32)).bind fun l3_1 =>
    (some (0 : Int32)).bind fun l4_3 =>
    (some (0 : Int32)).bind fun l5_6 =>
    f_Shore_longestRow_8 FU S l1 l2 l3_1 l4_3 l5_6
set_option maxHeartbeats 4000000 in
set_option maxRecDepth 20000 in
theorem t_Shore_longestRow  {S : St} {l1 : Int32} {l2 : Int32} {w : Int32} (h : f_Shore_longestRow S l1 l2 = some w) : Ct SX m_Shore_longestRow 4 [.ref 54, .int l1, .int l2] S (some w) S := by
  unfold f_Shore_longestRow at h
  refine Ct.of pn_Shore (Nat.le_of_ble_eq_true rfl) ?_
  show G SX m_Shore_longestRow 4 (some w) S 0 [(0, .ref 54), (1, .int l1), (2, .int l2)] [] S
  refine G_iconst 0 (by decide) d_Shore_longestRow_0 ?_
  obtain ⟨l3_1, e_1, h⟩ := ob_s h
  refine G_istore_n [(3, .int l3_1), (0, .ref 54), (1, .int l1), (2, .int l2)] e_1 rfl (by decide) d_Shore_longestRow_1 ?_
  refine G_iconst 0 (by decide) d_Shore_longestRow_2 ?_
  obtain ⟨l4_3, e_3, h⟩ := ob_s h
  refine G_istore [(4, .int l4_3), (3, .int l3_1), (0, .ref 54), (1, .int l1), (2, .int l2)] e_3 rfl (by decide) d_Shore_longestRow_3 ?_
  refine G_iconst 0 (by decide) d_Shore_longestRow_5 ?_
  obtain ⟨l5_6, e_6, h⟩ := ob_s h
  refine G_istore [(5, .int l5_6), (4, .int l4_3), (3, .int l3_1), (0, .ref 54), (1, .int l1), (2, .int l2)] e_6 rfl (by decide) d_Shore_longestRow_6 ?_
  exact G_sub _ [3, 4, 5, 2, 1, 0] rfl (t_Shore_longestRow_8 FU S l1 l2 l3_1 l4_3 l5_6 _ h)
theorem d_Shore_fillView_0 : decode m_Shore_fillView.2.1 0 = .ok (.aload_n 0, 1) := by decide +kernel
theorem d_Shore_fillView_1 : decode m_Shore_fillView.2.1 1 = .ok (.getfield 9, 3) := by decide +kernel
theorem d_Shore_fillView_4 : decode m_Shore_fillView.2.1 4 = .ok (.lconst 0, 1) := by decide +kernel
theorem d_Shore_fillView_5 : decode m_Shore_fillView.2.1 5 = .ok (.invokestatic 57, 3) := by decide +kernel
theorem d_Shore_fillView_8 : decode m_Shore_fillView.2.1 8 = .ok (.iconst 0, 1) := by decide +kernel
theorem d_Shore_fillView_9 : decode m_Shore_fillView.2.1 9 = .ok (.istore_n 2, 1) := by decide +kernel
theorem d_Shore_fillView_10 : decode m_Shore_fillView.2.1 10 = .ok (.iload_n 2, 1) := by decide +kernel
theorem d_Shore_fillView_11 : decode m_Shore_fillView.2.1 11 = .ok (.iload_n 1, 1) := by decide +kernel
theorem d_Shore_fillView_12 : decode m_Shore_fillView.2.1 12 = .ok (.if_icmp .ge 61, 3) := by decide +kernel
theorem d_Shore_fillView_15 : decode m_Shore_fillView.2.1 15 = .ok (.iload_n 2, 1) := by decide +kernel
theorem d_Shore_fillView_16 : decode m_Shore_fillView.2.1 16 = .ok (.bipush 12, 2) := by decide +kernel
theorem d_Shore_fillView_18 : decode m_Shore_fillView.2.1 18 = .ok (.if_icmp .ge 55, 3) := by decide +kernel
theorem d_Shore_fillView_21 : decode m_Shore_fillView.2.1 21 = .ok (.iconst 0, 1) := by decide +kernel
theorem d_Shore_fillView_22 : decode m_Shore_fillView.2.1 22 = .ok (.istore_n 3, 1) := by decide +kernel
theorem d_Shore_fillView_23 : decode m_Shore_fillView.2.1 23 = .ok (.iload_n 3, 1) := by decide +kernel
theorem d_Shore_fillView_24 : decode m_Shore_fillView.2.1 24 = .ok (.sipush 256, 3) := by decide +kernel
theorem d_Shore_fillView_27 : decode m_Shore_fillView.2.1 27 = .ok (.if_icmp .ge 40, 3) := by decide +kernel
theorem d_Shore_fillView_30 : decode m_Shore_fillView.2.1 30 = .ok (.aload_n 0, 1) := by decide +kernel
theorem d_Shore_fillView_31 : decode m_Shore_fillView.2.1 31 = .ok (.iload_n 2, 1) := by decide +kernel
theorem d_Shore_fillView_32 : decode m_Shore_fillView.2.1 32 = .ok (.iload_n 3, 1) := by decide +kernel
theorem d_Shore_fillView_33 : decode m_Shore_fillView.2.1 33 = .ok (.invokevirtual 28, 3) := by decide +kernel
theorem d_Shore_fillView_36 : decode m_Shore_fillView.2.1 36 = .ok (.ifCond .eq 25, 3) := by decide +kernel
theorem d_Shore_fillView_39 : decode m_Shore_fillView.2.1 39 = .ok (.aload_n 0, 1) := by decide +kernel
theorem d_Shore_fillView_40 : decode m_Shore_fillView.2.1 40 = .ok (.getfield 9, 3) := by decide +kernel
theorem d_Shore_fillView_43 : decode m_Shore_fillView.2.1 43 = .ok (.iload_n 2, 1) := by decide +kernel
theorem d_Shore_fillView_44 : decode m_Shore_fillView.2.1 44 = .ok (.iconst 4, 1) := by decide +kernel
theorem d_Shore_fillView_45 : decode m_Shore_fillView.2.1 45 = .ok (.imul, 1) := by decide +kernel
theorem d_Shore_fillView_46 : decode m_Shore_fillView.2.1 46 = .ok (.iload_n 3, 1) := by decide +kernel
theorem d_Shore_fillView_47 : decode m_Shore_fillView.2.1 47 = .ok (.bipush 64, 2) := by decide +kernel
theorem d_Shore_fillView_49 : decode m_Shore_fillView.2.1 49 = .ok (.idiv, 1) := by decide +kernel
theorem d_Shore_fillView_50 : decode m_Shore_fillView.2.1 50 = .ok (.iadd, 1) := by decide +kernel
theorem d_Shore_fillView_51 : decode m_Shore_fillView.2.1 51 = .ok (.dup2, 1) := by decide +kernel
theorem d_Shore_fillView_52 : decode m_Shore_fillView.2.1 52 = .ok (.laload, 1) := by decide +kernel
theorem d_Shore_fillView_53 : decode m_Shore_fillView.2.1 53 = .ok (.lconst 1, 1) := by decide +kernel
theorem d_Shore_fillView_54 : decode m_Shore_fillView.2.1 54 = .ok (.iload_n 3, 1) := by decide +kernel
theorem d_Shore_fillView_55 : decode m_Shore_fillView.2.1 55 = .ok (.bipush 64, 2) := by decide +kernel
theorem d_Shore_fillView_57 : decode m_Shore_fillView.2.1 57 = .ok (.irem, 1) := by decide +kernel
theorem d_Shore_fillView_58 : decode m_Shore_fillView.2.1 58 = .ok (.lshl, 1) := by decide +kernel
theorem d_Shore_fillView_59 : decode m_Shore_fillView.2.1 59 = .ok (.lor, 1) := by decide +kernel
theorem d_Shore_fillView_60 : decode m_Shore_fillView.2.1 60 = .ok (.lastore, 1) := by decide +kernel
theorem d_Shore_fillView_61 : decode m_Shore_fillView.2.1 61 = .ok (.iinc 3 1, 3) := by decide +kernel
theorem d_Shore_fillView_64 : decode m_Shore_fillView.2.1 64 = .ok (.goto (-41), 3) := by decide +kernel
theorem d_Shore_fillView_67 : decode m_Shore_fillView.2.1 67 = .ok (.iinc 2 1, 3) := by decide +kernel
theorem d_Shore_fillView_70 : decode m_Shore_fillView.2.1 70 = .ok (.goto (-60), 3) := by decide +kernel
theorem d_Shore_fillView_73 : decode m_Shore_fillView.2.1 73 = .ok (.return_, 1) := by decide +kernel
def f_Shore_fillView_61 (k_10 : St → Int32 → Int32 → Option (St)) (k_23 : St → Int32 → Int32 → Int32 → Option (St)) (S : St) (l1 : Int32) (l2 : Int32) (l3 : Int32) : Option (St) :=
    (some (l3 + 1)).bind fun l3_61 =>
    k_23 S l1 l2 l3_61
set_option maxHeartbeats 4000000 in
set_option maxRecDepth 20000 in
theorem t_Shore_fillView_61  {k_10 : St → Int32 → Int32 → Option (St)} {k_23 : St → Int32 → Int32 → Int32 → Option (St)} (hk_10 : ∀ (S : St) (l1 : Int32) (l2 : Int32) (w : St), k_10 S l1 l2 = some w → G SX m_Shore_fillView 3 none w 10 [(0, .ref 54), (1, .int l1), (2, .int l2)] [] S) (hk_23 : ∀ (S : St) (l1 : Int32) (l2 : Int32) (l3 : Int32) (w : St), k_23 S l1 l2 l3 = some w → G SX m_Shore_fillView 3 none w 23 [(0, .ref 54), (1, .int l1), (2, .int l2), (3, .int l3)] [] S) (S : St) (l1 : Int32) (l2 : Int32) (l3 : Int32) (w : St) (h : f_Shore_fillView_61 k_10 k_23 S l1 l2 l3 = some w) : G SX m_Shore_fillView 3 none w 61 [(0, .ref 54), (1, .int l1), (2, .int l2), (3, .int l3)] [] S := by
  unfold f_Shore_fillView_61 at h
  obtain ⟨l3_61, e_61, h⟩ := ob_s h
  refine G_iinc 1 3 [(3, .int l3_61), (0, .ref 54), (1, .int l1), (2, .int l2)] (by decide) rfl e_61 rfl (by decide) d_Shore_fillView_61 ?_
  refine G_goto 23 (by decide) d_Shore_fillView_64 ?_
  exact G_sub _ [1, 2, 3, 0] rfl (hk_23 S l1 l2 l3_61 _ h)
def f_Shore_fillView_23 (k_10 : St → Int32 → Int32 → Option (St)) : Nat → St → Int32 → Int32 → Int32 → Option (St)
  | 0, _, _, _, _ => none
  | n + 1, S, l1, l2, l3 =>
    if (256 : Int32) ≤ l3 then (
    (some (l2 + 1)).bind fun l2_67 =>
    k_10 S l1 l2_67)
    else (
    (f_Shore_isSeen S l2 l3).bind fun v_33 =>
    if v_33 = 0 then (
    f_Shore_fillView_61 k_10 (f_Shore_fillView_23 k_10 n) S l1 l2 l3)
    else (
    if ig ((l2 * 4) + (l3 / 64)) 48 then (
    if ig ((l2 * 4) + (l3 / 64)) 48 then (
    (some (sL S 55 ((l2 * 4) + (l3 / 64)).toNatClampNeg ((lrow (S 55) ((l2 * 4) + (l3 / 64)).toNatClampNeg) ||| (lshl 1 (jrem l3 64))))).bind fun S_60 =>
    f_Shore_fillView_61 k_10 (f_Shore_fillView_23 k_10 n) S_60 l1 l2 l3) else none) else none))
set_option maxHeartbeats 4000000 in
set_option maxRecDepth 20000 in
theorem t_Shore_fillView_23  {k_10 : St → Int32 → Int32 → Option (St)} (hk_10 : ∀ (S : St) (l1 : Int32) (l2 : Int32) (w : St), k_10 S l1 l2 = some w → G SX m_Shore_fillView 3 none w 10 [(0, .ref 54), (1, .int l1), (2, .int l2)] [] S) : ∀ (n : Nat) (S : St) (l1 : Int32) (l2 : Int32) (l3 : Int32) (w : St), f_Shore_fillView_23 k_10 n S l1 l2 l3 = some w → G SX m_Shore_fillView 3 none w 23 [(0, .ref 54), (1, .int l1), (2, .int l2), (3, .int l3)] [] S := by
  intro n
  induction n with
  | zero =>
    intro S l1 l2 l3 w h
    rw [f_Shore_fillView_23] at h
    cases h
  | succ n ih =>
    intro S l1 l2 l3 w h
    rw [f_Shore_fillView_23] at h
    refine G_iload_n 3 rfl d_Shore_fillView_23 ?_
    refine G_sipush 256 (by decide) d_Shore_fillView_24 ?_
    refine G_icmp_ge 67 (by decide) d_Shore_fillView_27 (fun c_27 => ?_) (fun c_27 => ?_)
    · replace h := ob_t h c_27
      obtain ⟨l2_67, e_67, h⟩ := ob_s h
      refine G_iinc 1 2 [(2, .int l2_67), (0, .ref 54), (1, .int l1), (3, .int l3)] (by decide) rfl e_67 rfl (by decide) d_Shore_fillView_67 ?_
      refine G_goto 10 (by decide) d_Shore_fillView_70 ?_
      exact G_sub _ [1, 2, 0] rfl (hk_10 S l1 l2_67 _ h)
    · replace h := ob_f h c_27
      refine G_aload_n 0 rfl d_Shore_fillView_30 ?_
      refine G_iload_n 2 rfl d_Shore_fillView_31 ?_
      refine G_iload_n 3 rfl d_Shore_fillView_32 ?_
      obtain ⟨v_33, q_33, h⟩ := ob_b h
      refine G_callV [.int l2, .int l3] [] (t_Shore_isSeen q_33) (by decide) (by decide) mv_Shore_isSeen rfl ml_Shore_28 kx_54 sx_54 cl_7 rfl (Nat.le_of_ble_eq_true rfl) d_Shore_fillView_33 ?_
      refine G_if_eq 61 (by decide) d_Shore_fillView_36 (fun c_36 => ?_) (fun c_36 => ?_)
      · replace h := ob_t h c_36
        exact G_sub _ [0, 1, 2, 3] rfl (t_Shore_fillView_61 hk_10 ih S l1 l2 l3 _ h)
      · replace h := ob_f h c_36
        refine G_aload_n 0 rfl d_Shore_fillView_39 ?_
        refine G_getR fl_Shore_9 kx_54 sx_54 rfl (by decide) d_Shore_fillView_40 ?_
        refine G_iload_n 2 rfl d_Shore_fillView_43 ?_
        refine G_iconst 4 (by decide) d_Shore_fillView_44 ?_
        refine G_imul d_Shore_fillView_45 ?_
        refine G_iload_n 3 rfl d_Shore_fillView_46 ?_
        refine G_bipush 64 (by decide) d_Shore_fillView_47 ?_
        refine G_idiv (by decide) d_Shore_fillView_49 ?_
        refine G_iadd d_Shore_fillView_50 ?_
        refine G_dup2 rfl rfl d_Shore_fillView_51 ?_
        obtain ⟨g_52, h⟩ := ob_g h
        refine G_laload kx_55 sx_55 g_52 d_Shore_fillView_52 ?_
        refine G_lconst 1 (by decide) d_Shore_fillView_53 ?_
        refine G_iload_n 3 rfl d_Shore_fillView_54 ?_
        refine G_bipush 64 (by decide) d_Shore_fillView_55 ?_
        refine G_irem (by decide) d_Shore_fillView_57 ?_
        refine G_lshl d_Shore_fillView_58 ?_
        refine G_lor d_Shore_fillView_59 ?_
        obtain ⟨g_60, h⟩ := ob_g h
        obtain ⟨S_60, e_60, h⟩ := ob_s h
        refine G_lastore e_60 kx_55 sx_55 g_60 d_Shore_fillView_60 ?_
        exact G_sub _ [0, 1, 2, 3] rfl (t_Shore_fillView_61 hk_10 ih S_60 l1 l2 l3 _ h)
def f_Shore_fillView_10 : Nat → St → Int32 → Int32 → Option (St)
  | 0, _, _, _ => none
  | n + 1, S, l1, l2 =>
    if l1 ≤ l2 then (
    some S)
    else (
    if (12 : Int32) ≤ l2 then (
    some S)
    else (
    (some (0 : Int32)).bind fun l3_22 =>
    f_Shore_fillView_23 (f_Shore_fillView_10 n) FU S l1 l2 l3_22))
set_option maxHeartbeats 4000000 in
set_option maxRecDepth 20000 in
theorem t_Shore_fillView_10  : ∀ (n : Nat) (S : St) (l1 : Int32) (l2 : Int32) (w : St), f_Shore_fillView_10 n S l1 l2 = some w → G SX m_Shore_fillView 3 none w 10 [(0, .ref 54), (1, .int l1), (2, .int l2)] [] S := by
  intro n
  induction n with
  | zero =>
    intro S l1 l2 w h
    rw [f_Shore_fillView_10] at h
    cases h
  | succ n ih =>
    intro S l1 l2 w h
    rw [f_Shore_fillView_10] at h
    refine G_iload_n 2 rfl d_Shore_fillView_10 ?_
    refine G_iload_n 1 rfl d_Shore_fillView_11 ?_
    refine G_icmp_ge 73 (by decide) d_Shore_fillView_12 (fun c_12 => ?_) (fun c_12 => ?_)
    · replace h := ob_t h c_12
      cases h
      exact G_vret rfl d_Shore_fillView_73
    · replace h := ob_f h c_12
      refine G_iload_n 2 rfl d_Shore_fillView_15 ?_
      refine G_bipush 12 (by decide) d_Shore_fillView_16 ?_
      refine G_icmp_ge 73 (by decide) d_Shore_fillView_18 (fun c_18 => ?_) (fun c_18 => ?_)
      · replace h := ob_t h c_18
        cases h
        exact G_vret rfl d_Shore_fillView_73
      · replace h := ob_f h c_18
        refine G_iconst 0 (by decide) d_Shore_fillView_21 ?_
        obtain ⟨l3_22, e_22, h⟩ := ob_s h
        refine G_istore_n [(3, .int l3_22), (0, .ref 54), (1, .int l1), (2, .int l2)] e_22 rfl (by decide) d_Shore_fillView_22 ?_
        exact G_sub _ [1, 2, 3, 0] rfl (t_Shore_fillView_23 ih FU S l1 l2 l3_22 _ h)
def f_Shore_fillView (S : St) (l1 : Int32) : Option (St) :=
    (f_JA_fillJ S (0 : Int64)).bind fun w_5 =>
    (some (0 : Int32)).bind fun l2_9 =>
    f_Shore_fillView_10 FU w_5 l1 l2_9
set_option maxHeartbeats 4000000 in
set_option maxRecDepth 20000 in
theorem t_Shore_fillView  {S : St} {l1 : Int32} {w : St} (h : f_Shore_fillView S l1 = some w) : Ct SX m_Shore_fillView 3 [.ref 54, .int l1] S none w := by
  unfold f_Shore_fillView at h
  refine Ct.of pn_Shore (Nat.le_of_ble_eq_true rfl) ?_
  show G SX m_Shore_fillView 3 none w 0 [(0, .ref 54), (1, .int l1)] [] S
  refine G_aload_n 0 rfl d_Shore_fillView_0 ?_
  refine G_getR fl_Shore_9 kx_54 sx_54 rfl (by decide) d_Shore_fillView_1 ?_
  refine G_lconst 0 (by decide) d_Shore_fillView_4 ?_
  obtain ⟨w_5, q_5, h⟩ := ob_b h
  refine G_callS [.ref 55, .long 0] [] (t_JA_fillJ q_5) (by decide) (by decide) mt_JA_fillJ rfl ml_Shore_57 rfl (Nat.le_of_ble_eq_true rfl) d_Shore_fillView_5 ?_
  refine G_iconst 0 (by decide) d_Shore_fillView_8 ?_
  obtain ⟨l2_9, e_9, h⟩ := ob_s h
  refine G_istore_n [(2, .int l2_9), (0, .ref 54), (1, .int l1)] e_9 rfl (by decide) d_Shore_fillView_9 ?_
  exact G_sub _ [1, 2, 0] rfl (t_Shore_fillView_10 FU w_5 l1 l2_9 _ h)
theorem d_Shore_placesOf_0 : decode m_Shore_placesOf.2.1 0 = .ok (.iconst 0, 1) := by decide +kernel
theorem d_Shore_placesOf_1 : decode m_Shore_placesOf.2.1 1 = .ok (.istore_n 3, 1) := by decide +kernel
theorem d_Shore_placesOf_2 : decode m_Shore_placesOf.2.1 2 = .ok (.iconst 0, 1) := by decide +kernel
theorem d_Shore_placesOf_3 : decode m_Shore_placesOf.2.1 3 = .ok (.istore 4, 2) := by decide +kernel
theorem d_Shore_placesOf_5 : decode m_Shore_placesOf.2.1 5 = .ok (.iload 4, 2) := by decide +kernel
theorem d_Shore_placesOf_7 : decode m_Shore_placesOf.2.1 7 = .ok (.iconst 4, 1) := by decide +kernel
theorem d_Shore_placesOf_8 : decode m_Shore_placesOf.2.1 8 = .ok (.if_icmp .ge 68, 3) := by decide +kernel
theorem d_Shore_placesOf_11 : decode m_Shore_placesOf.2.1 11 = .ok (.lconst 0, 1) := by decide +kernel
theorem d_Shore_placesOf_12 : decode m_Shore_placesOf.2.1 12 = .ok (.lstore 5, 2) := by decide +kernel
theorem d_Shore_placesOf_14 : decode m_Shore_placesOf.2.1 14 = .ok (.iconst 0, 1) := by decide +kernel
theorem d_Shore_placesOf_15 : decode m_Shore_placesOf.2.1 15 = .ok (.istore 7, 2) := by decide +kernel
theorem d_Shore_placesOf_17 : decode m_Shore_placesOf.2.1 17 = .ok (.iload 7, 2) := by decide +kernel
theorem d_Shore_placesOf_19 : decode m_Shore_placesOf.2.1 19 = .ok (.iload_n 2, 1) := by decide +kernel
theorem d_Shore_placesOf_20 : decode m_Shore_placesOf.2.1 20 = .ok (.if_icmp .ge 42, 3) := by decide +kernel
theorem d_Shore_placesOf_23 : decode m_Shore_placesOf.2.1 23 = .ok (.iload 7, 2) := by decide +kernel
theorem d_Shore_placesOf_25 : decode m_Shore_placesOf.2.1 25 = .ok (.bipush 12, 2) := by decide +kernel
theorem d_Shore_placesOf_27 : decode m_Shore_placesOf.2.1 27 = .ok (.if_icmp .ge 35, 3) := by decide +kernel
theorem d_Shore_placesOf_30 : decode m_Shore_placesOf.2.1 30 = .ok (.iload_n 1, 1) := by decide +kernel
theorem d_Shore_placesOf_31 : decode m_Shore_placesOf.2.1 31 = .ok (.iload 7, 2) := by decide +kernel
theorem d_Shore_placesOf_33 : decode m_Shore_placesOf.2.1 33 = .ok (.iushr, 1) := by decide +kernel
theorem d_Shore_placesOf_34 : decode m_Shore_placesOf.2.1 34 = .ok (.iconst 1, 1) := by decide +kernel
theorem d_Shore_placesOf_35 : decode m_Shore_placesOf.2.1 35 = .ok (.iand, 1) := by decide +kernel
theorem d_Shore_placesOf_36 : decode m_Shore_placesOf.2.1 36 = .ok (.ifCond .eq 20, 3) := by decide +kernel
theorem d_Shore_placesOf_39 : decode m_Shore_placesOf.2.1 39 = .ok (.lload 5, 2) := by decide +kernel
theorem d_Shore_placesOf_41 : decode m_Shore_placesOf.2.1 41 = .ok (.aload_n 0, 1) := by decide +kernel
theorem d_Shore_placesOf_42 : decode m_Shore_placesOf.2.1 42 = .ok (.getfield 9, 3) := by decide +kernel
theorem d_Shore_placesOf_45 : decode m_Shore_placesOf.2.1 45 = .ok (.iload 7, 2) := by decide +kernel
theorem d_Shore_placesOf_47 : decode m_Shore_placesOf.2.1 47 = .ok (.iconst 4, 1) := by decide +kernel
theorem d_Shore_placesOf_48 : decode m_Shore_placesOf.2.1 48 = .ok (.imul, 1) := by decide +kernel
theorem d_Shore_placesOf_49 : decode m_Shore_placesOf.2.1 49 = .ok (.iload 4, 2) := by decide +kernel
theorem d_Shore_placesOf_51 : decode m_Shore_placesOf.2.1 51 = .ok (.iadd, 1) := by decide +kernel
theorem d_Shore_placesOf_52 : decode m_Shore_placesOf.2.1 52 = .ok (.laload, 1) := by decide +kernel
theorem d_Shore_placesOf_53 : decode m_Shore_placesOf.2.1 53 = .ok (.lor, 1) := by decide +kernel
theorem d_Shore_placesOf_54 : decode m_Shore_placesOf.2.1 54 = .ok (.lstore 5, 2) := by decide +kernel
theorem d_Shore_placesOf_56 : decode m_Shore_placesOf.2.1 56 = .ok (.iinc 7 1, 3) := by decide +kernel
theorem d_Shore_placesOf_59 : decode m_Shore_placesOf.2.1 59 = .ok (.goto (-42), 3) := by decide +kernel
theorem d_Shore_placesOf_62 : decode m_Shore_placesOf.2.1 62 = .ok (.iload_n 3, 1) := by decide +kernel
theorem d_Shore_placesOf_63 : decode m_Shore_placesOf.2.1 63 = .ok (.lload 5, 2) := by decide +kernel
theorem d_Shore_placesOf_65 : decode m_Shore_placesOf.2.1 65 = .ok (.invokestatic 52, 3) := by decide +kernel
theorem d_Shore_placesOf_68 : decode m_Shore_placesOf.2.1 68 = .ok (.iadd, 1) := by decide +kernel
theorem d_Shore_placesOf_69 : decode m_Shore_placesOf.2.1 69 = .ok (.istore_n 3, 1) := by decide +kernel
theorem d_Shore_placesOf_70 : decode m_Shore_placesOf.2.1 70 = .ok (.iinc 4 1, 3) := by decide +kernel
theorem d_Shore_placesOf_73 : decode m_Shore_placesOf.2.1 73 = .ok (.goto (-68), 3) := by decide +kernel
theorem d_Shore_placesOf_76 : decode m_Shore_placesOf.2.1 76 = .ok (.iload_n 3, 1) := by decide +kernel
theorem d_Shore_placesOf_77 : decode m_Shore_placesOf.2.1 77 = .ok (.ireturn, 1) := by decide +kernel
def f_Shore_placesOf_56 (k_5 : St → Int32 → Int32 → Int32 → Int32 → Option (Int32)) (k_17 : St → Int32 → Int32 → Int32 → Int32 → Int64 → Int32 → Option (Int32)) (S : St) (l1 : Int32) (l2 : Int32) (l3 : Int32) (l4 : Int32) (l5 : Int64) (l7 : Int32) : Option (Int32) :=
    (some (l7 + 1)).bind fun l7_56 =>
    k_17 S l1 l2 l3 l4 l5 l7_56
set_option maxHeartbeats 4000000 in
set_option maxRecDepth 20000 in
theorem t_Shore_placesOf_56  {k_5 : St → Int32 → Int32 → Int32 → Int32 → Option (Int32)} {k_17 : St → Int32 → Int32 → Int32 → Int32 → Int64 → Int32 → Option (Int32)} (hk_5 : ∀ (S : St) (l1 : Int32) (l2 : Int32) (l3 : Int32) (l4 : Int32) (w : Int32), k_5 S l1 l2 l3 l4 = some w → G SX m_Shore_placesOf 2 (some w) S 5 [(0, .ref 54), (1, .int l1), (2, .int l2), (3, .int l3), (4, .int l4)] [] S) (hk_17 : ∀ (S : St) (l1 : Int32) (l2 : Int32) (l3 : Int32) (l4 : Int32) (l5 : Int64) (l7 : Int32) (w : Int32), k_17 S l1 l2 l3 l4 l5 l7 = some w → G SX m_Shore_placesOf 2 (some w) S 17 [(0, .ref 54), (1, .int l1), (2, .int l2), (3, .int l3), (4, .int l4), (5, .long l5), (7, .int l7)] [] S) (S : St) (l1 : Int32) (l2 : Int32) (l3 : Int32) (l4 : Int32) (l5 : Int64) (l7 : Int32) (w : Int32) (h : f_Shore_placesOf_56 k_5 k_17 S l1 l2 l3 l4 l5 l7 = some w) : G SX m_Shore_placesOf 2 (some w) S 56 [(0, .ref 54), (1, .int l1), (2, .int l2), (3, .int l3), (4, .int l4), (5, .long l5), (7, .int l7)] [] S := by
  unfold f_Shore_placesOf_56 at h
  obtain ⟨l7_56, e_56, h⟩ := ob_s h
  refine G_iinc 1 6 [(7, .int l7_56), (0, .ref 54), (1, .int l1), (2, .int l2), (3, .int l3), (4, .int l4), (5, .long l5)] (by decide) rfl e_56 rfl (by decide) d_Shore_placesOf_56 ?_
  refine G_goto 17 (by decide) d_Shore_placesOf_59 ?_
  exact G_sub _ [1, 2, 3, 4, 5, 6, 0] rfl (hk_17 S l1 l2 l3 l4 l5 l7_56 _ h)
def f_Shore_placesOf_62 (k_5 : St → Int32 → Int32 → Int32 → Int32 → Option (Int32)) (S : St) (l1 : Int32) (l2 : Int32) (l3 : Int32) (l4 : Int32) (l5 : Int64) : Option (Int32) :=
    (f_JL_bitCount S (l5 : Int64)).bind fun v_65 =>
    (some (l3 + v_65)).bind fun l3_69 =>
    (some (l4 + 1)).bind fun l4_70 =>
    k_5 S l1 l2 l3_69 l4_70
set_option maxHeartbeats 4000000 in
set_option maxRecDepth 20000 in
theorem t_Shore_placesOf_62  {k_5 : St → Int32 → Int32 → Int32 → Int32 → Option (Int32)} (hk_5 : ∀ (S : St) (l1 : Int32) (l2 : Int32) (l3 : Int32) (l4 : Int32) (w : Int32), k_5 S l1 l2 l3 l4 = some w → G SX m_Shore_placesOf 2 (some w) S 5 [(0, .ref 54), (1, .int l1), (2, .int l2), (3, .int l3), (4, .int l4)] [] S) (S : St) (l1 : Int32) (l2 : Int32) (l3 : Int32) (l4 : Int32) (l5 : Int64) (w : Int32) (h : f_Shore_placesOf_62 k_5 S l1 l2 l3 l4 l5 = some w) : G SX m_Shore_placesOf 2 (some w) S 62 [(0, .ref 54), (1, .int l1), (2, .int l2), (3, .int l3), (4, .int l4), (5, .long l5)] [] S := by
  unfold f_Shore_placesOf_62 at h
  refine G_iload_n 3 rfl d_Shore_placesOf_62 ?_
  refine G_lload 5 rfl d_Shore_placesOf_63 ?_
  obtain ⟨v_65, q_65, h⟩ := ob_b h
  refine G_callS [.long l5] [.int l3] (t_JL_bitCount q_65) (by decide) (by decide) mt_JL_bitCount rfl ml_Shore_52 rfl (Nat.le_of_ble_eq_true rfl) d_Shore_placesOf_65 ?_
  refine G_iadd d_Shore_placesOf_68 ?_
  obtain ⟨l3_69, e_69, h⟩ := ob_s h
  refine G_istore_n [(3, .int l3_69), (0, .ref 54), (1, .int l1), (2, .int l2), (4, .int l4), (5, .long l5)] e_69 rfl (by decide) d_Shore_placesOf_69 ?_
  obtain ⟨l4_70, e_70, h⟩ := ob_s h
  refine G_iinc 1 4 [(4, .int l4_70), (3, .int l3_69), (0, .ref 54), (1, .int l1), (2, .int l2), (5, .long l5)] (by decide) rfl e_70 rfl (by decide) d_Shore_placesOf_70 ?_
  refine G_goto 5 (by decide) d_Shore_placesOf_73 ?_
  exact G_sub _ [2, 3, 4, 1, 0] rfl (hk_5 S l1 l2 l3_69 l4_70 _ h)
def f_Shore_placesOf_17 (k_5 : St → Int32 → Int32 → Int32 → Int32 → Option (Int32)) : Nat → St → Int32 → Int32 → Int32 → Int32 → Int64 → Int32 → Option (Int32)
  | 0, _, _, _, _, _, _, _ => none
  | n + 1, S, l1, l2, l3, l4, l5, l7 =>
    if l2 ≤ l7 then (
    f_Shore_placesOf_62 k_5 S l1 l2 l3 l4 l5)
    else (
    if (12 : Int32) ≤ l7 then (
    f_Shore_placesOf_62 k_5 S l1 l2 l3 l4 l5)
    else (
    if ((jushr l1 l7) &&& 1) = 0 then (
    f_Shore_placesOf_56 k_5 (f_Shore_placesOf_17 k_5 n) S l1 l2 l3 l4 l5 l7)
    else (
    if ig ((l7 * 4) + l4) 48 then (
    (some (l5 ||| (lrow (S 55) ((l7 * 4) + l4).toNatClampNeg))).bind fun l5_54 =>
    f_Shore_placesOf_56 k_5 (f_Shore_placesOf_17 k_5 n) S l1 l2 l3 l4 l5_54 l7) else none)))
set_option maxHeartbeats 4000000 in
set_option maxRecDepth 20000 in
theorem t_Shore_placesOf_17  {k_5 : St → Int32 → Int32 → Int32 → Int32 → Option (Int32)} (hk_5 : ∀ (S : St) (l1 : Int32) (l2 : Int32) (l3 : Int32) (l4 : Int32) (w : Int32), k_5 S l1 l2 l3 l4 = some w → G SX m_Shore_placesOf 2 (some w) S 5 [(0, .ref 54), (1, .int l1), (2, .int l2), (3, .int l3), (4, .int l4)] [] S) : ∀ (n : Nat) (S : St) (l1 : Int32) (l2 : Int32) (l3 : Int32) (l4 : Int32) (l5 : Int64) (l7 : Int32) (w : Int32), f_Shore_placesOf_17 k_5 n S l1 l2 l3 l4 l5 l7 = some w → G SX m_Shore_placesOf 2 (some w) S 17 [(0, .ref 54), (1, .int l1), (2, .int l2), (3, .int l3), (4, .int l4), (5, .long l5), (7, .int l7)] [] S := by
  intro n
  induction n with
  | zero =>
    intro S l1 l2 l3 l4 l5 l7 w h
    rw [f_Shore_placesOf_17] at h
    cases h
  | succ n ih =>
    intro S l1 l2 l3 l4 l5 l7 w h
    rw [f_Shore_placesOf_17] at h
    refine G_iload 6 rfl d_Shore_placesOf_17 ?_
    refine G_iload_n 2 rfl d_Shore_placesOf_19 ?_
    refine G_icmp_ge 62 (by decide) d_Shore_placesOf_20 (fun c_20 => ?_) (fun c_20 => ?_)
    · replace h := ob_t h c_20
      exact G_sub _ [0, 1, 2, 3, 4, 5] rfl (t_Shore_placesOf_62 hk_5 S l1 l2 l3 l4 l5 _ h)
    · replace h := ob_f h c_20
      refine G_iload 6 rfl d_Shore_placesOf_23 ?_
      refine G_bipush 12 (by decide) d_Shore_placesOf_25 ?_
      refine G_icmp_ge 62 (by decide) d_Shore_placesOf_27 (fun c_27 => ?_) (fun c_27 => ?_)
      · replace h := ob_t h c_27
        exact G_sub _ [0, 1, 2, 3, 4, 5] rfl (t_Shore_placesOf_62 hk_5 S l1 l2 l3 l4 l5 _ h)
      · replace h := ob_f h c_27
        refine G_iload_n 1 rfl d_Shore_placesOf_30 ?_
        refine G_iload 6 rfl d_Shore_placesOf_31 ?_
        refine G_iushr d_Shore_placesOf_33 ?_
        refine G_iconst 1 (by decide) d_Shore_placesOf_34 ?_
        refine G_iand d_Shore_placesOf_35 ?_
        refine G_if_eq 56 (by decide) d_Shore_placesOf_36 (fun c_36 => ?_) (fun c_36 => ?_)
        · replace h := ob_t h c_36
          exact G_sub _ [0, 1, 2, 3, 4, 5, 6] rfl (t_Shore_placesOf_56 hk_5 ih S l1 l2 l3 l4 l5 l7 _ h)
        · replace h := ob_f h c_36
          refine G_lload 5 rfl d_Shore_placesOf_39 ?_
          refine G_aload_n 0 rfl d_Shore_placesOf_41 ?_
          refine G_getR fl_Shore_9 kx_54 sx_54 rfl (by decide) d_Shore_placesOf_42 ?_
          refine G_iload 6 rfl d_Shore_placesOf_45 ?_
          refine G_iconst 4 (by decide) d_Shore_placesOf_47 ?_
          refine G_imul d_Shore_placesOf_48 ?_
          refine G_iload 4 rfl d_Shore_placesOf_49 ?_
          refine G_iadd d_Shore_placesOf_51 ?_
          obtain ⟨g_52, h⟩ := ob_g h
          refine G_laload kx_55 sx_55 g_52 d_Shore_placesOf_52 ?_
          refine G_lor d_Shore_placesOf_53 ?_
          obtain ⟨l5_54, e_54, h⟩ := ob_s h
          refine G_lstore [(5, .long l5_54), (0, .ref 54), (1, .int l1), (2, .int l2), (3, .int l3), (4, .int l4), (7, .int l7)] e_54 rfl (by decide) d_Shore_placesOf_54 ?_
          exact G_sub _ [1, 2, 3, 4, 5, 0, 6] rfl (t_Shore_placesOf_56 hk_5 ih S l1 l2 l3 l4 l5_54 l7 _ h)
def f_Shore_placesOf_5 : Nat → St → Int32 → Int32 → Int32 → Int32 → Option (Int32)
  | 0, _, _, _, _, _ => none
  | n + 1, S, l1, l2, l3, l4 =>
    if (4 : Int32) ≤ l4 then (
    some l3)
    else (
    (some (0 : Int64)).bind fun l5_12 =>
    (some (0 : Int32)).bind fun l7_15 =>
    f_Shore_placesOf_17 (f_Shore_placesOf_5 n) FU S l1 l2 l3 l4 l5_12 l7_15)
set_option maxHeartbeats 4000000 in
set_option maxRecDepth 20000 in
theorem t_Shore_placesOf_5  : ∀ (n : Nat) (S : St) (l1 : Int32) (l2 : Int32) (l3 : Int32) (l4 : Int32) (w : Int32), f_Shore_placesOf_5 n S l1 l2 l3 l4 = some w → G SX m_Shore_placesOf 2 (some w) S 5 [(0, .ref 54), (1, .int l1), (2, .int l2), (3, .int l3), (4, .int l4)] [] S := by
  intro n
  induction n with
  | zero =>
    intro S l1 l2 l3 l4 w h
    rw [f_Shore_placesOf_5] at h
    cases h
  | succ n ih =>
    intro S l1 l2 l3 l4 w h
    rw [f_Shore_placesOf_5] at h
    refine G_iload 4 rfl d_Shore_placesOf_5 ?_
    refine G_iconst 4 (by decide) d_Shore_placesOf_7 ?_
    refine G_icmp_ge 76 (by decide) d_Shore_placesOf_8 (fun c_8 => ?_) (fun c_8 => ?_)
    · replace h := ob_t h c_8
      refine G_iload_n 3 rfl d_Shore_placesOf_76 ?_
      cases h
      exact G_iret rfl d_Shore_placesOf_77
    · replace h := ob_f h c_8
      refine G_lconst 0 (by decide) d_Shore_placesOf_11 ?_
      obtain ⟨l5_12, e_12, h⟩ := ob_s h
      refine G_lstore [(5, .long l5_12), (0, .ref 54), (1, .int l1), (2, .int l2), (3, .int l3), (4, .int l4)] e_12 rfl (by decide) d_Shore_placesOf_12 ?_
      refine G_iconst 0 (by decide) d_Shore_placesOf_14 ?_
      obtain ⟨l7_15, e_15, h⟩ := ob_s h
      refine G_istore [(7, .int l7_15), (5, .long l5_12), (0, .ref 54), (1, .int l1), (2, .int l2), (3, .int l3), (4, .int l4)] e_15 rfl (by decide) d_Shore_placesOf_15 ?_
      exact G_sub _ [2, 3, 4, 5, 6, 1, 0] rfl (t_Shore_placesOf_17 ih FU S l1 l2 l3 l4 l5_12 l7_15 _ h)
def f_Shore_placesOf (S : St) (l1 : Int32) (l2 : Int32) : Option (Int32) :=
    (some (0 : Int32)).bind fun l3_1 =>
    (some (0 : Int32)).bind fun l4_3 =>
    f_Shore_placesOf_5 FU S l1 l2 l3_1 l4_3
set_option maxHeartbeats 4000000 in
set_option maxRecDepth 20000 in
theorem t_Shore_placesOf  {S : St} {l1 : Int32} {l2 : Int32} {w : Int32} (h : f_Shore_placesOf S l1 l2 = some w) : Ct SX m_Shore_placesOf 2 [.ref 54, .int l1, .int l2] S (some w) S := by
  unfold f_Shore_placesOf at h
  refine Ct.of pn_Shore (Nat.le_of_ble_eq_true rfl) ?_
  show G SX m_Shore_placesOf 2 (some w) S 0 [(0, .ref 54), (1, .int l1), (2, .int l2)] [] S
  refine G_iconst 0 (by decide) d_Shore_placesOf_0 ?_
  obtain ⟨l3_1, e_1, h⟩ := ob_s h
  refine G_istore_n [(3, .int l3_1), (0, .ref 54), (1, .int l1), (2, .int l2)] e_1 rfl (by decide) d_Shore_placesOf_1 ?_
  refine G_iconst 0 (by decide) d_Shore_placesOf_2 ?_
  obtain ⟨l4_3, e_3, h⟩ := ob_s h
  refine G_istore [(4, .int l4_3), (3, .int l3_1), (0, .ref 54), (1, .int l1), (2, .int l2)] e_3 rfl (by decide) d_Shore_placesOf_3 ?_
  exact G_sub _ [2, 3, 4, 1, 0] rfl (t_Shore_placesOf_5 FU S l1 l2 l3_1 l4_3 _ h)
theorem d_Shore_bestLights_0 : decode m_Shore_bestLights.2.1 0 = .ok (.aload_n 0, 1) := by decide +kernel
theorem d_Shore_bestLights_1 : decode m_Shore_bestLights.2.1 1 = .ok (.iload_n 1, 1) := by decide +kernel
theorem d_Shore_bestLights_2 : decode m_Shore_bestLights.2.1 2 = .ok (.invokevirtual 40, 3) := by decide +kernel
theorem d_Shore_bestLights_5 : decode m_Shore_bestLights.2.1 5 = .ok (.iconst 0, 1) := by decide +kernel
theorem d_Shore_bestLights_6 : decode m_Shore_bestLights.2.1 6 = .ok (.istore_n 3, 1) := by decide +kernel
theorem d_Shore_bestLights_7 : decode m_Shore_bestLights.2.1 7 = .ok (.iconst (-1), 1) := by decide +kernel
theorem d_Shore_bestLights_8 : decode m_Shore_bestLights.2.1 8 = .ok (.istore 4, 2) := by decide +kernel
theorem d_Shore_bestLights_10 : decode m_Shore_bestLights.2.1 10 = .ok (.iconst 1, 1) := by decide +kernel
theorem d_Shore_bestLights_11 : decode m_Shore_bestLights.2.1 11 = .ok (.istore 5, 2) := by decide +kernel
theorem d_Shore_bestLights_13 : decode m_Shore_bestLights.2.1 13 = .ok (.iload 5, 2) := by decide +kernel
theorem d_Shore_bestLights_15 : decode m_Shore_bestLights.2.1 15 = .ok (.iconst 1, 1) := by decide +kernel
theorem d_Shore_bestLights_16 : decode m_Shore_bestLights.2.1 16 = .ok (.iload_n 1, 1) := by decide +kernel
theorem d_Shore_bestLights_17 : decode m_Shore_bestLights.2.1 17 = .ok (.ishl, 1) := by decide +kernel
theorem d_Shore_bestLights_18 : decode m_Shore_bestLights.2.1 18 = .ok (.if_icmp .ge 41, 3) := by decide +kernel
theorem d_Shore_bestLights_21 : decode m_Shore_bestLights.2.1 21 = .ok (.iload 5, 2) := by decide +kernel
theorem d_Shore_bestLights_23 : decode m_Shore_bestLights.2.1 23 = .ok (.invokestatic 44, 3) := by decide +kernel
theorem d_Shore_bestLights_26 : decode m_Shore_bestLights.2.1 26 = .ok (.iload_n 2, 1) := by decide +kernel
theorem d_Shore_bestLights_27 : decode m_Shore_bestLights.2.1 27 = .ok (.if_icmp .ne 26, 3) := by decide +kernel
theorem d_Shore_bestLights_30 : decode m_Shore_bestLights.2.1 30 = .ok (.aload_n 0, 1) := by decide +kernel
theorem d_Shore_bestLights_31 : decode m_Shore_bestLights.2.1 31 = .ok (.iload 5, 2) := by decide +kernel
theorem d_Shore_bestLights_33 : decode m_Shore_bestLights.2.1 33 = .ok (.iload_n 1, 1) := by decide +kernel
theorem d_Shore_bestLights_34 : decode m_Shore_bestLights.2.1 34 = .ok (.invokevirtual 49, 3) := by decide +kernel
theorem d_Shore_bestLights_37 : decode m_Shore_bestLights.2.1 37 = .ok (.istore 6, 2) := by decide +kernel
theorem d_Shore_bestLights_39 : decode m_Shore_bestLights.2.1 39 = .ok (.iload 6, 2) := by decide +kernel
theorem d_Shore_bestLights_41 : decode m_Shore_bestLights.2.1 41 = .ok (.iload 4, 2) := by decide +kernel
theorem d_Shore_bestLights_43 : decode m_Shore_bestLights.2.1 43 = .ok (.if_icmp .le 10, 3) := by decide +kernel
theorem d_Shore_bestLights_46 : decode m_Shore_bestLights.2.1 46 = .ok (.iload 5, 2) := by decide +kernel
theorem d_Shore_bestLights_48 : decode m_Shore_bestLights.2.1 48 = .ok (.istore_n 3, 1) := by decide +kernel
theorem d_Shore_bestLights_49 : decode m_Shore_bestLights.2.1 49 = .ok (.iload 6, 2) := by decide +kernel
theorem d_Shore_bestLights_51 : decode m_Shore_bestLights.2.1 51 = .ok (.istore 4, 2) := by decide +kernel
theorem d_Shore_bestLights_53 : decode m_Shore_bestLights.2.1 53 = .ok (.iinc 5 1, 3) := by decide +kernel
theorem d_Shore_bestLights_56 : decode m_Shore_bestLights.2.1 56 = .ok (.goto (-43), 3) := by decide +kernel
theorem d_Shore_bestLights_59 : decode m_Shore_bestLights.2.1 59 = .ok (.iload_n 3, 1) := by decide +kernel
theorem d_Shore_bestLights_60 : decode m_Shore_bestLights.2.1 60 = .ok (.ireturn, 1) := by decide +kernel
def f_Shore_bestLights_53 (k_13 : St → Int32 → Int32 → Int32 → Int32 → Int32 → Option (Int32 × St)) (S : St) (l1 : Int32) (l2 : Int32) (l3 : Int32) (l4 : Int32) (l5 : Int32) : Option (Int32 × St) :=
    (some (l5 + 1)).bind fun l5_53 =>
    k_13 S l1 l2 l3 l4 l5_53
set_option maxHeartbeats 4000000 in
set_option maxRecDepth 20000 in
theorem t_Shore_bestLights_53  {k_13 : St → Int32 → Int32 → Int32 → Int32 → Int32 → Option (Int32 × St)} (hk_13 : ∀ (S : St) (l1 : Int32) (l2 : Int32) (l3 : Int32) (l4 : Int32) (l5 : Int32) (w : Int32 × St), k_13 S l1 l2 l3 l4 l5 = some w → G SX m_Shore_bestLights 4 (some w.1) w.2 13 [(0, .ref 54), (1, .int l1), (2, .int l2), (3, .int l3), (4, .int l4), (5, .int l5)] [] S) (S : St) (l1 : Int32) (l2 : Int32) (l3 : Int32) (l4 : Int32) (l5 : Int32) (w : Int32 × St) (h : f_Shore_bestLights_53 k_13 S l1 l2 l3 l4 l5 = some w) : G SX m_Shore_bestLights 4 (some w.1) w.2 53 [(0, .ref 54), (1, .int l1), (2, .int l2), (3, .int l3), (4, .int l4), (5, .int l5)] [] S := by
  unfold f_Shore_bestLights_53 at h
  obtain ⟨l5_53, e_53, h⟩ := ob_s h
  refine G_iinc 1 5 [(5, .int l5_53), (0, .ref 54), (1, .int l1), (2, .int l2), (3, .int l3), (4, .int l4)] (by decide) rfl e_53 rfl (by decide) d_Shore_bestLights_53 ?_
  refine G_goto 13 (by decide) d_Shore_bestLights_56 ?_
  exact G_sub _ [1, 2, 3, 4, 5, 0] rfl (hk_13 S l1 l2 l3 l4 l5_53 _ h)
def f_Shore_bestLights_13 : Nat → St → Int32 → Int32 → Int32 → Int32 → Int32 → Option (Int32 × St)
  | 0, _, _, _, _, _, _ => none
  | n + 1, S, l1, l2, l3, l4, l5 =>
    if (jshl 1 l1) ≤ l5 then (
    some (l3, S))
    else (
    (f_JI_bitCount S l5).bind fun v_23 =>
    if v_23 = l2 then (
    (f_Shore_placesOf S l5 l1).bind fun v_34 =>
    if v_34 ≤ l4 then (
    f_Shore_bestLights_53 (f_Shore_bestLights_13 n) S l1 l2 l3 l4 l5)
    else (
    f_Shore_bestLights_53 (f_Shore_bestLights_13 n) S l1 l2 l5 v_34 l5))
    else (
    f_Shore_bestLights_53 (f_Shore_bestLights_13 n) S l1 l2 l3 l4 l5))
set_option maxHeartbeats 4000000 in
set_option maxRecDepth 20000 in
theorem t_Shore_bestLights_13  : ∀ (n : Nat) (S : St) (l1 : Int32) (l2 : Int32) (l3 : Int32) (l4 : Int32) (l5 : Int32) (w : Int32 × St), f_Shore_bestLights_13 n S l1 l2 l3 l4 l5 = some w → G SX m_Shore_bestLights 4 (some w.1) w.2 13 [(0, .ref 54), (1, .int l1), (2, .int l2), (3, .int l3), (4, .int l4), (5, .int l5)] [] S := by
  intro n
  induction n with
  | zero =>
    intro S l1 l2 l3 l4 l5 w h
    rw [f_Shore_bestLights_13] at h
    cases h
  | succ n ih =>
    intro S l1 l2 l3 l4 l5 w h
    rw [f_Shore_bestLights_13] at h
    refine G_iload 5 rfl d_Shore_bestLights_13 ?_
    refine G_iconst 1 (by decide) d_Shore_bestLights_15 ?_
    refine G_iload_n 1 rfl d_Shore_bestLights_16 ?_
    refine G_ishl d_Shore_bestLights_17 ?_
    refine G_icmp_ge 59 (by decide) d_Shore_bestLights_18 (fun c_18 => ?_) (fun c_18 => ?_)
    · replace h := ob_t h c_18
      refine G_iload_n 3 rfl d_Shore_bestLights_59 ?_
      cases h
      exact G_iret rfl d_Shore_bestLights_60
    · replace h := ob_f h c_18
      refine G_iload 5 rfl d_Shore_bestLights_21 ?_
      obtain ⟨v_23, q_23, h⟩ := ob_b h
      refine G_callS [.int l5] [] (t_JI_bitCount q_23) (by decide) (by decide) mt_JI_bitCount rfl ml_Shore_44 rfl (Nat.le_of_ble_eq_true rfl) d_Shore_bestLights_23 ?_
      refine G_iload_n 2 rfl d_Shore_bestLights_26 ?_
      refine G_icmp_ne 53 (by decide) d_Shore_bestLights_27 (fun c_27 => ?_) (fun c_27 => ?_)
      · replace h := ob_f h c_27
        exact G_sub _ [0, 1, 2, 3, 4, 5] rfl (t_Shore_bestLights_53 ih S l1 l2 l3 l4 l5 _ h)
      · replace h := ob_t h c_27
        refine G_aload_n 0 rfl d_Shore_bestLights_30 ?_
        refine G_iload 5 rfl d_Shore_bestLights_31 ?_
        refine G_iload_n 1 rfl d_Shore_bestLights_33 ?_
        obtain ⟨v_34, q_34, h⟩ := ob_b h
        refine G_callV [.int l5, .int l1] [] (t_Shore_placesOf q_34) (by decide) (by decide) mv_Shore_placesOf rfl ml_Shore_49 kx_54 sx_54 cl_7 rfl (Nat.le_of_ble_eq_true rfl) d_Shore_bestLights_34 ?_
        refine G_istore [(6, .int v_34), (0, .ref 54), (1, .int l1), (2, .int l2), (3, .int l3), (4, .int l4), (5, .int l5)] rfl rfl (by decide) d_Shore_bestLights_37 ?_
        refine G_iload 0 rfl d_Shore_bestLights_39 ?_
        refine G_iload 5 rfl d_Shore_bestLights_41 ?_
        refine G_icmp_le 53 (by decide) d_Shore_bestLights_43 (fun c_43 => ?_) (fun c_43 => ?_)
        · replace h := ob_t h c_43
          exact G_sub _ [1, 2, 3, 4, 5, 6] rfl (t_Shore_bestLights_53 ih S l1 l2 l3 l4 l5 _ h)
        · replace h := ob_f h c_43
          refine G_iload 6 rfl d_Shore_bestLights_46 ?_
          refine G_istore_n [(3, .int l5), (6, .int v_34), (0, .ref 54), (1, .int l1), (2, .int l2), (4, .int l4), (5, .int l5)] rfl rfl (by decide) d_Shore_bestLights_48 ?_
          refine G_iload 1 rfl d_Shore_bestLights_49 ?_
          refine G_istore [(4, .int v_34), (3, .int l5), (6, .int v_34), (0, .ref 54), (1, .int l1), (2, .int l2), (5, .int l5)] rfl rfl (by decide) d_Shore_bestLights_51 ?_
          exact G_sub _ [3, 4, 5, 1, 0, 6] rfl (t_Shore_bestLights_53 ih S l1 l2 l5 v_34 l5 _ h)
def f_Shore_bestLights (S : St) (l1 : Int32) (l2 : Int32) : Option (Int32 × St) :=
    (f_Shore_fillView S l1).bind fun w_2 =>
    (some (0 : Int32)).bind fun l3_6 =>
    (some ((-1) : Int32)).bind fun l4_8 =>
    (some (1 : Int32)).bind fun l5_11 =>
    f_Shore_bestLights_13 FU w_2 l1 l2 l3_6 l4_8 l5_11
set_option maxHeartbeats 4000000 in
set_option maxRecDepth 20000 in
theorem t_Shore_bestLights  {S : St} {l1 : Int32} {l2 : Int32} {w : Int32 × St} (h : f_Shore_bestLights S l1 l2 = some w) : Ct SX m_Shore_bestLights 4 [.ref 54, .int l1, .int l2] S (some w.1) w.2 := by
  unfold f_Shore_bestLights at h
  refine Ct.of pn_Shore (Nat.le_of_ble_eq_true rfl) ?_
  show G SX m_Shore_bestLights 4 (some w.1) w.2 0 [(0, .ref 54), (1, .int l1), (2, .int l2)] [] S
  refine G_aload_n 0 rfl d_Shore_bestLights_0 ?_
  refine G_iload_n 1 rfl d_Shore_bestLights_1 ?_
  obtain ⟨w_2, q_2, h⟩ := ob_b h
  refine G_callV [.int l1] [] (t_Shore_fillView q_2) (by decide) (by decide) mv_Shore_fillView rfl ml_Shore_40 kx_54 sx_54 cl_7 rfl (Nat.le_of_ble_eq_true rfl) d_Shore_bestLights_2 ?_
  refine G_iconst 0 (by decide) d_Shore_bestLights_5 ?_
  obtain ⟨l3_6, e_6, h⟩ := ob_s h
  refine G_istore_n [(3, .int l3_6), (0, .ref 54), (1, .int l1), (2, .int l2)] e_6 rfl (by decide) d_Shore_bestLights_6 ?_
  refine G_iconst (-1) (by decide) d_Shore_bestLights_7 ?_
  obtain ⟨l4_8, e_8, h⟩ := ob_s h
  refine G_istore [(4, .int l4_8), (3, .int l3_6), (0, .ref 54), (1, .int l1), (2, .int l2)] e_8 rfl (by decide) d_Shore_bestLights_8 ?_
  refine G_iconst 1 (by decide) d_Shore_bestLights_10 ?_
  obtain ⟨l5_11, e_11, h⟩ := ob_s h
  refine G_istore [(5, .int l5_11), (4, .int l4_8), (3, .int l3_6), (0, .ref 54), (1, .int l1), (2, .int l2)] e_11 rfl (by decide) d_Shore_bestLights_11 ?_
  exact G_sub _ [3, 4, 5, 2, 1, 0] rfl (t_Shore_bestLights_13 FU w_2 l1 l2 l3_6 l4_8 l5_11 _ h)
