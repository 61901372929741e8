theorem d_Mo_in_0 : decode m_Mo_in.2.1 0 = .ok (.iload_n 0, 1) := by decide +kernel
theorem d_Mo_in_1 : decode m_Mo_in.2.1 1 = .ok (.iload_n 1, 1) := by decide +kernel
theorem d_Mo_in_2 : decode m_Mo_in.2.1 2 = .ok (.if_icmp .lt 12, 3) := by decide +kernel
theorem d_Mo_in_5 : decode m_Mo_in.2.1 5 = .ok (.iload_n 0, 1) := by decide +kernel
theorem d_Mo_in_6 : decode m_Mo_in.2.1 6 = .ok (.iload_n 2, 1) := by decide +kernel
theorem d_Mo_in_7 : decode m_Mo_in.2.1 7 = .ok (.if_icmp .gt 7, 3) := by decide +kernel
theorem d_Mo_in_10 : decode m_Mo_in.2.1 10 = .ok (.iconst 1, 1) := by decide +kernel
theorem d_Mo_in_11 : decode m_Mo_in.2.1 11 = .ok (.goto 4, 3) := by decide +kernel
theorem d_Mo_in_14 : decode m_Mo_in.2.1 14 = .ok (.iconst 0, 1) := by decide +kernel
theorem d_Mo_in_15 : decode m_Mo_in.2.1 15 = .ok (.ireturn, 1) := by decide +kernel
def f_Mo_in (S : St) (l0 : Int32) (l1 : Int32) (l2 : Int32) : Option (Int32) :=
    if l0 < l1 then (
    some (0 : Int32))
    else (
    if l2 < l0 then (
    some (0 : Int32))
    else (
    some (1 : Int32)))
set_option maxHeartbeats 4000000 in
set_option maxRecDepth 20000 in
theorem t_Mo_in  {S : St} {l0 : Int32} {l1 : Int32} {l2 : Int32} {w : Int32} (h : f_Mo_in S l0 l1 l2 = some w) : Ct SM m_Mo_in 1 [.int l0, .int l1, .int l2] S (some w) S := by
  unfold f_Mo_in at h
  refine Ct.of pn_Mo (Nat.le_of_ble_eq_true rfl) ?_
  show G SM m_Mo_in 1 (some w) S 0 [(0, .int l0), (1, .int l1), (2, .int l2)] [] S
  refine G_iload_n 0 rfl d_Mo_in_0 ?_
  refine G_iload_n 1 rfl d_Mo_in_1 ?_
  refine G_icmp_lt 14 (by decide) d_Mo_in_2 (fun c_2 => ?_) (fun c_2 => ?_)
  · replace h := ob_t h c_2
    refine G_iconst 0 (by decide) d_Mo_in_14 ?_
    cases h
    exact G_zret (Or.inl rfl) rfl d_Mo_in_15
  · replace h := ob_f h c_2
    refine G_iload_n 0 rfl d_Mo_in_5 ?_
    refine G_iload_n 2 rfl d_Mo_in_6 ?_
    refine G_icmp_gt 14 (by decide) d_Mo_in_7 (fun c_7 => ?_) (fun c_7 => ?_)
    · replace h := ob_t h c_7
      refine G_iconst 0 (by decide) d_Mo_in_14 ?_
      cases h
      exact G_zret (Or.inl rfl) rfl d_Mo_in_15
    · replace h := ob_f h c_7
      refine G_iconst 1 (by decide) d_Mo_in_10 ?_
      refine G_goto 15 (by decide) d_Mo_in_11 ?_
      cases h
      exact G_zret (Or.inr rfl) rfl d_Mo_in_15
theorem d_Mo_min_0 : decode m_Mo_min.2.1 0 = .ok (.iload_n 0, 1) := by decide +kernel
theorem d_Mo_min_1 : decode m_Mo_min.2.1 1 = .ok (.iload_n 1, 1) := by decide +kernel
theorem d_Mo_min_2 : decode m_Mo_min.2.1 2 = .ok (.if_icmp .ge 7, 3) := by decide +kernel
theorem d_Mo_min_5 : decode m_Mo_min.2.1 5 = .ok (.iload_n 0, 1) := by decide +kernel
theorem d_Mo_min_6 : decode m_Mo_min.2.1 6 = .ok (.goto 4, 3) := by decide +kernel
theorem d_Mo_min_9 : decode m_Mo_min.2.1 9 = .ok (.iload_n 1, 1) := by decide +kernel
theorem d_Mo_min_10 : decode m_Mo_min.2.1 10 = .ok (.ireturn, 1) := by decide +kernel
def f_Mo_min (S : St) (l0 : Int32) (l1 : Int32) : Option (Int32) :=
    if l1 ≤ l0 then (
    some l1)
    else (
    some l0)
set_option maxHeartbeats 4000000 in
set_option maxRecDepth 20000 in
theorem t_Mo_min  {S : St} {l0 : Int32} {l1 : Int32} {w : Int32} (h : f_Mo_min S l0 l1 = some w) : Ct SM m_Mo_min 1 [.int l0, .int l1] S (some w) S := by
  unfold f_Mo_min at h
  refine Ct.of pn_Mo (Nat.le_of_ble_eq_true rfl) ?_
  show G SM m_Mo_min 1 (some w) S 0 [(0, .int l0), (1, .int l1)] [] S
  refine G_iload_n 0 rfl d_Mo_min_0 ?_
  refine G_iload_n 1 rfl d_Mo_min_1 ?_
  refine G_icmp_ge 9 (by decide) d_Mo_min_2 (fun c_2 => ?_) (fun c_2 => ?_)
  · replace h := ob_t h c_2
    refine G_iload_n 1 rfl d_Mo_min_9 ?_
    cases h
    exact G_iret rfl d_Mo_min_10
  · replace h := ob_f h c_2
    refine G_iload_n 0 rfl d_Mo_min_5 ?_
    refine G_goto 10 (by decide) d_Mo_min_6 ?_
    cases h
    exact G_iret rfl d_Mo_min_10
theorem d_Mo_max_0 : decode m_Mo_max.2.1 0 = .ok (.iload_n 0, 1) := by decide +kernel
theorem d_Mo_max_1 : decode m_Mo_max.2.1 1 = .ok (.iload_n 1, 1) := by decide +kernel
theorem d_Mo_max_2 : decode m_Mo_max.2.1 2 = .ok (.if_icmp .le 7, 3) := by decide +kernel
theorem d_Mo_max_5 : decode m_Mo_max.2.1 5 = .ok (.iload_n 0, 1) := by decide +kernel
theorem d_Mo_max_6 : decode m_Mo_max.2.1 6 = .ok (.goto 4, 3) := by decide +kernel
theorem d_Mo_max_9 : decode m_Mo_max.2.1 9 = .ok (.iload_n 1, 1) := by decide +kernel
theorem d_Mo_max_10 : decode m_Mo_max.2.1 10 = .ok (.ireturn, 1) := by decide +kernel
def f_Mo_max (S : St) (l0 : Int32) (l1 : Int32) : Option (Int32) :=
    if l0 ≤ l1 then (
    some l1)
    else (
    some l0)
set_option maxHeartbeats 4000000 in
set_option maxRecDepth 20000 in
theorem t_Mo_max  {S : St} {l0 : Int32} {l1 : Int32} {w : Int32} (h : f_Mo_max S l0 l1 = some w) : Ct SM m_Mo_max 1 [.int l0, .int l1] S (some w) S := by
  unfold f_Mo_max at h
  refine Ct.of pn_Mo (Nat.le_of_ble_eq_true rfl) ?_
  show G SM m_Mo_max 1 (some w) S 0 [(0, .int l0), (1, .int l1)] [] S
  refine G_iload_n 0 rfl d_Mo_max_0 ?_
  refine G_iload_n 1 rfl d_Mo_max_1 ?_
  refine G_icmp_le 9 (by decide) d_Mo_max_2 (fun c_2 => ?_) (fun c_2 => ?_)
  · replace h := ob_t h c_2
    refine G_iload_n 1 rfl d_Mo_max_9 ?_
    cases h
    exact G_iret rfl d_Mo_max_10
  · replace h := ob_f h c_2
    refine G_iload_n 0 rfl d_Mo_max_5 ?_
    refine G_goto 10 (by decide) d_Mo_max_6 ?_
    cases h
    exact G_iret rfl d_Mo_max_10
theorem d_Mo_size_0 : decode m_Mo_size.2.1 0 = .ok (.iload_n 0, 1) := by decide +kernel
theorem d_Mo_size_1 : decode m_Mo_size.2.1 1 = .ok (.ifCond .ge 8, 3) := by decide +kernel
theorem d_Mo_size_4 : decode m_Mo_size.2.1 4 = .ok (.iload_n 0, 1) := by decide +kernel
theorem d_Mo_size_5 : decode m_Mo_size.2.1 5 = .ok (.ineg, 1) := by decide +kernel
theorem d_Mo_size_6 : decode m_Mo_size.2.1 6 = .ok (.goto 4, 3) := by decide +kernel
theorem d_Mo_size_9 : decode m_Mo_size.2.1 9 = .ok (.iload_n 0, 1) := by decide +kernel
theorem d_Mo_size_10 : decode m_Mo_size.2.1 10 = .ok (.ireturn, 1) := by decide +kernel
def f_Mo_size (S : St) (l0 : Int32) : Option (Int32) :=
    if 0 ≤ l0 then (
    some l0)
    else (
    some (-l0))
set_option maxHeartbeats 4000000 in
set_option maxRecDepth 20000 in
theorem t_Mo_size  {S : St} {l0 : Int32} {w : Int32} (h : f_Mo_size S l0 = some w) : Ct SM m_Mo_size 1 [.int l0] S (some w) S := by
  unfold f_Mo_size at h
  refine Ct.of pn_Mo (Nat.le_of_ble_eq_true rfl) ?_
  show G SM m_Mo_size 1 (some w) S 0 [(0, .int l0)] [] S
  refine G_iload_n 0 rfl d_Mo_size_0 ?_
  refine G_if_ge 9 (by decide) d_Mo_size_1 (fun c_1 => ?_) (fun c_1 => ?_)
  · replace h := ob_t h c_1
    refine G_iload_n 0 rfl d_Mo_size_9 ?_
    cases h
    exact G_iret rfl d_Mo_size_10
  · replace h := ob_f h c_1
    refine G_iload_n 0 rfl d_Mo_size_4 ?_
    refine G_ineg d_Mo_size_5 ?_
    refine G_goto 10 (by decide) d_Mo_size_6 ?_
    cases h
    exact G_iret rfl d_Mo_size_10
theorem d_Mo_has_0 : decode m_Mo_has.2.1 0 = .ok (.iload_n 0, 1) := by decide +kernel
theorem d_Mo_has_1 : decode m_Mo_has.2.1 1 = .ok (.iload_n 1, 1) := by decide +kernel
theorem d_Mo_has_2 : decode m_Mo_has.2.1 2 = .ok (.ishr, 1) := by decide +kernel
theorem d_Mo_has_3 : decode m_Mo_has.2.1 3 = .ok (.iconst 1, 1) := by decide +kernel
theorem d_Mo_has_4 : decode m_Mo_has.2.1 4 = .ok (.iand, 1) := by decide +kernel
theorem d_Mo_has_5 : decode m_Mo_has.2.1 5 = .ok (.iconst 1, 1) := by decide +kernel
theorem d_Mo_has_6 : decode m_Mo_has.2.1 6 = .ok (.if_icmp .ne 7, 3) := by decide +kernel
theorem d_Mo_has_9 : decode m_Mo_has.2.1 9 = .ok (.iconst 1, 1) := by decide +kernel
theorem d_Mo_has_10 : decode m_Mo_has.2.1 10 = .ok (.goto 4, 3) := by decide +kernel
theorem d_Mo_has_13 : decode m_Mo_has.2.1 13 = .ok (.iconst 0, 1) := by decide +kernel
theorem d_Mo_has_14 : decode m_Mo_has.2.1 14 = .ok (.ireturn, 1) := by decide +kernel
def f_Mo_has (S : St) (l0 : Int32) (l1 : Int32) : Option (Int32) :=
    if ((jshr l0 l1) &&& 1) = 1 then (
    some (1 : Int32))
    else (
    some (0 : Int32))
set_option maxHeartbeats 4000000 in
set_option maxRecDepth 20000 in
theorem t_Mo_has  {S : St} {l0 : Int32} {l1 : Int32} {w : Int32} (h : f_Mo_has S l0 l1 = some w) : Ct SM m_Mo_has 1 [.int l0, .int l1] S (some w) S := by
  unfold f_Mo_has at h
  refine Ct.of pn_Mo (Nat.le_of_ble_eq_true rfl) ?_
  show G SM m_Mo_has 1 (some w) S 0 [(0, .int l0), (1, .int l1)] [] S
  refine G_iload_n 0 rfl d_Mo_has_0 ?_
  refine G_iload_n 1 rfl d_Mo_has_1 ?_
  refine G_ishr d_Mo_has_2 ?_
  refine G_iconst 1 (by decide) d_Mo_has_3 ?_
  refine G_iand d_Mo_has_4 ?_
  refine G_iconst 1 (by decide) d_Mo_has_5 ?_
  refine G_icmp_ne 13 (by decide) d_Mo_has_6 (fun c_6 => ?_) (fun c_6 => ?_)
  · replace h := ob_f h c_6
    refine G_iconst 0 (by decide) d_Mo_has_13 ?_
    cases h
    exact G_zret (Or.inl rfl) rfl d_Mo_has_14
  · replace h := ob_t h c_6
    refine G_iconst 1 (by decide) d_Mo_has_9 ?_
    refine G_goto 14 (by decide) d_Mo_has_10 ?_
    cases h
    exact G_zret (Or.inr rfl) rfl d_Mo_has_14
theorem d_Mo_bits_0 : decode m_Mo_bits.2.1 0 = .ok (.iconst 0, 1) := by decide +kernel
theorem d_Mo_bits_1 : decode m_Mo_bits.2.1 1 = .ok (.istore_n 1, 1) := by decide +kernel
theorem d_Mo_bits_2 : decode m_Mo_bits.2.1 2 = .ok (.iconst 0, 1) := by decide +kernel
theorem d_Mo_bits_3 : decode m_Mo_bits.2.1 3 = .ok (.istore_n 2, 1) := by decide +kernel
theorem d_Mo_bits_4 : decode m_Mo_bits.2.1 4 = .ok (.iload_n 2, 1) := by decide +kernel
theorem d_Mo_bits_5 : decode m_Mo_bits.2.1 5 = .ok (.bipush 16, 2) := by decide +kernel
theorem d_Mo_bits_7 : decode m_Mo_bits.2.1 7 = .ok (.if_icmp .ge 17, 3) := by decide +kernel
theorem d_Mo_bits_10 : decode m_Mo_bits.2.1 10 = .ok (.iload_n 1, 1) := by decide +kernel
theorem d_Mo_bits_11 : decode m_Mo_bits.2.1 11 = .ok (.iload_n 0, 1) := by decide +kernel
theorem d_Mo_bits_12 : decode m_Mo_bits.2.1 12 = .ok (.iload_n 2, 1) := by decide +kernel
theorem d_Mo_bits_13 : decode m_Mo_bits.2.1 13 = .ok (.ishr, 1) := by decide +kernel
theorem d_Mo_bits_14 : decode m_Mo_bits.2.1 14 = .ok (.iconst 1, 1) := by decide +kernel
theorem d_Mo_bits_15 : decode m_Mo_bits.2.1 15 = .ok (.iand, 1) := by decide +kernel
theorem d_Mo_bits_16 : decode m_Mo_bits.2.1 16 = .ok (.iadd, 1) := by decide +kernel
theorem d_Mo_bits_17 : decode m_Mo_bits.2.1 17 = .ok (.istore_n 1, 1) := by decide +kernel
theorem d_Mo_bits_18 : decode m_Mo_bits.2.1 18 = .ok (.iinc 2 1, 3) := by decide +kernel
theorem d_Mo_bits_21 : decode m_Mo_bits.2.1 21 = .ok (.goto (-17), 3) := by decide +kernel
theorem d_Mo_bits_24 : decode m_Mo_bits.2.1 24 = .ok (.iload_n 1, 1) := by decide +kernel
theorem d_Mo_bits_25 : decode m_Mo_bits.2.1 25 = .ok (.ireturn, 1) := by decide +kernel
def f_Mo_bits_4 : Nat → St → Int32 → Int32 → Int32 → Option (Int32)
  | 0, _, _, _, _ => none
  | n + 1, S, l0, l1, l2 =>
    if (16 : Int32) ≤ l2 then (
    some l1)
    else (
    (some (l1 + ((jshr l0 l2) &&& 1))).bind fun l1_17 =>
    (some (l2 + 1)).bind fun l2_18 =>
    f_Mo_bits_4 n S l0 l1_17 l2_18)
set_option maxHeartbeats 4000000 in
set_option maxRecDepth 20000 in
theorem t_Mo_bits_4  : ∀ (n : Nat) (S : St) (l0 : Int32) (l1 : Int32) (l2 : Int32) (w : Int32), f_Mo_bits_4 n S l0 l1 l2 = some w → G SM m_Mo_bits 1 (some w) S 4 [(0, .int l0), (1, .int l1), (2, .int l2)] [] S := by
  intro n
  induction n with
  | zero =>
    intro S l0 l1 l2 w h
    rw [f_Mo_bits_4] at h
    cases h
  | succ n ih =>
    intro S l0 l1 l2 w h
    rw [f_Mo_bits_4] at h
    refine G_iload_n 2 rfl d_Mo_bits_4 ?_
    refine G_bipush 16 (by decide) d_Mo_bits_5 ?_
    refine G_icmp_ge 24 (by decide) d_Mo_bits_7 (fun c_7 => ?_) (fun c_7 => ?_)
    · replace h := ob_t h c_7
      refine G_iload_n 1 rfl d_Mo_bits_24 ?_
      cases h
      exact G_iret rfl d_Mo_bits_25
    · replace h := ob_f h c_7
      refine G_iload_n 1 rfl d_Mo_bits_10 ?_
      refine G_iload_n 0 rfl d_Mo_bits_11 ?_
      refine G_iload_n 2 rfl d_Mo_bits_12 ?_
      refine G_ishr d_Mo_bits_13 ?_
      refine G_iconst 1 (by decide) d_Mo_bits_14 ?_
      refine G_iand d_Mo_bits_15 ?_
      refine G_iadd d_Mo_bits_16 ?_
      obtain ⟨l1_17, e_17, h⟩ := ob_s h
      refine G_istore_n [(1, .int l1_17), (0, .int l0), (2, .int l2)] e_17 rfl (by decide) d_Mo_bits_17 ?_
      obtain ⟨l2_18, e_18, h⟩ := ob_s h
      refine G_iinc 1 2 [(2, .int l2_18), (1, .int l1_17), (0, .int l0)] (by decide) rfl e_18 rfl (by decide) d_Mo_bits_18 ?_
      refine G_goto 4 (by decide) d_Mo_bits_21 ?_
      exact G_sub _ [2, 1, 0] rfl (ih S l0 l1_17 l2_18 _ h)
def f_Mo_bits (S : St) (l0 : Int32) : Option (Int32) :=
    (some (0 : Int32)).bind fun l1_1 =>
    (some (0 : Int32)).bind fun l2_3 =>
    f_Mo_bits_4 FU S l0 l1_1 l2_3
set_option maxHeartbeats 4000000 in
set_option maxRecDepth 20000 in
theorem t_Mo_bits  {S : St} {l0 : Int32} {w : Int32} (h : f_Mo_bits S l0 = some w) : Ct SM m_Mo_bits 1 [.int l0] S (some w) S := by
  unfold f_Mo_bits at h
  refine Ct.of pn_Mo (Nat.le_of_ble_eq_true rfl) ?_
  show G SM m_Mo_bits 1 (some w) S 0 [(0, .int l0)] [] S
  refine G_iconst 0 (by decide) d_Mo_bits_0 ?_
  obtain ⟨l1_1, e_1, h⟩ := ob_s h
  refine G_istore_n [(1, .int l1_1), (0, .int l0)] e_1 rfl (by decide) d_Mo_bits_1 ?_
  refine G_iconst 0 (by decide) d_Mo_bits_2 ?_
  obtain ⟨l2_3, e_3, h⟩ := ob_s h
  refine G_istore_n [(2, .int l2_3), (1, .int l1_1), (0, .int l0)] e_3 rfl (by decide) d_Mo_bits_3 ?_
  exact G_sub _ [2, 1, 0] rfl (t_Mo_bits_4 FU S l0 l1_1 l2_3 _ h)
theorem d_Mo_copies_0 : decode m_Mo_copies.2.1 0 = .ok (.iconst 0, 1) := by decide +kernel
theorem d_Mo_copies_1 : decode m_Mo_copies.2.1 1 = .ok (.istore_n 2, 1) := by decide +kernel
theorem d_Mo_copies_2 : decode m_Mo_copies.2.1 2 = .ok (.iload_n 2, 1) := by decide +kernel
theorem d_Mo_copies_3 : decode m_Mo_copies.2.1 3 = .ok (.bipush 99, 2) := by decide +kernel
theorem d_Mo_copies_5 : decode m_Mo_copies.2.1 5 = .ok (.if_icmp .ge 15, 3) := by decide +kernel
theorem d_Mo_copies_8 : decode m_Mo_copies.2.1 8 = .ok (.aload_n 1, 1) := by decide +kernel
theorem d_Mo_copies_9 : decode m_Mo_copies.2.1 9 = .ok (.iload_n 2, 1) := by decide +kernel
theorem d_Mo_copies_10 : decode m_Mo_copies.2.1 10 = .ok (.aload_n 0, 1) := by decide +kernel
theorem d_Mo_copies_11 : decode m_Mo_copies.2.1 11 = .ok (.iload_n 2, 1) := by decide +kernel
theorem d_Mo_copies_12 : decode m_Mo_copies.2.1 12 = .ok (.iaload, 1) := by decide +kernel
theorem d_Mo_copies_13 : decode m_Mo_copies.2.1 13 = .ok (.iastore, 1) := by decide +kernel
theorem d_Mo_copies_14 : decode m_Mo_copies.2.1 14 = .ok (.iinc 2 1, 3) := by decide +kernel
theorem d_Mo_copies_17 : decode m_Mo_copies.2.1 17 = .ok (.goto (-15), 3) := by decide +kernel
theorem d_Mo_copies_20 : decode m_Mo_copies.2.1 20 = .ok (.return_, 1) := by decide +kernel
def f_Mo_copies_2 (k0 : Nat) (k1 : Nat) : Nat → St → Int32 → Option (St)
  | 0, _, _ => none
  | n + 1, S, l2 =>
    if (99 : Int32) ≤ l2 then (
    some S)
    else (
    if ig l2 99 then (
    if ig l2 99 then (
    (some (sF S k1 l2.toNatClampNeg (S k0 l2.toNatClampNeg))).bind fun S_13 =>
    (some (l2 + 1)).bind fun l2_14 =>
    f_Mo_copies_2 k0 k1 n S_13 l2_14) else none) else none)
set_option maxHeartbeats 4000000 in
set_option maxRecDepth 20000 in
theorem t_Mo_copies_2  {k0 : Nat} {k1 : Nat} (hk_k0 : k0 < SM.1) (hs_k0 : SM.2 k0 = .inr (0, 99)) (hk_k1 : k1 < SM.1) (hs_k1 : SM.2 k1 = .inr (0, 99)) : ∀ (n : Nat) (S : St) (l2 : Int32) (w : St), f_Mo_copies_2 k0 k1 n S l2 = some w → G SM m_Mo_copies 1 none w 2 [(0, .ref k0), (1, .ref k1), (2, .int l2)] [] S := by
  intro n
  induction n with
  | zero =>
    intro S l2 w h
    rw [f_Mo_copies_2] at h
    cases h
  | succ n ih =>
    intro S l2 w h
    rw [f_Mo_copies_2] at h
    refine G_iload_n 2 rfl d_Mo_copies_2 ?_
    refine G_bipush 99 (by decide) d_Mo_copies_3 ?_
    refine G_icmp_ge 20 (by decide) d_Mo_copies_5 (fun c_5 => ?_) (fun c_5 => ?_)
    · replace h := ob_t h c_5
      cases h
      exact G_vret rfl d_Mo_copies_20
    · replace h := ob_f h c_5
      refine G_aload_n 1 rfl d_Mo_copies_8 ?_
      refine G_iload_n 2 rfl d_Mo_copies_9 ?_
      refine G_aload_n 0 rfl d_Mo_copies_10 ?_
      refine G_iload_n 2 rfl d_Mo_copies_11 ?_
      obtain ⟨g_12, h⟩ := ob_g h
      refine G_iaload hk_k0 hs_k0 g_12 d_Mo_copies_12 ?_
      obtain ⟨g_13, h⟩ := ob_g h
      obtain ⟨S_13, e_13, h⟩ := ob_s h
      refine G_iastore e_13 hk_k1 hs_k1 g_13 d_Mo_copies_13 ?_
      obtain ⟨l2_14, e_14, h⟩ := ob_s h
      refine G_iinc 1 2 [(2, .int l2_14), (0, .ref k0), (1, .ref k1)] (by decide) rfl e_14 rfl (by decide) d_Mo_copies_14 ?_
      refine G_goto 2 (by decide) d_Mo_copies_17 ?_
      exact G_sub _ [1, 2, 0] rfl (ih S_13 l2_14 _ h)
def f_Mo_copies (S : St) (k0 : Nat) (k1 : Nat) : Option (St) :=
    (some (0 : Int32)).bind fun l2_1 =>
    f_Mo_copies_2 k0 k1 FU S l2_1
set_option maxHeartbeats 4000000 in
set_option maxRecDepth 20000 in
theorem t_Mo_copies  {k0 : Nat} {k1 : Nat} (hk_k0 : k0 < SM.1) (hs_k0 : SM.2 k0 = .inr (0, 99)) (hk_k1 : k1 < SM.1) (hs_k1 : SM.2 k1 = .inr (0, 99)) {S : St} {w : St} (h : f_Mo_copies S k0 k1 = some w) : Ct SM m_Mo_copies 1 [.ref k0, .ref k1] S none w := by
  unfold f_Mo_copies at h
  refine Ct.of pn_Mo (Nat.le_of_ble_eq_true rfl) ?_
  show G SM m_Mo_copies 1 none w 0 [(0, .ref k0), (1, .ref k1)] [] S
  refine G_iconst 0 (by decide) d_Mo_copies_0 ?_
  obtain ⟨l2_1, e_1, h⟩ := ob_s h
  refine G_istore_n [(2, .int l2_1), (0, .ref k0), (1, .ref k1)] e_1 rfl (by decide) d_Mo_copies_1 ?_
  exact G_sub _ [1, 2, 0] rfl (t_Mo_copies_2 hk_k0 hs_k0 hk_k1 hs_k1 FU S l2_1 _ h)
theorem d_Mo_isThing_0 : decode m_Mo_isThing.2.1 0 = .ok (.iload_n 1, 1) := by decide +kernel
theorem d_Mo_isThing_1 : decode m_Mo_isThing.2.1 1 = .ok (.iconst 0, 1) := by decide +kernel
theorem d_Mo_isThing_2 : decode m_Mo_isThing.2.1 2 = .ok (.aload_n 0, 1) := by decide +kernel
theorem d_Mo_isThing_3 : decode m_Mo_isThing.2.1 3 = .ok (.getfield 120, 3) := by decide +kernel
theorem d_Mo_isThing_6 : decode m_Mo_isThing.2.1 6 = .ok (.iconst 1, 1) := by decide +kernel
theorem d_Mo_isThing_7 : decode m_Mo_isThing.2.1 7 = .ok (.isub, 1) := by decide +kernel
theorem d_Mo_isThing_8 : decode m_Mo_isThing.2.1 8 = .ok (.invokestatic 124, 3) := by decide +kernel
theorem d_Mo_isThing_11 : decode m_Mo_isThing.2.1 11 = .ok (.ireturn, 1) := by decide +kernel
def f_Mo_isThing (S : St) (l1 : Int32) : Option (Int32) :=
    (f_Mo_in S l1 (0 : Int32) ((S 0 5) - 1)).bind fun v_8 =>
    if v_8 = 0 ∨ v_8 = 1 then (
    some v_8) else none
set_option maxHeartbeats 4000000 in
set_option maxRecDepth 20000 in
theorem t_Mo_isThing  {S : St} {l1 : Int32} {w : Int32} (h : f_Mo_isThing S l1 = some w) : Ct SM m_Mo_isThing 2 [.ref 0, .int l1] S (some w) S := by
  unfold f_Mo_isThing at h
  refine Ct.of pn_Mo (Nat.le_of_ble_eq_true rfl) ?_
  show G SM m_Mo_isThing 2 (some w) S 0 [(0, .ref 0), (1, .int l1)] [] S
  refine G_iload_n 1 rfl d_Mo_isThing_0 ?_
  refine G_iconst 0 (by decide) d_Mo_isThing_1 ?_
  refine G_aload_n 0 rfl d_Mo_isThing_2 ?_
  refine G_getI fl_Mo_120 km_0 sm_0 rfl d_Mo_isThing_3 ?_
  refine G_iconst 1 (by decide) d_Mo_isThing_6 ?_
  refine G_isub d_Mo_isThing_7 ?_
  obtain ⟨v_8, q_8, h⟩ := ob_b h
  refine G_callS [.int l1, .int 0, .int ((S 0 5) - 1)] [] (t_Mo_in q_8) (by decide) (by decide) mt_Mo_in rfl ml_Mo_124 rfl (Nat.le_of_ble_eq_true rfl) d_Mo_isThing_8 ?_
  obtain ⟨g_11, h⟩ := ob_g h
  cases h
  exact G_zret g_11 rfl d_Mo_isThing_11
theorem d_Mo_isLeft_0 : decode m_Mo_isLeft.2.1 0 = .ok (.aload_n 0, 1) := by decide +kernel
theorem d_Mo_isLeft_1 : decode m_Mo_isLeft.2.1 1 = .ok (.iload_n 1, 1) := by decide +kernel
theorem d_Mo_isLeft_2 : decode m_Mo_isLeft.2.1 2 = .ok (.invokevirtual 128, 3) := by decide +kernel
theorem d_Mo_isLeft_5 : decode m_Mo_isLeft.2.1 5 = .ok (.ifCond .eq 19, 3) := by decide +kernel
theorem d_Mo_isLeft_8 : decode m_Mo_isLeft.2.1 8 = .ok (.aload_n 0, 1) := by decide +kernel
theorem d_Mo_isLeft_9 : decode m_Mo_isLeft.2.1 9 = .ok (.getfield 7, 3) := by decide +kernel
theorem d_Mo_isLeft_12 : decode m_Mo_isLeft.2.1 12 = .ok (.bipush 72, 2) := by decide +kernel
theorem d_Mo_isLeft_14 : decode m_Mo_isLeft.2.1 14 = .ok (.iload_n 1, 1) := by decide +kernel
theorem d_Mo_isLeft_15 : decode m_Mo_isLeft.2.1 15 = .ok (.iadd, 1) := by decide +kernel
theorem d_Mo_isLeft_16 : decode m_Mo_isLeft.2.1 16 = .ok (.iaload, 1) := by decide +kernel
theorem d_Mo_isLeft_17 : decode m_Mo_isLeft.2.1 17 = .ok (.ifCond .ne 7, 3) := by decide +kernel
theorem d_Mo_isLeft_20 : decode m_Mo_isLeft.2.1 20 = .ok (.iconst 1, 1) := by decide +kernel
theorem d_Mo_isLeft_21 : decode m_Mo_isLeft.2.1 21 = .ok (.goto 4, 3) := by decide +kernel
theorem d_Mo_isLeft_24 : decode m_Mo_isLeft.2.1 24 = .ok (.iconst 0, 1) := by decide +kernel
theorem d_Mo_isLeft_25 : decode m_Mo_isLeft.2.1 25 = .ok (.ireturn, 1) := by decide +kernel
def f_Mo_isLeft (S : St) (l1 : Int32) : Option (Int32) :=
    (f_Mo_isThing S l1).bind fun v_2 =>
    if v_2 = 0 then (
    some (0 : Int32))
    else (
    if ig (72 + l1) 99 then (
    if (S 1 (72 + l1).toNatClampNeg) = 0 then (
    some (1 : Int32))
    else (
    some (0 : Int32))) else none)
set_option maxHeartbeats 4000000 in
set_option maxRecDepth 20000 in
theorem t_Mo_isLeft  {S : St} {l1 : Int32} {w : Int32} (h : f_Mo_isLeft S l1 = some w) : Ct SM m_Mo_isLeft 3 [.ref 0, .int l1] S (some w) S := by
  unfold f_Mo_isLeft at h
  refine Ct.of pn_Mo (Nat.le_of_ble_eq_true rfl) ?_
  show G SM m_Mo_isLeft 3 (some w) S 0 [(0, .ref 0), (1, .int l1)] [] S
  refine G_aload_n 0 rfl d_Mo_isLeft_0 ?_
  refine G_iload_n 1 rfl d_Mo_isLeft_1 ?_
  obtain ⟨v_2, q_2, h⟩ := ob_b h
  refine G_callV [.int l1] [] (t_Mo_isThing q_2) (by decide) (by decide) mv_Mo_isThing rfl ml_Mo_128 km_0 sm_0 cl_12 rfl (Nat.le_of_ble_eq_true rfl) d_Mo_isLeft_2 ?_
  refine G_if_eq 24 (by decide) d_Mo_isLeft_5 (fun c_5 => ?_) (fun c_5 => ?_)
  · replace h := ob_t h c_5
    refine G_iconst 0 (by decide) d_Mo_isLeft_24 ?_
    cases h
    exact G_zret (Or.inl rfl) rfl d_Mo_isLeft_25
  · replace h := ob_f h c_5
    refine G_aload_n 0 rfl d_Mo_isLeft_8 ?_
    refine G_getR fl_Mo_7 km_0 sm_0 rfl (by decide) d_Mo_isLeft_9 ?_
    refine G_bipush 72 (by decide) d_Mo_isLeft_12 ?_
    refine G_iload_n 1 rfl d_Mo_isLeft_14 ?_
    refine G_iadd d_Mo_isLeft_15 ?_
    obtain ⟨g_16, h⟩ := ob_g h
    refine G_iaload km_1 sm_1 g_16 d_Mo_isLeft_16 ?_
    refine G_if_ne 24 (by decide) d_Mo_isLeft_17 (fun c_17 => ?_) (fun c_17 => ?_)
    · replace h := ob_f h c_17
      refine G_iconst 0 (by decide) d_Mo_isLeft_24 ?_
      cases h
      exact G_zret (Or.inl rfl) rfl d_Mo_isLeft_25
    · replace h := ob_t h c_17
      refine G_iconst 1 (by decide) d_Mo_isLeft_20 ?_
      refine G_goto 25 (by decide) d_Mo_isLeft_21 ?_
      cases h
      exact G_zret (Or.inr rfl) rfl d_Mo_isLeft_25
theorem d_Mo_lit_0 : decode m_Mo_lit.2.1 0 = .ok (.aload_n 0, 1) := by decide +kernel
theorem d_Mo_lit_1 : decode m_Mo_lit.2.1 1 = .ok (.iload_n 1, 1) := by decide +kernel
theorem d_Mo_lit_2 : decode m_Mo_lit.2.1 2 = .ok (.invokevirtual 132, 3) := by decide +kernel
theorem d_Mo_lit_5 : decode m_Mo_lit.2.1 5 = .ok (.ifCond .eq 18, 3) := by decide +kernel
theorem d_Mo_lit_8 : decode m_Mo_lit.2.1 8 = .ok (.iload_n 2, 1) := by decide +kernel
theorem d_Mo_lit_9 : decode m_Mo_lit.2.1 9 = .ok (.ifCond .eq 16, 3) := by decide +kernel
theorem d_Mo_lit_12 : decode m_Mo_lit.2.1 12 = .ok (.aload_n 0, 1) := by decide +kernel
theorem d_Mo_lit_13 : decode m_Mo_lit.2.1 13 = .ok (.getfield 7, 3) := by decide +kernel
theorem d_Mo_lit_16 : decode m_Mo_lit.2.1 16 = .ok (.iconst 0, 1) := by decide +kernel
theorem d_Mo_lit_17 : decode m_Mo_lit.2.1 17 = .ok (.iload_n 1, 1) := by decide +kernel
theorem d_Mo_lit_18 : decode m_Mo_lit.2.1 18 = .ok (.iadd, 1) := by decide +kernel
theorem d_Mo_lit_19 : decode m_Mo_lit.2.1 19 = .ok (.iaload, 1) := by decide +kernel
theorem d_Mo_lit_20 : decode m_Mo_lit.2.1 20 = .ok (.ifCond .ne 5, 3) := by decide +kernel
theorem d_Mo_lit_23 : decode m_Mo_lit.2.1 23 = .ok (.iconst 0, 1) := by decide +kernel
theorem d_Mo_lit_24 : decode m_Mo_lit.2.1 24 = .ok (.ireturn, 1) := by decide +kernel
theorem d_Mo_lit_25 : decode m_Mo_lit.2.1 25 = .ok (.aload_n 0, 1) := by decide +kernel
theorem d_Mo_lit_26 : decode m_Mo_lit.2.1 26 = .ok (.getfield 7, 3) := by decide +kernel
theorem d_Mo_lit_29 : decode m_Mo_lit.2.1 29 = .ok (.bipush 24, 2) := by decide +kernel
theorem d_Mo_lit_31 : decode m_Mo_lit.2.1 31 = .ok (.iload_n 1, 1) := by decide +kernel
theorem d_Mo_lit_32 : decode m_Mo_lit.2.1 32 = .ok (.iadd, 1) := by decide +kernel
theorem d_Mo_lit_33 : decode m_Mo_lit.2.1 33 = .ok (.iload_n 2, 1) := by decide +kernel
theorem d_Mo_lit_34 : decode m_Mo_lit.2.1 34 = .ok (.ifCond .eq 7, 3) := by decide +kernel
theorem d_Mo_lit_37 : decode m_Mo_lit.2.1 37 = .ok (.iconst 1, 1) := by decide +kernel
theorem d_Mo_lit_38 : decode m_Mo_lit.2.1 38 = .ok (.goto 4, 3) := by decide +kernel
theorem d_Mo_lit_41 : decode m_Mo_lit.2.1 41 = .ok (.iconst 0, 1) := by decide +kernel
theorem d_Mo_lit_42 : decode m_Mo_lit.2.1 42 = .ok (.iastore, 1) := by decide +kernel
theorem d_Mo_lit_43 : decode m_Mo_lit.2.1 43 = .ok (.iconst 1, 1) := by decide +kernel
theorem d_Mo_lit_44 : decode m_Mo_lit.2.1 44 = .ok (.ireturn, 1) := by decide +kernel
def f_Mo_lit_42 (S : St) (s0 : Int32) (s1 : Int32) : Option (Int32 × St) :=
    if ig s1 99 then (
    (some (sF S 1 s1.toNatClampNeg s0)).bind fun S_42 =>
    some (1, S_42)) else none
set_option maxHeartbeats 4000000 in
set_option maxRecDepth 20000 in
theorem t_Mo_lit_42  (S : St) (s0 : Int32) (s1 : Int32) (w : Int32 × St) (h : f_Mo_lit_42 S s0 s1 = some w) : G SM m_Mo_lit 4 (some w.1) w.2 42 [(0, .ref 0)] [.int s0, .int s1, .ref 1] S := by
  unfold f_Mo_lit_42 at h
  obtain ⟨g_42, h⟩ := ob_g h
  obtain ⟨S_42, e_42, h⟩ := ob_s h
  refine G_iastore e_42 km_1 sm_1 g_42 d_Mo_lit_42 ?_
  refine G_iconst 1 (by decide) d_Mo_lit_43 ?_
  cases h
  exact G_zret (Or.inr rfl) rfl d_Mo_lit_44
def f_Mo_lit_25 (S : St) (l1 : Int32) (l2 : Int32) : Option (Int32 × St) :=
    if l2 = 0 then (
    f_Mo_lit_42 S (0 : Int32) (24 + l1))
    else (
    f_Mo_lit_42 S (1 : Int32) (24 + l1))
set_option maxHeartbeats 4000000 in
set_option maxRecDepth 20000 in
theorem t_Mo_lit_25  (S : St) (l1 : Int32) (l2 : Int32) (w : Int32 × St) (h : f_Mo_lit_25 S l1 l2 = some w) : G SM m_Mo_lit 4 (some w.1) w.2 25 [(0, .ref 0), (1, .int l1), (2, .int l2)] [] S := by
  unfold f_Mo_lit_25 at h
  refine G_aload_n 0 rfl d_Mo_lit_25 ?_
  refine G_getR fl_Mo_7 km_0 sm_0 rfl (by decide) d_Mo_lit_26 ?_
  refine G_bipush 24 (by decide) d_Mo_lit_29 ?_
  refine G_iload_n 1 rfl d_Mo_lit_31 ?_
  refine G_iadd d_Mo_lit_32 ?_
  refine G_iload_n 2 rfl d_Mo_lit_33 ?_
  refine G_if_eq 41 (by decide) d_Mo_lit_34 (fun c_34 => ?_) (fun c_34 => ?_)
  · replace h := ob_t h c_34
    refine G_iconst 0 (by decide) d_Mo_lit_41 ?_
    exact G_sub _ [0] rfl (t_Mo_lit_42 S (0 : Int32) (24 + l1) _ h)
  · replace h := ob_f h c_34
    refine G_iconst 1 (by decide) d_Mo_lit_37 ?_
    refine G_goto 42 (by decide) d_Mo_lit_38 ?_
    exact G_sub _ [0] rfl (t_Mo_lit_42 S (1 : Int32) (24 + l1) _ h)
def f_Mo_lit (S : St) (l1 : Int32) (l2 : Int32) : Option (Int32 × St) :=
    (f_Mo_isLeft S l1).bind fun v_2 =>
    if v_2 = 0 then (
    some (0, S))
    else (
    if l2 = 0 then (
    f_Mo_lit_25 S l1 l2)
    else (
    if ig (0 + l1) 99 then (
    if (S 1 (0 + l1).toNatClampNeg) = 0 then (
    some (0, S))
    else (
    f_Mo_lit_25 S l1 l2)) else none))
set_option maxHeartbeats 4000000 in
set_option maxRecDepth 20000 in
theorem t_Mo_lit  {S : St} {l1 : Int32} {l2 : Int32} {w : Int32 × St} (h : f_Mo_lit S l1 l2 = some w) : Ct SM m_Mo_lit 4 [.ref 0, .int l1, .int l2] S (some w.1) w.2 := by
  unfold f_Mo_lit at h
  refine Ct.of pn_Mo (Nat.le_of_ble_eq_true rfl) ?_
  show G SM m_Mo_lit 4 (some w.1) w.2 0 [(0, .ref 0), (1, .int l1), (2, .int l2)] [] S
  refine G_aload_n 0 rfl d_Mo_lit_0 ?_
  refine G_iload_n 1 rfl d_Mo_lit_1 ?_
  obtain ⟨v_2, q_2, h⟩ := ob_b h
  refine G_callV [.int l1] [] (t_Mo_isLeft q_2) (by decide) (by decide) mv_Mo_isLeft rfl ml_Mo_132 km_0 sm_0 cl_12 rfl (Nat.le_of_ble_eq_true rfl) d_Mo_lit_2 ?_
  refine G_if_eq 23 (by decide) d_Mo_lit_5 (fun c_5 => ?_) (fun c_5 => ?_)
  · replace h := ob_t h c_5
    refine G_iconst 0 (by decide) d_Mo_lit_23 ?_
    cases h
    exact G_zret (Or.inl rfl) rfl d_Mo_lit_24
  · replace h := ob_f h c_5
    refine G_iload_n 2 rfl d_Mo_lit_8 ?_
    refine G_if_eq 25 (by decide) d_Mo_lit_9 (fun c_9 => ?_) (fun c_9 => ?_)
    · replace h := ob_t h c_9
      exact G_sub _ [0, 1, 2] rfl (t_Mo_lit_25 S l1 l2 _ h)
    · replace h := ob_f h c_9
      refine G_aload_n 0 rfl d_Mo_lit_12 ?_
      refine G_getR fl_Mo_7 km_0 sm_0 rfl (by decide) d_Mo_lit_13 ?_
      refine G_iconst 0 (by decide) d_Mo_lit_16 ?_
      refine G_iload_n 1 rfl d_Mo_lit_17 ?_
      refine G_iadd d_Mo_lit_18 ?_
      obtain ⟨g_19, h⟩ := ob_g h
      refine G_iaload km_1 sm_1 g_19 d_Mo_lit_19 ?_
      refine G_if_ne 25 (by decide) d_Mo_lit_20 (fun c_20 => ?_) (fun c_20 => ?_)
      · replace h := ob_f h c_20
        exact G_sub _ [0, 1, 2] rfl (t_Mo_lit_25 S l1 l2 _ h)
      · replace h := ob_t h c_20
        refine G_iconst 0 (by decide) d_Mo_lit_23 ?_
        cases h
        exact G_zret (Or.inl rfl) rfl d_Mo_lit_24
theorem d_Mo_types_0 : decode m_Mo_types.2.1 0 = .ok (.iconst 3, 1) := by decide +kernel
theorem d_Mo_types_1 : decode m_Mo_types.2.1 1 = .ok (.istore_n 2, 1) := by decide +kernel
theorem d_Mo_types_2 : decode m_Mo_types.2.1 2 = .ok (.iload_n 2, 1) := by decide +kernel
theorem d_Mo_types_3 : decode m_Mo_types.2.1 3 = .ok (.ifCond .lt 35, 3) := by decide +kernel
theorem d_Mo_types_6 : decode m_Mo_types.2.1 6 = .ok (.aload_n 0, 1) := by decide +kernel
theorem d_Mo_types_7 : decode m_Mo_types.2.1 7 = .ok (.getfield 25, 3) := by decide +kernel
theorem d_Mo_types_10 : decode m_Mo_types.2.1 10 = .ok (.aload_n 0, 1) := by decide +kernel
theorem d_Mo_types_11 : decode m_Mo_types.2.1 11 = .ok (.getfield 135, 3) := by decide +kernel
theorem d_Mo_types_14 : decode m_Mo_types.2.1 14 = .ok (.iload_n 1, 1) := by decide +kernel
theorem d_Mo_types_15 : decode m_Mo_types.2.1 15 = .ok (.bipush 8, 2) := by decide +kernel
theorem d_Mo_types_17 : decode m_Mo_types.2.1 17 = .ok (.iload_n 2, 1) := by decide +kernel
theorem d_Mo_types_18 : decode m_Mo_types.2.1 18 = .ok (.imul, 1) := by decide +kernel
theorem d_Mo_types_19 : decode m_Mo_types.2.1 19 = .ok (.ishr, 1) := by decide +kernel
theorem d_Mo_types_20 : decode m_Mo_types.2.1 20 = .ok (.i2b, 1) := by decide +kernel
theorem d_Mo_types_21 : decode m_Mo_types.2.1 21 = .ok (.bastore, 1) := by decide +kernel
theorem d_Mo_types_22 : decode m_Mo_types.2.1 22 = .ok (.aload_n 0, 1) := by decide +kernel
theorem d_Mo_types_23 : decode m_Mo_types.2.1 23 = .ok (.aload_n 0, 1) := by decide +kernel
theorem d_Mo_types_24 : decode m_Mo_types.2.1 24 = .ok (.getfield 135, 3) := by decide +kernel
theorem d_Mo_types_27 : decode m_Mo_types.2.1 27 = .ok (.iconst 1, 1) := by decide +kernel
theorem d_Mo_types_28 : decode m_Mo_types.2.1 28 = .ok (.iadd, 1) := by decide +kernel
theorem d_Mo_types_29 : decode m_Mo_types.2.1 29 = .ok (.putfield 135, 3) := by decide +kernel
theorem d_Mo_types_32 : decode m_Mo_types.2.1 32 = .ok (.iinc 2 (-1), 3) := by decide +kernel
theorem d_Mo_types_35 : decode m_Mo_types.2.1 35 = .ok (.goto (-33), 3) := by decide +kernel
theorem d_Mo_types_38 : decode m_Mo_types.2.1 38 = .ok (.return_, 1) := by decide +kernel
def f_Mo_types_2 : Nat → St → Int32 → Int32 → Option (St)
  | 0, _, _, _ => none
  | n + 1, S, l1, l2 =>
    if l2 < 0 then (
    some S)
    else (
    if ig (S 0 7) 260 then (
    (some (sF S 6 (S 0 7).toNatClampNeg (vp_nar .byte (((jshr l1 (8 * l2)) : Int32).toInt8.toInt32)))).bind fun S_21 =>
    (some (sF S_21 0 7 ((S_21 0 7) + 1))).bind fun S_29 =>
    (some (l2 + (-1))).bind fun l2_32 =>
    f_Mo_types_2 n S_29 l1 l2_32) else none)
set_option maxHeartbeats 4000000 in
set_option maxRecDepth 20000 in
theorem t_Mo_types_2  : ∀ (n : Nat) (S : St) (l1 : Int32) (l2 : Int32) (w : St), f_Mo_types_2 n S l1 l2 = some w → G SM m_Mo_types 1 none w 2 [(0, .ref 0), (1, .int l1), (2, .int l2)] [] S := by
  intro n
  induction n with
  | zero =>
    intro S l1 l2 w h
    rw [f_Mo_types_2] at h
    cases h
  | succ n ih =>
    intro S l1 l2 w h
    rw [f_Mo_types_2] at h
    refine G_iload_n 2 rfl d_Mo_types_2 ?_
    refine G_if_lt 38 (by decide) d_Mo_types_3 (fun c_3 => ?_) (fun c_3 => ?_)
    · replace h := ob_t h c_3
      cases h
      exact G_vret rfl d_Mo_types_38
    · replace h := ob_f h c_3
      refine G_aload_n 0 rfl d_Mo_types_6 ?_
      refine G_getR fl_Mo_25 km_0 sm_0 rfl (by decide) d_Mo_types_7 ?_
      refine G_aload_n 0 rfl d_Mo_types_10 ?_
      refine G_getI fl_Mo_135 km_0 sm_0 rfl d_Mo_types_11 ?_
      refine G_iload_n 1 rfl d_Mo_types_14 ?_
      refine G_bipush 8 (by decide) d_Mo_types_15 ?_
      refine G_iload_n 2 rfl d_Mo_types_17 ?_
      refine G_imul d_Mo_types_18 ?_
      refine G_ishr d_Mo_types_19 ?_
      refine G_i2b d_Mo_types_20 ?_
      obtain ⟨g_21, h⟩ := ob_g h
      obtain ⟨S_21, e_21, h⟩ := ob_s h
      refine G_bastore e_21 km_6 sm_6 g_21 d_Mo_types_21 ?_
      refine G_aload_n 0 rfl d_Mo_types_22 ?_
      refine G_aload_n 0 rfl d_Mo_types_23 ?_
      refine G_getI fl_Mo_135 km_0 sm_0 rfl d_Mo_types_24 ?_
      refine G_iconst 1 (by decide) d_Mo_types_27 ?_
      refine G_iadd d_Mo_types_28 ?_
      obtain ⟨S_29, e_29, h⟩ := ob_s h
      refine G_putI e_29 fp_Mo_135 km_0 sm_0 rfl d_Mo_types_29 ?_
      obtain ⟨l2_32, e_32, h⟩ := ob_s h
      refine G_iinc (-1) 2 [(2, .int l2_32), (0, .ref 0), (1, .int l1)] (by decide) rfl e_32 rfl (by decide) d_Mo_types_32 ?_
      refine G_goto 2 (by decide) d_Mo_types_35 ?_
      exact G_sub _ [1, 2, 0] rfl (ih S_29 l1 l2_32 _ h)
def f_Mo_types (S : St) (l1 : Int32) : Option (St) :=
    (some (3 : Int32)).bind fun l2_1 =>
    f_Mo_types_2 FU S l1 l2_1
set_option maxHeartbeats 4000000 in
set_option maxRecDepth 20000 in
theorem t_Mo_types  {S : St} {l1 : Int32} {w : St} (h : f_Mo_types S l1 = some w) : Ct SM m_Mo_types 1 [.ref 0, .int l1] S none w := by
  unfold f_Mo_types at h
  refine Ct.of pn_Mo (Nat.le_of_ble_eq_true rfl) ?_
  show G SM m_Mo_types 1 none w 0 [(0, .ref 0), (1, .int l1)] [] S
  refine G_iconst 3 (by decide) d_Mo_types_0 ?_
  obtain ⟨l2_1, e_1, h⟩ := ob_s h
  refine G_istore_n [(2, .int l2_1), (0, .ref 0), (1, .int l1)] e_1 rfl (by decide) d_Mo_types_1 ?_
  exact G_sub _ [1, 2, 0] rfl (t_Mo_types_2 FU S l1 l2_1 _ h)
theorem d_Mo_feed_0 : decode m_Mo_feed.2.1 0 = .ok (.aload_n 0, 1) := by decide +kernel
theorem d_Mo_feed_1 : decode m_Mo_feed.2.1 1 = .ok (.getfield 135, 3) := by decide +kernel
theorem d_Mo_feed_4 : decode m_Mo_feed.2.1 4 = .ok (.bipush 20, 2) := by decide +kernel
theorem d_Mo_feed_6 : decode m_Mo_feed.2.1 6 = .ok (.iadd, 1) := by decide +kernel
theorem d_Mo_feed_7 : decode m_Mo_feed.2.1 7 = .ok (.sipush 260, 3) := by decide +kernel
theorem d_Mo_feed_10 : decode m_Mo_feed.2.1 10 = .ok (.if_icmp .le 5, 3) := by decide +kernel
theorem d_Mo_feed_13 : decode m_Mo_feed.2.1 13 = .ok (.iconst (-1), 1) := by decide +kernel
theorem d_Mo_feed_14 : decode m_Mo_feed.2.1 14 = .ok (.ireturn, 1) := by decide +kernel
theorem d_Mo_feed_15 : decode m_Mo_feed.2.1 15 = .ok (.aload_n 0, 1) := by decide +kernel
theorem d_Mo_feed_16 : decode m_Mo_feed.2.1 16 = .ok (.iload_n 1, 1) := by decide +kernel
theorem d_Mo_feed_17 : decode m_Mo_feed.2.1 17 = .ok (.invokevirtual 138, 3) := by decide +kernel
theorem d_Mo_feed_20 : decode m_Mo_feed.2.1 20 = .ok (.aload_n 0, 1) := by decide +kernel
theorem d_Mo_feed_21 : decode m_Mo_feed.2.1 21 = .ok (.iload_n 2, 1) := by decide +kernel
theorem d_Mo_feed_22 : decode m_Mo_feed.2.1 22 = .ok (.invokevirtual 138, 3) := by decide +kernel
theorem d_Mo_feed_25 : decode m_Mo_feed.2.1 25 = .ok (.aload_n 0, 1) := by decide +kernel
theorem d_Mo_feed_26 : decode m_Mo_feed.2.1 26 = .ok (.iload_n 3, 1) := by decide +kernel
theorem d_Mo_feed_27 : decode m_Mo_feed.2.1 27 = .ok (.invokevirtual 138, 3) := by decide +kernel
theorem d_Mo_feed_30 : decode m_Mo_feed.2.1 30 = .ok (.aload_n 0, 1) := by decide +kernel
theorem d_Mo_feed_31 : decode m_Mo_feed.2.1 31 = .ok (.iload 4, 2) := by decide +kernel
theorem d_Mo_feed_33 : decode m_Mo_feed.2.1 33 = .ok (.invokevirtual 138, 3) := by decide +kernel
theorem d_Mo_feed_36 : decode m_Mo_feed.2.1 36 = .ok (.aload_n 0, 1) := by decide +kernel
theorem d_Mo_feed_37 : decode m_Mo_feed.2.1 37 = .ok (.iload 5, 2) := by decide +kernel
theorem d_Mo_feed_39 : decode m_Mo_feed.2.1 39 = .ok (.invokevirtual 138, 3) := by decide +kernel
theorem d_Mo_feed_42 : decode m_Mo_feed.2.1 42 = .ok (.aload_n 0, 1) := by decide +kernel
theorem d_Mo_feed_43 : decode m_Mo_feed.2.1 43 = .ok (.getfield 135, 3) := by decide +kernel
theorem d_Mo_feed_46 : decode m_Mo_feed.2.1 46 = .ok (.ireturn, 1) := by decide +kernel
def f_Mo_feed (S : St) (l1 : Int32) (l2 : Int32) (l3 : Int32) (l4 : Int32) (l5 : Int32) : Option (Int32 × St) :=
    if ((S 0 7) + 20) ≤ 260 then (
    (f_Mo_types S l1).bind fun w_17 =>
    (f_Mo_types w_17 l2).bind fun w_22 =>
    (f_Mo_types w_22 l3).bind fun w_27 =>
    (f_Mo_types w_27 l4).bind fun w_33 =>
    (f_Mo_types w_33 l5).bind fun w_39 =>
    some ((w_39 0 7), w_39))
    else (
    some ((-1), S))
set_option maxHeartbeats 4000000 in
set_option maxRecDepth 20000 in
theorem t_Mo_feed  {S : St} {l1 : Int32} {l2 : Int32} {l3 : Int32} {l4 : Int32} {l5 : Int32} {w : Int32 × St} (h : f_Mo_feed S l1 l2 l3 l4 l5 = some w) : Ct SM m_Mo_feed 2 [.ref 0, .int l1, .int l2, .int l3, .int l4, .int l5] S (some w.1) w.2 := by
  unfold f_Mo_feed at h
  refine Ct.of pn_Mo (Nat.le_of_ble_eq_true rfl) ?_
  show G SM m_Mo_feed 2 (some w.1) w.2 0 [(0, .ref 0), (1, .int l1), (2, .int l2), (3, .int l3), (4, .int l4), (5, .int l5)] [] S
  refine G_aload_n 0 rfl d_Mo_feed_0 ?_
  refine G_getI fl_Mo_135 km_0 sm_0 rfl d_Mo_feed_1 ?_
  refine G_bipush 20 (by decide) d_Mo_feed_4 ?_
  refine G_iadd d_Mo_feed_6 ?_
  refine G_sipush 260 (by decide) d_Mo_feed_7 ?_
  refine G_icmp_le 15 (by decide) d_Mo_feed_10 (fun c_10 => ?_) (fun c_10 => ?_)
  · replace h := ob_t h c_10
    refine G_aload_n 0 rfl d_Mo_feed_15 ?_
    refine G_iload_n 1 rfl d_Mo_feed_16 ?_
    obtain ⟨w_17, q_17, h⟩ := ob_b h
    refine G_callV [.int l1] [] (t_Mo_types q_17) (by decide) (by decide) mv_Mo_types rfl ml_Mo_138 km_0 sm_0 cl_12 rfl (Nat.le_of_ble_eq_true rfl) d_Mo_feed_17 ?_
    refine G_aload_n 0 rfl d_Mo_feed_20 ?_
    refine G_iload_n 2 rfl d_Mo_feed_21 ?_
    obtain ⟨w_22, q_22, h⟩ := ob_b h
    refine G_callV [.int l2] [] (t_Mo_types q_22) (by decide) (by decide) mv_Mo_types rfl ml_Mo_138 km_0 sm_0 cl_12 rfl (Nat.le_of_ble_eq_true rfl) d_Mo_feed_22 ?_
    refine G_aload_n 0 rfl d_Mo_feed_25 ?_
    refine G_iload_n 3 rfl d_Mo_feed_26 ?_
    obtain ⟨w_27, q_27, h⟩ := ob_b h
    refine G_callV [.int l3] [] (t_Mo_types q_27) (by decide) (by decide) mv_Mo_types rfl ml_Mo_138 km_0 sm_0 cl_12 rfl (Nat.le_of_ble_eq_true rfl) d_Mo_feed_27 ?_
    refine G_aload_n 0 rfl d_Mo_feed_30 ?_
    refine G_iload 4 rfl d_Mo_feed_31 ?_
    obtain ⟨w_33, q_33, h⟩ := ob_b h
    refine G_callV [.int l4] [] (t_Mo_types q_33) (by decide) (by decide) mv_Mo_types rfl ml_Mo_138 km_0 sm_0 cl_12 rfl (Nat.le_of_ble_eq_true rfl) d_Mo_feed_33 ?_
    refine G_aload_n 0 rfl d_Mo_feed_36 ?_
    refine G_iload 5 rfl d_Mo_feed_37 ?_
    obtain ⟨w_39, q_39, h⟩ := ob_b h
    refine G_callV [.int l5] [] (t_Mo_types q_39) (by decide) (by decide) mv_Mo_types rfl ml_Mo_138 km_0 sm_0 cl_12 rfl (Nat.le_of_ble_eq_true rfl) d_Mo_feed_39 ?_
    refine G_aload_n 0 rfl d_Mo_feed_42 ?_
    refine G_getI fl_Mo_135 km_0 sm_0 rfl d_Mo_feed_43 ?_
    cases h
    exact G_iret rfl d_Mo_feed_46
  · replace h := ob_f h c_10
    refine G_iconst (-1) (by decide) d_Mo_feed_13 ?_
    cases h
    exact G_iret rfl d_Mo_feed_14
theorem d_Mo_octet_0 : decode m_Mo_octet.2.1 0 = .ok (.aload_n 0, 1) := by decide +kernel
theorem d_Mo_octet_1 : decode m_Mo_octet.2.1 1 = .ok (.getfield 25, 3) := by decide +kernel
theorem d_Mo_octet_4 : decode m_Mo_octet.2.1 4 = .ok (.iload_n 1, 1) := by decide +kernel
theorem d_Mo_octet_5 : decode m_Mo_octet.2.1 5 = .ok (.baload, 1) := by decide +kernel
theorem d_Mo_octet_6 : decode m_Mo_octet.2.1 6 = .ok (.sipush 255, 3) := by decide +kernel
theorem d_Mo_octet_9 : decode m_Mo_octet.2.1 9 = .ok (.iand, 1) := by decide +kernel
theorem d_Mo_octet_10 : decode m_Mo_octet.2.1 10 = .ok (.ireturn, 1) := by decide +kernel
def f_Mo_octet (S : St) (l1 : Int32) : Option (Int32) :=
    if ig l1 260 then (
    some ((S 6 l1.toNatClampNeg) &&& 255)) else none
set_option maxHeartbeats 4000000 in
set_option maxRecDepth 20000 in
theorem t_Mo_octet  {S : St} {l1 : Int32} {w : Int32} (h : f_Mo_octet S l1 = some w) : Ct SM m_Mo_octet 1 [.ref 0, .int l1] S (some w) S := by
  unfold f_Mo_octet at h
  refine Ct.of pn_Mo (Nat.le_of_ble_eq_true rfl) ?_
  show G SM m_Mo_octet 1 (some w) S 0 [(0, .ref 0), (1, .int l1)] [] S
  refine G_aload_n 0 rfl d_Mo_octet_0 ?_
  refine G_getR fl_Mo_25 km_0 sm_0 rfl (by decide) d_Mo_octet_1 ?_
  refine G_iload_n 1 rfl d_Mo_octet_4 ?_
  obtain ⟨g_5, h⟩ := ob_g h
  refine G_baload km_6 sm_6 g_5 d_Mo_octet_5 ?_
  refine G_sipush 255 (by decide) d_Mo_octet_6 ?_
  refine G_iand d_Mo_octet_9 ?_
  cases h
  exact G_iret rfl d_Mo_octet_10
theorem d_Mo_here_0 : decode m_Mo_here.2.1 0 = .ok (.aload_n 0, 1) := by decide +kernel
theorem d_Mo_here_1 : decode m_Mo_here.2.1 1 = .ok (.getfield 142, 3) := by decide +kernel
theorem d_Mo_here_4 : decode m_Mo_here.2.1 4 = .ok (.aload_n 0, 1) := by decide +kernel
theorem d_Mo_here_5 : decode m_Mo_here.2.1 5 = .ok (.getfield 145, 3) := by decide +kernel
theorem d_Mo_here_8 : decode m_Mo_here.2.1 8 = .ok (.if_icmp .ge 19, 3) := by decide +kernel
theorem d_Mo_here_11 : decode m_Mo_here.2.1 11 = .ok (.aload_n 0, 1) := by decide +kernel
theorem d_Mo_here_12 : decode m_Mo_here.2.1 12 = .ok (.getfield 25, 3) := by decide +kernel
theorem d_Mo_here_15 : decode m_Mo_here.2.1 15 = .ok (.aload_n 0, 1) := by decide +kernel
theorem d_Mo_here_16 : decode m_Mo_here.2.1 16 = .ok (.getfield 142, 3) := by decide +kernel
theorem d_Mo_here_19 : decode m_Mo_here.2.1 19 = .ok (.baload, 1) := by decide +kernel
theorem d_Mo_here_20 : decode m_Mo_here.2.1 20 = .ok (.sipush 255, 3) := by decide +kernel
theorem d_Mo_here_23 : decode m_Mo_here.2.1 23 = .ok (.iand, 1) := by decide +kernel
theorem d_Mo_here_24 : decode m_Mo_here.2.1 24 = .ok (.goto 4, 3) := by decide +kernel
theorem d_Mo_here_27 : decode m_Mo_here.2.1 27 = .ok (.iconst (-1), 1) := by decide +kernel
theorem d_Mo_here_28 : decode m_Mo_here.2.1 28 = .ok (.ireturn, 1) := by decide +kernel
def f_Mo_here (S : St) : Option (Int32) :=
    if (S 0 9) ≤ (S 0 8) then (
    some ((-1) : Int32))
    else (
    if ig (S 0 8) 260 then (
    some ((S 6 (S 0 8).toNatClampNeg) &&& 255)) else none)
set_option maxHeartbeats 4000000 in
set_option maxRecDepth 20000 in
theorem t_Mo_here  {S : St} {w : Int32} (h : f_Mo_here S = some w) : Ct SM m_Mo_here 1 [.ref 0] S (some w) S := by
  unfold f_Mo_here at h
  refine Ct.of pn_Mo (Nat.le_of_ble_eq_true rfl) ?_
  show G SM m_Mo_here 1 (some w) S 0 [(0, .ref 0)] [] S
  refine G_aload_n 0 rfl d_Mo_here_0 ?_
  refine G_getI fl_Mo_142 km_0 sm_0 rfl d_Mo_here_1 ?_
  refine G_aload_n 0 rfl d_Mo_here_4 ?_
  refine G_getI fl_Mo_145 km_0 sm_0 rfl d_Mo_here_5 ?_
  refine G_icmp_ge 27 (by decide) d_Mo_here_8 (fun c_8 => ?_) (fun c_8 => ?_)
  · replace h := ob_t h c_8
    refine G_iconst (-1) (by decide) d_Mo_here_27 ?_
    cases h
    exact G_iret rfl d_Mo_here_28
  · replace h := ob_f h c_8
    refine G_aload_n 0 rfl d_Mo_here_11 ?_
    refine G_getR fl_Mo_25 km_0 sm_0 rfl (by decide) d_Mo_here_12 ?_
    refine G_aload_n 0 rfl d_Mo_here_15 ?_
    refine G_getI fl_Mo_142 km_0 sm_0 rfl d_Mo_here_16 ?_
    obtain ⟨g_19, h⟩ := ob_g h
    refine G_baload km_6 sm_6 g_19 d_Mo_here_19 ?_
    refine G_sipush 255 (by decide) d_Mo_here_20 ?_
    refine G_iand d_Mo_here_23 ?_
    refine G_goto 28 (by decide) d_Mo_here_24 ?_
    cases h
    exact G_iret rfl d_Mo_here_28
theorem d_Mo_isDigit_0 : decode m_Mo_isDigit.2.1 0 = .ok (.aload_n 0, 1) := by decide +kernel
theorem d_Mo_isDigit_1 : decode m_Mo_isDigit.2.1 1 = .ok (.invokevirtual 148, 3) := by decide +kernel
theorem d_Mo_isDigit_4 : decode m_Mo_isDigit.2.1 4 = .ok (.bipush 48, 2) := by decide +kernel
theorem d_Mo_isDigit_6 : decode m_Mo_isDigit.2.1 6 = .ok (.if_icmp .lt 16, 3) := by decide +kernel
theorem d_Mo_isDigit_9 : decode m_Mo_isDigit.2.1 9 = .ok (.aload_n 0, 1) := by decide +kernel
theorem d_Mo_isDigit_10 : decode m_Mo_isDigit.2.1 10 = .ok (.invokevirtual 148, 3) := by decide +kernel
theorem d_Mo_isDigit_13 : decode m_Mo_isDigit.2.1 13 = .ok (.bipush 57, 2) := by decide +kernel
theorem d_Mo_isDigit_15 : decode m_Mo_isDigit.2.1 15 = .ok (.if_icmp .gt 7, 3) := by decide +kernel
theorem d_Mo_isDigit_18 : decode m_Mo_isDigit.2.1 18 = .ok (.iconst 1, 1) := by decide +kernel
theorem d_Mo_isDigit_19 : decode m_Mo_isDigit.2.1 19 = .ok (.goto 4, 3) := by decide +kernel
theorem d_Mo_isDigit_22 : decode m_Mo_isDigit.2.1 22 = .ok (.iconst 0, 1) := by decide +kernel
theorem d_Mo_isDigit_23 : decode m_Mo_isDigit.2.1 23 = .ok (.ireturn, 1) := by decide +kernel
def f_Mo_isDigit (S : St) : Option (Int32) :=
    (f_Mo_here S).bind fun v_1 =>
    if v_1 < 48 then (
    some (0 : Int32))
    else (
    (f_Mo_here S).bind fun v_10 =>
    if (57 : Int32) < v_10 then (
    some (0 : Int32))
    else (
    some (1 : Int32)))
set_option maxHeartbeats 4000000 in
set_option maxRecDepth 20000 in
theorem t_Mo_isDigit  {S : St} {w : Int32} (h : f_Mo_isDigit S = some w) : Ct SM m_Mo_isDigit 2 [.ref 0] S (some w) S := by
  unfold f_Mo_isDigit at h
  refine Ct.of pn_Mo (Nat.le_of_ble_eq_true rfl) ?_
  show G SM m_Mo_isDigit 2 (some w) S 0 [(0, .ref 0)] [] S
  refine G_aload_n 0 rfl d_Mo_isDigit_0 ?_
  obtain ⟨v_1, q_1, h⟩ := ob_b h
  refine G_callV [] [] (t_Mo_here q_1) (by decide) (by decide) mv_Mo_here rfl ml_Mo_148 km_0 sm_0 cl_12 rfl (Nat.le_of_ble_eq_true rfl) d_Mo_isDigit_1 ?_
  refine G_bipush 48 (by decide) d_Mo_isDigit_4 ?_
  refine G_icmp_lt 22 (by decide) d_Mo_isDigit_6 (fun c_6 => ?_) (fun c_6 => ?_)
  · replace h := ob_t h c_6
    refine G_iconst 0 (by decide) d_Mo_isDigit_22 ?_
    cases h
    exact G_zret (Or.inl rfl) rfl d_Mo_isDigit_23
  · replace h := ob_f h c_6
    refine G_aload_n 0 rfl d_Mo_isDigit_9 ?_
    obtain ⟨v_10, q_10, h⟩ := ob_b h
    refine G_callV [] [] (t_Mo_here q_10) (by decide) (by decide) mv_Mo_here rfl ml_Mo_148 km_0 sm_0 cl_12 rfl (Nat.le_of_ble_eq_true rfl) d_Mo_isDigit_10 ?_
    refine G_bipush 57 (by decide) d_Mo_isDigit_13 ?_
    refine G_icmp_gt 22 (by decide) d_Mo_isDigit_15 (fun c_15 => ?_) (fun c_15 => ?_)
    · replace h := ob_t h c_15
      refine G_iconst 0 (by decide) d_Mo_isDigit_22 ?_
      cases h
      exact G_zret (Or.inl rfl) rfl d_Mo_isDigit_23
    · replace h := ob_f h c_15
      refine G_iconst 1 (by decide) d_Mo_isDigit_18 ?_
      refine G_goto 23 (by decide) d_Mo_isDigit_19 ?_
      cases h
      exact G_zret (Or.inr rfl) rfl d_Mo_isDigit_23
theorem d_Mo_wrongAt_0 : decode m_Mo_wrongAt.2.1 0 = .ok (.aload_n 0, 1) := by decide +kernel
theorem d_Mo_wrongAt_1 : decode m_Mo_wrongAt.2.1 1 = .ok (.sipush (-1000), 3) := by decide +kernel
theorem d_Mo_wrongAt_4 : decode m_Mo_wrongAt.2.1 4 = .ok (.iload_n 1, 1) := by decide +kernel
theorem d_Mo_wrongAt_5 : decode m_Mo_wrongAt.2.1 5 = .ok (.imul, 1) := by decide +kernel
theorem d_Mo_wrongAt_6 : decode m_Mo_wrongAt.2.1 6 = .ok (.iload_n 2, 1) := by decide +kernel
theorem d_Mo_wrongAt_7 : decode m_Mo_wrongAt.2.1 7 = .ok (.isub, 1) := by decide +kernel
theorem d_Mo_wrongAt_8 : decode m_Mo_wrongAt.2.1 8 = .ok (.putfield 152, 3) := by decide +kernel
theorem d_Mo_wrongAt_11 : decode m_Mo_wrongAt.2.1 11 = .ok (.iconst 0, 1) := by decide +kernel
theorem d_Mo_wrongAt_12 : decode m_Mo_wrongAt.2.1 12 = .ok (.ireturn, 1) := by decide +kernel
def f_Mo_wrongAt (S : St) (l1 : Int32) (l2 : Int32) : Option (Int32 × St) :=
    (some (sF S 0 10 (((-1000) * l1) - l2))).bind fun S_8 =>
    some (0, S_8)
set_option maxHeartbeats 4000000 in
set_option maxRecDepth 20000 in
theorem t_Mo_wrongAt  {S : St} {l1 : Int32} {l2 : Int32} {w : Int32 × St} (h : f_Mo_wrongAt S l1 l2 = some w) : Ct SM m_Mo_wrongAt 1 [.ref 0, .int l1, .int l2] S (some w.1) w.2 := by
  unfold f_Mo_wrongAt at h
  refine Ct.of pn_Mo (Nat.le_of_ble_eq_true rfl) ?_
  show G SM m_Mo_wrongAt 1 (some w.1) w.2 0 [(0, .ref 0), (1, .int l1), (2, .int l2)] [] S
  refine G_aload_n 0 rfl d_Mo_wrongAt_0 ?_
  refine G_sipush (-1000) (by decide) d_Mo_wrongAt_1 ?_
  refine G_iload_n 1 rfl d_Mo_wrongAt_4 ?_
  refine G_imul d_Mo_wrongAt_5 ?_
  refine G_iload_n 2 rfl d_Mo_wrongAt_6 ?_
  refine G_isub d_Mo_wrongAt_7 ?_
  obtain ⟨S_8, e_8, h⟩ := ob_s h
  refine G_putI e_8 fp_Mo_152 km_0 sm_0 rfl d_Mo_wrongAt_8 ?_
  refine G_iconst 0 (by decide) d_Mo_wrongAt_11 ?_
  cases h
  exact G_zret (Or.inl rfl) rfl d_Mo_wrongAt_12
theorem d_Mo_takes_0 : decode m_Mo_takes.2.1 0 = .ok (.aload_n 0, 1) := by decide +kernel
theorem d_Mo_takes_1 : decode m_Mo_takes.2.1 1 = .ok (.invokevirtual 148, 3) := by decide +kernel
theorem d_Mo_takes_4 : decode m_Mo_takes.2.1 4 = .ok (.iload_n 1, 1) := by decide +kernel
theorem d_Mo_takes_5 : decode m_Mo_takes.2.1 5 = .ok (.if_icmp .eq 13, 3) := by decide +kernel
theorem d_Mo_takes_8 : decode m_Mo_takes.2.1 8 = .ok (.aload_n 0, 1) := by decide +kernel
theorem d_Mo_takes_9 : decode m_Mo_takes.2.1 9 = .ok (.iconst 1, 1) := by decide +kernel
theorem d_Mo_takes_10 : decode m_Mo_takes.2.1 10 = .ok (.aload_n 0, 1) := by decide +kernel
theorem d_Mo_takes_11 : decode m_Mo_takes.2.1 11 = .ok (.getfield 142, 3) := by decide +kernel
theorem d_Mo_takes_14 : decode m_Mo_takes.2.1 14 = .ok (.invokevirtual 155, 3) := by decide +kernel
theorem d_Mo_takes_17 : decode m_Mo_takes.2.1 17 = .ok (.ireturn, 1) := by decide +kernel
theorem d_Mo_takes_18 : decode m_Mo_takes.2.1 18 = .ok (.aload_n 0, 1) := by decide +kernel
theorem d_Mo_takes_19 : decode m_Mo_takes.2.1 19 = .ok (.aload_n 0, 1) := by decide +kernel
theorem d_Mo_takes_20 : decode m_Mo_takes.2.1 20 = .ok (.getfield 142, 3) := by decide +kernel
theorem d_Mo_takes_23 : decode m_Mo_takes.2.1 23 = .ok (.iconst 1, 1) := by decide +kernel
theorem d_Mo_takes_24 : decode m_Mo_takes.2.1 24 = .ok (.iadd, 1) := by decide +kernel
theorem d_Mo_takes_25 : decode m_Mo_takes.2.1 25 = .ok (.putfield 142, 3) := by decide +kernel
theorem d_Mo_takes_28 : decode m_Mo_takes.2.1 28 = .ok (.iconst 1, 1) := by decide +kernel
theorem d_Mo_takes_29 : decode m_Mo_takes.2.1 29 = .ok (.ireturn, 1) := by decide +kernel
def f_Mo_takes (S : St) (l1 : Int32) : Option (Int32 × St) :=
    (f_Mo_here S).bind fun v_1 =>
    if v_1 = l1 then (
    (some (sF S 0 8 ((S 0 8) + 1))).bind fun S_25 =>
    some (1, S_25))
    else (
    (f_Mo_wrongAt S (1 : Int32) (S 0 8)).bind fun w_14 =>
    if w_14.1 = 0 ∨ w_14.1 = 1 then (
    some (w_14.1, w_14.2)) else none)
set_option maxHeartbeats 4000000 in
set_option maxRecDepth 20000 in
theorem t_Mo_takes  {S : St} {l1 : Int32} {w : Int32 × St} (h : f_Mo_takes S l1 = some w) : Ct SM m_Mo_takes 2 [.ref 0, .int l1] S (some w.1) w.2 := by
  unfold f_Mo_takes at h
  refine Ct.of pn_Mo (Nat.le_of_ble_eq_true rfl) ?_
  show G SM m_Mo_takes 2 (some w.1) w.2 0 [(0, .ref 0), (1, .int l1)] [] S
  refine G_aload_n 0 rfl d_Mo_takes_0 ?_
  obtain ⟨v_1, q_1, h⟩ := ob_b h
  refine G_callV [] [] (t_Mo_here q_1) (by decide) (by decide) mv_Mo_here rfl ml_Mo_148 km_0 sm_0 cl_12 rfl (Nat.le_of_ble_eq_true rfl) d_Mo_takes_1 ?_
  refine G_iload_n 1 rfl d_Mo_takes_4 ?_
  refine G_icmp_eq 18 (by decide) d_Mo_takes_5 (fun c_5 => ?_) (fun c_5 => ?_)
  · replace h := ob_t h c_5
    refine G_aload_n 0 rfl d_Mo_takes_18 ?_
    refine G_aload_n 0 rfl d_Mo_takes_19 ?_
    refine G_getI fl_Mo_142 km_0 sm_0 rfl d_Mo_takes_20 ?_
    refine G_iconst 1 (by decide) d_Mo_takes_23 ?_
    refine G_iadd d_Mo_takes_24 ?_
    obtain ⟨S_25, e_25, h⟩ := ob_s h
    refine G_putI e_25 fp_Mo_142 km_0 sm_0 rfl d_Mo_takes_25 ?_
    refine G_iconst 1 (by decide) d_Mo_takes_28 ?_
    cases h
    exact G_zret (Or.inr rfl) rfl d_Mo_takes_29
  · replace h := ob_f h c_5
    refine G_aload_n 0 rfl d_Mo_takes_8 ?_
    refine G_iconst 1 (by decide) d_Mo_takes_9 ?_
    refine G_aload_n 0 rfl d_Mo_takes_10 ?_
    refine G_getI fl_Mo_142 km_0 sm_0 rfl d_Mo_takes_11 ?_
    obtain ⟨w_14, q_14, h⟩ := ob_b h
    refine G_callV [.int 1, .int (S 0 8)] [] (t_Mo_wrongAt q_14) (by decide) (by decide) mv_Mo_wrongAt rfl ml_Mo_155 km_0 sm_0 cl_12 rfl (Nat.le_of_ble_eq_true rfl) d_Mo_takes_14 ?_
    obtain ⟨g_17, h⟩ := ob_g h
    cases h
    exact G_zret g_17 rfl d_Mo_takes_17
theorem d_Mo_readsNumber_0 : decode m_Mo_readsNumber.2.1 0 = .ok (.aload_n 0, 1) := by decide +kernel
theorem d_Mo_readsNumber_1 : decode m_Mo_readsNumber.2.1 1 = .ok (.getfield 142, 3) := by decide +kernel
theorem d_Mo_readsNumber_4 : decode m_Mo_readsNumber.2.1 4 = .ok (.istore_n 1, 1) := by decide +kernel
theorem d_Mo_readsNumber_5 : decode m_Mo_readsNumber.2.1 5 = .ok (.aload_n 0, 1) := by decide +kernel
theorem d_Mo_readsNumber_6 : decode m_Mo_readsNumber.2.1 6 = .ok (.iconst 0, 1) := by decide +kernel
theorem d_Mo_readsNumber_7 : decode m_Mo_readsNumber.2.1 7 = .ok (.putfield 159, 3) := by decide +kernel
theorem d_Mo_readsNumber_10 : decode m_Mo_readsNumber.2.1 10 = .ok (.aload_n 0, 1) := by decide +kernel
theorem d_Mo_readsNumber_11 : decode m_Mo_readsNumber.2.1 11 = .ok (.invokevirtual 162, 3) := by decide +kernel
theorem d_Mo_readsNumber_14 : decode m_Mo_readsNumber.2.1 14 = .ok (.ifCond .eq 55, 3) := by decide +kernel
theorem d_Mo_readsNumber_17 : decode m_Mo_readsNumber.2.1 17 = .ok (.aload_n 0, 1) := by decide +kernel
theorem d_Mo_readsNumber_18 : decode m_Mo_readsNumber.2.1 18 = .ok (.getfield 142, 3) := by decide +kernel
theorem d_Mo_readsNumber_21 : decode m_Mo_readsNumber.2.1 21 = .ok (.iload_n 1, 1) := by decide +kernel
theorem d_Mo_readsNumber_22 : decode m_Mo_readsNumber.2.1 22 = .ok (.iconst 5, 1) := by decide +kernel
theorem d_Mo_readsNumber_23 : decode m_Mo_readsNumber.2.1 23 = .ok (.iadd, 1) := by decide +kernel
theorem d_Mo_readsNumber_24 : decode m_Mo_readsNumber.2.1 24 = .ok (.if_icmp .ne 13, 3) := by decide +kernel
theorem d_Mo_readsNumber_27 : decode m_Mo_readsNumber.2.1 27 = .ok (.aload_n 0, 1) := by decide +kernel
theorem d_Mo_readsNumber_28 : decode m_Mo_readsNumber.2.1 28 = .ok (.iconst 2, 1) := by decide +kernel
theorem d_Mo_readsNumber_29 : decode m_Mo_readsNumber.2.1 29 = .ok (.aload_n 0, 1) := by decide +kernel
theorem d_Mo_readsNumber_30 : decode m_Mo_readsNumber.2.1 30 = .ok (.getfield 142, 3) := by decide +kernel
theorem d_Mo_readsNumber_33 : decode m_Mo_readsNumber.2.1 33 = .ok (.invokevirtual 155, 3) := by decide +kernel
theorem d_Mo_readsNumber_36 : decode m_Mo_readsNumber.2.1 36 = .ok (.ireturn, 1) := by decide +kernel
theorem d_Mo_readsNumber_37 : decode m_Mo_readsNumber.2.1 37 = .ok (.aload_n 0, 1) := by decide +kernel
theorem d_Mo_readsNumber_38 : decode m_Mo_readsNumber.2.1 38 = .ok (.bipush 10, 2) := by decide +kernel
theorem d_Mo_readsNumber_40 : decode m_Mo_readsNumber.2.1 40 = .ok (.aload_n 0, 1) := by decide +kernel
theorem d_Mo_readsNumber_41 : decode m_Mo_readsNumber.2.1 41 = .ok (.getfield 159, 3) := by decide +kernel
theorem d_Mo_readsNumber_44 : decode m_Mo_readsNumber.2.1 44 = .ok (.imul, 1) := by decide +kernel
theorem d_Mo_readsNumber_45 : decode m_Mo_readsNumber.2.1 45 = .ok (.aload_n 0, 1) := by decide +kernel
theorem d_Mo_readsNumber_46 : decode m_Mo_readsNumber.2.1 46 = .ok (.invokevirtual 148, 3) := by decide +kernel
theorem d_Mo_readsNumber_49 : decode m_Mo_readsNumber.2.1 49 = .ok (.iadd, 1) := by decide +kernel
theorem d_Mo_readsNumber_50 : decode m_Mo_readsNumber.2.1 50 = .ok (.bipush 48, 2) := by decide +kernel
theorem d_Mo_readsNumber_52 : decode m_Mo_readsNumber.2.1 52 = .ok (.isub, 1) := by decide +kernel
theorem d_Mo_readsNumber_53 : decode m_Mo_readsNumber.2.1 53 = .ok (.putfield 159, 3) := by decide +kernel
theorem d_Mo_readsNumber_56 : decode m_Mo_readsNumber.2.1 56 = .ok (.aload_n 0, 1) := by decide +kernel
theorem d_Mo_readsNumber_57 : decode m_Mo_readsNumber.2.1 57 = .ok (.aload_n 0, 1) := by decide +kernel
theorem d_Mo_readsNumber_58 : decode m_Mo_readsNumber.2.1 58 = .ok (.getfield 142, 3) := by decide +kernel
theorem d_Mo_readsNumber_61 : decode m_Mo_readsNumber.2.1 61 = .ok (.iconst 1, 1) := by decide +kernel
theorem d_Mo_readsNumber_62 : decode m_Mo_readsNumber.2.1 62 = .ok (.iadd, 1) := by decide +kernel
theorem d_Mo_readsNumber_63 : decode m_Mo_readsNumber.2.1 63 = .ok (.putfield 142, 3) := by decide +kernel
theorem d_Mo_readsNumber_66 : decode m_Mo_readsNumber.2.1 66 = .ok (.goto (-56), 3) := by decide +kernel
theorem d_Mo_readsNumber_69 : decode m_Mo_readsNumber.2.1 69 = .ok (.iconst 1, 1) := by decide +kernel
theorem d_Mo_readsNumber_70 : decode m_Mo_readsNumber.2.1 70 = .ok (.ireturn, 1) := by decide +kernel
def f_Mo_readsNumber_10 : Nat → St → Int32 → Option (Int32 × St)
  | 0, _, _ => none
  | n + 1, S, l1 =>
    (f_Mo_isDigit S).bind fun v_11 =>
    if v_11 = 0 then (
    some (1, S))
    else (
    if (S 0 8) = (l1 + 5) then (
    (f_Mo_wrongAt S (2 : Int32) (S 0 8)).bind fun w_33 =>
    if w_33.1 = 0 ∨ w_33.1 = 1 then (
    some (w_33.1, w_33.2)) else none)
    else (
    (f_Mo_here S).bind fun v_46 =>
    (some (sF S 0 11 (((10 * (S 0 11)) + v_46) - 48))).bind fun S_53 =>
    (some (sF S_53 0 8 ((S_53 0 8) + 1))).bind fun S_63 =>
    f_Mo_readsNumber_10 n S_63 l1))
set_option maxHeartbeats 4000000 in
set_option maxRecDepth 20000 in
theorem t_Mo_readsNumber_10  : ∀ (n : Nat) (S : St) (l1 : Int32) (w : Int32 × St), f_Mo_readsNumber_10 n S l1 = some w → G SM m_Mo_readsNumber 3 (some w.1) w.2 10 [(0, .ref 0), (1, .int l1)] [] S := by
  intro n
  induction n with
  | zero =>
    intro S l1 w h
    rw [f_Mo_readsNumber_10] at h
    cases h
  | succ n ih =>
    intro S l1 w h
    rw [f_Mo_readsNumber_10] at h
    refine G_aload_n 0 rfl d_Mo_readsNumber_10 ?_
    obtain ⟨v_11, q_11, h⟩ := ob_b h
    refine G_callV [] [] (t_Mo_isDigit q_11) (by decide) (by decide) mv_Mo_isDigit rfl ml_Mo_162 km_0 sm_0 cl_12 rfl (Nat.le_of_ble_eq_true rfl) d_Mo_readsNumber_11 ?_
    refine G_if_eq 69 (by decide) d_Mo_readsNumber_14 (fun c_14 => ?_) (fun c_14 => ?_)
    · replace h := ob_t h c_14
      refine G_iconst 1 (by decide) d_Mo_readsNumber_69 ?_
      cases h
      exact G_zret (Or.inr rfl) rfl d_Mo_readsNumber_70
    · replace h := ob_f h c_14
      refine G_aload_n 0 rfl d_Mo_readsNumber_17 ?_
      refine G_getI fl_Mo_142 km_0 sm_0 rfl d_Mo_readsNumber_18 ?_
      refine G_iload_n 1 rfl d_Mo_readsNumber_21 ?_
      refine G_iconst 5 (by decide) d_Mo_readsNumber_22 ?_
      refine G_iadd d_Mo_readsNumber_23 ?_
      refine G_icmp_ne 37 (by decide) d_Mo_readsNumber_24 (fun c_24 => ?_) (fun c_24 => ?_)
      · replace h := ob_f h c_24
        refine G_aload_n 0 rfl d_Mo_readsNumber_37 ?_
        refine G_bipush 10 (by decide) d_Mo_readsNumber_38 ?_
        refine G_aload_n 0 rfl d_Mo_readsNumber_40 ?_
        refine G_getI fl_Mo_159 km_0 sm_0 rfl d_Mo_readsNumber_41 ?_
        refine G_imul d_Mo_readsNumber_44 ?_
        refine G_aload_n 0 rfl d_Mo_readsNumber_45 ?_
        obtain ⟨v_46, q_46, h⟩ := ob_b h
        refine G_callV [] [.int (10 * (S 0 11)), .ref 0] (t_Mo_here q_46) (by decide) (by decide) mv_Mo_here rfl ml_Mo_148 km_0 sm_0 cl_12 rfl (Nat.le_of_ble_eq_true rfl) d_Mo_readsNumber_46 ?_
        refine G_iadd d_Mo_readsNumber_49 ?_
        refine G_bipush 48 (by decide) d_Mo_readsNumber_50 ?_
        refine G_isub d_Mo_readsNumber_52 ?_
        obtain ⟨S_53, e_53, h⟩ := ob_s h
        refine G_putI e_53 fp_Mo_159 km_0 sm_0 rfl d_Mo_readsNumber_53 ?_
        refine G_aload_n 0 rfl d_Mo_readsNumber_56 ?_
        refine G_aload_n 0 rfl d_Mo_readsNumber_57 ?_
        refine G_getI fl_Mo_142 km_0 sm_0 rfl d_Mo_readsNumber_58 ?_
        refine G_iconst 1 (by decide) d_Mo_readsNumber_61 ?_
        refine G_iadd d_Mo_readsNumber_62 ?_
        obtain ⟨S_63, e_63, h⟩ := ob_s h
        refine G_putI e_63 fp_Mo_142 km_0 sm_0 rfl d_Mo_readsNumber_63 ?_
        refine G_goto 10 (by decide) d_Mo_readsNumber_66 ?_
        exact G_sub _ [0, 1] rfl (ih S_63 l1 _ h)
      · replace h := ob_t h c_24
        refine G_aload_n 0 rfl d_Mo_readsNumber_27 ?_
        refine G_iconst 2 (by decide) d_Mo_readsNumber_28 ?_
        refine G_aload_n 0 rfl d_Mo_readsNumber_29 ?_
        refine G_getI fl_Mo_142 km_0 sm_0 rfl d_Mo_readsNumber_30 ?_
        obtain ⟨w_33, q_33, h⟩ := ob_b h
        refine G_callV [.int 2, .int (S 0 8)] [] (t_Mo_wrongAt q_33) (by decide) (by decide) mv_Mo_wrongAt rfl ml_Mo_155 km_0 sm_0 cl_12 rfl (Nat.le_of_ble_eq_true rfl) d_Mo_readsNumber_33 ?_
        obtain ⟨g_36, h⟩ := ob_g h
        cases h
        exact G_zret g_36 rfl d_Mo_readsNumber_36
def f_Mo_readsNumber (S : St) : Option (Int32 × St) :=
    (some (S 0 8)).bind fun l1_4 =>
    (some (sF S 0 11 0)).bind fun S_7 =>
    f_Mo_readsNumber_10 FU S_7 l1_4
set_option maxHeartbeats 4000000 in
set_option maxRecDepth 20000 in
theorem t_Mo_readsNumber  {S : St} {w : Int32 × St} (h : f_Mo_readsNumber S = some w) : Ct SM m_Mo_readsNumber 3 [.ref 0] S (some w.1) w.2 := by
  unfold f_Mo_readsNumber at h
  refine Ct.of pn_Mo (Nat.le_of_ble_eq_true rfl) ?_
  show G SM m_Mo_readsNumber 3 (some w.1) w.2 0 [(0, .ref 0)] [] S
  refine G_aload_n 0 rfl d_Mo_readsNumber_0 ?_
  refine G_getI fl_Mo_142 km_0 sm_0 rfl d_Mo_readsNumber_1 ?_
  obtain ⟨l1_4, e_4, h⟩ := ob_s h
  refine G_istore_n [(1, .int l1_4), (0, .ref 0)] e_4 rfl (by decide) d_Mo_readsNumber_4 ?_
  refine G_aload_n 1 rfl d_Mo_readsNumber_5 ?_
  refine G_iconst 0 (by decide) d_Mo_readsNumber_6 ?_
  obtain ⟨S_7, e_7, h⟩ := ob_s h
  refine G_putI e_7 fp_Mo_159 km_0 sm_0 rfl d_Mo_readsNumber_7 ?_
  exact G_sub _ [1, 0] rfl (t_Mo_readsNumber_10 FU S_7 l1_4 _ h)
theorem d_Mo_notes_0 : decode m_Mo_notes.2.1 0 = .ok (.aload_n 0, 1) := by decide +kernel
theorem d_Mo_notes_1 : decode m_Mo_notes.2.1 1 = .ok (.getfield 29, 3) := by decide +kernel
theorem d_Mo_notes_4 : decode m_Mo_notes.2.1 4 = .ok (.aload_n 0, 1) := by decide +kernel
theorem d_Mo_notes_5 : decode m_Mo_notes.2.1 5 = .ok (.getfield 166, 3) := by decide +kernel
theorem d_Mo_notes_8 : decode m_Mo_notes.2.1 8 = .ok (.ldc 169, 2) := by decide +kernel
theorem d_Mo_notes_10 : decode m_Mo_notes.2.1 10 = .ok (.iload_n 1, 1) := by decide +kernel
theorem d_Mo_notes_11 : decode m_Mo_notes.2.1 11 = .ok (.imul, 1) := by decide +kernel
theorem d_Mo_notes_12 : decode m_Mo_notes.2.1 12 = .ok (.iload_n 2, 1) := by decide +kernel
theorem d_Mo_notes_13 : decode m_Mo_notes.2.1 13 = .ok (.iadd, 1) := by decide +kernel
theorem d_Mo_notes_14 : decode m_Mo_notes.2.1 14 = .ok (.iastore, 1) := by decide +kernel
theorem d_Mo_notes_15 : decode m_Mo_notes.2.1 15 = .ok (.aload_n 0, 1) := by decide +kernel
theorem d_Mo_notes_16 : decode m_Mo_notes.2.1 16 = .ok (.aload_n 0, 1) := by decide +kernel
theorem d_Mo_notes_17 : decode m_Mo_notes.2.1 17 = .ok (.getfield 166, 3) := by decide +kernel
theorem d_Mo_notes_20 : decode m_Mo_notes.2.1 20 = .ok (.iconst 1, 1) := by decide +kernel
theorem d_Mo_notes_21 : decode m_Mo_notes.2.1 21 = .ok (.iadd, 1) := by decide +kernel
theorem d_Mo_notes_22 : decode m_Mo_notes.2.1 22 = .ok (.putfield 166, 3) := by decide +kernel
theorem d_Mo_notes_25 : decode m_Mo_notes.2.1 25 = .ok (.return_, 1) := by decide +kernel
def f_Mo_notes (S : St) (l1 : Int32) (l2 : Int32) : Option (St) :=
    if ig (S 0 13) 260 then (
    (some (sF S 7 (S 0 13).toNatClampNeg ((1048576 * l1) + l2))).bind fun S_14 =>
    (some (sF S_14 0 13 ((S_14 0 13) + 1))).bind fun S_22 =>
    some S_22) else none
set_option maxHeartbeats 4000000 in
set_option maxRecDepth 20000 in
theorem t_Mo_notes  {S : St} {l1 : Int32} {l2 : Int32} {w : St} (h : f_Mo_notes S l1 l2 = some w) : Ct SM m_Mo_notes 1 [.ref 0, .int l1, .int l2] S none w := by
  unfold f_Mo_notes at h
  refine Ct.of pn_Mo (Nat.le_of_ble_eq_true rfl) ?_
  show G SM m_Mo_notes 1 none w 0 [(0, .ref 0), (1, .int l1), (2, .int l2)] [] S
  refine G_aload_n 0 rfl d_Mo_notes_0 ?_
  refine G_getR fl_Mo_29 km_0 sm_0 rfl (by decide) d_Mo_notes_1 ?_
  refine G_aload_n 0 rfl d_Mo_notes_4 ?_
  refine G_getI fl_Mo_166 km_0 sm_0 rfl d_Mo_notes_5 ?_
  refine G_ldc c_Mo_169 d_Mo_notes_8 ?_
  refine G_iload_n 1 rfl d_Mo_notes_10 ?_
  refine G_imul d_Mo_notes_11 ?_
  refine G_iload_n 2 rfl d_Mo_notes_12 ?_
  refine G_iadd d_Mo_notes_13 ?_
  obtain ⟨g_14, h⟩ := ob_g h
  obtain ⟨S_14, e_14, h⟩ := ob_s h
  refine G_iastore e_14 km_7 sm_7 g_14 d_Mo_notes_14 ?_
  refine G_aload_n 0 rfl d_Mo_notes_15 ?_
  refine G_aload_n 0 rfl d_Mo_notes_16 ?_
  refine G_getI fl_Mo_166 km_0 sm_0 rfl d_Mo_notes_17 ?_
  refine G_iconst 1 (by decide) d_Mo_notes_20 ?_
  refine G_iadd d_Mo_notes_21 ?_
  obtain ⟨S_22, e_22, h⟩ := ob_s h
  refine G_putI e_22 fp_Mo_166 km_0 sm_0 rfl d_Mo_notes_22 ?_
  cases h
  exact G_vret rfl d_Mo_notes_25
theorem d_Mo_opens_0 : decode m_Mo_opens.2.1 0 = .ok (.aload_n 0, 1) := by decide +kernel
theorem d_Mo_opens_1 : decode m_Mo_opens.2.1 1 = .ok (.getfield 170, 3) := by decide +kernel
theorem d_Mo_opens_4 : decode m_Mo_opens.2.1 4 = .ok (.bipush 6, 2) := by decide +kernel
theorem d_Mo_opens_6 : decode m_Mo_opens.2.1 6 = .ok (.if_icmp .ne 13, 3) := by decide +kernel
theorem d_Mo_opens_9 : decode m_Mo_opens.2.1 9 = .ok (.aload_n 0, 1) := by decide +kernel
theorem d_Mo_opens_10 : decode m_Mo_opens.2.1 10 = .ok (.iconst 5, 1) := by decide +kernel
theorem d_Mo_opens_11 : decode m_Mo_opens.2.1 11 = .ok (.aload_n 0, 1) := by decide +kernel
theorem d_Mo_opens_12 : decode m_Mo_opens.2.1 12 = .ok (.getfield 142, 3) := by decide +kernel
theorem d_Mo_opens_15 : decode m_Mo_opens.2.1 15 = .ok (.invokevirtual 155, 3) := by decide +kernel
theorem d_Mo_opens_18 : decode m_Mo_opens.2.1 18 = .ok (.ireturn, 1) := by decide +kernel
theorem d_Mo_opens_19 : decode m_Mo_opens.2.1 19 = .ok (.aload_n 0, 1) := by decide +kernel
theorem d_Mo_opens_20 : decode m_Mo_opens.2.1 20 = .ok (.aload_n 0, 1) := by decide +kernel
theorem d_Mo_opens_21 : decode m_Mo_opens.2.1 21 = .ok (.getfield 170, 3) := by decide +kernel
theorem d_Mo_opens_24 : decode m_Mo_opens.2.1 24 = .ok (.iconst 1, 1) := by decide +kernel
theorem d_Mo_opens_25 : decode m_Mo_opens.2.1 25 = .ok (.iadd, 1) := by decide +kernel
theorem d_Mo_opens_26 : decode m_Mo_opens.2.1 26 = .ok (.putfield 170, 3) := by decide +kernel
theorem d_Mo_opens_29 : decode m_Mo_opens.2.1 29 = .ok (.aload_n 0, 1) := by decide +kernel
theorem d_Mo_opens_30 : decode m_Mo_opens.2.1 30 = .ok (.getfield 32, 3) := by decide +kernel
theorem d_Mo_opens_33 : decode m_Mo_opens.2.1 33 = .ok (.aload_n 0, 1) := by decide +kernel
theorem d_Mo_opens_34 : decode m_Mo_opens.2.1 34 = .ok (.getfield 173, 3) := by decide +kernel
theorem d_Mo_opens_37 : decode m_Mo_opens.2.1 37 = .ok (.ldc 169, 2) := by decide +kernel
theorem d_Mo_opens_39 : decode m_Mo_opens.2.1 39 = .ok (.iload_n 1, 1) := by decide +kernel
theorem d_Mo_opens_40 : decode m_Mo_opens.2.1 40 = .ok (.imul, 1) := by decide +kernel
theorem d_Mo_opens_41 : decode m_Mo_opens.2.1 41 = .ok (.iastore, 1) := by decide +kernel
theorem d_Mo_opens_42 : decode m_Mo_opens.2.1 42 = .ok (.aload_n 0, 1) := by decide +kernel
theorem d_Mo_opens_43 : decode m_Mo_opens.2.1 43 = .ok (.aload_n 0, 1) := by decide +kernel
theorem d_Mo_opens_44 : decode m_Mo_opens.2.1 44 = .ok (.getfield 173, 3) := by decide +kernel
theorem d_Mo_opens_47 : decode m_Mo_opens.2.1 47 = .ok (.iconst 1, 1) := by decide +kernel
theorem d_Mo_opens_48 : decode m_Mo_opens.2.1 48 = .ok (.iadd, 1) := by decide +kernel
theorem d_Mo_opens_49 : decode m_Mo_opens.2.1 49 = .ok (.putfield 173, 3) := by decide +kernel
theorem d_Mo_opens_52 : decode m_Mo_opens.2.1 52 = .ok (.aload_n 0, 1) := by decide +kernel
theorem d_Mo_opens_53 : decode m_Mo_opens.2.1 53 = .ok (.aload_n 0, 1) := by decide +kernel
theorem d_Mo_opens_54 : decode m_Mo_opens.2.1 54 = .ok (.getfield 142, 3) := by decide +kernel
theorem d_Mo_opens_57 : decode m_Mo_opens.2.1 57 = .ok (.iconst 1, 1) := by decide +kernel
theorem d_Mo_opens_58 : decode m_Mo_opens.2.1 58 = .ok (.iadd, 1) := by decide +kernel
theorem d_Mo_opens_59 : decode m_Mo_opens.2.1 59 = .ok (.putfield 142, 3) := by decide +kernel
theorem d_Mo_opens_62 : decode m_Mo_opens.2.1 62 = .ok (.iconst 1, 1) := by decide +kernel
theorem d_Mo_opens_63 : decode m_Mo_opens.2.1 63 = .ok (.ireturn, 1) := by decide +kernel
def f_Mo_opens (S : St) (l1 : Int32) : Option (Int32 × St) :=
    if (S 0 12) = 6 then (
    (f_Mo_wrongAt S (5 : Int32) (S 0 8)).bind fun w_15 =>
    if w_15.1 = 0 ∨ w_15.1 = 1 then (
    some (w_15.1, w_15.2)) else none)
    else (
    (some (sF S 0 12 ((S 0 12) + 1))).bind fun S_26 =>
    if ig (S_26 0 14) 260 then (
    (some (sF S_26 8 (S_26 0 14).toNatClampNeg (1048576 * l1))).bind fun S_41 =>
    (some (sF S_41 0 14 ((S_41 0 14) + 1))).bind fun S_49 =>
    (some (sF S_49 0 8 ((S_49 0 8) + 1))).bind fun S_59 =>
    some (1, S_59)) else none)
set_option maxHeartbeats 4000000 in
set_option maxRecDepth 20000 in
theorem t_Mo_opens  {S : St} {l1 : Int32} {w : Int32 × St} (h : f_Mo_opens S l1 = some w) : Ct SM m_Mo_opens 2 [.ref 0, .int l1] S (some w.1) w.2 := by
  unfold f_Mo_opens at h
  refine Ct.of pn_Mo (Nat.le_of_ble_eq_true rfl) ?_
  show G SM m_Mo_opens 2 (some w.1) w.2 0 [(0, .ref 0), (1, .int l1)] [] S
  refine G_aload_n 0 rfl d_Mo_opens_0 ?_
  refine G_getI fl_Mo_170 km_0 sm_0 rfl d_Mo_opens_1 ?_
  refine G_bipush 6 (by decide) d_Mo_opens_4 ?_
  refine G_icmp_ne 19 (by decide) d_Mo_opens_6 (fun c_6 => ?_) (fun c_6 => ?_)
  · replace h := ob_f h c_6
    refine G_aload_n 0 rfl d_Mo_opens_19 ?_
    refine G_aload_n 0 rfl d_Mo_opens_20 ?_
    refine G_getI fl_Mo_170 km_0 sm_0 rfl d_Mo_opens_21 ?_
    refine G_iconst 1 (by decide) d_Mo_opens_24 ?_
    refine G_iadd d_Mo_opens_25 ?_
    obtain ⟨S_26, e_26, h⟩ := ob_s h
    refine G_putI e_26 fp_Mo_170 km_0 sm_0 rfl d_Mo_opens_26 ?_
    refine G_aload_n 0 rfl d_Mo_opens_29 ?_
    refine G_getR fl_Mo_32 km_0 sm_0 rfl (by decide) d_Mo_opens_30 ?_
    refine G_aload_n 0 rfl d_Mo_opens_33 ?_
    refine G_getI fl_Mo_173 km_0 sm_0 rfl d_Mo_opens_34 ?_
    refine G_ldc c_Mo_169 d_Mo_opens_37 ?_
    refine G_iload_n 1 rfl d_Mo_opens_39 ?_
    refine G_imul d_Mo_opens_40 ?_
    obtain ⟨g_41, h⟩ := ob_g h
    obtain ⟨S_41, e_41, h⟩ := ob_s h
    refine G_iastore e_41 km_8 sm_8 g_41 d_Mo_opens_41 ?_
    refine G_aload_n 0 rfl d_Mo_opens_42 ?_
    refine G_aload_n 0 rfl d_Mo_opens_43 ?_
    refine G_getI fl_Mo_173 km_0 sm_0 rfl d_Mo_opens_44 ?_
    refine G_iconst 1 (by decide) d_Mo_opens_47 ?_
    refine G_iadd d_Mo_opens_48 ?_
    obtain ⟨S_49, e_49, h⟩ := ob_s h
    refine G_putI e_49 fp_Mo_173 km_0 sm_0 rfl d_Mo_opens_49 ?_
    refine G_aload_n 0 rfl d_Mo_opens_52 ?_
    refine G_aload_n 0 rfl d_Mo_opens_53 ?_
    refine G_getI fl_Mo_142 km_0 sm_0 rfl d_Mo_opens_54 ?_
    refine G_iconst 1 (by decide) d_Mo_opens_57 ?_
    refine G_iadd d_Mo_opens_58 ?_
    obtain ⟨S_59, e_59, h⟩ := ob_s h
    refine G_putI e_59 fp_Mo_142 km_0 sm_0 rfl d_Mo_opens_59 ?_
    refine G_iconst 1 (by decide) d_Mo_opens_62 ?_
    cases h
    exact G_zret (Or.inr rfl) rfl d_Mo_opens_63
  · replace h := ob_t h c_6
    refine G_aload_n 0 rfl d_Mo_opens_9 ?_
    refine G_iconst 5 (by decide) d_Mo_opens_10 ?_
    refine G_aload_n 0 rfl d_Mo_opens_11 ?_
    refine G_getI fl_Mo_142 km_0 sm_0 rfl d_Mo_opens_12 ?_
    obtain ⟨w_15, q_15, h⟩ := ob_b h
    refine G_callV [.int 5, .int (S 0 8)] [] (t_Mo_wrongAt q_15) (by decide) (by decide) mv_Mo_wrongAt rfl ml_Mo_155 km_0 sm_0 cl_12 rfl (Nat.le_of_ble_eq_true rfl) d_Mo_opens_15 ?_
    obtain ⟨g_18, h⟩ := ob_g h
    cases h
    exact G_zret g_18 rfl d_Mo_opens_18
theorem d_Mo_waitTop_0 : decode m_Mo_waitTop.2.1 0 = .ok (.aload_n 0, 1) := by decide +kernel
theorem d_Mo_waitTop_1 : decode m_Mo_waitTop.2.1 1 = .ok (.getfield 173, 3) := by decide +kernel
theorem d_Mo_waitTop_4 : decode m_Mo_waitTop.2.1 4 = .ok (.ifCond .ne 7, 3) := by decide +kernel
theorem d_Mo_waitTop_7 : decode m_Mo_waitTop.2.1 7 = .ok (.iconst (-1), 1) := by decide +kernel
theorem d_Mo_waitTop_8 : decode m_Mo_waitTop.2.1 8 = .ok (.goto 17, 3) := by decide +kernel
theorem d_Mo_waitTop_11 : decode m_Mo_waitTop.2.1 11 = .ok (.aload_n 0, 1) := by decide +kernel
theorem d_Mo_waitTop_12 : decode m_Mo_waitTop.2.1 12 = .ok (.getfield 32, 3) := by decide +kernel
theorem d_Mo_waitTop_15 : decode m_Mo_waitTop.2.1 15 = .ok (.aload_n 0, 1) := by decide +kernel
theorem d_Mo_waitTop_16 : decode m_Mo_waitTop.2.1 16 = .ok (.getfield 173, 3) := by decide +kernel
theorem d_Mo_waitTop_19 : decode m_Mo_waitTop.2.1 19 = .ok (.iconst 1, 1) := by decide +kernel
theorem d_Mo_waitTop_20 : decode m_Mo_waitTop.2.1 20 = .ok (.isub, 1) := by decide +kernel
theorem d_Mo_waitTop_21 : decode m_Mo_waitTop.2.1 21 = .ok (.iaload, 1) := by decide +kernel
theorem d_Mo_waitTop_22 : decode m_Mo_waitTop.2.1 22 = .ok (.ldc 169, 2) := by decide +kernel
theorem d_Mo_waitTop_24 : decode m_Mo_waitTop.2.1 24 = .ok (.idiv, 1) := by decide +kernel
theorem d_Mo_waitTop_25 : decode m_Mo_waitTop.2.1 25 = .ok (.ireturn, 1) := by decide +kernel
def f_Mo_waitTop (S : St) : Option (Int32) :=
    if (S 0 14) = 0 then (
    some ((-1) : Int32))
    else (
    if ig ((S 0 14) - 1) 260 then (
    some ((S 8 ((S 0 14) - 1).toNatClampNeg) / 1048576)) else none)
set_option maxHeartbeats 4000000 in
set_option maxRecDepth 20000 in
theorem t_Mo_waitTop  {S : St} {w : Int32} (h : f_Mo_waitTop S = some w) : Ct SM m_Mo_waitTop 1 [.ref 0] S (some w) S := by
  unfold f_Mo_waitTop at h
  refine Ct.of pn_Mo (Nat.le_of_ble_eq_true rfl) ?_
  show G SM m_Mo_waitTop 1 (some w) S 0 [(0, .ref 0)] [] S
  refine G_aload_n 0 rfl d_Mo_waitTop_0 ?_
  refine G_getI fl_Mo_173 km_0 sm_0 rfl d_Mo_waitTop_1 ?_
  refine G_if_ne 11 (by decide) d_Mo_waitTop_4 (fun c_4 => ?_) (fun c_4 => ?_)
  · replace h := ob_f h c_4
    refine G_aload_n 0 rfl d_Mo_waitTop_11 ?_
    refine G_getR fl_Mo_32 km_0 sm_0 rfl (by decide) d_Mo_waitTop_12 ?_
    refine G_aload_n 0 rfl d_Mo_waitTop_15 ?_
    refine G_getI fl_Mo_173 km_0 sm_0 rfl d_Mo_waitTop_16 ?_
    refine G_iconst 1 (by decide) d_Mo_waitTop_19 ?_
    refine G_isub d_Mo_waitTop_20 ?_
    obtain ⟨g_21, h⟩ := ob_g h
    refine G_iaload km_8 sm_8 g_21 d_Mo_waitTop_21 ?_
    refine G_ldc c_Mo_169 d_Mo_waitTop_22 ?_
    refine G_idiv (by decide) d_Mo_waitTop_24 ?_
    cases h
    exact G_iret rfl d_Mo_waitTop_25
  · replace h := ob_t h c_4
    refine G_iconst (-1) (by decide) d_Mo_waitTop_7 ?_
    refine G_goto 25 (by decide) d_Mo_waitTop_8 ?_
    cases h
    exact G_iret rfl d_Mo_waitTop_25
theorem d_Mo_factOf_0 : decode m_Mo_factOf.2.1 0 = .ok (.iload_n 0, 1) := by decide +kernel
theorem d_Mo_factOf_1 : decode m_Mo_factOf.2.1 1 = .ok (.tableswitch 96 105 119 #[83, 96, 75, 81, 85, 79, 87, 77, 96, 96, 96, 90, 96, 96, 93], 75) := by decide +kernel
theorem d_Mo_factOf_76 : decode m_Mo_factOf.2.1 76 = .ok (.iconst 0, 1) := by decide +kernel
theorem d_Mo_factOf_77 : decode m_Mo_factOf.2.1 77 = .ok (.ireturn, 1) := by decide +kernel
theorem d_Mo_factOf_78 : decode m_Mo_factOf.2.1 78 = .ok (.iconst 1, 1) := by decide +kernel
theorem d_Mo_factOf_79 : decode m_Mo_factOf.2.1 79 = .ok (.ireturn, 1) := by decide +kernel
theorem d_Mo_factOf_80 : decode m_Mo_factOf.2.1 80 = .ok (.iconst 2, 1) := by decide +kernel
theorem d_Mo_factOf_81 : decode m_Mo_factOf.2.1 81 = .ok (.ireturn, 1) := by decide +kernel
theorem d_Mo_factOf_82 : decode m_Mo_factOf.2.1 82 = .ok (.iconst 3, 1) := by decide +kernel
theorem d_Mo_factOf_83 : decode m_Mo_factOf.2.1 83 = .ok (.ireturn, 1) := by decide +kernel
theorem d_Mo_factOf_84 : decode m_Mo_factOf.2.1 84 = .ok (.iconst 4, 1) := by decide +kernel
theorem d_Mo_factOf_85 : decode m_Mo_factOf.2.1 85 = .ok (.ireturn, 1) := by decide +kernel
theorem d_Mo_factOf_86 : decode m_Mo_factOf.2.1 86 = .ok (.iconst 5, 1) := by decide +kernel
theorem d_Mo_factOf_87 : decode m_Mo_factOf.2.1 87 = .ok (.ireturn, 1) := by decide +kernel
theorem d_Mo_factOf_88 : decode m_Mo_factOf.2.1 88 = .ok (.bipush 6, 2) := by decide +kernel
theorem d_Mo_factOf_90 : decode m_Mo_factOf.2.1 90 = .ok (.ireturn, 1) := by decide +kernel
theorem d_Mo_factOf_91 : decode m_Mo_factOf.2.1 91 = .ok (.bipush 7, 2) := by decide +kernel
theorem d_Mo_factOf_93 : decode m_Mo_factOf.2.1 93 = .ok (.ireturn, 1) := by decide +kernel
theorem d_Mo_factOf_94 : decode m_Mo_factOf.2.1 94 = .ok (.bipush 8, 2) := by decide +kernel
theorem d_Mo_factOf_96 : decode m_Mo_factOf.2.1 96 = .ok (.ireturn, 1) := by decide +kernel
theorem d_Mo_factOf_97 : decode m_Mo_factOf.2.1 97 = .ok (.iconst (-1), 1) := by decide +kernel
theorem d_Mo_factOf_98 : decode m_Mo_factOf.2.1 98 = .ok (.ireturn, 1) := by decide +kernel
def f_Mo_factOf (S : St) (l0 : Int32) : Option (Int32) :=
    if l0 = 105 then (
    some (4 : Int32))
    else if l0 = 107 then (
    some (0 : Int32))
    else if l0 = 108 then (
    some (3 : Int32))
    else if l0 = 109 then (
    some (5 : Int32))
    else if l0 = 110 then (
    some (2 : Int32))
    else if l0 = 111 then (
    some (6 : Int32))
    else if l0 = 112 then (
    some (1 : Int32))
    else if l0 = 116 then (
    some (7 : Int32))
    else if l0 = 119 then (
    some (8 : Int32))
    else (
    some ((-1) : Int32))
set_option maxHeartbeats 4000000 in
set_option maxRecDepth 20000 in
theorem t_Mo_factOf  {S : St} {l0 : Int32} {w : Int32} (h : f_Mo_factOf S l0 = some w) : Ct SM m_Mo_factOf 1 [.int l0] S (some w) S := by
  unfold f_Mo_factOf at h
  refine Ct.of pn_Mo (Nat.le_of_ble_eq_true rfl) ?_
  show G SM m_Mo_factOf 1 (some w) S 0 [(0, .int l0)] [] S
  refine G_iload_n 0 rfl d_Mo_factOf_0 ?_
  by_cases c_1_0 : l0 = 105
  · replace h := ob_t h c_1_0
    refine G_tin (105) (by rw [c_1_0]; decide) 84 (by decide) (by decide) rfl (by decide) d_Mo_factOf_1 ?_
    refine G_iconst 4 (by decide) d_Mo_factOf_84 ?_
    cases h
    exact G_iret rfl d_Mo_factOf_85
  replace h := ob_f h c_1_0
  by_cases c_1_1 : l0 = 107
  · replace h := ob_t h c_1_1
    refine G_tin (107) (by rw [c_1_1]; decide) 76 (by decide) (by decide) rfl (by decide) d_Mo_factOf_1 ?_
    refine G_iconst 0 (by decide) d_Mo_factOf_76 ?_
    cases h
    exact G_iret rfl d_Mo_factOf_77
  replace h := ob_f h c_1_1
  by_cases c_1_2 : l0 = 108
  · replace h := ob_t h c_1_2
    refine G_tin (108) (by rw [c_1_2]; decide) 82 (by decide) (by decide) rfl (by decide) d_Mo_factOf_1 ?_
    refine G_iconst 3 (by decide) d_Mo_factOf_82 ?_
    cases h
    exact G_iret rfl d_Mo_factOf_83
  replace h := ob_f h c_1_2
  by_cases c_1_3 : l0 = 109
  · replace h := ob_t h c_1_3
    refine G_tin (109) (by rw [c_1_3]; decide) 86 (by decide) (by decide) rfl (by decide) d_Mo_factOf_1 ?_
    refine G_iconst 5 (by decide) d_Mo_factOf_86 ?_
    cases h
    exact G_iret rfl d_Mo_factOf_87
  replace h := ob_f h c_1_3
  by_cases c_1_4 : l0 = 110
  · replace h := ob_t h c_1_4
    refine G_tin (110) (by rw [c_1_4]; decide) 80 (by decide) (by decide) rfl (by decide) d_Mo_factOf_1 ?_
    refine G_iconst 2 (by decide) d_Mo_factOf_80 ?_
    cases h
    exact G_iret rfl d_Mo_factOf_81
  replace h := ob_f h c_1_4
  by_cases c_1_5 : l0 = 111
  · replace h := ob_t h c_1_5
    refine G_tin (111) (by rw [c_1_5]; decide) 88 (by decide) (by decide) rfl (by decide) d_Mo_factOf_1 ?_
    refine G_bipush 6 (by decide) d_Mo_factOf_88 ?_
    cases h
    exact G_iret rfl d_Mo_factOf_90
  replace h := ob_f h c_1_5
  by_cases c_1_6 : l0 = 112
  · replace h := ob_t h c_1_6
    refine G_tin (112) (by rw [c_1_6]; decide) 78 (by decide) (by decide) rfl (by decide) d_Mo_factOf_1 ?_
    refine G_iconst 1 (by decide) d_Mo_factOf_78 ?_
    cases h
    exact G_iret rfl d_Mo_factOf_79
  replace h := ob_f h c_1_6
  by_cases c_1_7 : l0 = 116
  · replace h := ob_t h c_1_7
    refine G_tin (116) (by rw [c_1_7]; decide) 91 (by decide) (by decide) rfl (by decide) d_Mo_factOf_1 ?_
    refine G_bipush 7 (by decide) d_Mo_factOf_91 ?_
    cases h
    exact G_iret rfl d_Mo_factOf_93
  replace h := ob_f h c_1_7
  by_cases c_1_8 : l0 = 119
  · replace h := ob_t h c_1_8
    refine G_tin (119) (by rw [c_1_8]; decide) 94 (by decide) (by decide) rfl (by decide) d_Mo_factOf_1 ?_
    refine G_bipush 8 (by decide) d_Mo_factOf_94 ?_
    cases h
    exact G_iret rfl d_Mo_factOf_96
  replace h := ob_f h c_1_8
  by_cases c_1_h106 : l0 = 106
  · refine G_tin (106) (by rw [c_1_h106]; decide) 97 (by decide) (by decide) rfl (by decide) d_Mo_factOf_1 ?_
    refine G_iconst (-1) (by decide) d_Mo_factOf_97 ?_
    cases h
    exact G_iret rfl d_Mo_factOf_98
  by_cases c_1_h113 : l0 = 113
  · refine G_tin (113) (by rw [c_1_h113]; decide) 97 (by decide) (by decide) rfl (by decide) d_Mo_factOf_1 ?_
    refine G_iconst (-1) (by decide) d_Mo_factOf_97 ?_
    cases h
    exact G_iret rfl d_Mo_factOf_98
  by_cases c_1_h114 : l0 = 114
  · refine G_tin (114) (by rw [c_1_h114]; decide) 97 (by decide) (by decide) rfl (by decide) d_Mo_factOf_1 ?_
    refine G_iconst (-1) (by decide) d_Mo_factOf_97 ?_
    cases h
    exact G_iret rfl d_Mo_factOf_98
  by_cases c_1_h115 : l0 = 115
  · refine G_tin (115) (by rw [c_1_h115]; decide) 97 (by decide) (by decide) rfl (by decide) d_Mo_factOf_1 ?_
    refine G_iconst (-1) (by decide) d_Mo_factOf_97 ?_
    cases h
    exact G_iret rfl d_Mo_factOf_98
  by_cases c_1_h117 : l0 = 117
  · refine G_tin (117) (by rw [c_1_h117]; decide) 97 (by decide) (by decide) rfl (by decide) d_Mo_factOf_1 ?_
    refine G_iconst (-1) (by decide) d_Mo_factOf_97 ?_
    cases h
    exact G_iret rfl d_Mo_factOf_98
  by_cases c_1_h118 : l0 = 118
  · refine G_tin (118) (by rw [c_1_h118]; decide) 97 (by decide) (by decide) rfl (by decide) d_Mo_factOf_1 ?_
    refine G_iconst (-1) (by decide) d_Mo_factOf_97 ?_
    cases h
    exact G_iret rfl d_Mo_factOf_98
  have n_1_0 := lv_neT c_1_0 (a := 105) (by decide)
  have n_1_1 := lv_neT c_1_1 (a := 107) (by decide)
  have n_1_2 := lv_neT c_1_2 (a := 108) (by decide)
  have n_1_3 := lv_neT c_1_3 (a := 109) (by decide)
  have n_1_4 := lv_neT c_1_4 (a := 110) (by decide)
  have n_1_5 := lv_neT c_1_5 (a := 111) (by decide)
  have n_1_6 := lv_neT c_1_6 (a := 112) (by decide)
  have n_1_7 := lv_neT c_1_7 (a := 116) (by decide)
  have n_1_8 := lv_neT c_1_8 (a := 119) (by decide)
  have n_1_h106 := lv_neT c_1_h106 (a := 106) (by decide)
  have n_1_h113 := lv_neT c_1_h113 (a := 113) (by decide)
  have n_1_h114 := lv_neT c_1_h114 (a := 114) (by decide)
  have n_1_h115 := lv_neT c_1_h115 (a := 115) (by decide)
  have n_1_h117 := lv_neT c_1_h117 (a := 117) (by decide)
  have n_1_h118 := lv_neT c_1_h118 (a := 118) (by decide)
  refine G_tout (by omega) 97 (by decide) d_Mo_factOf_1 ?_
  refine G_iconst (-1) (by decide) d_Mo_factOf_97 ?_
  cases h
  exact G_iret rfl d_Mo_factOf_98
theorem d_Mo_sumSign_0 : decode m_Mo_sumSign.2.1 0 = .ok (.iload_n 0, 1) := by decide +kernel
theorem d_Mo_sumSign_1 : decode m_Mo_sumSign.2.1 1 = .ok (.bipush 43, 2) := by decide +kernel
theorem d_Mo_sumSign_3 : decode m_Mo_sumSign.2.1 3 = .ok (.if_icmp .ne 7, 3) := by decide +kernel
theorem d_Mo_sumSign_6 : decode m_Mo_sumSign.2.1 6 = .ok (.iconst 2, 1) := by decide +kernel
theorem d_Mo_sumSign_7 : decode m_Mo_sumSign.2.1 7 = .ok (.goto 45, 3) := by decide +kernel
theorem d_Mo_sumSign_10 : decode m_Mo_sumSign.2.1 10 = .ok (.iload_n 0, 1) := by decide +kernel
theorem d_Mo_sumSign_11 : decode m_Mo_sumSign.2.1 11 = .ok (.bipush 45, 2) := by decide +kernel
theorem d_Mo_sumSign_13 : decode m_Mo_sumSign.2.1 13 = .ok (.if_icmp .ne 7, 3) := by decide +kernel
theorem d_Mo_sumSign_16 : decode m_Mo_sumSign.2.1 16 = .ok (.iconst 3, 1) := by decide +kernel
theorem d_Mo_sumSign_17 : decode m_Mo_sumSign.2.1 17 = .ok (.goto 35, 3) := by decide +kernel
theorem d_Mo_sumSign_20 : decode m_Mo_sumSign.2.1 20 = .ok (.iload_n 0, 1) := by decide +kernel
theorem d_Mo_sumSign_21 : decode m_Mo_sumSign.2.1 21 = .ok (.bipush 42, 2) := by decide +kernel
theorem d_Mo_sumSign_23 : decode m_Mo_sumSign.2.1 23 = .ok (.if_icmp .ne 7, 3) := by decide +kernel
theorem d_Mo_sumSign_26 : decode m_Mo_sumSign.2.1 26 = .ok (.iconst 4, 1) := by decide +kernel
theorem d_Mo_sumSign_27 : decode m_Mo_sumSign.2.1 27 = .ok (.goto 25, 3) := by decide +kernel
theorem d_Mo_sumSign_30 : decode m_Mo_sumSign.2.1 30 = .ok (.iload_n 0, 1) := by decide +kernel
theorem d_Mo_sumSign_31 : decode m_Mo_sumSign.2.1 31 = .ok (.bipush 47, 2) := by decide +kernel
theorem d_Mo_sumSign_33 : decode m_Mo_sumSign.2.1 33 = .ok (.if_icmp .ne 7, 3) := by decide +kernel
theorem d_Mo_sumSign_36 : decode m_Mo_sumSign.2.1 36 = .ok (.iconst 5, 1) := by decide +kernel
theorem d_Mo_sumSign_37 : decode m_Mo_sumSign.2.1 37 = .ok (.goto 15, 3) := by decide +kernel
theorem d_Mo_sumSign_40 : decode m_Mo_sumSign.2.1 40 = .ok (.iload_n 0, 1) := by decide +kernel
theorem d_Mo_sumSign_41 : decode m_Mo_sumSign.2.1 41 = .ok (.bipush 37, 2) := by decide +kernel
theorem d_Mo_sumSign_43 : decode m_Mo_sumSign.2.1 43 = .ok (.if_icmp .ne 8, 3) := by decide +kernel
theorem d_Mo_sumSign_46 : decode m_Mo_sumSign.2.1 46 = .ok (.bipush 6, 2) := by decide +kernel
theorem d_Mo_sumSign_48 : decode m_Mo_sumSign.2.1 48 = .ok (.goto 4, 3) := by decide +kernel
theorem d_Mo_sumSign_51 : decode m_Mo_sumSign.2.1 51 = .ok (.iconst (-1), 1) := by decide +kernel
theorem d_Mo_sumSign_52 : decode m_Mo_sumSign.2.1 52 = .ok (.ireturn, 1) := by decide +kernel
def f_Mo_sumSign (S : St) (l0 : Int32) : Option (Int32) :=
    if l0 = 43 then (
    some (2 : Int32))
    else (
    if l0 = 45 then (
    some (3 : Int32))
    else (
    if l0 = 42 then (
    some (4 : Int32))
    else (
    if l0 = 47 then (
    some (5 : Int32))
    else (
    if l0 = 37 then (
    some (6 : Int32))
    else (
    some ((-1) : Int32))))))
set_option maxHeartbeats 4000000 in
set_option maxRecDepth 20000 in
theorem t_Mo_sumSign  {S : St} {l0 : Int32} {w : Int32} (h : f_Mo_sumSign S l0 = some w) : Ct SM m_Mo_sumSign 1 [.int l0] S (some w) S := by
  unfold f_Mo_sumSign at h
  refine Ct.of pn_Mo (Nat.le_of_ble_eq_true rfl) ?_
  show G SM m_Mo_sumSign 1 (some w) S 0 [(0, .int l0)] [] S
  refine G_iload_n 0 rfl d_Mo_sumSign_0 ?_
  refine G_bipush 43 (by decide) d_Mo_sumSign_1 ?_
  refine G_icmp_ne 10 (by decide) d_Mo_sumSign_3 (fun c_3 => ?_) (fun c_3 => ?_)
  · replace h := ob_f h c_3
    refine G_iload_n 0 rfl d_Mo_sumSign_10 ?_
    refine G_bipush 45 (by decide) d_Mo_sumSign_11 ?_
    refine G_icmp_ne 20 (by decide) d_Mo_sumSign_13 (fun c_13 => ?_) (fun c_13 => ?_)
    · replace h := ob_f h c_13
      refine G_iload_n 0 rfl d_Mo_sumSign_20 ?_
      refine G_bipush 42 (by decide) d_Mo_sumSign_21 ?_
      refine G_icmp_ne 30 (by decide) d_Mo_sumSign_23 (fun c_23 => ?_) (fun c_23 => ?_)
      · replace h := ob_f h c_23
        refine G_iload_n 0 rfl d_Mo_sumSign_30 ?_
        refine G_bipush 47 (by decide) d_Mo_sumSign_31 ?_
        refine G_icmp_ne 40 (by decide) d_Mo_sumSign_33 (fun c_33 => ?_) (fun c_33 => ?_)
        · replace h := ob_f h c_33
          refine G_iload_n 0 rfl d_Mo_sumSign_40 ?_
          refine G_bipush 37 (by decide) d_Mo_sumSign_41 ?_
          refine G_icmp_ne 51 (by decide) d_Mo_sumSign_43 (fun c_43 => ?_) (fun c_43 => ?_)
          · replace h := ob_f h c_43
            refine G_iconst (-1) (by decide) d_Mo_sumSign_51 ?_
            cases h
            exact G_iret rfl d_Mo_sumSign_52
          · replace h := ob_t h c_43
            refine G_bipush 6 (by decide) d_Mo_sumSign_46 ?_
            refine G_goto 52 (by decide) d_Mo_sumSign_48 ?_
            cases h
            exact G_iret rfl d_Mo_sumSign_52
        · replace h := ob_t h c_33
          refine G_iconst 5 (by decide) d_Mo_sumSign_36 ?_
          refine G_goto 52 (by decide) d_Mo_sumSign_37 ?_
          cases h
          exact G_iret rfl d_Mo_sumSign_52
      · replace h := ob_t h c_23
        refine G_iconst 4 (by decide) d_Mo_sumSign_26 ?_
        refine G_goto 52 (by decide) d_Mo_sumSign_27 ?_
        cases h
        exact G_iret rfl d_Mo_sumSign_52
    · replace h := ob_t h c_13
      refine G_iconst 3 (by decide) d_Mo_sumSign_16 ?_
      refine G_goto 52 (by decide) d_Mo_sumSign_17 ?_
      cases h
      exact G_iret rfl d_Mo_sumSign_52
  · replace h := ob_t h c_3
    refine G_iconst 2 (by decide) d_Mo_sumSign_6 ?_
    refine G_goto 52 (by decide) d_Mo_sumSign_7 ?_
    cases h
    exact G_iret rfl d_Mo_sumSign_52
theorem d_Mo_closesSums_0 : decode m_Mo_closesSums.2.1 0 = .ok (.aload_n 0, 1) := by decide +kernel
theorem d_Mo_closesSums_1 : decode m_Mo_closesSums.2.1 1 = .ok (.invokevirtual 176, 3) := by decide +kernel
theorem d_Mo_closesSums_4 : decode m_Mo_closesSums.2.1 4 = .ok (.iconst 4, 1) := by decide +kernel
theorem d_Mo_closesSums_5 : decode m_Mo_closesSums.2.1 5 = .ok (.if_icmp .lt 12, 3) := by decide +kernel
theorem d_Mo_closesSums_8 : decode m_Mo_closesSums.2.1 8 = .ok (.aload_n 0, 1) := by decide +kernel
theorem d_Mo_closesSums_9 : decode m_Mo_closesSums.2.1 9 = .ok (.invokevirtual 176, 3) := by decide +kernel
theorem d_Mo_closesSums_12 : decode m_Mo_closesSums.2.1 12 = .ok (.bipush 6, 2) := by decide +kernel
theorem d_Mo_closesSums_14 : decode m_Mo_closesSums.2.1 14 = .ok (.if_icmp .le 23, 3) := by decide +kernel
theorem d_Mo_closesSums_17 : decode m_Mo_closesSums.2.1 17 = .ok (.iload_n 1, 1) := by decide +kernel
theorem d_Mo_closesSums_18 : decode m_Mo_closesSums.2.1 18 = .ok (.ifCond .eq 41, 3) := by decide +kernel
theorem d_Mo_closesSums_21 : decode m_Mo_closesSums.2.1 21 = .ok (.aload_n 0, 1) := by decide +kernel
theorem d_Mo_closesSums_22 : decode m_Mo_closesSums.2.1 22 = .ok (.invokevirtual 176, 3) := by decide +kernel
theorem d_Mo_closesSums_25 : decode m_Mo_closesSums.2.1 25 = .ok (.iconst 2, 1) := by decide +kernel
theorem d_Mo_closesSums_26 : decode m_Mo_closesSums.2.1 26 = .ok (.if_icmp .eq 11, 3) := by decide +kernel
theorem d_Mo_closesSums_29 : decode m_Mo_closesSums.2.1 29 = .ok (.aload_n 0, 1) := by decide +kernel
theorem d_Mo_closesSums_30 : decode m_Mo_closesSums.2.1 30 = .ok (.invokevirtual 176, 3) := by decide +kernel
theorem d_Mo_closesSums_33 : decode m_Mo_closesSums.2.1 33 = .ok (.iconst 3, 1) := by decide +kernel
theorem d_Mo_closesSums_34 : decode m_Mo_closesSums.2.1 34 = .ok (.if_icmp .ne 25, 3) := by decide +kernel
theorem d_Mo_closesSums_37 : decode m_Mo_closesSums.2.1 37 = .ok (.aload_n 0, 1) := by decide +kernel
theorem d_Mo_closesSums_38 : decode m_Mo_closesSums.2.1 38 = .ok (.aload_n 0, 1) := by decide +kernel
theorem d_Mo_closesSums_39 : decode m_Mo_closesSums.2.1 39 = .ok (.invokevirtual 176, 3) := by decide +kernel
theorem d_Mo_closesSums_42 : decode m_Mo_closesSums.2.1 42 = .ok (.iconst 0, 1) := by decide +kernel
theorem d_Mo_closesSums_43 : decode m_Mo_closesSums.2.1 43 = .ok (.invokevirtual 179, 3) := by decide +kernel
theorem d_Mo_closesSums_46 : decode m_Mo_closesSums.2.1 46 = .ok (.aload_n 0, 1) := by decide +kernel
theorem d_Mo_closesSums_47 : decode m_Mo_closesSums.2.1 47 = .ok (.aload_n 0, 1) := by decide +kernel
theorem d_Mo_closesSums_48 : decode m_Mo_closesSums.2.1 48 = .ok (.getfield 173, 3) := by decide +kernel
theorem d_Mo_closesSums_51 : decode m_Mo_closesSums.2.1 51 = .ok (.iconst 1, 1) := by decide +kernel
theorem d_Mo_closesSums_52 : decode m_Mo_closesSums.2.1 52 = .ok (.isub, 1) := by decide +kernel
theorem d_Mo_closesSums_53 : decode m_Mo_closesSums.2.1 53 = .ok (.putfield 173, 3) := by decide +kernel
theorem d_Mo_closesSums_56 : decode m_Mo_closesSums.2.1 56 = .ok (.goto (-56), 3) := by decide +kernel
theorem d_Mo_closesSums_59 : decode m_Mo_closesSums.2.1 59 = .ok (.return_, 1) := by decide +kernel
def f_Mo_closesSums_37 (k_0 : St → Int32 → Option (St)) (S : St) (l1 : Int32) : Option (St) :=
    (f_Mo_waitTop S).bind fun v_39 =>
    (f_Mo_notes S v_39 (0 : Int32)).bind fun w_43 =>
    (some (sF w_43 0 14 ((w_43 0 14) - 1))).bind fun S_53 =>
    k_0 S_53 l1
set_option maxHeartbeats 4000000 in
set_option maxRecDepth 20000 in
theorem t_Mo_closesSums_37  {k_0 : St → Int32 → Option (St)} (hk_0 : ∀ (S : St) (l1 : Int32) (w : St), k_0 S l1 = some w → G SM m_Mo_closesSums 2 none w 0 [(0, .ref 0), (1, .int l1)] [] S) (S : St) (l1 : Int32) (w : St) (h : f_Mo_closesSums_37 k_0 S l1 = some w) : G SM m_Mo_closesSums 2 none w 37 [(0, .ref 0), (1, .int l1)] [] S := by
  unfold f_Mo_closesSums_37 at h
  refine G_aload_n 0 rfl d_Mo_closesSums_37 ?_
  refine G_aload_n 0 rfl d_Mo_closesSums_38 ?_
  obtain ⟨v_39, q_39, h⟩ := ob_b h
  refine G_callV [] [.ref 0] (t_Mo_waitTop q_39) (by decide) (by decide) mv_Mo_waitTop rfl ml_Mo_176 km_0 sm_0 cl_12 rfl (Nat.le_of_ble_eq_true rfl) d_Mo_closesSums_39 ?_
  refine G_iconst 0 (by decide) d_Mo_closesSums_42 ?_
  obtain ⟨w_43, q_43, h⟩ := ob_b h
  refine G_callV [.int v_39, .int 0] [] (t_Mo_notes q_43) (by decide) (by decide) mv_Mo_notes rfl ml_Mo_179 km_0 sm_0 cl_12 rfl (Nat.le_of_ble_eq_true rfl) d_Mo_closesSums_43 ?_
  refine G_aload_n 0 rfl d_Mo_closesSums_46 ?_
  refine G_aload_n 0 rfl d_Mo_closesSums_47 ?_
  refine G_getI fl_Mo_173 km_0 sm_0 rfl d_Mo_closesSums_48 ?_
  refine G_iconst 1 (by decide) d_Mo_closesSums_51 ?_
  refine G_isub d_Mo_closesSums_52 ?_
  obtain ⟨S_53, e_53, h⟩ := ob_s h
  refine G_putI e_53 fp_Mo_173 km_0 sm_0 rfl d_Mo_closesSums_53 ?_
  refine G_goto 0 (by decide) d_Mo_closesSums_56 ?_
  exact G_sub _ [0, 1] rfl (hk_0 S_53 l1 _ h)
def f_Mo_closesSums_17 (k_0 : St → Int32 → Option (St)) (S : St) (l1 : Int32) : Option (St) :=
    if l1 = 0 then (
    some S)
    else (
    (f_Mo_waitTop S).bind fun v_22 =>
    if v_22 = 2 then (
    f_Mo_closesSums_37 k_0 S l1)
    else (
    (f_Mo_waitTop S).bind fun v_30 =>
    if v_30 = 3 then (
    f_Mo_closesSums_37 k_0 S l1)
    else (
    some S)))
set_option maxHeartbeats 4000000 in
set_option maxRecDepth 20000 in
theorem t_Mo_closesSums_17  {k_0 : St → Int32 → Option (St)} (hk_0 : ∀ (S : St) (l1 : Int32) (w : St), k_0 S l1 = some w → G SM m_Mo_closesSums 2 none w 0 [(0, .ref 0), (1, .int l1)] [] S) (S : St) (l1 : Int32) (w : St) (h : f_Mo_closesSums_17 k_0 S l1 = some w) : G SM m_Mo_closesSums 2 none w 17 [(0, .ref 0), (1, .int l1)] [] S := by
  unfold f_Mo_closesSums_17 at h
  refine G_iload_n 1 rfl d_Mo_closesSums_17 ?_
  refine G_if_eq 59 (by decide) d_Mo_closesSums_18 (fun c_18 => ?_) (fun c_18 => ?_)
  · replace h := ob_t h c_18
    cases h
    exact G_vret rfl d_Mo_closesSums_59
  · replace h := ob_f h c_18
    refine G_aload_n 0 rfl d_Mo_closesSums_21 ?_
    obtain ⟨v_22, q_22, h⟩ := ob_b h
    refine G_callV [] [] (t_Mo_waitTop q_22) (by decide) (by decide) mv_Mo_waitTop rfl ml_Mo_176 km_0 sm_0 cl_12 rfl (Nat.le_of_ble_eq_true rfl) d_Mo_closesSums_22 ?_
    refine G_iconst 2 (by decide) d_Mo_closesSums_25 ?_
    refine G_icmp_eq 37 (by decide) d_Mo_closesSums_26 (fun c_26 => ?_) (fun c_26 => ?_)
    · replace h := ob_t h c_26
      exact G_sub _ [0, 1] rfl (t_Mo_closesSums_37 hk_0 S l1 _ h)
    · replace h := ob_f h c_26
      refine G_aload_n 0 rfl d_Mo_closesSums_29 ?_
      obtain ⟨v_30, q_30, h⟩ := ob_b h
      refine G_callV [] [] (t_Mo_waitTop q_30) (by decide) (by decide) mv_Mo_waitTop rfl ml_Mo_176 km_0 sm_0 cl_12 rfl (Nat.le_of_ble_eq_true rfl) d_Mo_closesSums_30 ?_
      refine G_iconst 3 (by decide) d_Mo_closesSums_33 ?_
      refine G_icmp_ne 59 (by decide) d_Mo_closesSums_34 (fun c_34 => ?_) (fun c_34 => ?_)
      · replace h := ob_f h c_34
        cases h
        exact G_vret rfl d_Mo_closesSums_59
      · replace h := ob_t h c_34
        exact G_sub _ [0, 1] rfl (t_Mo_closesSums_37 hk_0 S l1 _ h)
def f_Mo_closesSums_0 : Nat → St → Int32 → Option (St)
  | 0, _, _ => none
  | n + 1, S, l1 =>
    (f_Mo_waitTop S).bind fun v_1 =>
    if v_1 < 4 then (
    f_Mo_closesSums_17 (f_Mo_closesSums_0 n) S l1)
    else (
    (f_Mo_waitTop S).bind fun v_9 =>
    if v_9 ≤ 6 then (
    f_Mo_closesSums_37 (f_Mo_closesSums_0 n) S l1)
    else (
    f_Mo_closesSums_17 (f_Mo_closesSums_0 n) S l1))
set_option maxHeartbeats 4000000 in
set_option maxRecDepth 20000 in
theorem t_Mo_closesSums_0  : ∀ (n : Nat) (S : St) (l1 : Int32) (w : St), f_Mo_closesSums_0 n S l1 = some w → G SM m_Mo_closesSums 2 none w 0 [(0, .ref 0), (1, .int l1)] [] S := by
  intro n
  induction n with
  | zero =>
    intro S l1 w h
    rw [f_Mo_closesSums_0] at h
    cases h
  | succ n ih =>
    intro S l1 w h
    rw [f_Mo_closesSums_0] at h
    refine G_aload_n 0 rfl d_Mo_closesSums_0 ?_
    obtain ⟨v_1, q_1, h⟩ := ob_b h
    refine G_callV [] [] (t_Mo_waitTop q_1) (by decide) (by decide) mv_Mo_waitTop rfl ml_Mo_176 km_0 sm_0 cl_12 rfl (Nat.le_of_ble_eq_true rfl) d_Mo_closesSums_1 ?_
    refine G_iconst 4 (by decide) d_Mo_closesSums_4 ?_
    refine G_icmp_lt 17 (by decide) d_Mo_closesSums_5 (fun c_5 => ?_) (fun c_5 => ?_)
    · replace h := ob_t h c_5
      exact G_sub _ [0, 1] rfl (t_Mo_closesSums_17 ih S l1 _ h)
    · replace h := ob_f h c_5
      refine G_aload_n 0 rfl d_Mo_closesSums_8 ?_
      obtain ⟨v_9, q_9, h⟩ := ob_b h
      refine G_callV [] [] (t_Mo_waitTop q_9) (by decide) (by decide) mv_Mo_waitTop rfl ml_Mo_176 km_0 sm_0 cl_12 rfl (Nat.le_of_ble_eq_true rfl) d_Mo_closesSums_9 ?_
      refine G_bipush 6 (by decide) d_Mo_closesSums_12 ?_
      refine G_icmp_le 37 (by decide) d_Mo_closesSums_14 (fun c_14 => ?_) (fun c_14 => ?_)
      · replace h := ob_t h c_14
        exact G_sub _ [0, 1] rfl (t_Mo_closesSums_37 ih S l1 _ h)
      · replace h := ob_f h c_14
        exact G_sub _ [0, 1] rfl (t_Mo_closesSums_17 ih S l1 _ h)
def f_Mo_closesSums (S : St) (l1 : Int32) : Option (St) :=
    f_Mo_closesSums_0 FU S l1
set_option maxHeartbeats 4000000 in
set_option maxRecDepth 20000 in
theorem t_Mo_closesSums  {S : St} {l1 : Int32} {w : St} (h : f_Mo_closesSums S l1 = some w) : Ct SM m_Mo_closesSums 2 [.ref 0, .int l1] S none w := by
  unfold f_Mo_closesSums at h
  refine Ct.of pn_Mo (Nat.le_of_ble_eq_true rfl) ?_
  show G SM m_Mo_closesSums 2 none w 0 [(0, .ref 0), (1, .int l1)] [] S
  exact G_sub _ [0, 1] rfl (t_Mo_closesSums_0 FU S l1 _ h)
theorem d_Mo_readsFactor_0 : decode m_Mo_readsFactor.2.1 0 = .ok (.aload_n 0, 1) := by decide +kernel
theorem d_Mo_readsFactor_1 : decode m_Mo_readsFactor.2.1 1 = .ok (.invokevirtual 148, 3) := by decide +kernel
theorem d_Mo_readsFactor_4 : decode m_Mo_readsFactor.2.1 4 = .ok (.bipush 91, 2) := by decide +kernel
theorem d_Mo_readsFactor_6 : decode m_Mo_readsFactor.2.1 6 = .ok (.if_icmp .ne 14, 3) := by decide +kernel
theorem d_Mo_readsFactor_9 : decode m_Mo_readsFactor.2.1 9 = .ok (.aload_n 0, 1) := by decide +kernel
theorem d_Mo_readsFactor_10 : decode m_Mo_readsFactor.2.1 10 = .ok (.bipush 14, 2) := by decide +kernel
theorem d_Mo_readsFactor_12 : decode m_Mo_readsFactor.2.1 12 = .ok (.invokevirtual 183, 3) := by decide +kernel
theorem d_Mo_readsFactor_15 : decode m_Mo_readsFactor.2.1 15 = .ok (.ifCond .ne (-15), 3) := by decide +kernel
theorem d_Mo_readsFactor_18 : decode m_Mo_readsFactor.2.1 18 = .ok (.iconst 0, 1) := by decide +kernel
theorem d_Mo_readsFactor_19 : decode m_Mo_readsFactor.2.1 19 = .ok (.ireturn, 1) := by decide +kernel
theorem d_Mo_readsFactor_20 : decode m_Mo_readsFactor.2.1 20 = .ok (.aload_n 0, 1) := by decide +kernel
theorem d_Mo_readsFactor_21 : decode m_Mo_readsFactor.2.1 21 = .ok (.invokevirtual 162, 3) := by decide +kernel
theorem d_Mo_readsFactor_24 : decode m_Mo_readsFactor.2.1 24 = .ok (.ifCond .eq 23, 3) := by decide +kernel
theorem d_Mo_readsFactor_27 : decode m_Mo_readsFactor.2.1 27 = .ok (.aload_n 0, 1) := by decide +kernel
theorem d_Mo_readsFactor_28 : decode m_Mo_readsFactor.2.1 28 = .ok (.invokevirtual 186, 3) := by decide +kernel
theorem d_Mo_readsFactor_31 : decode m_Mo_readsFactor.2.1 31 = .ok (.ifCond .ne 5, 3) := by decide +kernel
theorem d_Mo_readsFactor_34 : decode m_Mo_readsFactor.2.1 34 = .ok (.iconst 0, 1) := by decide +kernel
theorem d_Mo_readsFactor_35 : decode m_Mo_readsFactor.2.1 35 = .ok (.ireturn, 1) := by decide +kernel
theorem d_Mo_readsFactor_36 : decode m_Mo_readsFactor.2.1 36 = .ok (.aload_n 0, 1) := by decide +kernel
theorem d_Mo_readsFactor_37 : decode m_Mo_readsFactor.2.1 37 = .ok (.iconst 0, 1) := by decide +kernel
theorem d_Mo_readsFactor_38 : decode m_Mo_readsFactor.2.1 38 = .ok (.aload_n 0, 1) := by decide +kernel
theorem d_Mo_readsFactor_39 : decode m_Mo_readsFactor.2.1 39 = .ok (.getfield 159, 3) := by decide +kernel
theorem d_Mo_readsFactor_42 : decode m_Mo_readsFactor.2.1 42 = .ok (.invokevirtual 179, 3) := by decide +kernel
theorem d_Mo_readsFactor_45 : decode m_Mo_readsFactor.2.1 45 = .ok (.iconst 1, 1) := by decide +kernel
theorem d_Mo_readsFactor_46 : decode m_Mo_readsFactor.2.1 46 = .ok (.ireturn, 1) := by decide +kernel
theorem d_Mo_readsFactor_47 : decode m_Mo_readsFactor.2.1 47 = .ok (.aload_n 0, 1) := by decide +kernel
theorem d_Mo_readsFactor_48 : decode m_Mo_readsFactor.2.1 48 = .ok (.invokevirtual 148, 3) := by decide +kernel
theorem d_Mo_readsFactor_51 : decode m_Mo_readsFactor.2.1 51 = .ok (.invokestatic 189, 3) := by decide +kernel
theorem d_Mo_readsFactor_54 : decode m_Mo_readsFactor.2.1 54 = .ok (.istore_n 1, 1) := by decide +kernel
theorem d_Mo_readsFactor_55 : decode m_Mo_readsFactor.2.1 55 = .ok (.iload_n 1, 1) := by decide +kernel
theorem d_Mo_readsFactor_56 : decode m_Mo_readsFactor.2.1 56 = .ok (.iconst (-1), 1) := by decide +kernel
theorem d_Mo_readsFactor_57 : decode m_Mo_readsFactor.2.1 57 = .ok (.if_icmp .ne 13, 3) := by decide +kernel
theorem d_Mo_readsFactor_60 : decode m_Mo_readsFactor.2.1 60 = .ok (.aload_n 0, 1) := by decide +kernel
theorem d_Mo_readsFactor_61 : decode m_Mo_readsFactor.2.1 61 = .ok (.iconst 1, 1) := by decide +kernel
theorem d_Mo_readsFactor_62 : decode m_Mo_readsFactor.2.1 62 = .ok (.aload_n 0, 1) := by decide +kernel
theorem d_Mo_readsFactor_63 : decode m_Mo_readsFactor.2.1 63 = .ok (.getfield 142, 3) := by decide +kernel
theorem d_Mo_readsFactor_66 : decode m_Mo_readsFactor.2.1 66 = .ok (.invokevirtual 155, 3) := by decide +kernel
theorem d_Mo_readsFactor_69 : decode m_Mo_readsFactor.2.1 69 = .ok (.ireturn, 1) := by decide +kernel
theorem d_Mo_readsFactor_70 : decode m_Mo_readsFactor.2.1 70 = .ok (.aload_n 0, 1) := by decide +kernel
theorem d_Mo_readsFactor_71 : decode m_Mo_readsFactor.2.1 71 = .ok (.iconst 1, 1) := by decide +kernel
theorem d_Mo_readsFactor_72 : decode m_Mo_readsFactor.2.1 72 = .ok (.iload_n 1, 1) := by decide +kernel
theorem d_Mo_readsFactor_73 : decode m_Mo_readsFactor.2.1 73 = .ok (.invokevirtual 179, 3) := by decide +kernel
theorem d_Mo_readsFactor_76 : decode m_Mo_readsFactor.2.1 76 = .ok (.aload_n 0, 1) := by decide +kernel
theorem d_Mo_readsFactor_77 : decode m_Mo_readsFactor.2.1 77 = .ok (.aload_n 0, 1) := by decide +kernel
theorem d_Mo_readsFactor_78 : decode m_Mo_readsFactor.2.1 78 = .ok (.getfield 142, 3) := by decide +kernel
theorem d_Mo_readsFactor_81 : decode m_Mo_readsFactor.2.1 81 = .ok (.iconst 1, 1) := by decide +kernel
theorem d_Mo_readsFactor_82 : decode m_Mo_readsFactor.2.1 82 = .ok (.iadd, 1) := by decide +kernel
theorem d_Mo_readsFactor_83 : decode m_Mo_readsFactor.2.1 83 = .ok (.putfield 142, 3) := by decide +kernel
theorem d_Mo_readsFactor_86 : decode m_Mo_readsFactor.2.1 86 = .ok (.iconst 1, 1) := by decide +kernel
theorem d_Mo_readsFactor_87 : decode m_Mo_readsFactor.2.1 87 = .ok (.ireturn, 1) := by decide +kernel
def f_Mo_readsFactor_0 : Nat → St → Option (Int32 × St)
  | 0, _ => none
  | n + 1, S =>
    (f_Mo_here S).bind fun v_1 =>
    if v_1 = 91 then (
    (f_Mo_opens S (14 : Int32)).bind fun w_12 =>
    if w_12.1 = 0 then (
    some (0, w_12.2))
    else (
    f_Mo_readsFactor_0 n w_12.2))
    else (
    (f_Mo_isDigit S).bind fun v_21 =>
    if v_21 = 0 then (
    (f_Mo_here S).bind fun v_48 =>
    (f_Mo_factOf S v_48).bind fun v_51 =>
    if v_51 = (-1) then (
    (f_Mo_wrongAt S (1 : Int32) (S 0 8)).bind fun w_66 =>
    if w_66.1 = 0 ∨ w_66.1 = 1 then (
    some (w_66.1, w_66.2)) else none)
    else (
    (f_Mo_notes S (1 : Int32) v_51).bind fun w_73 =>
    (some (sF w_73 0 8 ((w_73 0 8) + 1))).bind fun S_83 =>
    some (1, S_83)))
    else (
    (f_Mo_readsNumber S).bind fun w_28 =>
    if w_28.1 = 0 then (
    some (0, w_28.2))
    else (
    (f_Mo_notes w_28.2 (0 : Int32) (w_28.2 0 11)).bind fun w_42 =>
    some (1, w_42))))
set_option maxHeartbeats 4000000 in
set_option maxRecDepth 20000 in
theorem t_Mo_readsFactor_0  : ∀ (n : Nat) (S : St) (w : Int32 × St), f_Mo_readsFactor_0 n S = some w → G SM m_Mo_readsFactor 4 (some w.1) w.2 0 [(0, .ref 0)] [] S := by
  intro n
  induction n with
  | zero =>
    intro S w h
    rw [f_Mo_readsFactor_0] at h
    cases h
  | succ n ih =>
    intro S w h
    rw [f_Mo_readsFactor_0] at h
    refine G_aload_n 0 rfl d_Mo_readsFactor_0 ?_
    obtain ⟨v_1, q_1, h⟩ := ob_b h
    refine G_callV [] [] (t_Mo_here q_1) (by decide) (by decide) mv_Mo_here rfl ml_Mo_148 km_0 sm_0 cl_12 rfl (Nat.le_of_ble_eq_true rfl) d_Mo_readsFactor_1 ?_
    refine G_bipush 91 (by decide) d_Mo_readsFactor_4 ?_
    refine G_icmp_ne 20 (by decide) d_Mo_readsFactor_6 (fun c_6 => ?_) (fun c_6 => ?_)
    · replace h := ob_f h c_6
      refine G_aload_n 0 rfl d_Mo_readsFactor_20 ?_
      obtain ⟨v_21, q_21, h⟩ := ob_b h
      refine G_callV [] [] (t_Mo_isDigit q_21) (by decide) (by decide) mv_Mo_isDigit rfl ml_Mo_162 km_0 sm_0 cl_12 rfl (Nat.le_of_ble_eq_true rfl) d_Mo_readsFactor_21 ?_
      refine G_if_eq 47 (by decide) d_Mo_readsFactor_24 (fun c_24 => ?_) (fun c_24 => ?_)
      · replace h := ob_t h c_24
        refine G_aload_n 0 rfl d_Mo_readsFactor_47 ?_
        obtain ⟨v_48, q_48, h⟩ := ob_b h
        refine G_callV [] [] (t_Mo_here q_48) (by decide) (by decide) mv_Mo_here rfl ml_Mo_148 km_0 sm_0 cl_12 rfl (Nat.le_of_ble_eq_true rfl) d_Mo_readsFactor_48 ?_
        obtain ⟨v_51, q_51, h⟩ := ob_b h
        refine G_callS [.int v_48] [] (t_Mo_factOf q_51) (by decide) (by decide) mt_Mo_factOf rfl ml_Mo_189 rfl (Nat.le_of_ble_eq_true rfl) d_Mo_readsFactor_51 ?_
        refine G_istore_n [(1, .int v_51), (0, .ref 0)] rfl rfl (by decide) d_Mo_readsFactor_54 ?_
        refine G_iload_n 0 rfl d_Mo_readsFactor_55 ?_
        refine G_iconst (-1) (by decide) d_Mo_readsFactor_56 ?_
        refine G_icmp_ne 70 (by decide) d_Mo_readsFactor_57 (fun c_57 => ?_) (fun c_57 => ?_)
        · replace h := ob_f h c_57
          refine G_aload_n 1 rfl d_Mo_readsFactor_70 ?_
          refine G_iconst 1 (by decide) d_Mo_readsFactor_71 ?_
          refine G_iload_n 0 rfl d_Mo_readsFactor_72 ?_
          obtain ⟨w_73, q_73, h⟩ := ob_b h
          refine G_callV [.int 1, .int v_51] [] (t_Mo_notes q_73) (by decide) (by decide) mv_Mo_notes rfl ml_Mo_179 km_0 sm_0 cl_12 rfl (Nat.le_of_ble_eq_true rfl) d_Mo_readsFactor_73 ?_
          refine G_aload_n 1 rfl d_Mo_readsFactor_76 ?_
          refine G_aload_n 1 rfl d_Mo_readsFactor_77 ?_
          refine G_getI fl_Mo_142 km_0 sm_0 rfl d_Mo_readsFactor_78 ?_
          refine G_iconst 1 (by decide) d_Mo_readsFactor_81 ?_
          refine G_iadd d_Mo_readsFactor_82 ?_
          obtain ⟨S_83, e_83, h⟩ := ob_s h
          refine G_putI e_83 fp_Mo_142 km_0 sm_0 rfl d_Mo_readsFactor_83 ?_
          refine G_iconst 1 (by decide) d_Mo_readsFactor_86 ?_
          cases h
          exact G_zret (Or.inr rfl) rfl d_Mo_readsFactor_87
        · replace h := ob_t h c_57
          refine G_aload_n 1 rfl d_Mo_readsFactor_60 ?_
          refine G_iconst 1 (by decide) d_Mo_readsFactor_61 ?_
          refine G_aload_n 1 rfl d_Mo_readsFactor_62 ?_
          refine G_getI fl_Mo_142 km_0 sm_0 rfl d_Mo_readsFactor_63 ?_
          obtain ⟨w_66, q_66, h⟩ := ob_b h
          refine G_callV [.int 1, .int (S 0 8)] [] (t_Mo_wrongAt q_66) (by decide) (by decide) mv_Mo_wrongAt rfl ml_Mo_155 km_0 sm_0 cl_12 rfl (Nat.le_of_ble_eq_true rfl) d_Mo_readsFactor_66 ?_
          obtain ⟨g_69, h⟩ := ob_g h
          cases h
          exact G_zret g_69 rfl d_Mo_readsFactor_69
      · replace h := ob_f h c_24
        refine G_aload_n 0 rfl d_Mo_readsFactor_27 ?_
        obtain ⟨w_28, q_28, h⟩ := ob_b h
        refine G_callV [] [] (t_Mo_readsNumber q_28) (by decide) (by decide) mv_Mo_readsNumber rfl ml_Mo_186 km_0 sm_0 cl_12 rfl (Nat.le_of_ble_eq_true rfl) d_Mo_readsFactor_28 ?_
        refine G_if_ne 36 (by decide) d_Mo_readsFactor_31 (fun c_31 => ?_) (fun c_31 => ?_)
        · replace h := ob_f h c_31
          refine G_aload_n 0 rfl d_Mo_readsFactor_36 ?_
          refine G_iconst 0 (by decide) d_Mo_readsFactor_37 ?_
          refine G_aload_n 0 rfl d_Mo_readsFactor_38 ?_
          refine G_getI fl_Mo_159 km_0 sm_0 rfl d_Mo_readsFactor_39 ?_
          obtain ⟨w_42, q_42, h⟩ := ob_b h
          refine G_callV [.int 0, .int (w_28.2 0 11)] [] (t_Mo_notes q_42) (by decide) (by decide) mv_Mo_notes rfl ml_Mo_179 km_0 sm_0 cl_12 rfl (Nat.le_of_ble_eq_true rfl) d_Mo_readsFactor_42 ?_
          refine G_iconst 1 (by decide) d_Mo_readsFactor_45 ?_
          cases h
          exact G_zret (Or.inr rfl) rfl d_Mo_readsFactor_46
        · replace h := ob_t h c_31
          refine G_iconst 0 (by decide) d_Mo_readsFactor_34 ?_
          cases h
          exact G_zret (Or.inl rfl) rfl d_Mo_readsFactor_35
    · replace h := ob_t h c_6
      refine G_aload_n 0 rfl d_Mo_readsFactor_9 ?_
      refine G_bipush 14 (by decide) d_Mo_readsFactor_10 ?_
      obtain ⟨w_12, q_12, h⟩ := ob_b h
      refine G_callV [.int 14] [] (t_Mo_opens q_12) (by decide) (by decide) mv_Mo_opens rfl ml_Mo_183 km_0 sm_0 cl_12 rfl (Nat.le_of_ble_eq_true rfl) d_Mo_readsFactor_12 ?_
      refine G_if_ne 0 (by decide) d_Mo_readsFactor_15 (fun c_15 => ?_) (fun c_15 => ?_)
      · replace h := ob_f h c_15
        exact G_sub _ [0] rfl (ih w_12.2 _ h)
      · replace h := ob_t h c_15
        refine G_iconst 0 (by decide) d_Mo_readsFactor_18 ?_
        cases h
        exact G_zret (Or.inl rfl) rfl d_Mo_readsFactor_19
def f_Mo_readsFactor (S : St) : Option (Int32 × St) :=
    f_Mo_readsFactor_0 FU S
set_option maxHeartbeats 4000000 in
set_option maxRecDepth 20000 in
theorem t_Mo_readsFactor  {S : St} {w : Int32 × St} (h : f_Mo_readsFactor S = some w) : Ct SM m_Mo_readsFactor 4 [.ref 0] S (some w.1) w.2 := by
  unfold f_Mo_readsFactor at h
  refine Ct.of pn_Mo (Nat.le_of_ble_eq_true rfl) ?_
  show G SM m_Mo_readsFactor 4 (some w.1) w.2 0 [(0, .ref 0)] [] S
  exact G_sub _ [0] rfl (t_Mo_readsFactor_0 FU S _ h)
theorem d_Mo_hasOpenSum_0 : decode m_Mo_hasOpenSum.2.1 0 = .ok (.iload_n 1, 1) := by decide +kernel
theorem d_Mo_hasOpenSum_1 : decode m_Mo_hasOpenSum.2.1 1 = .ok (.istore_n 2, 1) := by decide +kernel
theorem d_Mo_hasOpenSum_2 : decode m_Mo_hasOpenSum.2.1 2 = .ok (.iload_n 2, 1) := by decide +kernel
theorem d_Mo_hasOpenSum_3 : decode m_Mo_hasOpenSum.2.1 3 = .ok (.aload_n 0, 1) := by decide +kernel
theorem d_Mo_hasOpenSum_4 : decode m_Mo_hasOpenSum.2.1 4 = .ok (.getfield 173, 3) := by decide +kernel
theorem d_Mo_hasOpenSum_7 : decode m_Mo_hasOpenSum.2.1 7 = .ok (.if_icmp .ge 25, 3) := by decide +kernel
theorem d_Mo_hasOpenSum_10 : decode m_Mo_hasOpenSum.2.1 10 = .ok (.aload_n 0, 1) := by decide +kernel
theorem d_Mo_hasOpenSum_11 : decode m_Mo_hasOpenSum.2.1 11 = .ok (.getfield 32, 3) := by decide +kernel
theorem d_Mo_hasOpenSum_14 : decode m_Mo_hasOpenSum.2.1 14 = .ok (.iload_n 2, 1) := by decide +kernel
theorem d_Mo_hasOpenSum_15 : decode m_Mo_hasOpenSum.2.1 15 = .ok (.iaload, 1) := by decide +kernel
theorem d_Mo_hasOpenSum_16 : decode m_Mo_hasOpenSum.2.1 16 = .ok (.ldc 169, 2) := by decide +kernel
theorem d_Mo_hasOpenSum_18 : decode m_Mo_hasOpenSum.2.1 18 = .ok (.idiv, 1) := by decide +kernel
theorem d_Mo_hasOpenSum_19 : decode m_Mo_hasOpenSum.2.1 19 = .ok (.bipush 14, 2) := by decide +kernel
theorem d_Mo_hasOpenSum_21 : decode m_Mo_hasOpenSum.2.1 21 = .ok (.if_icmp .ne 5, 3) := by decide +kernel
theorem d_Mo_hasOpenSum_24 : decode m_Mo_hasOpenSum.2.1 24 = .ok (.iconst 1, 1) := by decide +kernel
theorem d_Mo_hasOpenSum_25 : decode m_Mo_hasOpenSum.2.1 25 = .ok (.ireturn, 1) := by decide +kernel
theorem d_Mo_hasOpenSum_26 : decode m_Mo_hasOpenSum.2.1 26 = .ok (.iinc 2 1, 3) := by decide +kernel
theorem d_Mo_hasOpenSum_29 : decode m_Mo_hasOpenSum.2.1 29 = .ok (.goto (-27), 3) := by decide +kernel
theorem d_Mo_hasOpenSum_32 : decode m_Mo_hasOpenSum.2.1 32 = .ok (.iconst 0, 1) := by decide +kernel
theorem d_Mo_hasOpenSum_33 : decode m_Mo_hasOpenSum.2.1 33 = .ok (.ireturn, 1) := by decide +kernel
def f_Mo_hasOpenSum_2 : Nat → St → Int32 → Option (Int32)
  | 0, _, _ => none
  | n + 1, S, l2 =>
    if (S 0 14) ≤ l2 then (
    some (0 : Int32))
    else (
    if ig l2 260 then (
    if ((S 8 l2.toNatClampNeg) / 1048576) = 14 then (
    some (1 : Int32))
    else (
    (some (l2 + 1)).bind fun l2_26 =>
    f_Mo_hasOpenSum_2 n S l2_26)) else none)
set_option maxHeartbeats 4000000 in
set_option maxRecDepth 20000 in
theorem t_Mo_hasOpenSum_2  : ∀ (n : Nat) (S : St) (l2 : Int32) (w : Int32), f_Mo_hasOpenSum_2 n S l2 = some w → G SM m_Mo_hasOpenSum 1 (some w) S 2 [(0, .ref 0), (2, .int l2)] [] S := by
  intro n
  induction n with
  | zero =>
    intro S l2 w h
    rw [f_Mo_hasOpenSum_2] at h
    cases h
  | succ n ih =>
    intro S l2 w h
    rw [f_Mo_hasOpenSum_2] at h
    refine G_iload_n 1 rfl d_Mo_hasOpenSum_2 ?_
    refine G_aload_n 0 rfl d_Mo_hasOpenSum_3 ?_
    refine G_getI fl_Mo_173 km_0 sm_0 rfl d_Mo_hasOpenSum_4 ?_
    refine G_icmp_ge 32 (by decide) d_Mo_hasOpenSum_7 (fun c_7 => ?_) (fun c_7 => ?_)
    · replace h := ob_t h c_7
      refine G_iconst 0 (by decide) d_Mo_hasOpenSum_32 ?_
      cases h
      exact G_zret (Or.inl rfl) rfl d_Mo_hasOpenSum_33
    · replace h := ob_f h c_7
      refine G_aload_n 0 rfl d_Mo_hasOpenSum_10 ?_
      refine G_getR fl_Mo_32 km_0 sm_0 rfl (by decide) d_Mo_hasOpenSum_11 ?_
      refine G_iload_n 1 rfl d_Mo_hasOpenSum_14 ?_
      obtain ⟨g_15, h⟩ := ob_g h
      refine G_iaload km_8 sm_8 g_15 d_Mo_hasOpenSum_15 ?_
      refine G_ldc c_Mo_169 d_Mo_hasOpenSum_16 ?_
      refine G_idiv (by decide) d_Mo_hasOpenSum_18 ?_
      refine G_bipush 14 (by decide) d_Mo_hasOpenSum_19 ?_
      refine G_icmp_ne 26 (by decide) d_Mo_hasOpenSum_21 (fun c_21 => ?_) (fun c_21 => ?_)
      · replace h := ob_f h c_21
        obtain ⟨l2_26, e_26, h⟩ := ob_s h
        refine G_iinc 1 1 [(2, .int l2_26), (0, .ref 0)] (by decide) rfl e_26 rfl (by decide) d_Mo_hasOpenSum_26 ?_
        refine G_goto 2 (by decide) d_Mo_hasOpenSum_29 ?_
        exact G_sub _ [1, 0] rfl (ih S l2_26 _ h)
      · replace h := ob_t h c_21
        refine G_iconst 1 (by decide) d_Mo_hasOpenSum_24 ?_
        cases h
        exact G_zret (Or.inr rfl) rfl d_Mo_hasOpenSum_25
def f_Mo_hasOpenSum (S : St) (l1 : Int32) : Option (Int32) :=
    f_Mo_hasOpenSum_2 FU S l1
set_option maxHeartbeats 4000000 in
set_option maxRecDepth 20000 in
theorem t_Mo_hasOpenSum  {S : St} {l1 : Int32} {w : Int32} (h : f_Mo_hasOpenSum S l1 = some w) : Ct SM m_Mo_hasOpenSum 1 [.ref 0, .int l1] S (some w) S := by
  unfold f_Mo_hasOpenSum at h
  refine Ct.of pn_Mo (Nat.le_of_ble_eq_true rfl) ?_
  show G SM m_Mo_hasOpenSum 1 (some w) S 0 [(0, .ref 0), (1, .int l1)] [] S
  refine G_iload_n 1 rfl d_Mo_hasOpenSum_0 ?_
  refine G_istore_n [(2, .int l1), (0, .ref 0), (1, .int l1)] rfl rfl (by decide) d_Mo_hasOpenSum_1 ?_
  exact G_sub _ [1, 0] rfl (t_Mo_hasOpenSum_2 FU S l1 _ h)
theorem d_Mo_readsSum_0 : decode m_Mo_readsSum.2.1 0 = .ok (.aload_n 0, 1) := by decide +kernel
theorem d_Mo_readsSum_1 : decode m_Mo_readsSum.2.1 1 = .ok (.getfield 173, 3) := by decide +kernel
theorem d_Mo_readsSum_4 : decode m_Mo_readsSum.2.1 4 = .ok (.istore_n 1, 1) := by decide +kernel
theorem d_Mo_readsSum_5 : decode m_Mo_readsSum.2.1 5 = .ok (.aload_n 0, 1) := by decide +kernel
theorem d_Mo_readsSum_6 : decode m_Mo_readsSum.2.1 6 = .ok (.invokevirtual 193, 3) := by decide +kernel
theorem d_Mo_readsSum_9 : decode m_Mo_readsSum.2.1 9 = .ok (.ifCond .ne 5, 3) := by decide +kernel
theorem d_Mo_readsSum_12 : decode m_Mo_readsSum.2.1 12 = .ok (.iconst 0, 1) := by decide +kernel
theorem d_Mo_readsSum_13 : decode m_Mo_readsSum.2.1 13 = .ok (.ireturn, 1) := by decide +kernel
theorem d_Mo_readsSum_14 : decode m_Mo_readsSum.2.1 14 = .ok (.aload_n 0, 1) := by decide +kernel
theorem d_Mo_readsSum_15 : decode m_Mo_readsSum.2.1 15 = .ok (.invokevirtual 148, 3) := by decide +kernel
theorem d_Mo_readsSum_18 : decode m_Mo_readsSum.2.1 18 = .ok (.invokestatic 196, 3) := by decide +kernel
theorem d_Mo_readsSum_21 : decode m_Mo_readsSum.2.1 21 = .ok (.istore_n 2, 1) := by decide +kernel
theorem d_Mo_readsSum_22 : decode m_Mo_readsSum.2.1 22 = .ok (.iload_n 2, 1) := by decide +kernel
theorem d_Mo_readsSum_23 : decode m_Mo_readsSum.2.1 23 = .ok (.iconst (-1), 1) := by decide +kernel
theorem d_Mo_readsSum_24 : decode m_Mo_readsSum.2.1 24 = .ok (.if_icmp .eq 59, 3) := by decide +kernel
theorem d_Mo_readsSum_27 : decode m_Mo_readsSum.2.1 27 = .ok (.aload_n 0, 1) := by decide +kernel
theorem d_Mo_readsSum_28 : decode m_Mo_readsSum.2.1 28 = .ok (.iload_n 2, 1) := by decide +kernel
theorem d_Mo_readsSum_29 : decode m_Mo_readsSum.2.1 29 = .ok (.iconst 4, 1) := by decide +kernel
theorem d_Mo_readsSum_30 : decode m_Mo_readsSum.2.1 30 = .ok (.if_icmp .ge 7, 3) := by decide +kernel
theorem d_Mo_readsSum_33 : decode m_Mo_readsSum.2.1 33 = .ok (.iconst 1, 1) := by decide +kernel
theorem d_Mo_readsSum_34 : decode m_Mo_readsSum.2.1 34 = .ok (.goto 4, 3) := by decide +kernel
theorem d_Mo_readsSum_37 : decode m_Mo_readsSum.2.1 37 = .ok (.iconst 0, 1) := by decide +kernel
theorem d_Mo_readsSum_38 : decode m_Mo_readsSum.2.1 38 = .ok (.invokevirtual 199, 3) := by decide +kernel
theorem d_Mo_readsSum_41 : decode m_Mo_readsSum.2.1 41 = .ok (.aload_n 0, 1) := by decide +kernel
theorem d_Mo_readsSum_42 : decode m_Mo_readsSum.2.1 42 = .ok (.getfield 32, 3) := by decide +kernel
theorem d_Mo_readsSum_45 : decode m_Mo_readsSum.2.1 45 = .ok (.aload_n 0, 1) := by decide +kernel
theorem d_Mo_readsSum_46 : decode m_Mo_readsSum.2.1 46 = .ok (.getfield 173, 3) := by decide +kernel
theorem d_Mo_readsSum_49 : decode m_Mo_readsSum.2.1 49 = .ok (.ldc 169, 2) := by decide +kernel
theorem d_Mo_readsSum_51 : decode m_Mo_readsSum.2.1 51 = .ok (.iload_n 2, 1) := by decide +kernel
theorem d_Mo_readsSum_52 : decode m_Mo_readsSum.2.1 52 = .ok (.imul, 1) := by decide +kernel
theorem d_Mo_readsSum_53 : decode m_Mo_readsSum.2.1 53 = .ok (.iastore, 1) := by decide +kernel
theorem d_Mo_readsSum_54 : decode m_Mo_readsSum.2.1 54 = .ok (.aload_n 0, 1) := by decide +kernel
theorem d_Mo_readsSum_55 : decode m_Mo_readsSum.2.1 55 = .ok (.aload_n 0, 1) := by decide +kernel
theorem d_Mo_readsSum_56 : decode m_Mo_readsSum.2.1 56 = .ok (.getfield 173, 3) := by decide +kernel
theorem d_Mo_readsSum_59 : decode m_Mo_readsSum.2.1 59 = .ok (.iconst 1, 1) := by decide +kernel
theorem d_Mo_readsSum_60 : decode m_Mo_readsSum.2.1 60 = .ok (.iadd, 1) := by decide +kernel
theorem d_Mo_readsSum_61 : decode m_Mo_readsSum.2.1 61 = .ok (.putfield 173, 3) := by decide +kernel
theorem d_Mo_readsSum_64 : decode m_Mo_readsSum.2.1 64 = .ok (.aload_n 0, 1) := by decide +kernel
theorem d_Mo_readsSum_65 : decode m_Mo_readsSum.2.1 65 = .ok (.aload_n 0, 1) := by decide +kernel
theorem d_Mo_readsSum_66 : decode m_Mo_readsSum.2.1 66 = .ok (.getfield 142, 3) := by decide +kernel
theorem d_Mo_readsSum_69 : decode m_Mo_readsSum.2.1 69 = .ok (.iconst 1, 1) := by decide +kernel
theorem d_Mo_readsSum_70 : decode m_Mo_readsSum.2.1 70 = .ok (.iadd, 1) := by decide +kernel
theorem d_Mo_readsSum_71 : decode m_Mo_readsSum.2.1 71 = .ok (.putfield 142, 3) := by decide +kernel
theorem d_Mo_readsSum_74 : decode m_Mo_readsSum.2.1 74 = .ok (.aload_n 0, 1) := by decide +kernel
theorem d_Mo_readsSum_75 : decode m_Mo_readsSum.2.1 75 = .ok (.invokevirtual 193, 3) := by decide +kernel
theorem d_Mo_readsSum_78 : decode m_Mo_readsSum.2.1 78 = .ok (.ifCond .ne 85, 3) := by decide +kernel
theorem d_Mo_readsSum_81 : decode m_Mo_readsSum.2.1 81 = .ok (.iconst 0, 1) := by decide +kernel
theorem d_Mo_readsSum_82 : decode m_Mo_readsSum.2.1 82 = .ok (.ireturn, 1) := by decide +kernel
theorem d_Mo_readsSum_83 : decode m_Mo_readsSum.2.1 83 = .ok (.aload_n 0, 1) := by decide +kernel
theorem d_Mo_readsSum_84 : decode m_Mo_readsSum.2.1 84 = .ok (.invokevirtual 148, 3) := by decide +kernel
theorem d_Mo_readsSum_87 : decode m_Mo_readsSum.2.1 87 = .ok (.bipush 93, 2) := by decide +kernel
theorem d_Mo_readsSum_89 : decode m_Mo_readsSum.2.1 89 = .ok (.if_icmp .ne 49, 3) := by decide +kernel
theorem d_Mo_readsSum_92 : decode m_Mo_readsSum.2.1 92 = .ok (.aload_n 0, 1) := by decide +kernel
theorem d_Mo_readsSum_93 : decode m_Mo_readsSum.2.1 93 = .ok (.iload_n 1, 1) := by decide +kernel
theorem d_Mo_readsSum_94 : decode m_Mo_readsSum.2.1 94 = .ok (.invokevirtual 203, 3) := by decide +kernel
theorem d_Mo_readsSum_97 : decode m_Mo_readsSum.2.1 97 = .ok (.ifCond .eq 41, 3) := by decide +kernel
theorem d_Mo_readsSum_100 : decode m_Mo_readsSum.2.1 100 = .ok (.aload_n 0, 1) := by decide +kernel
theorem d_Mo_readsSum_101 : decode m_Mo_readsSum.2.1 101 = .ok (.iconst 1, 1) := by decide +kernel
theorem d_Mo_readsSum_102 : decode m_Mo_readsSum.2.1 102 = .ok (.invokevirtual 199, 3) := by decide +kernel
theorem d_Mo_readsSum_105 : decode m_Mo_readsSum.2.1 105 = .ok (.aload_n 0, 1) := by decide +kernel
theorem d_Mo_readsSum_106 : decode m_Mo_readsSum.2.1 106 = .ok (.aload_n 0, 1) := by decide +kernel
theorem d_Mo_readsSum_107 : decode m_Mo_readsSum.2.1 107 = .ok (.getfield 173, 3) := by decide +kernel
theorem d_Mo_readsSum_110 : decode m_Mo_readsSum.2.1 110 = .ok (.iconst 1, 1) := by decide +kernel
theorem d_Mo_readsSum_111 : decode m_Mo_readsSum.2.1 111 = .ok (.isub, 1) := by decide +kernel
theorem d_Mo_readsSum_112 : decode m_Mo_readsSum.2.1 112 = .ok (.putfield 173, 3) := by decide +kernel
theorem d_Mo_readsSum_115 : decode m_Mo_readsSum.2.1 115 = .ok (.aload_n 0, 1) := by decide +kernel
theorem d_Mo_readsSum_116 : decode m_Mo_readsSum.2.1 116 = .ok (.aload_n 0, 1) := by decide +kernel
theorem d_Mo_readsSum_117 : decode m_Mo_readsSum.2.1 117 = .ok (.getfield 170, 3) := by decide +kernel
theorem d_Mo_readsSum_120 : decode m_Mo_readsSum.2.1 120 = .ok (.iconst 1, 1) := by decide +kernel
theorem d_Mo_readsSum_121 : decode m_Mo_readsSum.2.1 121 = .ok (.isub, 1) := by decide +kernel
theorem d_Mo_readsSum_122 : decode m_Mo_readsSum.2.1 122 = .ok (.putfield 170, 3) := by decide +kernel
theorem d_Mo_readsSum_125 : decode m_Mo_readsSum.2.1 125 = .ok (.aload_n 0, 1) := by decide +kernel
theorem d_Mo_readsSum_126 : decode m_Mo_readsSum.2.1 126 = .ok (.aload_n 0, 1) := by decide +kernel
theorem d_Mo_readsSum_127 : decode m_Mo_readsSum.2.1 127 = .ok (.getfield 142, 3) := by decide +kernel
theorem d_Mo_readsSum_130 : decode m_Mo_readsSum.2.1 130 = .ok (.iconst 1, 1) := by decide +kernel
theorem d_Mo_readsSum_131 : decode m_Mo_readsSum.2.1 131 = .ok (.iadd, 1) := by decide +kernel
theorem d_Mo_readsSum_132 : decode m_Mo_readsSum.2.1 132 = .ok (.putfield 142, 3) := by decide +kernel
theorem d_Mo_readsSum_135 : decode m_Mo_readsSum.2.1 135 = .ok (.goto 28, 3) := by decide +kernel
theorem d_Mo_readsSum_138 : decode m_Mo_readsSum.2.1 138 = .ok (.aload_n 0, 1) := by decide +kernel
theorem d_Mo_readsSum_139 : decode m_Mo_readsSum.2.1 139 = .ok (.iload_n 1, 1) := by decide +kernel
theorem d_Mo_readsSum_140 : decode m_Mo_readsSum.2.1 140 = .ok (.invokevirtual 203, 3) := by decide +kernel
theorem d_Mo_readsSum_143 : decode m_Mo_readsSum.2.1 143 = .ok (.ifCond .eq 13, 3) := by decide +kernel
theorem d_Mo_readsSum_146 : decode m_Mo_readsSum.2.1 146 = .ok (.aload_n 0, 1) := by decide +kernel
theorem d_Mo_readsSum_147 : decode m_Mo_readsSum.2.1 147 = .ok (.iconst 1, 1) := by decide +kernel
theorem d_Mo_readsSum_148 : decode m_Mo_readsSum.2.1 148 = .ok (.aload_n 0, 1) := by decide +kernel
theorem d_Mo_readsSum_149 : decode m_Mo_readsSum.2.1 149 = .ok (.getfield 142, 3) := by decide +kernel
theorem d_Mo_readsSum_152 : decode m_Mo_readsSum.2.1 152 = .ok (.invokevirtual 155, 3) := by decide +kernel
theorem d_Mo_readsSum_155 : decode m_Mo_readsSum.2.1 155 = .ok (.ireturn, 1) := by decide +kernel
theorem d_Mo_readsSum_156 : decode m_Mo_readsSum.2.1 156 = .ok (.aload_n 0, 1) := by decide +kernel
theorem d_Mo_readsSum_157 : decode m_Mo_readsSum.2.1 157 = .ok (.iconst 1, 1) := by decide +kernel
theorem d_Mo_readsSum_158 : decode m_Mo_readsSum.2.1 158 = .ok (.invokevirtual 199, 3) := by decide +kernel
theorem d_Mo_readsSum_161 : decode m_Mo_readsSum.2.1 161 = .ok (.iconst 1, 1) := by decide +kernel
theorem d_Mo_readsSum_162 : decode m_Mo_readsSum.2.1 162 = .ok (.ireturn, 1) := by decide +kernel
theorem d_Mo_readsSum_163 : decode m_Mo_readsSum.2.1 163 = .ok (.goto (-149), 3) := by decide +kernel
def f_Mo_readsSum_163 (k_14 : St → Int32 → Option (Int32 × St)) (S : St) (l1 : Int32) : Option (Int32 × St) :=
    k_14 S l1
set_option maxHeartbeats 4000000 in
set_option maxRecDepth 20000 in
theorem t_Mo_readsSum_163  {k_14 : St → Int32 → Option (Int32 × St)} (hk_14 : ∀ (S : St) (l1 : Int32) (w : Int32 × St), k_14 S l1 = some w → G SM m_Mo_readsSum 5 (some w.1) w.2 14 [(0, .ref 0), (1, .int l1)] [] S) (S : St) (l1 : Int32) (w : Int32 × St) (h : f_Mo_readsSum_163 k_14 S l1 = some w) : G SM m_Mo_readsSum 5 (some w.1) w.2 163 [(0, .ref 0), (1, .int l1)] [] S := by
  unfold f_Mo_readsSum_163 at h
  refine G_goto 14 (by decide) d_Mo_readsSum_163 ?_
  exact G_sub _ [0, 1] rfl (hk_14 S l1 _ h)
def f_Mo_readsSum_38 (k_14 : St → Int32 → Option (Int32 × St)) (S : St) (l1 : Int32) (l2 : Int32) (s0 : Int32) : Option (Int32 × St) :=
    (f_Mo_closesSums S s0).bind fun w_38 =>
    if ig (w_38 0 14) 260 then (
    (some (sF w_38 8 (w_38 0 14).toNatClampNeg (1048576 * l2))).bind fun S_53 =>
    (some (sF S_53 0 14 ((S_53 0 14) + 1))).bind fun S_61 =>
    (some (sF S_61 0 8 ((S_61 0 8) + 1))).bind fun S_71 =>
    (f_Mo_readsFactor S_71).bind fun w_75 =>
    if w_75.1 = 0 then (
    some (0, w_75.2))
    else (
    f_Mo_readsSum_163 k_14 w_75.2 l1)) else none
set_option maxHeartbeats 4000000 in
set_option maxRecDepth 20000 in
theorem t_Mo_readsSum_38  {k_14 : St → Int32 → Option (Int32 × St)} (hk_14 : ∀ (S : St) (l1 : Int32) (w : Int32 × St), k_14 S l1 = some w → G SM m_Mo_readsSum 5 (some w.1) w.2 14 [(0, .ref 0), (1, .int l1)] [] S) (S : St) (l1 : Int32) (l2 : Int32) (s0 : Int32) (w : Int32 × St) (h : f_Mo_readsSum_38 k_14 S l1 l2 s0 = some w) : G SM m_Mo_readsSum 5 (some w.1) w.2 38 [(0, .ref 0), (1, .int l1), (2, .int l2)] [.int s0, .ref 0] S := by
  unfold f_Mo_readsSum_38 at h
  obtain ⟨w_38, q_38, h⟩ := ob_b h
  refine G_callV [.int s0] [] (t_Mo_closesSums q_38) (by decide) (by decide) mv_Mo_closesSums rfl ml_Mo_199 km_0 sm_0 cl_12 rfl (Nat.le_of_ble_eq_true rfl) d_Mo_readsSum_38 ?_
  refine G_aload_n 0 rfl d_Mo_readsSum_41 ?_
  refine G_getR fl_Mo_32 km_0 sm_0 rfl (by decide) d_Mo_readsSum_42 ?_
  refine G_aload_n 0 rfl d_Mo_readsSum_45 ?_
  refine G_getI fl_Mo_173 km_0 sm_0 rfl d_Mo_readsSum_46 ?_
  refine G_ldc c_Mo_169 d_Mo_readsSum_49 ?_
  refine G_iload_n 2 rfl d_Mo_readsSum_51 ?_
  refine G_imul d_Mo_readsSum_52 ?_
  obtain ⟨g_53, h⟩ := ob_g h
  obtain ⟨S_53, e_53, h⟩ := ob_s h
  refine G_iastore e_53 km_8 sm_8 g_53 d_Mo_readsSum_53 ?_
  refine G_aload_n 0 rfl d_Mo_readsSum_54 ?_
  refine G_aload_n 0 rfl d_Mo_readsSum_55 ?_
  refine G_getI fl_Mo_173 km_0 sm_0 rfl d_Mo_readsSum_56 ?_
  refine G_iconst 1 (by decide) d_Mo_readsSum_59 ?_
  refine G_iadd d_Mo_readsSum_60 ?_
  obtain ⟨S_61, e_61, h⟩ := ob_s h
  refine G_putI e_61 fp_Mo_173 km_0 sm_0 rfl d_Mo_readsSum_61 ?_
  refine G_aload_n 0 rfl d_Mo_readsSum_64 ?_
  refine G_aload_n 0 rfl d_Mo_readsSum_65 ?_
  refine G_getI fl_Mo_142 km_0 sm_0 rfl d_Mo_readsSum_66 ?_
  refine G_iconst 1 (by decide) d_Mo_readsSum_69 ?_
  refine G_iadd d_Mo_readsSum_70 ?_
  obtain ⟨S_71, e_71, h⟩ := ob_s h
  refine G_putI e_71 fp_Mo_142 km_0 sm_0 rfl d_Mo_readsSum_71 ?_
  refine G_aload_n 0 rfl d_Mo_readsSum_74 ?_
  obtain ⟨w_75, q_75, h⟩ := ob_b h
  refine G_callV [] [] (t_Mo_readsFactor q_75) (by decide) (by decide) mv_Mo_readsFactor rfl ml_Mo_193 km_0 sm_0 cl_12 rfl (Nat.le_of_ble_eq_true rfl) d_Mo_readsSum_75 ?_
  refine G_if_ne 163 (by decide) d_Mo_readsSum_78 (fun c_78 => ?_) (fun c_78 => ?_)
  · replace h := ob_f h c_78
    exact G_sub _ [0, 1] rfl (t_Mo_readsSum_163 hk_14 w_75.2 l1 _ h)
  · replace h := ob_t h c_78
    refine G_iconst 0 (by decide) d_Mo_readsSum_81 ?_
    cases h
    exact G_zret (Or.inl rfl) rfl d_Mo_readsSum_82
def f_Mo_readsSum_138 (S : St) (l1 : Int32) : Option (Int32 × St) :=
    (f_Mo_hasOpenSum S l1).bind fun v_140 =>
    if v_140 = 0 then (
    (f_Mo_closesSums S (1 : Int32)).bind fun w_158 =>
    some (1, w_158))
    else (
    (f_Mo_wrongAt S (1 : Int32) (S 0 8)).bind fun w_152 =>
    if w_152.1 = 0 ∨ w_152.1 = 1 then (
    some (w_152.1, w_152.2)) else none)
set_option maxHeartbeats 4000000 in
set_option maxRecDepth 20000 in
theorem t_Mo_readsSum_138  (S : St) (l1 : Int32) (w : Int32 × St) (h : f_Mo_readsSum_138 S l1 = some w) : G SM m_Mo_readsSum 5 (some w.1) w.2 138 [(0, .ref 0), (1, .int l1)] [] S := by
  unfold f_Mo_readsSum_138 at h
  refine G_aload_n 0 rfl d_Mo_readsSum_138 ?_
  refine G_iload_n 1 rfl d_Mo_readsSum_139 ?_
  obtain ⟨v_140, q_140, h⟩ := ob_b h
  refine G_callV [.int l1] [] (t_Mo_hasOpenSum q_140) (by decide) (by decide) mv_Mo_hasOpenSum rfl ml_Mo_203 km_0 sm_0 cl_12 rfl (Nat.le_of_ble_eq_true rfl) d_Mo_readsSum_140 ?_
  refine G_if_eq 156 (by decide) d_Mo_readsSum_143 (fun c_143 => ?_) (fun c_143 => ?_)
  · replace h := ob_t h c_143
    refine G_aload_n 0 rfl d_Mo_readsSum_156 ?_
    refine G_iconst 1 (by decide) d_Mo_readsSum_157 ?_
    obtain ⟨w_158, q_158, h⟩ := ob_b h
    refine G_callV [.int 1] [] (t_Mo_closesSums q_158) (by decide) (by decide) mv_Mo_closesSums rfl ml_Mo_199 km_0 sm_0 cl_12 rfl (Nat.le_of_ble_eq_true rfl) d_Mo_readsSum_158 ?_
    refine G_iconst 1 (by decide) d_Mo_readsSum_161 ?_
    cases h
    exact G_zret (Or.inr rfl) rfl d_Mo_readsSum_162
  · replace h := ob_f h c_143
    refine G_aload_n 0 rfl d_Mo_readsSum_146 ?_
    refine G_iconst 1 (by decide) d_Mo_readsSum_147 ?_
    refine G_aload_n 0 rfl d_Mo_readsSum_148 ?_
    refine G_getI fl_Mo_142 km_0 sm_0 rfl d_Mo_readsSum_149 ?_
    obtain ⟨w_152, q_152, h⟩ := ob_b h
    refine G_callV [.int 1, .int (S 0 8)] [] (t_Mo_wrongAt q_152) (by decide) (by decide) mv_Mo_wrongAt rfl ml_Mo_155 km_0 sm_0 cl_12 rfl (Nat.le_of_ble_eq_true rfl) d_Mo_readsSum_152 ?_
    obtain ⟨g_155, h⟩ := ob_g h
    cases h
    exact G_zret g_155 rfl d_Mo_readsSum_155
def f_Mo_readsSum_14 : Nat → St → Int32 → Option (Int32 × St)
  | 0, _, _ => none
  | n + 1, S, l1 =>
    (f_Mo_here S).bind fun v_15 =>
    (f_Mo_sumSign S v_15).bind fun v_18 =>
    if v_18 = (-1) then (
    (f_Mo_here S).bind fun v_84 =>
    if v_84 = 93 then (
    (f_Mo_hasOpenSum S l1).bind fun v_94 =>
    if v_94 = 0 then (
    f_Mo_readsSum_138 S l1)
    else (
    (f_Mo_closesSums S (1 : Int32)).bind fun w_102 =>
    (some (sF w_102 0 14 ((w_102 0 14) - 1))).bind fun S_112 =>
    (some (sF S_112 0 12 ((S_112 0 12) - 1))).bind fun S_122 =>
    (some (sF S_122 0 8 ((S_122 0 8) + 1))).bind fun S_132 =>
    f_Mo_readsSum_163 (f_Mo_readsSum_14 n) S_132 l1))
    else (
    f_Mo_readsSum_138 S l1))
    else (
    if (4 : Int32) ≤ v_18 then (
    f_Mo_readsSum_38 (f_Mo_readsSum_14 n) S l1 v_18 (0 : Int32))
    else (
    f_Mo_readsSum_38 (f_Mo_readsSum_14 n) S l1 v_18 (1 : Int32)))
set_option maxHeartbeats 4000000 in
set_option maxRecDepth 20000 in
theorem t_Mo_readsSum_14  : ∀ (n : Nat) (S : St) (l1 : Int32) (w : Int32 × St), f_Mo_readsSum_14 n S l1 = some w → G SM m_Mo_readsSum 5 (some w.1) w.2 14 [(0, .ref 0), (1, .int l1)] [] S := by
  intro n
  induction n with
  | zero =>
    intro S l1 w h
    rw [f_Mo_readsSum_14] at h
    cases h
  | succ n ih =>
    intro S l1 w h
    rw [f_Mo_readsSum_14] at h
    refine G_aload_n 0 rfl d_Mo_readsSum_14 ?_
    obtain ⟨v_15, q_15, h⟩ := ob_b h
    refine G_callV [] [] (t_Mo_here q_15) (by decide) (by decide) mv_Mo_here rfl ml_Mo_148 km_0 sm_0 cl_12 rfl (Nat.le_of_ble_eq_true rfl) d_Mo_readsSum_15 ?_
    obtain ⟨v_18, q_18, h⟩ := ob_b h
    refine G_callS [.int v_15] [] (t_Mo_sumSign q_18) (by decide) (by decide) mt_Mo_sumSign rfl ml_Mo_196 rfl (Nat.le_of_ble_eq_true rfl) d_Mo_readsSum_18 ?_
    refine G_istore_n [(2, .int v_18), (0, .ref 0), (1, .int l1)] rfl rfl (by decide) d_Mo_readsSum_21 ?_
    refine G_iload_n 0 rfl d_Mo_readsSum_22 ?_
    refine G_iconst (-1) (by decide) d_Mo_readsSum_23 ?_
    refine G_icmp_eq 83 (by decide) d_Mo_readsSum_24 (fun c_24 => ?_) (fun c_24 => ?_)
    · replace h := ob_t h c_24
      refine G_aload_n 1 rfl d_Mo_readsSum_83 ?_
      obtain ⟨v_84, q_84, h⟩ := ob_b h
      refine G_callV [] [] (t_Mo_here q_84) (by decide) (by decide) mv_Mo_here rfl ml_Mo_148 km_0 sm_0 cl_12 rfl (Nat.le_of_ble_eq_true rfl) d_Mo_readsSum_84 ?_
      refine G_bipush 93 (by decide) d_Mo_readsSum_87 ?_
      refine G_icmp_ne 138 (by decide) d_Mo_readsSum_89 (fun c_89 => ?_) (fun c_89 => ?_)
      · replace h := ob_f h c_89
        exact G_sub _ [1, 2] rfl (t_Mo_readsSum_138 S l1 _ h)
      · replace h := ob_t h c_89
        refine G_aload_n 1 rfl d_Mo_readsSum_92 ?_
        refine G_iload_n 2 rfl d_Mo_readsSum_93 ?_
        obtain ⟨v_94, q_94, h⟩ := ob_b h
        refine G_callV [.int l1] [] (t_Mo_hasOpenSum q_94) (by decide) (by decide) mv_Mo_hasOpenSum rfl ml_Mo_203 km_0 sm_0 cl_12 rfl (Nat.le_of_ble_eq_true rfl) d_Mo_readsSum_94 ?_
        refine G_if_eq 138 (by decide) d_Mo_readsSum_97 (fun c_97 => ?_) (fun c_97 => ?_)
        · replace h := ob_t h c_97
          exact G_sub _ [1, 2] rfl (t_Mo_readsSum_138 S l1 _ h)
        · replace h := ob_f h c_97
          refine G_aload_n 1 rfl d_Mo_readsSum_100 ?_
          refine G_iconst 1 (by decide) d_Mo_readsSum_101 ?_
          obtain ⟨w_102, q_102, h⟩ := ob_b h
          refine G_callV [.int 1] [] (t_Mo_closesSums q_102) (by decide) (by decide) mv_Mo_closesSums rfl ml_Mo_199 km_0 sm_0 cl_12 rfl (Nat.le_of_ble_eq_true rfl) d_Mo_readsSum_102 ?_
          refine G_aload_n 1 rfl d_Mo_readsSum_105 ?_
          refine G_aload_n 1 rfl d_Mo_readsSum_106 ?_
          refine G_getI fl_Mo_173 km_0 sm_0 rfl d_Mo_readsSum_107 ?_
          refine G_iconst 1 (by decide) d_Mo_readsSum_110 ?_
          refine G_isub d_Mo_readsSum_111 ?_
          obtain ⟨S_112, e_112, h⟩ := ob_s h
          refine G_putI e_112 fp_Mo_173 km_0 sm_0 rfl d_Mo_readsSum_112 ?_
          refine G_aload_n 1 rfl d_Mo_readsSum_115 ?_
          refine G_aload_n 1 rfl d_Mo_readsSum_116 ?_
          refine G_getI fl_Mo_170 km_0 sm_0 rfl d_Mo_readsSum_117 ?_
          refine G_iconst 1 (by decide) d_Mo_readsSum_120 ?_
          refine G_isub d_Mo_readsSum_121 ?_
          obtain ⟨S_122, e_122, h⟩ := ob_s h
          refine G_putI e_122 fp_Mo_170 km_0 sm_0 rfl d_Mo_readsSum_122 ?_
          refine G_aload_n 1 rfl d_Mo_readsSum_125 ?_
          refine G_aload_n 1 rfl d_Mo_readsSum_126 ?_
          refine G_getI fl_Mo_142 km_0 sm_0 rfl d_Mo_readsSum_127 ?_
          refine G_iconst 1 (by decide) d_Mo_readsSum_130 ?_
          refine G_iadd d_Mo_readsSum_131 ?_
          obtain ⟨S_132, e_132, h⟩ := ob_s h
          refine G_putI e_132 fp_Mo_142 km_0 sm_0 rfl d_Mo_readsSum_132 ?_
          refine G_goto 163 (by decide) d_Mo_readsSum_135 ?_
          exact G_sub _ [1, 2] rfl (t_Mo_readsSum_163 ih S_132 l1 _ h)
    · replace h := ob_f h c_24
      refine G_aload_n 1 rfl d_Mo_readsSum_27 ?_
      refine G_iload_n 0 rfl d_Mo_readsSum_28 ?_
      refine G_iconst 4 (by decide) d_Mo_readsSum_29 ?_
      refine G_icmp_ge 37 (by decide) d_Mo_readsSum_30 (fun c_30 => ?_) (fun c_30 => ?_)
      · replace h := ob_t h c_30
        refine G_iconst 0 (by decide) d_Mo_readsSum_37 ?_
        exact G_sub _ [1, 2, 0] rfl (t_Mo_readsSum_38 ih S l1 v_18 (0 : Int32) _ h)
      · replace h := ob_f h c_30
        refine G_iconst 1 (by decide) d_Mo_readsSum_33 ?_
        refine G_goto 38 (by decide) d_Mo_readsSum_34 ?_
        exact G_sub _ [1, 2, 0] rfl (t_Mo_readsSum_38 ih S l1 v_18 (1 : Int32) _ h)
def f_Mo_readsSum (S : St) : Option (Int32 × St) :=
    (some (S 0 14)).bind fun l1_4 =>
    (f_Mo_readsFactor S).bind fun w_6 =>
    if w_6.1 = 0 then (
    some (0, w_6.2))
    else (
    f_Mo_readsSum_14 FU w_6.2 l1_4)
set_option maxHeartbeats 4000000 in
set_option maxRecDepth 20000 in
theorem t_Mo_readsSum  {S : St} {w : Int32 × St} (h : f_Mo_readsSum S = some w) : Ct SM m_Mo_readsSum 5 [.ref 0] S (some w.1) w.2 := by
  unfold f_Mo_readsSum at h
  refine Ct.of pn_Mo (Nat.le_of_ble_eq_true rfl) ?_
  show G SM m_Mo_readsSum 5 (some w.1) w.2 0 [(0, .ref 0)] [] S
  refine G_aload_n 0 rfl d_Mo_readsSum_0 ?_
  refine G_getI fl_Mo_173 km_0 sm_0 rfl d_Mo_readsSum_1 ?_
  obtain ⟨l1_4, e_4, h⟩ := ob_s h
  refine G_istore_n [(1, .int l1_4), (0, .ref 0)] e_4 rfl (by decide) d_Mo_readsSum_4 ?_
  refine G_aload_n 1 rfl d_Mo_readsSum_5 ?_
  obtain ⟨w_6, q_6, h⟩ := ob_b h
  refine G_callV [] [] (t_Mo_readsFactor q_6) (by decide) (by decide) mv_Mo_readsFactor rfl ml_Mo_193 km_0 sm_0 cl_12 rfl (Nat.le_of_ble_eq_true rfl) d_Mo_readsSum_6 ?_
  refine G_if_ne 14 (by decide) d_Mo_readsSum_9 (fun c_9 => ?_) (fun c_9 => ?_)
  · replace h := ob_f h c_9
    exact G_sub _ [1, 0] rfl (t_Mo_readsSum_14 FU w_6.2 l1_4 _ h)
  · replace h := ob_t h c_9
    refine G_iconst 0 (by decide) d_Mo_readsSum_12 ?_
    cases h
    exact G_zret (Or.inl rfl) rfl d_Mo_readsSum_13
theorem d_Mo_endsPiece_0 : decode m_Mo_endsPiece.2.1 0 = .ok (.aload_n 0, 1) := by decide +kernel
theorem d_Mo_endsPiece_1 : decode m_Mo_endsPiece.2.1 1 = .ok (.invokevirtual 176, 3) := by decide +kernel
theorem d_Mo_endsPiece_4 : decode m_Mo_endsPiece.2.1 4 = .ok (.bipush 10, 2) := by decide +kernel
theorem d_Mo_endsPiece_6 : decode m_Mo_endsPiece.2.1 6 = .ok (.if_icmp .ne 33, 3) := by decide +kernel
theorem d_Mo_endsPiece_9 : decode m_Mo_endsPiece.2.1 9 = .ok (.aload_n 0, 1) := by decide +kernel
theorem d_Mo_endsPiece_10 : decode m_Mo_endsPiece.2.1 10 = .ok (.bipush 10, 2) := by decide +kernel
theorem d_Mo_endsPiece_12 : decode m_Mo_endsPiece.2.1 12 = .ok (.iconst 0, 1) := by decide +kernel
theorem d_Mo_endsPiece_13 : decode m_Mo_endsPiece.2.1 13 = .ok (.invokevirtual 179, 3) := by decide +kernel
theorem d_Mo_endsPiece_16 : decode m_Mo_endsPiece.2.1 16 = .ok (.aload_n 0, 1) := by decide +kernel
theorem d_Mo_endsPiece_17 : decode m_Mo_endsPiece.2.1 17 = .ok (.aload_n 0, 1) := by decide +kernel
theorem d_Mo_endsPiece_18 : decode m_Mo_endsPiece.2.1 18 = .ok (.getfield 173, 3) := by decide +kernel
theorem d_Mo_endsPiece_21 : decode m_Mo_endsPiece.2.1 21 = .ok (.iconst 1, 1) := by decide +kernel
theorem d_Mo_endsPiece_22 : decode m_Mo_endsPiece.2.1 22 = .ok (.isub, 1) := by decide +kernel
theorem d_Mo_endsPiece_23 : decode m_Mo_endsPiece.2.1 23 = .ok (.putfield 173, 3) := by decide +kernel
theorem d_Mo_endsPiece_26 : decode m_Mo_endsPiece.2.1 26 = .ok (.aload_n 0, 1) := by decide +kernel
theorem d_Mo_endsPiece_27 : decode m_Mo_endsPiece.2.1 27 = .ok (.aload_n 0, 1) := by decide +kernel
theorem d_Mo_endsPiece_28 : decode m_Mo_endsPiece.2.1 28 = .ok (.getfield 170, 3) := by decide +kernel
theorem d_Mo_endsPiece_31 : decode m_Mo_endsPiece.2.1 31 = .ok (.iconst 1, 1) := by decide +kernel
theorem d_Mo_endsPiece_32 : decode m_Mo_endsPiece.2.1 32 = .ok (.isub, 1) := by decide +kernel
theorem d_Mo_endsPiece_33 : decode m_Mo_endsPiece.2.1 33 = .ok (.putfield 170, 3) := by decide +kernel
theorem d_Mo_endsPiece_36 : decode m_Mo_endsPiece.2.1 36 = .ok (.goto (-36), 3) := by decide +kernel
theorem d_Mo_endsPiece_39 : decode m_Mo_endsPiece.2.1 39 = .ok (.return_, 1) := by decide +kernel
def f_Mo_endsPiece_0 : Nat → St → Option (St)
  | 0, _ => none
  | n + 1, S =>
    (f_Mo_waitTop S).bind fun v_1 =>
    if v_1 = 10 then (
    (f_Mo_notes S (10 : Int32) (0 : Int32)).bind fun w_13 =>
    (some (sF w_13 0 14 ((w_13 0 14) - 1))).bind fun S_23 =>
    (some (sF S_23 0 12 ((S_23 0 12) - 1))).bind fun S_33 =>
    f_Mo_endsPiece_0 n S_33)
    else (
    some S)
set_option maxHeartbeats 4000000 in
set_option maxRecDepth 20000 in
theorem t_Mo_endsPiece_0  : ∀ (n : Nat) (S : St) (w : St), f_Mo_endsPiece_0 n S = some w → G SM m_Mo_endsPiece 2 none w 0 [(0, .ref 0)] [] S := by
  intro n
  induction n with
  | zero =>
    intro S w h
    rw [f_Mo_endsPiece_0] at h
    cases h
  | succ n ih =>
    intro S w h
    rw [f_Mo_endsPiece_0] at h
    refine G_aload_n 0 rfl d_Mo_endsPiece_0 ?_
    obtain ⟨v_1, q_1, h⟩ := ob_b h
    refine G_callV [] [] (t_Mo_waitTop q_1) (by decide) (by decide) mv_Mo_waitTop rfl ml_Mo_176 km_0 sm_0 cl_12 rfl (Nat.le_of_ble_eq_true rfl) d_Mo_endsPiece_1 ?_
    refine G_bipush 10 (by decide) d_Mo_endsPiece_4 ?_
    refine G_icmp_ne 39 (by decide) d_Mo_endsPiece_6 (fun c_6 => ?_) (fun c_6 => ?_)
    · replace h := ob_f h c_6
      cases h
      exact G_vret rfl d_Mo_endsPiece_39
    · replace h := ob_t h c_6
      refine G_aload_n 0 rfl d_Mo_endsPiece_9 ?_
      refine G_bipush 10 (by decide) d_Mo_endsPiece_10 ?_
      refine G_iconst 0 (by decide) d_Mo_endsPiece_12 ?_
      obtain ⟨w_13, q_13, h⟩ := ob_b h
      refine G_callV [.int 10, .int 0] [] (t_Mo_notes q_13) (by decide) (by decide) mv_Mo_notes rfl ml_Mo_179 km_0 sm_0 cl_12 rfl (Nat.le_of_ble_eq_true rfl) d_Mo_endsPiece_13 ?_
      refine G_aload_n 0 rfl d_Mo_endsPiece_16 ?_
      refine G_aload_n 0 rfl d_Mo_endsPiece_17 ?_
      refine G_getI fl_Mo_173 km_0 sm_0 rfl d_Mo_endsPiece_18 ?_
      refine G_iconst 1 (by decide) d_Mo_endsPiece_21 ?_
      refine G_isub d_Mo_endsPiece_22 ?_
      obtain ⟨S_23, e_23, h⟩ := ob_s h
      refine G_putI e_23 fp_Mo_173 km_0 sm_0 rfl d_Mo_endsPiece_23 ?_
      refine G_aload_n 0 rfl d_Mo_endsPiece_26 ?_
      refine G_aload_n 0 rfl d_Mo_endsPiece_27 ?_
      refine G_getI fl_Mo_170 km_0 sm_0 rfl d_Mo_endsPiece_28 ?_
      refine G_iconst 1 (by decide) d_Mo_endsPiece_31 ?_
      refine G_isub d_Mo_endsPiece_32 ?_
      obtain ⟨S_33, e_33, h⟩ := ob_s h
      refine G_putI e_33 fp_Mo_170 km_0 sm_0 rfl d_Mo_endsPiece_33 ?_
      refine G_goto 0 (by decide) d_Mo_endsPiece_36 ?_
      exact G_sub _ [0] rfl (ih S_33 _ h)
def f_Mo_endsPiece (S : St) : Option (St) :=
    f_Mo_endsPiece_0 FU S
set_option maxHeartbeats 4000000 in
set_option maxRecDepth 20000 in
theorem t_Mo_endsPiece  {S : St} {w : St} (h : f_Mo_endsPiece S = some w) : Ct SM m_Mo_endsPiece 2 [.ref 0] S none w := by
  unfold f_Mo_endsPiece at h
  refine Ct.of pn_Mo (Nat.le_of_ble_eq_true rfl) ?_
  show G SM m_Mo_endsPiece 2 none w 0 [(0, .ref 0)] [] S
  exact G_sub _ [0] rfl (t_Mo_endsPiece_0 FU S _ h)
theorem d_Mo_lands_0 : decode m_Mo_lands.2.1 0 = .ok (.aload_n 0, 1) := by decide +kernel
theorem d_Mo_lands_1 : decode m_Mo_lands.2.1 1 = .ok (.invokevirtual 176, 3) := by decide +kernel
theorem d_Mo_lands_4 : decode m_Mo_lands.2.1 4 = .ok (.bipush 11, 2) := by decide +kernel
theorem d_Mo_lands_6 : decode m_Mo_lands.2.1 6 = .ok (.if_icmp .eq 16, 3) := by decide +kernel
theorem d_Mo_lands_9 : decode m_Mo_lands.2.1 9 = .ok (.iload_n 1, 1) := by decide +kernel
theorem d_Mo_lands_10 : decode m_Mo_lands.2.1 10 = .ok (.ifCond .eq 63, 3) := by decide +kernel
theorem d_Mo_lands_13 : decode m_Mo_lands.2.1 13 = .ok (.aload_n 0, 1) := by decide +kernel
theorem d_Mo_lands_14 : decode m_Mo_lands.2.1 14 = .ok (.invokevirtual 176, 3) := by decide +kernel
theorem d_Mo_lands_17 : decode m_Mo_lands.2.1 17 = .ok (.bipush 12, 2) := by decide +kernel
theorem d_Mo_lands_19 : decode m_Mo_lands.2.1 19 = .ok (.if_icmp .ne 54, 3) := by decide +kernel
theorem d_Mo_lands_22 : decode m_Mo_lands.2.1 22 = .ok (.aload_n 0, 1) := by decide +kernel
theorem d_Mo_lands_23 : decode m_Mo_lands.2.1 23 = .ok (.getfield 32, 3) := by decide +kernel
theorem d_Mo_lands_26 : decode m_Mo_lands.2.1 26 = .ok (.aload_n 0, 1) := by decide +kernel
theorem d_Mo_lands_27 : decode m_Mo_lands.2.1 27 = .ok (.getfield 173, 3) := by decide +kernel
theorem d_Mo_lands_30 : decode m_Mo_lands.2.1 30 = .ok (.iconst 1, 1) := by decide +kernel
theorem d_Mo_lands_31 : decode m_Mo_lands.2.1 31 = .ok (.isub, 1) := by decide +kernel
theorem d_Mo_lands_32 : decode m_Mo_lands.2.1 32 = .ok (.iaload, 1) := by decide +kernel
theorem d_Mo_lands_33 : decode m_Mo_lands.2.1 33 = .ok (.ldc 169, 2) := by decide +kernel
theorem d_Mo_lands_35 : decode m_Mo_lands.2.1 35 = .ok (.irem, 1) := by decide +kernel
theorem d_Mo_lands_36 : decode m_Mo_lands.2.1 36 = .ok (.istore_n 2, 1) := by decide +kernel
theorem d_Mo_lands_37 : decode m_Mo_lands.2.1 37 = .ok (.aload_n 0, 1) := by decide +kernel
theorem d_Mo_lands_38 : decode m_Mo_lands.2.1 38 = .ok (.getfield 29, 3) := by decide +kernel
theorem d_Mo_lands_41 : decode m_Mo_lands.2.1 41 = .ok (.iload_n 2, 1) := by decide +kernel
theorem d_Mo_lands_42 : decode m_Mo_lands.2.1 42 = .ok (.ldc 169, 2) := by decide +kernel
theorem d_Mo_lands_44 : decode m_Mo_lands.2.1 44 = .ok (.aload_n 0, 1) := by decide +kernel
theorem d_Mo_lands_45 : decode m_Mo_lands.2.1 45 = .ok (.getfield 29, 3) := by decide +kernel
theorem d_Mo_lands_48 : decode m_Mo_lands.2.1 48 = .ok (.iload_n 2, 1) := by decide +kernel
theorem d_Mo_lands_49 : decode m_Mo_lands.2.1 49 = .ok (.iaload, 1) := by decide +kernel
theorem d_Mo_lands_50 : decode m_Mo_lands.2.1 50 = .ok (.ldc 169, 2) := by decide +kernel
theorem d_Mo_lands_52 : decode m_Mo_lands.2.1 52 = .ok (.idiv, 1) := by decide +kernel
theorem d_Mo_lands_53 : decode m_Mo_lands.2.1 53 = .ok (.imul, 1) := by decide +kernel
theorem d_Mo_lands_54 : decode m_Mo_lands.2.1 54 = .ok (.aload_n 0, 1) := by decide +kernel
theorem d_Mo_lands_55 : decode m_Mo_lands.2.1 55 = .ok (.getfield 166, 3) := by decide +kernel
theorem d_Mo_lands_58 : decode m_Mo_lands.2.1 58 = .ok (.iadd, 1) := by decide +kernel
theorem d_Mo_lands_59 : decode m_Mo_lands.2.1 59 = .ok (.iastore, 1) := by decide +kernel
theorem d_Mo_lands_60 : decode m_Mo_lands.2.1 60 = .ok (.aload_n 0, 1) := by decide +kernel
theorem d_Mo_lands_61 : decode m_Mo_lands.2.1 61 = .ok (.aload_n 0, 1) := by decide +kernel
theorem d_Mo_lands_62 : decode m_Mo_lands.2.1 62 = .ok (.getfield 173, 3) := by decide +kernel
theorem d_Mo_lands_65 : decode m_Mo_lands.2.1 65 = .ok (.iconst 1, 1) := by decide +kernel
theorem d_Mo_lands_66 : decode m_Mo_lands.2.1 66 = .ok (.isub, 1) := by decide +kernel
theorem d_Mo_lands_67 : decode m_Mo_lands.2.1 67 = .ok (.putfield 173, 3) := by decide +kernel
theorem d_Mo_lands_70 : decode m_Mo_lands.2.1 70 = .ok (.goto (-70), 3) := by decide +kernel
theorem d_Mo_lands_73 : decode m_Mo_lands.2.1 73 = .ok (.return_, 1) := by decide +kernel
def f_Mo_lands_22 (k_0 : St → Int32 → Option (St)) (S : St) (l1 : Int32) : Option (St) :=
    if ig ((S 0 14) - 1) 260 then (
    (some (jrem (S 8 ((S 0 14) - 1).toNatClampNeg) 1048576)).bind fun l2_36 =>
    if ig l2_36 260 then (
    if ig l2_36 260 then (
    (some (sF S 7 l2_36.toNatClampNeg ((1048576 * ((S 7 l2_36.toNatClampNeg) / 1048576)) + (S 0 13)))).bind fun S_59 =>
    (some (sF S_59 0 14 ((S_59 0 14) - 1))).bind fun S_67 =>
    k_0 S_67 l1) else none) else none) else none
set_option maxHeartbeats 4000000 in
set_option maxRecDepth 20000 in
theorem t_Mo_lands_22  {k_0 : St → Int32 → Option (St)} (hk_0 : ∀ (S : St) (l1 : Int32) (w : St), k_0 S l1 = some w → G SM m_Mo_lands 2 none w 0 [(0, .ref 0), (1, .int l1)] [] S) (S : St) (l1 : Int32) (w : St) (h : f_Mo_lands_22 k_0 S l1 = some w) : G SM m_Mo_lands 2 none w 22 [(0, .ref 0), (1, .int l1)] [] S := by
  unfold f_Mo_lands_22 at h
  refine G_aload_n 0 rfl d_Mo_lands_22 ?_
  refine G_getR fl_Mo_32 km_0 sm_0 rfl (by decide) d_Mo_lands_23 ?_
  refine G_aload_n 0 rfl d_Mo_lands_26 ?_
  refine G_getI fl_Mo_173 km_0 sm_0 rfl d_Mo_lands_27 ?_
  refine G_iconst 1 (by decide) d_Mo_lands_30 ?_
  refine G_isub d_Mo_lands_31 ?_
  obtain ⟨g_32, h⟩ := ob_g h
  refine G_iaload km_8 sm_8 g_32 d_Mo_lands_32 ?_
  refine G_ldc c_Mo_169 d_Mo_lands_33 ?_
  refine G_irem (by decide) d_Mo_lands_35 ?_
  obtain ⟨l2_36, e_36, h⟩ := ob_s h
  refine G_istore_n [(2, .int l2_36), (0, .ref 0), (1, .int l1)] e_36 rfl (by decide) d_Mo_lands_36 ?_
  refine G_aload_n 1 rfl d_Mo_lands_37 ?_
  refine G_getR fl_Mo_29 km_0 sm_0 rfl (by decide) d_Mo_lands_38 ?_
  refine G_iload_n 0 rfl d_Mo_lands_41 ?_
  refine G_ldc c_Mo_169 d_Mo_lands_42 ?_
  refine G_aload_n 1 rfl d_Mo_lands_44 ?_
  refine G_getR fl_Mo_29 km_0 sm_0 rfl (by decide) d_Mo_lands_45 ?_
  refine G_iload_n 0 rfl d_Mo_lands_48 ?_
  obtain ⟨g_49, h⟩ := ob_g h
  refine G_iaload km_7 sm_7 g_49 d_Mo_lands_49 ?_
  refine G_ldc c_Mo_169 d_Mo_lands_50 ?_
  refine G_idiv (by decide) d_Mo_lands_52 ?_
  refine G_imul d_Mo_lands_53 ?_
  refine G_aload_n 1 rfl d_Mo_lands_54 ?_
  refine G_getI fl_Mo_166 km_0 sm_0 rfl d_Mo_lands_55 ?_
  refine G_iadd d_Mo_lands_58 ?_
  obtain ⟨g_59, h⟩ := ob_g h
  obtain ⟨S_59, e_59, h⟩ := ob_s h
  refine G_iastore e_59 km_7 sm_7 g_59 d_Mo_lands_59 ?_
  refine G_aload_n 1 rfl d_Mo_lands_60 ?_
  refine G_aload_n 1 rfl d_Mo_lands_61 ?_
  refine G_getI fl_Mo_173 km_0 sm_0 rfl d_Mo_lands_62 ?_
  refine G_iconst 1 (by decide) d_Mo_lands_65 ?_
  refine G_isub d_Mo_lands_66 ?_
  obtain ⟨S_67, e_67, h⟩ := ob_s h
  refine G_putI e_67 fp_Mo_173 km_0 sm_0 rfl d_Mo_lands_67 ?_
  refine G_goto 0 (by decide) d_Mo_lands_70 ?_
  exact G_sub _ [1, 2] rfl (hk_0 S_67 l1 _ h)
def f_Mo_lands_0 : Nat → St → Int32 → Option (St)
  | 0, _, _ => none
  | n + 1, S, l1 =>
    (f_Mo_waitTop S).bind fun v_1 =>
    if v_1 = 11 then (
    f_Mo_lands_22 (f_Mo_lands_0 n) S l1)
    else (
    if l1 = 0 then (
    some S)
    else (
    (f_Mo_waitTop S).bind fun v_14 =>
    if v_14 = 12 then (
    f_Mo_lands_22 (f_Mo_lands_0 n) S l1)
    else (
    some S)))
set_option maxHeartbeats 4000000 in
set_option maxRecDepth 20000 in
theorem t_Mo_lands_0  : ∀ (n : Nat) (S : St) (l1 : Int32) (w : St), f_Mo_lands_0 n S l1 = some w → G SM m_Mo_lands 2 none w 0 [(0, .ref 0), (1, .int l1)] [] S := by
  intro n
  induction n with
  | zero =>
    intro S l1 w h
    rw [f_Mo_lands_0] at h
    cases h
  | succ n ih =>
    intro S l1 w h
    rw [f_Mo_lands_0] at h
    refine G_aload_n 0 rfl d_Mo_lands_0 ?_
    obtain ⟨v_1, q_1, h⟩ := ob_b h
    refine G_callV [] [] (t_Mo_waitTop q_1) (by decide) (by decide) mv_Mo_waitTop rfl ml_Mo_176 km_0 sm_0 cl_12 rfl (Nat.le_of_ble_eq_true rfl) d_Mo_lands_1 ?_
    refine G_bipush 11 (by decide) d_Mo_lands_4 ?_
    refine G_icmp_eq 22 (by decide) d_Mo_lands_6 (fun c_6 => ?_) (fun c_6 => ?_)
    · replace h := ob_t h c_6
      exact G_sub _ [0, 1] rfl (t_Mo_lands_22 ih S l1 _ h)
    · replace h := ob_f h c_6
      refine G_iload_n 1 rfl d_Mo_lands_9 ?_
      refine G_if_eq 73 (by decide) d_Mo_lands_10 (fun c_10 => ?_) (fun c_10 => ?_)
      · replace h := ob_t h c_10
        cases h
        exact G_vret rfl d_Mo_lands_73
      · replace h := ob_f h c_10
        refine G_aload_n 0 rfl d_Mo_lands_13 ?_
        obtain ⟨v_14, q_14, h⟩ := ob_b h
        refine G_callV [] [] (t_Mo_waitTop q_14) (by decide) (by decide) mv_Mo_waitTop rfl ml_Mo_176 km_0 sm_0 cl_12 rfl (Nat.le_of_ble_eq_true rfl) d_Mo_lands_14 ?_
        refine G_bipush 12 (by decide) d_Mo_lands_17 ?_
        refine G_icmp_ne 73 (by decide) d_Mo_lands_19 (fun c_19 => ?_) (fun c_19 => ?_)
        · replace h := ob_f h c_19
          cases h
          exact G_vret rfl d_Mo_lands_73
        · replace h := ob_t h c_19
          exact G_sub _ [0, 1] rfl (t_Mo_lands_22 ih S l1 _ h)
def f_Mo_lands (S : St) (l1 : Int32) : Option (St) :=
    f_Mo_lands_0 FU S l1
set_option maxHeartbeats 4000000 in
set_option maxRecDepth 20000 in
theorem t_Mo_lands  {S : St} {l1 : Int32} {w : St} (h : f_Mo_lands S l1 = some w) : Ct SM m_Mo_lands 2 [.ref 0, .int l1] S none w := by
  unfold f_Mo_lands at h
  refine Ct.of pn_Mo (Nat.le_of_ble_eq_true rfl) ?_
  show G SM m_Mo_lands 2 none w 0 [(0, .ref 0), (1, .int l1)] [] S
  exact G_sub _ [0, 1] rfl (t_Mo_lands_0 FU S l1 _ h)
theorem d_Mo_jumps_0 : decode m_Mo_jumps.2.1 0 = .ok (.aload_n 0, 1) := by decide +kernel
theorem d_Mo_jumps_1 : decode m_Mo_jumps.2.1 1 = .ok (.getfield 32, 3) := by decide +kernel
theorem d_Mo_jumps_4 : decode m_Mo_jumps.2.1 4 = .ok (.aload_n 0, 1) := by decide +kernel
theorem d_Mo_jumps_5 : decode m_Mo_jumps.2.1 5 = .ok (.getfield 173, 3) := by decide +kernel
theorem d_Mo_jumps_8 : decode m_Mo_jumps.2.1 8 = .ok (.ldc 169, 2) := by decide +kernel
theorem d_Mo_jumps_10 : decode m_Mo_jumps.2.1 10 = .ok (.iload_n 1, 1) := by decide +kernel
theorem d_Mo_jumps_11 : decode m_Mo_jumps.2.1 11 = .ok (.imul, 1) := by decide +kernel
theorem d_Mo_jumps_12 : decode m_Mo_jumps.2.1 12 = .ok (.aload_n 0, 1) := by decide +kernel
theorem d_Mo_jumps_13 : decode m_Mo_jumps.2.1 13 = .ok (.getfield 166, 3) := by decide +kernel
theorem d_Mo_jumps_16 : decode m_Mo_jumps.2.1 16 = .ok (.iadd, 1) := by decide +kernel
theorem d_Mo_jumps_17 : decode m_Mo_jumps.2.1 17 = .ok (.iastore, 1) := by decide +kernel
theorem d_Mo_jumps_18 : decode m_Mo_jumps.2.1 18 = .ok (.aload_n 0, 1) := by decide +kernel
theorem d_Mo_jumps_19 : decode m_Mo_jumps.2.1 19 = .ok (.aload_n 0, 1) := by decide +kernel
theorem d_Mo_jumps_20 : decode m_Mo_jumps.2.1 20 = .ok (.getfield 173, 3) := by decide +kernel
theorem d_Mo_jumps_23 : decode m_Mo_jumps.2.1 23 = .ok (.iconst 1, 1) := by decide +kernel
theorem d_Mo_jumps_24 : decode m_Mo_jumps.2.1 24 = .ok (.iadd, 1) := by decide +kernel
theorem d_Mo_jumps_25 : decode m_Mo_jumps.2.1 25 = .ok (.putfield 173, 3) := by decide +kernel
theorem d_Mo_jumps_28 : decode m_Mo_jumps.2.1 28 = .ok (.aload_n 0, 1) := by decide +kernel
theorem d_Mo_jumps_29 : decode m_Mo_jumps.2.1 29 = .ok (.iload_n 1, 1) := by decide +kernel
theorem d_Mo_jumps_30 : decode m_Mo_jumps.2.1 30 = .ok (.iconst 0, 1) := by decide +kernel
theorem d_Mo_jumps_31 : decode m_Mo_jumps.2.1 31 = .ok (.invokevirtual 179, 3) := by decide +kernel
theorem d_Mo_jumps_34 : decode m_Mo_jumps.2.1 34 = .ok (.aload_n 0, 1) := by decide +kernel
theorem d_Mo_jumps_35 : decode m_Mo_jumps.2.1 35 = .ok (.aload_n 0, 1) := by decide +kernel
theorem d_Mo_jumps_36 : decode m_Mo_jumps.2.1 36 = .ok (.getfield 142, 3) := by decide +kernel
theorem d_Mo_jumps_39 : decode m_Mo_jumps.2.1 39 = .ok (.iconst 1, 1) := by decide +kernel
theorem d_Mo_jumps_40 : decode m_Mo_jumps.2.1 40 = .ok (.iadd, 1) := by decide +kernel
theorem d_Mo_jumps_41 : decode m_Mo_jumps.2.1 41 = .ok (.putfield 142, 3) := by decide +kernel
theorem d_Mo_jumps_44 : decode m_Mo_jumps.2.1 44 = .ok (.return_, 1) := by decide +kernel
def f_Mo_jumps (S : St) (l1 : Int32) : Option (St) :=
    if ig (S 0 14) 260 then (
    (some (sF S 8 (S 0 14).toNatClampNeg ((1048576 * l1) + (S 0 13)))).bind fun S_17 =>
    (some (sF S_17 0 14 ((S_17 0 14) + 1))).bind fun S_25 =>
    (f_Mo_notes S_25 l1 (0 : Int32)).bind fun w_31 =>
    (some (sF w_31 0 8 ((w_31 0 8) + 1))).bind fun S_41 =>
    some S_41) else none
set_option maxHeartbeats 4000000 in
set_option maxRecDepth 20000 in
theorem t_Mo_jumps  {S : St} {l1 : Int32} {w : St} (h : f_Mo_jumps S l1 = some w) : Ct SM m_Mo_jumps 2 [.ref 0, .int l1] S none w := by
  unfold f_Mo_jumps at h
  refine Ct.of pn_Mo (Nat.le_of_ble_eq_true rfl) ?_
  show G SM m_Mo_jumps 2 none w 0 [(0, .ref 0), (1, .int l1)] [] S
  refine G_aload_n 0 rfl d_Mo_jumps_0 ?_
  refine G_getR fl_Mo_32 km_0 sm_0 rfl (by decide) d_Mo_jumps_1 ?_
  refine G_aload_n 0 rfl d_Mo_jumps_4 ?_
  refine G_getI fl_Mo_173 km_0 sm_0 rfl d_Mo_jumps_5 ?_
  refine G_ldc c_Mo_169 d_Mo_jumps_8 ?_
  refine G_iload_n 1 rfl d_Mo_jumps_10 ?_
  refine G_imul d_Mo_jumps_11 ?_
  refine G_aload_n 0 rfl d_Mo_jumps_12 ?_
  refine G_getI fl_Mo_166 km_0 sm_0 rfl d_Mo_jumps_13 ?_
  refine G_iadd d_Mo_jumps_16 ?_
  obtain ⟨g_17, h⟩ := ob_g h
  obtain ⟨S_17, e_17, h⟩ := ob_s h
  refine G_iastore e_17 km_8 sm_8 g_17 d_Mo_jumps_17 ?_
  refine G_aload_n 0 rfl d_Mo_jumps_18 ?_
  refine G_aload_n 0 rfl d_Mo_jumps_19 ?_
  refine G_getI fl_Mo_173 km_0 sm_0 rfl d_Mo_jumps_20 ?_
  refine G_iconst 1 (by decide) d_Mo_jumps_23 ?_
  refine G_iadd d_Mo_jumps_24 ?_
  obtain ⟨S_25, e_25, h⟩ := ob_s h
  refine G_putI e_25 fp_Mo_173 km_0 sm_0 rfl d_Mo_jumps_25 ?_
  refine G_aload_n 0 rfl d_Mo_jumps_28 ?_
  refine G_iload_n 1 rfl d_Mo_jumps_29 ?_
  refine G_iconst 0 (by decide) d_Mo_jumps_30 ?_
  obtain ⟨w_31, q_31, h⟩ := ob_b h
  refine G_callV [.int l1, .int 0] [] (t_Mo_notes q_31) (by decide) (by decide) mv_Mo_notes rfl ml_Mo_179 km_0 sm_0 cl_12 rfl (Nat.le_of_ble_eq_true rfl) d_Mo_jumps_31 ?_
  refine G_aload_n 0 rfl d_Mo_jumps_34 ?_
  refine G_aload_n 0 rfl d_Mo_jumps_35 ?_
  refine G_getI fl_Mo_142 km_0 sm_0 rfl d_Mo_jumps_36 ?_
  refine G_iconst 1 (by decide) d_Mo_jumps_39 ?_
  refine G_iadd d_Mo_jumps_40 ?_
  obtain ⟨S_41, e_41, h⟩ := ob_s h
  refine G_putI e_41 fp_Mo_142 km_0 sm_0 rfl d_Mo_jumps_41 ?_
  cases h
  exact G_vret rfl d_Mo_jumps_44
theorem d_Mo_readsCompared_0 : decode m_Mo_readsCompared.2.1 0 = .ok (.aload_n 0, 1) := by decide +kernel
theorem d_Mo_readsCompared_1 : decode m_Mo_readsCompared.2.1 1 = .ok (.invokevirtual 206, 3) := by decide +kernel
theorem d_Mo_readsCompared_4 : decode m_Mo_readsCompared.2.1 4 = .ok (.ifCond .ne 5, 3) := by decide +kernel
theorem d_Mo_readsCompared_7 : decode m_Mo_readsCompared.2.1 7 = .ok (.iconst 0, 1) := by decide +kernel
theorem d_Mo_readsCompared_8 : decode m_Mo_readsCompared.2.1 8 = .ok (.ireturn, 1) := by decide +kernel
theorem d_Mo_readsCompared_9 : decode m_Mo_readsCompared.2.1 9 = .ok (.aload_n 0, 1) := by decide +kernel
theorem d_Mo_readsCompared_10 : decode m_Mo_readsCompared.2.1 10 = .ok (.invokevirtual 148, 3) := by decide +kernel
theorem d_Mo_readsCompared_13 : decode m_Mo_readsCompared.2.1 13 = .ok (.bipush 60, 2) := by decide +kernel
theorem d_Mo_readsCompared_15 : decode m_Mo_readsCompared.2.1 15 = .ok (.if_icmp .ne 8, 3) := by decide +kernel
theorem d_Mo_readsCompared_18 : decode m_Mo_readsCompared.2.1 18 = .ok (.bipush 7, 2) := by decide +kernel
theorem d_Mo_readsCompared_20 : decode m_Mo_readsCompared.2.1 20 = .ok (.goto 32, 3) := by decide +kernel
theorem d_Mo_readsCompared_23 : decode m_Mo_readsCompared.2.1 23 = .ok (.aload_n 0, 1) := by decide +kernel
theorem d_Mo_readsCompared_24 : decode m_Mo_readsCompared.2.1 24 = .ok (.invokevirtual 148, 3) := by decide +kernel
theorem d_Mo_readsCompared_27 : decode m_Mo_readsCompared.2.1 27 = .ok (.bipush 62, 2) := by decide +kernel
theorem d_Mo_readsCompared_29 : decode m_Mo_readsCompared.2.1 29 = .ok (.if_icmp .ne 8, 3) := by decide +kernel
theorem d_Mo_readsCompared_32 : decode m_Mo_readsCompared.2.1 32 = .ok (.bipush 8, 2) := by decide +kernel
theorem d_Mo_readsCompared_34 : decode m_Mo_readsCompared.2.1 34 = .ok (.goto 18, 3) := by decide +kernel
theorem d_Mo_readsCompared_37 : decode m_Mo_readsCompared.2.1 37 = .ok (.aload_n 0, 1) := by decide +kernel
theorem d_Mo_readsCompared_38 : decode m_Mo_readsCompared.2.1 38 = .ok (.invokevirtual 148, 3) := by decide +kernel
theorem d_Mo_readsCompared_41 : decode m_Mo_readsCompared.2.1 41 = .ok (.bipush 61, 2) := by decide +kernel
theorem d_Mo_readsCompared_43 : decode m_Mo_readsCompared.2.1 43 = .ok (.if_icmp .ne 8, 3) := by decide +kernel
theorem d_Mo_readsCompared_46 : decode m_Mo_readsCompared.2.1 46 = .ok (.bipush 9, 2) := by decide +kernel
theorem d_Mo_readsCompared_48 : decode m_Mo_readsCompared.2.1 48 = .ok (.goto 4, 3) := by decide +kernel
theorem d_Mo_readsCompared_51 : decode m_Mo_readsCompared.2.1 51 = .ok (.iconst (-1), 1) := by decide +kernel
theorem d_Mo_readsCompared_52 : decode m_Mo_readsCompared.2.1 52 = .ok (.istore_n 1, 1) := by decide +kernel
theorem d_Mo_readsCompared_53 : decode m_Mo_readsCompared.2.1 53 = .ok (.iload_n 1, 1) := by decide +kernel
theorem d_Mo_readsCompared_54 : decode m_Mo_readsCompared.2.1 54 = .ok (.iconst (-1), 1) := by decide +kernel
theorem d_Mo_readsCompared_55 : decode m_Mo_readsCompared.2.1 55 = .ok (.if_icmp .ne 13, 3) := by decide +kernel
theorem d_Mo_readsCompared_58 : decode m_Mo_readsCompared.2.1 58 = .ok (.aload_n 0, 1) := by decide +kernel
theorem d_Mo_readsCompared_59 : decode m_Mo_readsCompared.2.1 59 = .ok (.iconst 1, 1) := by decide +kernel
theorem d_Mo_readsCompared_60 : decode m_Mo_readsCompared.2.1 60 = .ok (.aload_n 0, 1) := by decide +kernel
theorem d_Mo_readsCompared_61 : decode m_Mo_readsCompared.2.1 61 = .ok (.getfield 142, 3) := by decide +kernel
theorem d_Mo_readsCompared_64 : decode m_Mo_readsCompared.2.1 64 = .ok (.invokevirtual 155, 3) := by decide +kernel
theorem d_Mo_readsCompared_67 : decode m_Mo_readsCompared.2.1 67 = .ok (.ireturn, 1) := by decide +kernel
theorem d_Mo_readsCompared_68 : decode m_Mo_readsCompared.2.1 68 = .ok (.aload_n 0, 1) := by decide +kernel
theorem d_Mo_readsCompared_69 : decode m_Mo_readsCompared.2.1 69 = .ok (.aload_n 0, 1) := by decide +kernel
theorem d_Mo_readsCompared_70 : decode m_Mo_readsCompared.2.1 70 = .ok (.getfield 142, 3) := by decide +kernel
theorem d_Mo_readsCompared_73 : decode m_Mo_readsCompared.2.1 73 = .ok (.iconst 1, 1) := by decide +kernel
theorem d_Mo_readsCompared_74 : decode m_Mo_readsCompared.2.1 74 = .ok (.iadd, 1) := by decide +kernel
theorem d_Mo_readsCompared_75 : decode m_Mo_readsCompared.2.1 75 = .ok (.putfield 142, 3) := by decide +kernel
theorem d_Mo_readsCompared_78 : decode m_Mo_readsCompared.2.1 78 = .ok (.aload_n 0, 1) := by decide +kernel
theorem d_Mo_readsCompared_79 : decode m_Mo_readsCompared.2.1 79 = .ok (.invokevirtual 206, 3) := by decide +kernel
theorem d_Mo_readsCompared_82 : decode m_Mo_readsCompared.2.1 82 = .ok (.ifCond .ne 5, 3) := by decide +kernel
theorem d_Mo_readsCompared_85 : decode m_Mo_readsCompared.2.1 85 = .ok (.iconst 0, 1) := by decide +kernel
theorem d_Mo_readsCompared_86 : decode m_Mo_readsCompared.2.1 86 = .ok (.ireturn, 1) := by decide +kernel
theorem d_Mo_readsCompared_87 : decode m_Mo_readsCompared.2.1 87 = .ok (.aload_n 0, 1) := by decide +kernel
theorem d_Mo_readsCompared_88 : decode m_Mo_readsCompared.2.1 88 = .ok (.iload_n 1, 1) := by decide +kernel
theorem d_Mo_readsCompared_89 : decode m_Mo_readsCompared.2.1 89 = .ok (.iconst 0, 1) := by decide +kernel
theorem d_Mo_readsCompared_90 : decode m_Mo_readsCompared.2.1 90 = .ok (.invokevirtual 179, 3) := by decide +kernel
theorem d_Mo_readsCompared_93 : decode m_Mo_readsCompared.2.1 93 = .ok (.aload_n 0, 1) := by decide +kernel
theorem d_Mo_readsCompared_94 : decode m_Mo_readsCompared.2.1 94 = .ok (.invokevirtual 209, 3) := by decide +kernel
theorem d_Mo_readsCompared_97 : decode m_Mo_readsCompared.2.1 97 = .ok (.iconst 1, 1) := by decide +kernel
theorem d_Mo_readsCompared_98 : decode m_Mo_readsCompared.2.1 98 = .ok (.ireturn, 1) := by decide +kernel
def f_Mo_readsCompared_52 (S : St) (s0 : Int32) : Option (Int32 × St) :=
    if s0 = (-1) then (
    (f_Mo_wrongAt S (1 : Int32) (S 0 8)).bind fun w_64 =>
    if w_64.1 = 0 ∨ w_64.1 = 1 then (
    some (w_64.1, w_64.2)) else none)
    else (
    (some (sF S 0 8 ((S 0 8) + 1))).bind fun S_75 =>
    (f_Mo_readsSum S_75).bind fun w_79 =>
    if w_79.1 = 0 then (
    some (0, w_79.2))
    else (
    (f_Mo_notes w_79.2 s0 (0 : Int32)).bind fun w_90 =>
    (f_Mo_endsPiece w_90).bind fun w_94 =>
    some (1, w_94)))
set_option maxHeartbeats 4000000 in
set_option maxRecDepth 20000 in
theorem t_Mo_readsCompared_52  (S : St) (s0 : Int32) (w : Int32 × St) (h : f_Mo_readsCompared_52 S s0 = some w) : G SM m_Mo_readsCompared 6 (some w.1) w.2 52 [(0, .ref 0)] [.int s0] S := by
  unfold f_Mo_readsCompared_52 at h
  refine G_istore_n [(1, .int s0), (0, .ref 0)] rfl rfl (by decide) d_Mo_readsCompared_52 ?_
  refine G_iload_n 0 rfl d_Mo_readsCompared_53 ?_
  refine G_iconst (-1) (by decide) d_Mo_readsCompared_54 ?_
  refine G_icmp_ne 68 (by decide) d_Mo_readsCompared_55 (fun c_55 => ?_) (fun c_55 => ?_)
  · replace h := ob_f h c_55
    refine G_aload_n 1 rfl d_Mo_readsCompared_68 ?_
    refine G_aload_n 1 rfl d_Mo_readsCompared_69 ?_
    refine G_getI fl_Mo_142 km_0 sm_0 rfl d_Mo_readsCompared_70 ?_
    refine G_iconst 1 (by decide) d_Mo_readsCompared_73 ?_
    refine G_iadd d_Mo_readsCompared_74 ?_
    obtain ⟨S_75, e_75, h⟩ := ob_s h
    refine G_putI e_75 fp_Mo_142 km_0 sm_0 rfl d_Mo_readsCompared_75 ?_
    refine G_aload_n 1 rfl d_Mo_readsCompared_78 ?_
    obtain ⟨w_79, q_79, h⟩ := ob_b h
    refine G_callV [] [] (t_Mo_readsSum q_79) (by decide) (by decide) mv_Mo_readsSum rfl ml_Mo_206 km_0 sm_0 cl_12 rfl (Nat.le_of_ble_eq_true rfl) d_Mo_readsCompared_79 ?_
    refine G_if_ne 87 (by decide) d_Mo_readsCompared_82 (fun c_82 => ?_) (fun c_82 => ?_)
    · replace h := ob_f h c_82
      refine G_aload_n 1 rfl d_Mo_readsCompared_87 ?_
      refine G_iload_n 0 rfl d_Mo_readsCompared_88 ?_
      refine G_iconst 0 (by decide) d_Mo_readsCompared_89 ?_
      obtain ⟨w_90, q_90, h⟩ := ob_b h
      refine G_callV [.int s0, .int 0] [] (t_Mo_notes q_90) (by decide) (by decide) mv_Mo_notes rfl ml_Mo_179 km_0 sm_0 cl_12 rfl (Nat.le_of_ble_eq_true rfl) d_Mo_readsCompared_90 ?_
      refine G_aload_n 1 rfl d_Mo_readsCompared_93 ?_
      obtain ⟨w_94, q_94, h⟩ := ob_b h
      refine G_callV [] [] (t_Mo_endsPiece q_94) (by decide) (by decide) mv_Mo_endsPiece rfl ml_Mo_209 km_0 sm_0 cl_12 rfl (Nat.le_of_ble_eq_true rfl) d_Mo_readsCompared_94 ?_
      refine G_iconst 1 (by decide) d_Mo_readsCompared_97 ?_
      cases h
      exact G_zret (Or.inr rfl) rfl d_Mo_readsCompared_98
    · replace h := ob_t h c_82
      refine G_iconst 0 (by decide) d_Mo_readsCompared_85 ?_
      cases h
      exact G_zret (Or.inl rfl) rfl d_Mo_readsCompared_86
  · replace h := ob_t h c_55
    refine G_aload_n 1 rfl d_Mo_readsCompared_58 ?_
    refine G_iconst 1 (by decide) d_Mo_readsCompared_59 ?_
    refine G_aload_n 1 rfl d_Mo_readsCompared_60 ?_
    refine G_getI fl_Mo_142 km_0 sm_0 rfl d_Mo_readsCompared_61 ?_
    obtain ⟨w_64, q_64, h⟩ := ob_b h
    refine G_callV [.int 1, .int (S 0 8)] [] (t_Mo_wrongAt q_64) (by decide) (by decide) mv_Mo_wrongAt rfl ml_Mo_155 km_0 sm_0 cl_12 rfl (Nat.le_of_ble_eq_true rfl) d_Mo_readsCompared_64 ?_
    obtain ⟨g_67, h⟩ := ob_g h
    cases h
    exact G_zret g_67 rfl d_Mo_readsCompared_67
def f_Mo_readsCompared (S : St) : Option (Int32 × St) :=
    (f_Mo_readsSum S).bind fun w_1 =>
    if w_1.1 = 0 then (
    some (0, w_1.2))
    else (
    (f_Mo_here w_1.2).bind fun v_10 =>
    if v_10 = 60 then (
    f_Mo_readsCompared_52 w_1.2 (7 : Int32))
    else (
    (f_Mo_here w_1.2).bind fun v_24 =>
    if v_24 = 62 then (
    f_Mo_readsCompared_52 w_1.2 (8 : Int32))
    else (
    (f_Mo_here w_1.2).bind fun v_38 =>
    if v_38 = 61 then (
    f_Mo_readsCompared_52 w_1.2 (9 : Int32))
    else (
    f_Mo_readsCompared_52 w_1.2 ((-1) : Int32)))))
set_option maxHeartbeats 4000000 in
set_option maxRecDepth 20000 in
theorem t_Mo_readsCompared  {S : St} {w : Int32 × St} (h : f_Mo_readsCompared S = some w) : Ct SM m_Mo_readsCompared 6 [.ref 0] S (some w.1) w.2 := by
  unfold f_Mo_readsCompared at h
  refine Ct.of pn_Mo (Nat.le_of_ble_eq_true rfl) ?_
  show G SM m_Mo_readsCompared 6 (some w.1) w.2 0 [(0, .ref 0)] [] S
  refine G_aload_n 0 rfl d_Mo_readsCompared_0 ?_
  obtain ⟨w_1, q_1, h⟩ := ob_b h
  refine G_callV [] [] (t_Mo_readsSum q_1) (by decide) (by decide) mv_Mo_readsSum rfl ml_Mo_206 km_0 sm_0 cl_12 rfl (Nat.le_of_ble_eq_true rfl) d_Mo_readsCompared_1 ?_
  refine G_if_ne 9 (by decide) d_Mo_readsCompared_4 (fun c_4 => ?_) (fun c_4 => ?_)
  · replace h := ob_f h c_4
    refine G_aload_n 0 rfl d_Mo_readsCompared_9 ?_
    obtain ⟨v_10, q_10, h⟩ := ob_b h
    refine G_callV [] [] (t_Mo_here q_10) (by decide) (by decide) mv_Mo_here rfl ml_Mo_148 km_0 sm_0 cl_12 rfl (Nat.le_of_ble_eq_true rfl) d_Mo_readsCompared_10 ?_
    refine G_bipush 60 (by decide) d_Mo_readsCompared_13 ?_
    refine G_icmp_ne 23 (by decide) d_Mo_readsCompared_15 (fun c_15 => ?_) (fun c_15 => ?_)
    · replace h := ob_f h c_15
      refine G_aload_n 0 rfl d_Mo_readsCompared_23 ?_
      obtain ⟨v_24, q_24, h⟩ := ob_b h
      refine G_callV [] [] (t_Mo_here q_24) (by decide) (by decide) mv_Mo_here rfl ml_Mo_148 km_0 sm_0 cl_12 rfl (Nat.le_of_ble_eq_true rfl) d_Mo_readsCompared_24 ?_
      refine G_bipush 62 (by decide) d_Mo_readsCompared_27 ?_
      refine G_icmp_ne 37 (by decide) d_Mo_readsCompared_29 (fun c_29 => ?_) (fun c_29 => ?_)
      · replace h := ob_f h c_29
        refine G_aload_n 0 rfl d_Mo_readsCompared_37 ?_
        obtain ⟨v_38, q_38, h⟩ := ob_b h
        refine G_callV [] [] (t_Mo_here q_38) (by decide) (by decide) mv_Mo_here rfl ml_Mo_148 km_0 sm_0 cl_12 rfl (Nat.le_of_ble_eq_true rfl) d_Mo_readsCompared_38 ?_
        refine G_bipush 61 (by decide) d_Mo_readsCompared_41 ?_
        refine G_icmp_ne 51 (by decide) d_Mo_readsCompared_43 (fun c_43 => ?_) (fun c_43 => ?_)
        · replace h := ob_f h c_43
          refine G_iconst (-1) (by decide) d_Mo_readsCompared_51 ?_
          exact G_sub _ [0] rfl (t_Mo_readsCompared_52 w_1.2 ((-1) : Int32) _ h)
        · replace h := ob_t h c_43
          refine G_bipush 9 (by decide) d_Mo_readsCompared_46 ?_
          refine G_goto 52 (by decide) d_Mo_readsCompared_48 ?_
          exact G_sub _ [0] rfl (t_Mo_readsCompared_52 w_1.2 (9 : Int32) _ h)
      · replace h := ob_t h c_29
        refine G_bipush 8 (by decide) d_Mo_readsCompared_32 ?_
        refine G_goto 52 (by decide) d_Mo_readsCompared_34 ?_
        exact G_sub _ [0] rfl (t_Mo_readsCompared_52 w_1.2 (8 : Int32) _ h)
    · replace h := ob_t h c_15
      refine G_bipush 7 (by decide) d_Mo_readsCompared_18 ?_
      refine G_goto 52 (by decide) d_Mo_readsCompared_20 ?_
      exact G_sub _ [0] rfl (t_Mo_readsCompared_52 w_1.2 (7 : Int32) _ h)
  · replace h := ob_t h c_4
    refine G_iconst 0 (by decide) d_Mo_readsCompared_7 ?_
    cases h
    exact G_zret (Or.inl rfl) rfl d_Mo_readsCompared_8
theorem d_Mo_readsCondition_0 : decode m_Mo_readsCondition.2.1 0 = .ok (.aload_n 0, 1) := by decide +kernel
theorem d_Mo_readsCondition_1 : decode m_Mo_readsCondition.2.1 1 = .ok (.invokevirtual 148, 3) := by decide +kernel
theorem d_Mo_readsCondition_4 : decode m_Mo_readsCondition.2.1 4 = .ok (.bipush 40, 2) := by decide +kernel
theorem d_Mo_readsCondition_6 : decode m_Mo_readsCondition.2.1 6 = .ok (.if_icmp .eq 13, 3) := by decide +kernel
theorem d_Mo_readsCondition_9 : decode m_Mo_readsCondition.2.1 9 = .ok (.aload_n 0, 1) := by decide +kernel
theorem d_Mo_readsCondition_10 : decode m_Mo_readsCondition.2.1 10 = .ok (.iconst 1, 1) := by decide +kernel
theorem d_Mo_readsCondition_11 : decode m_Mo_readsCondition.2.1 11 = .ok (.aload_n 0, 1) := by decide +kernel
theorem d_Mo_readsCondition_12 : decode m_Mo_readsCondition.2.1 12 = .ok (.getfield 142, 3) := by decide +kernel
theorem d_Mo_readsCondition_15 : decode m_Mo_readsCondition.2.1 15 = .ok (.invokevirtual 155, 3) := by decide +kernel
theorem d_Mo_readsCondition_18 : decode m_Mo_readsCondition.2.1 18 = .ok (.ireturn, 1) := by decide +kernel
theorem d_Mo_readsCondition_19 : decode m_Mo_readsCondition.2.1 19 = .ok (.aload_n 0, 1) := by decide +kernel
theorem d_Mo_readsCondition_20 : decode m_Mo_readsCondition.2.1 20 = .ok (.iconst 0, 1) := by decide +kernel
theorem d_Mo_readsCondition_21 : decode m_Mo_readsCondition.2.1 21 = .ok (.putfield 170, 3) := by decide +kernel
theorem d_Mo_readsCondition_24 : decode m_Mo_readsCondition.2.1 24 = .ok (.aload_n 0, 1) := by decide +kernel
theorem d_Mo_readsCondition_25 : decode m_Mo_readsCondition.2.1 25 = .ok (.iconst 0, 1) := by decide +kernel
theorem d_Mo_readsCondition_26 : decode m_Mo_readsCondition.2.1 26 = .ok (.putfield 173, 3) := by decide +kernel
theorem d_Mo_readsCondition_29 : decode m_Mo_readsCondition.2.1 29 = .ok (.aload_n 0, 1) := by decide +kernel
theorem d_Mo_readsCondition_30 : decode m_Mo_readsCondition.2.1 30 = .ok (.bipush 13, 2) := by decide +kernel
theorem d_Mo_readsCondition_32 : decode m_Mo_readsCondition.2.1 32 = .ok (.invokevirtual 183, 3) := by decide +kernel
theorem d_Mo_readsCondition_35 : decode m_Mo_readsCondition.2.1 35 = .ok (.ifCond .ne 5, 3) := by decide +kernel
theorem d_Mo_readsCondition_38 : decode m_Mo_readsCondition.2.1 38 = .ok (.iconst 0, 1) := by decide +kernel
theorem d_Mo_readsCondition_39 : decode m_Mo_readsCondition.2.1 39 = .ok (.ireturn, 1) := by decide +kernel
theorem d_Mo_readsCondition_40 : decode m_Mo_readsCondition.2.1 40 = .ok (.aload_n 0, 1) := by decide +kernel
theorem d_Mo_readsCondition_41 : decode m_Mo_readsCondition.2.1 41 = .ok (.invokevirtual 148, 3) := by decide +kernel
theorem d_Mo_readsCondition_44 : decode m_Mo_readsCondition.2.1 44 = .ok (.bipush 33, 2) := by decide +kernel
theorem d_Mo_readsCondition_46 : decode m_Mo_readsCondition.2.1 46 = .ok (.if_icmp .eq 12, 3) := by decide +kernel
theorem d_Mo_readsCondition_49 : decode m_Mo_readsCondition.2.1 49 = .ok (.aload_n 0, 1) := by decide +kernel
theorem d_Mo_readsCondition_50 : decode m_Mo_readsCondition.2.1 50 = .ok (.invokevirtual 148, 3) := by decide +kernel
theorem d_Mo_readsCondition_53 : decode m_Mo_readsCondition.2.1 53 = .ok (.bipush 40, 2) := by decide +kernel
theorem d_Mo_readsCondition_55 : decode m_Mo_readsCondition.2.1 55 = .ok (.if_icmp .ne 28, 3) := by decide +kernel
theorem d_Mo_readsCondition_58 : decode m_Mo_readsCondition.2.1 58 = .ok (.aload_n 0, 1) := by decide +kernel
theorem d_Mo_readsCondition_59 : decode m_Mo_readsCondition.2.1 59 = .ok (.aload_n 0, 1) := by decide +kernel
theorem d_Mo_readsCondition_60 : decode m_Mo_readsCondition.2.1 60 = .ok (.invokevirtual 148, 3) := by decide +kernel
theorem d_Mo_readsCondition_63 : decode m_Mo_readsCondition.2.1 63 = .ok (.bipush 33, 2) := by decide +kernel
theorem d_Mo_readsCondition_65 : decode m_Mo_readsCondition.2.1 65 = .ok (.if_icmp .ne 8, 3) := by decide +kernel
theorem d_Mo_readsCondition_68 : decode m_Mo_readsCondition.2.1 68 = .ok (.bipush 10, 2) := by decide +kernel
theorem d_Mo_readsCondition_70 : decode m_Mo_readsCondition.2.1 70 = .ok (.goto 5, 3) := by decide +kernel
theorem d_Mo_readsCondition_73 : decode m_Mo_readsCondition.2.1 73 = .ok (.bipush 13, 2) := by decide +kernel
theorem d_Mo_readsCondition_75 : decode m_Mo_readsCondition.2.1 75 = .ok (.invokevirtual 183, 3) := by decide +kernel
theorem d_Mo_readsCondition_78 : decode m_Mo_readsCondition.2.1 78 = .ok (.ifCond .ne (-38), 3) := by decide +kernel
theorem d_Mo_readsCondition_81 : decode m_Mo_readsCondition.2.1 81 = .ok (.iconst 0, 1) := by decide +kernel
theorem d_Mo_readsCondition_82 : decode m_Mo_readsCondition.2.1 82 = .ok (.ireturn, 1) := by decide +kernel
theorem d_Mo_readsCondition_83 : decode m_Mo_readsCondition.2.1 83 = .ok (.aload_n 0, 1) := by decide +kernel
theorem d_Mo_readsCondition_84 : decode m_Mo_readsCondition.2.1 84 = .ok (.invokevirtual 212, 3) := by decide +kernel
theorem d_Mo_readsCondition_87 : decode m_Mo_readsCondition.2.1 87 = .ok (.ifCond .ne 5, 3) := by decide +kernel
theorem d_Mo_readsCondition_90 : decode m_Mo_readsCondition.2.1 90 = .ok (.iconst 0, 1) := by decide +kernel
theorem d_Mo_readsCondition_91 : decode m_Mo_readsCondition.2.1 91 = .ok (.ireturn, 1) := by decide +kernel
theorem d_Mo_readsCondition_92 : decode m_Mo_readsCondition.2.1 92 = .ok (.aload_n 0, 1) := by decide +kernel
theorem d_Mo_readsCondition_93 : decode m_Mo_readsCondition.2.1 93 = .ok (.invokevirtual 148, 3) := by decide +kernel
theorem d_Mo_readsCondition_96 : decode m_Mo_readsCondition.2.1 96 = .ok (.bipush 41, 2) := by decide +kernel
theorem d_Mo_readsCondition_98 : decode m_Mo_readsCondition.2.1 98 = .ok (.if_icmp .ne 54, 3) := by decide +kernel
theorem d_Mo_readsCondition_101 : decode m_Mo_readsCondition.2.1 101 = .ok (.aload_n 0, 1) := by decide +kernel
theorem d_Mo_readsCondition_102 : decode m_Mo_readsCondition.2.1 102 = .ok (.iconst 1, 1) := by decide +kernel
theorem d_Mo_readsCondition_103 : decode m_Mo_readsCondition.2.1 103 = .ok (.invokevirtual 215, 3) := by decide +kernel
theorem d_Mo_readsCondition_106 : decode m_Mo_readsCondition.2.1 106 = .ok (.aload_n 0, 1) := by decide +kernel
theorem d_Mo_readsCondition_107 : decode m_Mo_readsCondition.2.1 107 = .ok (.aload_n 0, 1) := by decide +kernel
theorem d_Mo_readsCondition_108 : decode m_Mo_readsCondition.2.1 108 = .ok (.getfield 173, 3) := by decide +kernel
theorem d_Mo_readsCondition_111 : decode m_Mo_readsCondition.2.1 111 = .ok (.iconst 1, 1) := by decide +kernel
theorem d_Mo_readsCondition_112 : decode m_Mo_readsCondition.2.1 112 = .ok (.isub, 1) := by decide +kernel
theorem d_Mo_readsCondition_113 : decode m_Mo_readsCondition.2.1 113 = .ok (.putfield 173, 3) := by decide +kernel
theorem d_Mo_readsCondition_116 : decode m_Mo_readsCondition.2.1 116 = .ok (.aload_n 0, 1) := by decide +kernel
theorem d_Mo_readsCondition_117 : decode m_Mo_readsCondition.2.1 117 = .ok (.aload_n 0, 1) := by decide +kernel
theorem d_Mo_readsCondition_118 : decode m_Mo_readsCondition.2.1 118 = .ok (.getfield 170, 3) := by decide +kernel
theorem d_Mo_readsCondition_121 : decode m_Mo_readsCondition.2.1 121 = .ok (.iconst 1, 1) := by decide +kernel
theorem d_Mo_readsCondition_122 : decode m_Mo_readsCondition.2.1 122 = .ok (.isub, 1) := by decide +kernel
theorem d_Mo_readsCondition_123 : decode m_Mo_readsCondition.2.1 123 = .ok (.putfield 170, 3) := by decide +kernel
theorem d_Mo_readsCondition_126 : decode m_Mo_readsCondition.2.1 126 = .ok (.aload_n 0, 1) := by decide +kernel
theorem d_Mo_readsCondition_127 : decode m_Mo_readsCondition.2.1 127 = .ok (.aload_n 0, 1) := by decide +kernel
theorem d_Mo_readsCondition_128 : decode m_Mo_readsCondition.2.1 128 = .ok (.getfield 142, 3) := by decide +kernel
theorem d_Mo_readsCondition_131 : decode m_Mo_readsCondition.2.1 131 = .ok (.iconst 1, 1) := by decide +kernel
theorem d_Mo_readsCondition_132 : decode m_Mo_readsCondition.2.1 132 = .ok (.iadd, 1) := by decide +kernel
theorem d_Mo_readsCondition_133 : decode m_Mo_readsCondition.2.1 133 = .ok (.putfield 142, 3) := by decide +kernel
theorem d_Mo_readsCondition_136 : decode m_Mo_readsCondition.2.1 136 = .ok (.aload_n 0, 1) := by decide +kernel
theorem d_Mo_readsCondition_137 : decode m_Mo_readsCondition.2.1 137 = .ok (.getfield 173, 3) := by decide +kernel
theorem d_Mo_readsCondition_140 : decode m_Mo_readsCondition.2.1 140 = .ok (.ifCond .ne 5, 3) := by decide +kernel
theorem d_Mo_readsCondition_143 : decode m_Mo_readsCondition.2.1 143 = .ok (.iconst 1, 1) := by decide +kernel
theorem d_Mo_readsCondition_144 : decode m_Mo_readsCondition.2.1 144 = .ok (.ireturn, 1) := by decide +kernel
theorem d_Mo_readsCondition_145 : decode m_Mo_readsCondition.2.1 145 = .ok (.aload_n 0, 1) := by decide +kernel
theorem d_Mo_readsCondition_146 : decode m_Mo_readsCondition.2.1 146 = .ok (.invokevirtual 209, 3) := by decide +kernel
theorem d_Mo_readsCondition_149 : decode m_Mo_readsCondition.2.1 149 = .ok (.goto (-57), 3) := by decide +kernel
theorem d_Mo_readsCondition_152 : decode m_Mo_readsCondition.2.1 152 = .ok (.aload_n 0, 1) := by decide +kernel
theorem d_Mo_readsCondition_153 : decode m_Mo_readsCondition.2.1 153 = .ok (.invokevirtual 148, 3) := by decide +kernel
theorem d_Mo_readsCondition_156 : decode m_Mo_readsCondition.2.1 156 = .ok (.bipush 38, 2) := by decide +kernel
theorem d_Mo_readsCondition_158 : decode m_Mo_readsCondition.2.1 158 = .ok (.if_icmp .eq 22, 3) := by decide +kernel
theorem d_Mo_readsCondition_161 : decode m_Mo_readsCondition.2.1 161 = .ok (.aload_n 0, 1) := by decide +kernel
theorem d_Mo_readsCondition_162 : decode m_Mo_readsCondition.2.1 162 = .ok (.invokevirtual 148, 3) := by decide +kernel
theorem d_Mo_readsCondition_165 : decode m_Mo_readsCondition.2.1 165 = .ok (.bipush 124, 2) := by decide +kernel
theorem d_Mo_readsCondition_167 : decode m_Mo_readsCondition.2.1 167 = .ok (.if_icmp .eq 13, 3) := by decide +kernel
theorem d_Mo_readsCondition_170 : decode m_Mo_readsCondition.2.1 170 = .ok (.aload_n 0, 1) := by decide +kernel
theorem d_Mo_readsCondition_171 : decode m_Mo_readsCondition.2.1 171 = .ok (.iconst 1, 1) := by decide +kernel
theorem d_Mo_readsCondition_172 : decode m_Mo_readsCondition.2.1 172 = .ok (.aload_n 0, 1) := by decide +kernel
theorem d_Mo_readsCondition_173 : decode m_Mo_readsCondition.2.1 173 = .ok (.getfield 142, 3) := by decide +kernel
theorem d_Mo_readsCondition_176 : decode m_Mo_readsCondition.2.1 176 = .ok (.invokevirtual 155, 3) := by decide +kernel
theorem d_Mo_readsCondition_179 : decode m_Mo_readsCondition.2.1 179 = .ok (.ireturn, 1) := by decide +kernel
theorem d_Mo_readsCondition_180 : decode m_Mo_readsCondition.2.1 180 = .ok (.aload_n 0, 1) := by decide +kernel
theorem d_Mo_readsCondition_181 : decode m_Mo_readsCondition.2.1 181 = .ok (.aload_n 0, 1) := by decide +kernel
theorem d_Mo_readsCondition_182 : decode m_Mo_readsCondition.2.1 182 = .ok (.invokevirtual 148, 3) := by decide +kernel
theorem d_Mo_readsCondition_185 : decode m_Mo_readsCondition.2.1 185 = .ok (.bipush 124, 2) := by decide +kernel
theorem d_Mo_readsCondition_187 : decode m_Mo_readsCondition.2.1 187 = .ok (.if_icmp .ne 7, 3) := by decide +kernel
theorem d_Mo_readsCondition_190 : decode m_Mo_readsCondition.2.1 190 = .ok (.iconst 1, 1) := by decide +kernel
theorem d_Mo_readsCondition_191 : decode m_Mo_readsCondition.2.1 191 = .ok (.goto 4, 3) := by decide +kernel
theorem d_Mo_readsCondition_194 : decode m_Mo_readsCondition.2.1 194 = .ok (.iconst 0, 1) := by decide +kernel
theorem d_Mo_readsCondition_195 : decode m_Mo_readsCondition.2.1 195 = .ok (.invokevirtual 215, 3) := by decide +kernel
theorem d_Mo_readsCondition_198 : decode m_Mo_readsCondition.2.1 198 = .ok (.aload_n 0, 1) := by decide +kernel
theorem d_Mo_readsCondition_199 : decode m_Mo_readsCondition.2.1 199 = .ok (.aload_n 0, 1) := by decide +kernel
theorem d_Mo_readsCondition_200 : decode m_Mo_readsCondition.2.1 200 = .ok (.invokevirtual 148, 3) := by decide +kernel
theorem d_Mo_readsCondition_203 : decode m_Mo_readsCondition.2.1 203 = .ok (.bipush 38, 2) := by decide +kernel
theorem d_Mo_readsCondition_205 : decode m_Mo_readsCondition.2.1 205 = .ok (.if_icmp .ne 8, 3) := by decide +kernel
theorem d_Mo_readsCondition_208 : decode m_Mo_readsCondition.2.1 208 = .ok (.bipush 11, 2) := by decide +kernel
theorem d_Mo_readsCondition_210 : decode m_Mo_readsCondition.2.1 210 = .ok (.goto 5, 3) := by decide +kernel
theorem d_Mo_readsCondition_213 : decode m_Mo_readsCondition.2.1 213 = .ok (.bipush 12, 2) := by decide +kernel
theorem d_Mo_readsCondition_215 : decode m_Mo_readsCondition.2.1 215 = .ok (.invokevirtual 218, 3) := by decide +kernel
theorem d_Mo_readsCondition_218 : decode m_Mo_readsCondition.2.1 218 = .ok (.goto (-178), 3) := by decide +kernel
def f_Mo_readsCondition_75 (k_40 : St → Option (Int32 × St)) (S : St) (s0 : Int32) : Option (Int32 × St) :=
    (f_Mo_opens S s0).bind fun w_75 =>
    if w_75.1 = 0 then (
    some (0, w_75.2))
    else (
    k_40 w_75.2)
set_option maxHeartbeats 4000000 in
set_option maxRecDepth 20000 in
theorem t_Mo_readsCondition_75  {k_40 : St → Option (Int32 × St)} (hk_40 : ∀ (S : St) (w : Int32 × St), k_40 S = some w → G SM m_Mo_readsCondition 7 (some w.1) w.2 40 [(0, .ref 0)] [] S) (S : St) (s0 : Int32) (w : Int32 × St) (h : f_Mo_readsCondition_75 k_40 S s0 = some w) : G SM m_Mo_readsCondition 7 (some w.1) w.2 75 [(0, .ref 0)] [.int s0, .ref 0] S := by
  unfold f_Mo_readsCondition_75 at h
  obtain ⟨w_75, q_75, h⟩ := ob_b h
  refine G_callV [.int s0] [] (t_Mo_opens q_75) (by decide) (by decide) mv_Mo_opens rfl ml_Mo_183 km_0 sm_0 cl_12 rfl (Nat.le_of_ble_eq_true rfl) d_Mo_readsCondition_75 ?_
  refine G_if_ne 40 (by decide) d_Mo_readsCondition_78 (fun c_78 => ?_) (fun c_78 => ?_)
  · replace h := ob_f h c_78
    exact G_sub _ [0] rfl (hk_40 w_75.2 _ h)
  · replace h := ob_t h c_78
    refine G_iconst 0 (by decide) d_Mo_readsCondition_81 ?_
    cases h
    exact G_zret (Or.inl rfl) rfl d_Mo_readsCondition_82
def f_Mo_readsCondition_58 (k_40 : St → Option (Int32 × St)) (S : St) : Option (Int32 × St) :=
    (f_Mo_here S).bind fun v_60 =>
    if v_60 = 33 then (
    f_Mo_readsCondition_75 k_40 S (10 : Int32))
    else (
    f_Mo_readsCondition_75 k_40 S (13 : Int32))
set_option maxHeartbeats 4000000 in
set_option maxRecDepth 20000 in
theorem t_Mo_readsCondition_58  {k_40 : St → Option (Int32 × St)} (hk_40 : ∀ (S : St) (w : Int32 × St), k_40 S = some w → G SM m_Mo_readsCondition 7 (some w.1) w.2 40 [(0, .ref 0)] [] S) (S : St) (w : Int32 × St) (h : f_Mo_readsCondition_58 k_40 S = some w) : G SM m_Mo_readsCondition 7 (some w.1) w.2 58 [(0, .ref 0)] [] S := by
  unfold f_Mo_readsCondition_58 at h
  refine G_aload_n 0 rfl d_Mo_readsCondition_58 ?_
  refine G_aload_n 0 rfl d_Mo_readsCondition_59 ?_
  obtain ⟨v_60, q_60, h⟩ := ob_b h
  refine G_callV [] [.ref 0] (t_Mo_here q_60) (by decide) (by decide) mv_Mo_here rfl ml_Mo_148 km_0 sm_0 cl_12 rfl (Nat.le_of_ble_eq_true rfl) d_Mo_readsCondition_60 ?_
  refine G_bipush 33 (by decide) d_Mo_readsCondition_63 ?_
  refine G_icmp_ne 73 (by decide) d_Mo_readsCondition_65 (fun c_65 => ?_) (fun c_65 => ?_)
  · replace h := ob_f h c_65
    refine G_bipush 13 (by decide) d_Mo_readsCondition_73 ?_
    exact G_sub _ [0] rfl (t_Mo_readsCondition_75 hk_40 S (13 : Int32) _ h)
  · replace h := ob_t h c_65
    refine G_bipush 10 (by decide) d_Mo_readsCondition_68 ?_
    refine G_goto 75 (by decide) d_Mo_readsCondition_70 ?_
    exact G_sub _ [0] rfl (t_Mo_readsCondition_75 hk_40 S (10 : Int32) _ h)
def f_Mo_readsCondition_215 (k_40 : St → Option (Int32 × St)) (S : St) (s0 : Int32) : Option (Int32 × St) :=
    (f_Mo_jumps S s0).bind fun w_215 =>
    k_40 w_215
set_option maxHeartbeats 4000000 in
set_option maxRecDepth 20000 in
theorem t_Mo_readsCondition_215  {k_40 : St → Option (Int32 × St)} (hk_40 : ∀ (S : St) (w : Int32 × St), k_40 S = some w → G SM m_Mo_readsCondition 7 (some w.1) w.2 40 [(0, .ref 0)] [] S) (S : St) (s0 : Int32) (w : Int32 × St) (h : f_Mo_readsCondition_215 k_40 S s0 = some w) : G SM m_Mo_readsCondition 7 (some w.1) w.2 215 [(0, .ref 0)] [.int s0, .ref 0] S := by
  unfold f_Mo_readsCondition_215 at h
  obtain ⟨w_215, q_215, h⟩ := ob_b h
  refine G_callV [.int s0] [] (t_Mo_jumps q_215) (by decide) (by decide) mv_Mo_jumps rfl ml_Mo_218 km_0 sm_0 cl_12 rfl (Nat.le_of_ble_eq_true rfl) d_Mo_readsCondition_215 ?_
  refine G_goto 40 (by decide) d_Mo_readsCondition_218 ?_
  exact G_sub _ [0] rfl (hk_40 w_215 _ h)
def f_Mo_readsCondition_195 (k_40 : St → Option (Int32 × St)) (S : St) (s0 : Int32) : Option (Int32 × St) :=
    (f_Mo_lands S s0).bind fun w_195 =>
    (f_Mo_here w_195).bind fun v_200 =>
    if v_200 = 38 then (
    f_Mo_readsCondition_215 k_40 w_195 (11 : Int32))
    else (
    f_Mo_readsCondition_215 k_40 w_195 (12 : Int32))
set_option maxHeartbeats 4000000 in
set_option maxRecDepth 20000 in
theorem t_Mo_readsCondition_195  {k_40 : St → Option (Int32 × St)} (hk_40 : ∀ (S : St) (w : Int32 × St), k_40 S = some w → G SM m_Mo_readsCondition 7 (some w.1) w.2 40 [(0, .ref 0)] [] S) (S : St) (s0 : Int32) (w : Int32 × St) (h : f_Mo_readsCondition_195 k_40 S s0 = some w) : G SM m_Mo_readsCondition 7 (some w.1) w.2 195 [(0, .ref 0)] [.int s0, .ref 0] S := by
  unfold f_Mo_readsCondition_195 at h
  obtain ⟨w_195, q_195, h⟩ := ob_b h
  refine G_callV [.int s0] [] (t_Mo_lands q_195) (by decide) (by decide) mv_Mo_lands rfl ml_Mo_215 km_0 sm_0 cl_12 rfl (Nat.le_of_ble_eq_true rfl) d_Mo_readsCondition_195 ?_
  refine G_aload_n 0 rfl d_Mo_readsCondition_198 ?_
  refine G_aload_n 0 rfl d_Mo_readsCondition_199 ?_
  obtain ⟨v_200, q_200, h⟩ := ob_b h
  refine G_callV [] [.ref 0] (t_Mo_here q_200) (by decide) (by decide) mv_Mo_here rfl ml_Mo_148 km_0 sm_0 cl_12 rfl (Nat.le_of_ble_eq_true rfl) d_Mo_readsCondition_200 ?_
  refine G_bipush 38 (by decide) d_Mo_readsCondition_203 ?_
  refine G_icmp_ne 213 (by decide) d_Mo_readsCondition_205 (fun c_205 => ?_) (fun c_205 => ?_)
  · replace h := ob_f h c_205
    refine G_bipush 12 (by decide) d_Mo_readsCondition_213 ?_
    exact G_sub _ [0] rfl (t_Mo_readsCondition_215 hk_40 w_195 (12 : Int32) _ h)
  · replace h := ob_t h c_205
    refine G_bipush 11 (by decide) d_Mo_readsCondition_208 ?_
    refine G_goto 215 (by decide) d_Mo_readsCondition_210 ?_
    exact G_sub _ [0] rfl (t_Mo_readsCondition_215 hk_40 w_195 (11 : Int32) _ h)
def f_Mo_readsCondition_180 (k_40 : St → Option (Int32 × St)) (S : St) : Option (Int32 × St) :=
    (f_Mo_here S).bind fun v_182 =>
    if v_182 = 124 then (
    f_Mo_readsCondition_195 k_40 S (1 : Int32))
    else (
    f_Mo_readsCondition_195 k_40 S (0 : Int32))
set_option maxHeartbeats 4000000 in
set_option maxRecDepth 20000 in
theorem t_Mo_readsCondition_180  {k_40 : St → Option (Int32 × St)} (hk_40 : ∀ (S : St) (w : Int32 × St), k_40 S = some w → G SM m_Mo_readsCondition 7 (some w.1) w.2 40 [(0, .ref 0)] [] S) (S : St) (w : Int32 × St) (h : f_Mo_readsCondition_180 k_40 S = some w) : G SM m_Mo_readsCondition 7 (some w.1) w.2 180 [(0, .ref 0)] [] S := by
  unfold f_Mo_readsCondition_180 at h
  refine G_aload_n 0 rfl d_Mo_readsCondition_180 ?_
  refine G_aload_n 0 rfl d_Mo_readsCondition_181 ?_
  obtain ⟨v_182, q_182, h⟩ := ob_b h
  refine G_callV [] [.ref 0] (t_Mo_here q_182) (by decide) (by decide) mv_Mo_here rfl ml_Mo_148 km_0 sm_0 cl_12 rfl (Nat.le_of_ble_eq_true rfl) d_Mo_readsCondition_182 ?_
  refine G_bipush 124 (by decide) d_Mo_readsCondition_185 ?_
  refine G_icmp_ne 194 (by decide) d_Mo_readsCondition_187 (fun c_187 => ?_) (fun c_187 => ?_)
  · replace h := ob_f h c_187
    refine G_iconst 0 (by decide) d_Mo_readsCondition_194 ?_
    exact G_sub _ [0] rfl (t_Mo_readsCondition_195 hk_40 S (0 : Int32) _ h)
  · replace h := ob_t h c_187
    refine G_iconst 1 (by decide) d_Mo_readsCondition_190 ?_
    refine G_goto 195 (by decide) d_Mo_readsCondition_191 ?_
    exact G_sub _ [0] rfl (t_Mo_readsCondition_195 hk_40 S (1 : Int32) _ h)
def f_Mo_readsCondition_92 (k_40 : St → Option (Int32 × St)) : Nat → St → Option (Int32 × St)
  | 0, _ => none
  | n + 1, S =>
    (f_Mo_here S).bind fun v_93 =>
    if v_93 = 41 then (
    (f_Mo_lands S (1 : Int32)).bind fun w_103 =>
    (some (sF w_103 0 14 ((w_103 0 14) - 1))).bind fun S_113 =>
    (some (sF S_113 0 12 ((S_113 0 12) - 1))).bind fun S_123 =>
    (some (sF S_123 0 8 ((S_123 0 8) + 1))).bind fun S_133 =>
    if (S_133 0 14) = 0 then (
    some (1, S_133))
    else (
    (f_Mo_endsPiece S_133).bind fun w_146 =>
    f_Mo_readsCondition_92 k_40 n w_146))
    else (
    (f_Mo_here S).bind fun v_153 =>
    if v_153 = 38 then (
    f_Mo_readsCondition_180 k_40 S)
    else (
    (f_Mo_here S).bind fun v_162 =>
    if v_162 = 124 then (
    f_Mo_readsCondition_180 k_40 S)
    else (
    (f_Mo_wrongAt S (1 : Int32) (S 0 8)).bind fun w_176 =>
    if w_176.1 = 0 ∨ w_176.1 = 1 then (
    some (w_176.1, w_176.2)) else none)))
set_option maxHeartbeats 4000000 in
set_option maxRecDepth 20000 in
theorem t_Mo_readsCondition_92  {k_40 : St → Option (Int32 × St)} (hk_40 : ∀ (S : St) (w : Int32 × St), k_40 S = some w → G SM m_Mo_readsCondition 7 (some w.1) w.2 40 [(0, .ref 0)] [] S) : ∀ (n : Nat) (S : St) (w : Int32 × St), f_Mo_readsCondition_92 k_40 n S = some w → G SM m_Mo_readsCondition 7 (some w.1) w.2 92 [(0, .ref 0)] [] S := by
  intro n
  induction n with
  | zero =>
    intro S w h
    rw [f_Mo_readsCondition_92] at h
    cases h
  | succ n ih =>
    intro S w h
    rw [f_Mo_readsCondition_92] at h
    refine G_aload_n 0 rfl d_Mo_readsCondition_92 ?_
    obtain ⟨v_93, q_93, h⟩ := ob_b h
    refine G_callV [] [] (t_Mo_here q_93) (by decide) (by decide) mv_Mo_here rfl ml_Mo_148 km_0 sm_0 cl_12 rfl (Nat.le_of_ble_eq_true rfl) d_Mo_readsCondition_93 ?_
    refine G_bipush 41 (by decide) d_Mo_readsCondition_96 ?_
    refine G_icmp_ne 152 (by decide) d_Mo_readsCondition_98 (fun c_98 => ?_) (fun c_98 => ?_)
    · replace h := ob_f h c_98
      refine G_aload_n 0 rfl d_Mo_readsCondition_152 ?_
      obtain ⟨v_153, q_153, h⟩ := ob_b h
      refine G_callV [] [] (t_Mo_here q_153) (by decide) (by decide) mv_Mo_here rfl ml_Mo_148 km_0 sm_0 cl_12 rfl (Nat.le_of_ble_eq_true rfl) d_Mo_readsCondition_153 ?_
      refine G_bipush 38 (by decide) d_Mo_readsCondition_156 ?_
      refine G_icmp_eq 180 (by decide) d_Mo_readsCondition_158 (fun c_158 => ?_) (fun c_158 => ?_)
      · replace h := ob_t h c_158
        exact G_sub _ [0] rfl (t_Mo_readsCondition_180 hk_40 S _ h)
      · replace h := ob_f h c_158
        refine G_aload_n 0 rfl d_Mo_readsCondition_161 ?_
        obtain ⟨v_162, q_162, h⟩ := ob_b h
        refine G_callV [] [] (t_Mo_here q_162) (by decide) (by decide) mv_Mo_here rfl ml_Mo_148 km_0 sm_0 cl_12 rfl (Nat.le_of_ble_eq_true rfl) d_Mo_readsCondition_162 ?_
        refine G_bipush 124 (by decide) d_Mo_readsCondition_165 ?_
        refine G_icmp_eq 180 (by decide) d_Mo_readsCondition_167 (fun c_167 => ?_) (fun c_167 => ?_)
        · replace h := ob_t h c_167
          exact G_sub _ [0] rfl (t_Mo_readsCondition_180 hk_40 S _ h)
        · replace h := ob_f h c_167
          refine G_aload_n 0 rfl d_Mo_readsCondition_170 ?_
          refine G_iconst 1 (by decide) d_Mo_readsCondition_171 ?_
          refine G_aload_n 0 rfl d_Mo_readsCondition_172 ?_
          refine G_getI fl_Mo_142 km_0 sm_0 rfl d_Mo_readsCondition_173 ?_
          obtain ⟨w_176, q_176, h⟩ := ob_b h
          refine G_callV [.int 1, .int (S 0 8)] [] (t_Mo_wrongAt q_176) (by decide) (by decide) mv_Mo_wrongAt rfl ml_Mo_155 km_0 sm_0 cl_12 rfl (Nat.le_of_ble_eq_true rfl) d_Mo_readsCondition_176 ?_
          obtain ⟨g_179, h⟩ := ob_g h
          cases h
          exact G_zret g_179 rfl d_Mo_readsCondition_179
    · replace h := ob_t h c_98
      refine G_aload_n 0 rfl d_Mo_readsCondition_101 ?_
      refine G_iconst 1 (by decide) d_Mo_readsCondition_102 ?_
      obtain ⟨w_103, q_103, h⟩ := ob_b h
      refine G_callV [.int 1] [] (t_Mo_lands q_103) (by decide) (by decide) mv_Mo_lands rfl ml_Mo_215 km_0 sm_0 cl_12 rfl (Nat.le_of_ble_eq_true rfl) d_Mo_readsCondition_103 ?_
      refine G_aload_n 0 rfl d_Mo_readsCondition_106 ?_
      refine G_aload_n 0 rfl d_Mo_readsCondition_107 ?_
      refine G_getI fl_Mo_173 km_0 sm_0 rfl d_Mo_readsCondition_108 ?_
      refine G_iconst 1 (by decide) d_Mo_readsCondition_111 ?_
      refine G_isub d_Mo_readsCondition_112 ?_
      obtain ⟨S_113, e_113, h⟩ := ob_s h
      refine G_putI e_113 fp_Mo_173 km_0 sm_0 rfl d_Mo_readsCondition_113 ?_
      refine G_aload_n 0 rfl d_Mo_readsCondition_116 ?_
      refine G_aload_n 0 rfl d_Mo_readsCondition_117 ?_
      refine G_getI fl_Mo_170 km_0 sm_0 rfl d_Mo_readsCondition_118 ?_
      refine G_iconst 1 (by decide) d_Mo_readsCondition_121 ?_
      refine G_isub d_Mo_readsCondition_122 ?_
      obtain ⟨S_123, e_123, h⟩ := ob_s h
      refine G_putI e_123 fp_Mo_170 km_0 sm_0 rfl d_Mo_readsCondition_123 ?_
      refine G_aload_n 0 rfl d_Mo_readsCondition_126 ?_
      refine G_aload_n 0 rfl d_Mo_readsCondition_127 ?_
      refine G_getI fl_Mo_142 km_0 sm_0 rfl d_Mo_readsCondition_128 ?_
      refine G_iconst 1 (by decide) d_Mo_readsCondition_131 ?_
      refine G_iadd d_Mo_readsCondition_132 ?_
      obtain ⟨S_133, e_133, h⟩ := ob_s h
      refine G_putI e_133 fp_Mo_142 km_0 sm_0 rfl d_Mo_readsCondition_133 ?_
      refine G_aload_n 0 rfl d_Mo_readsCondition_136 ?_
      refine G_getI fl_Mo_173 km_0 sm_0 rfl d_Mo_readsCondition_137 ?_
      refine G_if_ne 145 (by decide) d_Mo_readsCondition_140 (fun c_140 => ?_) (fun c_140 => ?_)
      · replace h := ob_f h c_140
        refine G_aload_n 0 rfl d_Mo_readsCondition_145 ?_
        obtain ⟨w_146, q_146, h⟩ := ob_b h
        refine G_callV [] [] (t_Mo_endsPiece q_146) (by decide) (by decide) mv_Mo_endsPiece rfl ml_Mo_209 km_0 sm_0 cl_12 rfl (Nat.le_of_ble_eq_true rfl) d_Mo_readsCondition_146 ?_
        refine G_goto 92 (by decide) d_Mo_readsCondition_149 ?_
        exact G_sub _ [0] rfl (ih w_146 _ h)
      · replace h := ob_t h c_140
        refine G_iconst 1 (by decide) d_Mo_readsCondition_143 ?_
        cases h
        exact G_zret (Or.inr rfl) rfl d_Mo_readsCondition_144
def f_Mo_readsCondition_40 : Nat → St → Option (Int32 × St)
  | 0, _ => none
  | n + 1, S =>
    (f_Mo_here S).bind fun v_41 =>
    if v_41 = 33 then (
    f_Mo_readsCondition_58 (f_Mo_readsCondition_40 n) S)
    else (
    (f_Mo_here S).bind fun v_50 =>
    if v_50 = 40 then (
    f_Mo_readsCondition_58 (f_Mo_readsCondition_40 n) S)
    else (
    (f_Mo_readsCompared S).bind fun w_84 =>
    if w_84.1 = 0 then (
    some (0, w_84.2))
    else (
    f_Mo_readsCondition_92 (f_Mo_readsCondition_40 n) FU w_84.2)))
set_option maxHeartbeats 4000000 in
set_option maxRecDepth 20000 in
theorem t_Mo_readsCondition_40  : ∀ (n : Nat) (S : St) (w : Int32 × St), f_Mo_readsCondition_40 n S = some w → G SM m_Mo_readsCondition 7 (some w.1) w.2 40 [(0, .ref 0)] [] S := by
  intro n
  induction n with
  | zero =>
    intro S w h
    rw [f_Mo_readsCondition_40] at h
    cases h
  | succ n ih =>
    intro S w h
    rw [f_Mo_readsCondition_40] at h
    refine G_aload_n 0 rfl d_Mo_readsCondition_40 ?_
    obtain ⟨v_41, q_41, h⟩ := ob_b h
    refine G_callV [] [] (t_Mo_here q_41) (by decide) (by decide) mv_Mo_here rfl ml_Mo_148 km_0 sm_0 cl_12 rfl (Nat.le_of_ble_eq_true rfl) d_Mo_readsCondition_41 ?_
    refine G_bipush 33 (by decide) d_Mo_readsCondition_44 ?_
    refine G_icmp_eq 58 (by decide) d_Mo_readsCondition_46 (fun c_46 => ?_) (fun c_46 => ?_)
    · replace h := ob_t h c_46
      exact G_sub _ [0] rfl (t_Mo_readsCondition_58 ih S _ h)
    · replace h := ob_f h c_46
      refine G_aload_n 0 rfl d_Mo_readsCondition_49 ?_
      obtain ⟨v_50, q_50, h⟩ := ob_b h
      refine G_callV [] [] (t_Mo_here q_50) (by decide) (by decide) mv_Mo_here rfl ml_Mo_148 km_0 sm_0 cl_12 rfl (Nat.le_of_ble_eq_true rfl) d_Mo_readsCondition_50 ?_
      refine G_bipush 40 (by decide) d_Mo_readsCondition_53 ?_
      refine G_icmp_ne 83 (by decide) d_Mo_readsCondition_55 (fun c_55 => ?_) (fun c_55 => ?_)
      · replace h := ob_f h c_55
        refine G_aload_n 0 rfl d_Mo_readsCondition_83 ?_
        obtain ⟨w_84, q_84, h⟩ := ob_b h
        refine G_callV [] [] (t_Mo_readsCompared q_84) (by decide) (by decide) mv_Mo_readsCompared rfl ml_Mo_212 km_0 sm_0 cl_12 rfl (Nat.le_of_ble_eq_true rfl) d_Mo_readsCondition_84 ?_
        refine G_if_ne 92 (by decide) d_Mo_readsCondition_87 (fun c_87 => ?_) (fun c_87 => ?_)
        · replace h := ob_f h c_87
          exact G_sub _ [0] rfl (t_Mo_readsCondition_92 ih FU w_84.2 _ h)
        · replace h := ob_t h c_87
          refine G_iconst 0 (by decide) d_Mo_readsCondition_90 ?_
          cases h
          exact G_zret (Or.inl rfl) rfl d_Mo_readsCondition_91
      · replace h := ob_t h c_55
        exact G_sub _ [0] rfl (t_Mo_readsCondition_58 ih S _ h)
def f_Mo_readsCondition (S : St) : Option (Int32 × St) :=
    (f_Mo_here S).bind fun v_1 =>
    if v_1 = 40 then (
    (some (sF S 0 12 0)).bind fun S_21 =>
    (some (sF S_21 0 14 0)).bind fun S_26 =>
    (f_Mo_opens S_26 (13 : Int32)).bind fun w_32 =>
    if w_32.1 = 0 then (
    some (0, w_32.2))
    else (
    f_Mo_readsCondition_40 FU w_32.2))
    else (
    (f_Mo_wrongAt S (1 : Int32) (S 0 8)).bind fun w_15 =>
    if w_15.1 = 0 ∨ w_15.1 = 1 then (
    some (w_15.1, w_15.2)) else none)
set_option maxHeartbeats 4000000 in
set_option maxRecDepth 20000 in
theorem t_Mo_readsCondition  {S : St} {w : Int32 × St} (h : f_Mo_readsCondition S = some w) : Ct SM m_Mo_readsCondition 7 [.ref 0] S (some w.1) w.2 := by
  unfold f_Mo_readsCondition at h
  refine Ct.of pn_Mo (Nat.le_of_ble_eq_true rfl) ?_
  show G SM m_Mo_readsCondition 7 (some w.1) w.2 0 [(0, .ref 0)] [] S
  refine G_aload_n 0 rfl d_Mo_readsCondition_0 ?_
  obtain ⟨v_1, q_1, h⟩ := ob_b h
  refine G_callV [] [] (t_Mo_here q_1) (by decide) (by decide) mv_Mo_here rfl ml_Mo_148 km_0 sm_0 cl_12 rfl (Nat.le_of_ble_eq_true rfl) d_Mo_readsCondition_1 ?_
  refine G_bipush 40 (by decide) d_Mo_readsCondition_4 ?_
  refine G_icmp_eq 19 (by decide) d_Mo_readsCondition_6 (fun c_6 => ?_) (fun c_6 => ?_)
  · replace h := ob_t h c_6
    refine G_aload_n 0 rfl d_Mo_readsCondition_19 ?_
    refine G_iconst 0 (by decide) d_Mo_readsCondition_20 ?_
    obtain ⟨S_21, e_21, h⟩ := ob_s h
    refine G_putI e_21 fp_Mo_170 km_0 sm_0 rfl d_Mo_readsCondition_21 ?_
    refine G_aload_n 0 rfl d_Mo_readsCondition_24 ?_
    refine G_iconst 0 (by decide) d_Mo_readsCondition_25 ?_
    obtain ⟨S_26, e_26, h⟩ := ob_s h
    refine G_putI e_26 fp_Mo_173 km_0 sm_0 rfl d_Mo_readsCondition_26 ?_
    refine G_aload_n 0 rfl d_Mo_readsCondition_29 ?_
    refine G_bipush 13 (by decide) d_Mo_readsCondition_30 ?_
    obtain ⟨w_32, q_32, h⟩ := ob_b h
    refine G_callV [.int 13] [] (t_Mo_opens q_32) (by decide) (by decide) mv_Mo_opens rfl ml_Mo_183 km_0 sm_0 cl_12 rfl (Nat.le_of_ble_eq_true rfl) d_Mo_readsCondition_32 ?_
    refine G_if_ne 40 (by decide) d_Mo_readsCondition_35 (fun c_35 => ?_) (fun c_35 => ?_)
    · replace h := ob_f h c_35
      exact G_sub _ [0] rfl (t_Mo_readsCondition_40 FU w_32.2 _ h)
    · replace h := ob_t h c_35
      refine G_iconst 0 (by decide) d_Mo_readsCondition_38 ?_
      cases h
      exact G_zret (Or.inl rfl) rfl d_Mo_readsCondition_39
  · replace h := ob_f h c_6
    refine G_aload_n 0 rfl d_Mo_readsCondition_9 ?_
    refine G_iconst 1 (by decide) d_Mo_readsCondition_10 ?_
    refine G_aload_n 0 rfl d_Mo_readsCondition_11 ?_
    refine G_getI fl_Mo_142 km_0 sm_0 rfl d_Mo_readsCondition_12 ?_
    obtain ⟨w_15, q_15, h⟩ := ob_b h
    refine G_callV [.int 1, .int (S 0 8)] [] (t_Mo_wrongAt q_15) (by decide) (by decide) mv_Mo_wrongAt rfl ml_Mo_155 km_0 sm_0 cl_12 rfl (Nat.le_of_ble_eq_true rfl) d_Mo_readsCondition_15 ?_
    obtain ⟨g_18, h⟩ := ob_g h
    cases h
    exact G_zret g_18 rfl d_Mo_readsCondition_18
