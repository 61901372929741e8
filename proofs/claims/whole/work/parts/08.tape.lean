theorem d_Tape_hasRoom_0 : decode m_Tape_hasRoom.2.1 0 = .ok (.aload_n 0, 1) := by decide +kernel
theorem d_Tape_hasRoom_1 : decode m_Tape_hasRoom.2.1 1 = .ok (.getfield 17, 3) := by decide +kernel
theorem d_Tape_hasRoom_4 : decode m_Tape_hasRoom.2.1 4 = .ok (.bipush 20, 2) := by decide +kernel
theorem d_Tape_hasRoom_6 : decode m_Tape_hasRoom.2.1 6 = .ok (.iadd, 1) := by decide +kernel
theorem d_Tape_hasRoom_7 : decode m_Tape_hasRoom.2.1 7 = .ok (.sipush 260, 3) := by decide +kernel
theorem d_Tape_hasRoom_10 : decode m_Tape_hasRoom.2.1 10 = .ok (.if_icmp .gt 7, 3) := by decide +kernel
theorem d_Tape_hasRoom_13 : decode m_Tape_hasRoom.2.1 13 = .ok (.iconst 1, 1) := by decide +kernel
theorem d_Tape_hasRoom_14 : decode m_Tape_hasRoom.2.1 14 = .ok (.goto 4, 3) := by decide +kernel
theorem d_Tape_hasRoom_17 : decode m_Tape_hasRoom.2.1 17 = .ok (.iconst 0, 1) := by decide +kernel
theorem d_Tape_hasRoom_18 : decode m_Tape_hasRoom.2.1 18 = .ok (.ireturn, 1) := by decide +kernel
def f_Tape_hasRoom (S : St) : Option (Int32) :=
    if (260 : Int32) < ((S 1 2) + 20) then (
    some (0 : Int32))
    else (
    some (1 : Int32))
set_option maxHeartbeats 4000000 in
set_option maxRecDepth 20000 in
theorem t_Tape_hasRoom  {S : St} {w : Int32} (h : f_Tape_hasRoom S = some w) : Ct SX m_Tape_hasRoom 1 [.ref 1] S (some w) S := by
  unfold f_Tape_hasRoom at h
  refine Ct.of pn_Tape (Nat.le_of_ble_eq_true rfl) ?_
  show G SX m_Tape_hasRoom 1 (some w) S 0 [(0, .ref 1)] [] S
  refine G_aload_n 0 rfl d_Tape_hasRoom_0 ?_
  refine G_getI fl_Tape_17 kx_1 sx_1 rfl d_Tape_hasRoom_1 ?_
  refine G_bipush 20 (by decide) d_Tape_hasRoom_4 ?_
  refine G_iadd d_Tape_hasRoom_6 ?_
  refine G_sipush 260 (by decide) d_Tape_hasRoom_7 ?_
  refine G_icmp_gt 17 (by decide) d_Tape_hasRoom_10 (fun c_10 => ?_) (fun c_10 => ?_)
  · replace h := ob_t h c_10
    refine G_iconst 0 (by decide) d_Tape_hasRoom_17 ?_
    cases h
    exact G_zret (Or.inl rfl) rfl d_Tape_hasRoom_18
  · replace h := ob_f h c_10
    refine G_iconst 1 (by decide) d_Tape_hasRoom_13 ?_
    refine G_goto 18 (by decide) d_Tape_hasRoom_14 ?_
    cases h
    exact G_zret (Or.inr rfl) rfl d_Tape_hasRoom_18
theorem d_Tape_put_0 : decode m_Tape_put.2.1 0 = .ok (.bipush 24, 2) := by decide +kernel
theorem d_Tape_put_2 : decode m_Tape_put.2.1 2 = .ok (.istore_n 2, 1) := by decide +kernel
theorem d_Tape_put_3 : decode m_Tape_put.2.1 3 = .ok (.iload_n 2, 1) := by decide +kernel
theorem d_Tape_put_4 : decode m_Tape_put.2.1 4 = .ok (.ifCond .lt 45, 3) := by decide +kernel
theorem d_Tape_put_7 : decode m_Tape_put.2.1 7 = .ok (.aload_n 0, 1) := by decide +kernel
theorem d_Tape_put_8 : decode m_Tape_put.2.1 8 = .ok (.getfield 17, 3) := by decide +kernel
theorem d_Tape_put_11 : decode m_Tape_put.2.1 11 = .ok (.sipush 260, 3) := by decide +kernel
theorem d_Tape_put_14 : decode m_Tape_put.2.1 14 = .ok (.if_icmp .ge 35, 3) := by decide +kernel
theorem d_Tape_put_17 : decode m_Tape_put.2.1 17 = .ok (.aload_n 0, 1) := by decide +kernel
theorem d_Tape_put_18 : decode m_Tape_put.2.1 18 = .ok (.getfield 9, 3) := by decide +kernel
theorem d_Tape_put_21 : decode m_Tape_put.2.1 21 = .ok (.aload_n 0, 1) := by decide +kernel
theorem d_Tape_put_22 : decode m_Tape_put.2.1 22 = .ok (.getfield 17, 3) := by decide +kernel
theorem d_Tape_put_25 : decode m_Tape_put.2.1 25 = .ok (.iload_n 1, 1) := by decide +kernel
theorem d_Tape_put_26 : decode m_Tape_put.2.1 26 = .ok (.iload_n 2, 1) := by decide +kernel
theorem d_Tape_put_27 : decode m_Tape_put.2.1 27 = .ok (.iushr, 1) := by decide +kernel
theorem d_Tape_put_28 : decode m_Tape_put.2.1 28 = .ok (.sipush 255, 3) := by decide +kernel
theorem d_Tape_put_31 : decode m_Tape_put.2.1 31 = .ok (.iand, 1) := by decide +kernel
theorem d_Tape_put_32 : decode m_Tape_put.2.1 32 = .ok (.iastore, 1) := by decide +kernel
theorem d_Tape_put_33 : decode m_Tape_put.2.1 33 = .ok (.aload_n 0, 1) := by decide +kernel
theorem d_Tape_put_34 : decode m_Tape_put.2.1 34 = .ok (.dup, 1) := by decide +kernel
theorem d_Tape_put_35 : decode m_Tape_put.2.1 35 = .ok (.getfield 17, 3) := by decide +kernel
theorem d_Tape_put_38 : decode m_Tape_put.2.1 38 = .ok (.iconst 1, 1) := by decide +kernel
theorem d_Tape_put_39 : decode m_Tape_put.2.1 39 = .ok (.iadd, 1) := by decide +kernel
theorem d_Tape_put_40 : decode m_Tape_put.2.1 40 = .ok (.putfield 17, 3) := by decide +kernel
theorem d_Tape_put_43 : decode m_Tape_put.2.1 43 = .ok (.iinc 2 (-8), 3) := by decide +kernel
theorem d_Tape_put_46 : decode m_Tape_put.2.1 46 = .ok (.goto (-43), 3) := by decide +kernel
theorem d_Tape_put_49 : decode m_Tape_put.2.1 49 = .ok (.return_, 1) := by decide +kernel
def f_Tape_put_3 : Nat → St → Int32 → Int32 → Option (St)
  | 0, _, _, _ => none
  | n + 1, S, l1, l2 =>
    if l2 < 0 then (
    some S)
    else (
    if (260 : Int32) ≤ (S 1 2) then (
    some S)
    else (
    if ig (S 1 2) 260 then (
    (some (sF S 2 (S 1 2).toNatClampNeg ((jushr l1 l2) &&& 255))).bind fun S_32 =>
    (some (sF S_32 1 2 ((S_32 1 2) + 1))).bind fun S_40 =>
    (some (l2 + (-8))).bind fun l2_43 =>
    f_Tape_put_3 n S_40 l1 l2_43) else none))
set_option maxHeartbeats 4000000 in
set_option maxRecDepth 20000 in
theorem t_Tape_put_3  : ∀ (n : Nat) (S : St) (l1 : Int32) (l2 : Int32) (w : St), f_Tape_put_3 n S l1 l2 = some w → G SX m_Tape_put 1 none w 3 [(0, .ref 1), (1, .int l1), (2, .int l2)] [] S := by
  intro n
  induction n with
  | zero =>
    intro S l1 l2 w h
    rw [f_Tape_put_3] at h
    cases h
  | succ n ih =>
    intro S l1 l2 w h
    rw [f_Tape_put_3] at h
    refine G_iload_n 2 rfl d_Tape_put_3 ?_
    refine G_if_lt 49 (by decide) d_Tape_put_4 (fun c_4 => ?_) (fun c_4 => ?_)
    · replace h := ob_t h c_4
      cases h
      exact G_vret rfl d_Tape_put_49
    · replace h := ob_f h c_4
      refine G_aload_n 0 rfl d_Tape_put_7 ?_
      refine G_getI fl_Tape_17 kx_1 sx_1 rfl d_Tape_put_8 ?_
      refine G_sipush 260 (by decide) d_Tape_put_11 ?_
      refine G_icmp_ge 49 (by decide) d_Tape_put_14 (fun c_14 => ?_) (fun c_14 => ?_)
      · replace h := ob_t h c_14
        cases h
        exact G_vret rfl d_Tape_put_49
      · replace h := ob_f h c_14
        refine G_aload_n 0 rfl d_Tape_put_17 ?_
        refine G_getR fl_Tape_9 kx_1 sx_1 rfl (by decide) d_Tape_put_18 ?_
        refine G_aload_n 0 rfl d_Tape_put_21 ?_
        refine G_getI fl_Tape_17 kx_1 sx_1 rfl d_Tape_put_22 ?_
        refine G_iload_n 1 rfl d_Tape_put_25 ?_
        refine G_iload_n 2 rfl d_Tape_put_26 ?_
        refine G_iushr d_Tape_put_27 ?_
        refine G_sipush 255 (by decide) d_Tape_put_28 ?_
        refine G_iand d_Tape_put_31 ?_
        obtain ⟨g_32, h⟩ := ob_g h
        obtain ⟨S_32, e_32, h⟩ := ob_s h
        refine G_iastore e_32 kx_2 sx_2 g_32 d_Tape_put_32 ?_
        refine G_aload_n 0 rfl d_Tape_put_33 ?_
        refine G_dup rfl d_Tape_put_34 ?_
        refine G_getI fl_Tape_17 kx_1 sx_1 rfl d_Tape_put_35 ?_
        refine G_iconst 1 (by decide) d_Tape_put_38 ?_
        refine G_iadd d_Tape_put_39 ?_
        obtain ⟨S_40, e_40, h⟩ := ob_s h
        refine G_putI e_40 fp_Tape_17 kx_1 sx_1 rfl d_Tape_put_40 ?_
        obtain ⟨l2_43, e_43, h⟩ := ob_s h
        refine G_iinc (-8) 2 [(2, .int l2_43), (0, .ref 1), (1, .int l1)] (by decide) rfl e_43 rfl (by decide) d_Tape_put_43 ?_
        refine G_goto 3 (by decide) d_Tape_put_46 ?_
        exact G_sub _ [1, 2, 0] rfl (ih S_40 l1 l2_43 _ h)
def f_Tape_put (S : St) (l1 : Int32) : Option (St) :=
    (some (24 : Int32)).bind fun l2_2 =>
    f_Tape_put_3 FU S l1 l2_2
set_option maxHeartbeats 4000000 in
set_option maxRecDepth 20000 in
theorem t_Tape_put  {S : St} {l1 : Int32} {w : St} (h : f_Tape_put S l1 = some w) : Ct SX m_Tape_put 1 [.ref 1, .int l1] S none w := by
  unfold f_Tape_put at h
  refine Ct.of pn_Tape (Nat.le_of_ble_eq_true rfl) ?_
  show G SX m_Tape_put 1 none w 0 [(0, .ref 1), (1, .int l1)] [] S
  refine G_bipush 24 (by decide) d_Tape_put_0 ?_
  obtain ⟨l2_2, e_2, h⟩ := ob_s h
  refine G_istore_n [(2, .int l2_2), (0, .ref 1), (1, .int l1)] e_2 rfl (by decide) d_Tape_put_2 ?_
  exact G_sub _ [1, 2, 0] rfl (t_Tape_put_3 FU S l1 l2_2 _ h)
theorem d_Tape_take_0 : decode m_Tape_take.2.1 0 = .ok (.iload_n 1, 1) := by decide +kernel
theorem d_Tape_take_1 : decode m_Tape_take.2.1 1 = .ok (.ifCond .lt 11, 3) := by decide +kernel
theorem d_Tape_take_4 : decode m_Tape_take.2.1 4 = .ok (.iload_n 1, 1) := by decide +kernel
theorem d_Tape_take_5 : decode m_Tape_take.2.1 5 = .ok (.aload_n 0, 1) := by decide +kernel
theorem d_Tape_take_6 : decode m_Tape_take.2.1 6 = .ok (.getfield 17, 3) := by decide +kernel
theorem d_Tape_take_9 : decode m_Tape_take.2.1 9 = .ok (.if_icmp .le 5, 3) := by decide +kernel
theorem d_Tape_take_12 : decode m_Tape_take.2.1 12 = .ok (.iconst 0, 1) := by decide +kernel
theorem d_Tape_take_13 : decode m_Tape_take.2.1 13 = .ok (.ireturn, 1) := by decide +kernel
theorem d_Tape_take_14 : decode m_Tape_take.2.1 14 = .ok (.aload_n 0, 1) := by decide +kernel
theorem d_Tape_take_15 : decode m_Tape_take.2.1 15 = .ok (.iload_n 1, 1) := by decide +kernel
theorem d_Tape_take_16 : decode m_Tape_take.2.1 16 = .ok (.putfield 13, 3) := by decide +kernel
theorem d_Tape_take_19 : decode m_Tape_take.2.1 19 = .ok (.aload_n 0, 1) := by decide +kernel
theorem d_Tape_take_20 : decode m_Tape_take.2.1 20 = .ok (.iconst 0, 1) := by decide +kernel
theorem d_Tape_take_21 : decode m_Tape_take.2.1 21 = .ok (.putfield 17, 3) := by decide +kernel
theorem d_Tape_take_24 : decode m_Tape_take.2.1 24 = .ok (.iconst 1, 1) := by decide +kernel
theorem d_Tape_take_25 : decode m_Tape_take.2.1 25 = .ok (.ireturn, 1) := by decide +kernel
def f_Tape_take (S : St) (l1 : Int32) : Option (Int32 × St) :=
    if l1 < 0 then (
    some (0, S))
    else (
    if l1 ≤ (S 1 2) then (
    (some (sF S 1 1 l1)).bind fun S_16 =>
    (some (sF S_16 1 2 0)).bind fun S_21 =>
    some (1, S_21))
    else (
    some (0, S)))
set_option maxHeartbeats 4000000 in
set_option maxRecDepth 20000 in
theorem t_Tape_take  {S : St} {l1 : Int32} {w : Int32 × St} (h : f_Tape_take S l1 = some w) : Ct SX m_Tape_take 1 [.ref 1, .int l1] S (some w.1) w.2 := by
  unfold f_Tape_take at h
  refine Ct.of pn_Tape (Nat.le_of_ble_eq_true rfl) ?_
  show G SX m_Tape_take 1 (some w.1) w.2 0 [(0, .ref 1), (1, .int l1)] [] S
  refine G_iload_n 1 rfl d_Tape_take_0 ?_
  refine G_if_lt 12 (by decide) d_Tape_take_1 (fun c_1 => ?_) (fun c_1 => ?_)
  · replace h := ob_t h c_1
    refine G_iconst 0 (by decide) d_Tape_take_12 ?_
    cases h
    exact G_zret (Or.inl rfl) rfl d_Tape_take_13
  · replace h := ob_f h c_1
    refine G_iload_n 1 rfl d_Tape_take_4 ?_
    refine G_aload_n 0 rfl d_Tape_take_5 ?_
    refine G_getI fl_Tape_17 kx_1 sx_1 rfl d_Tape_take_6 ?_
    refine G_icmp_le 14 (by decide) d_Tape_take_9 (fun c_9 => ?_) (fun c_9 => ?_)
    · replace h := ob_t h c_9
      refine G_aload_n 0 rfl d_Tape_take_14 ?_
      refine G_iload_n 1 rfl d_Tape_take_15 ?_
      obtain ⟨S_16, e_16, h⟩ := ob_s h
      refine G_putI e_16 fp_Tape_13 kx_1 sx_1 rfl d_Tape_take_16 ?_
      refine G_aload_n 0 rfl d_Tape_take_19 ?_
      refine G_iconst 0 (by decide) d_Tape_take_20 ?_
      obtain ⟨S_21, e_21, h⟩ := ob_s h
      refine G_putI e_21 fp_Tape_17 kx_1 sx_1 rfl d_Tape_take_21 ?_
      refine G_iconst 1 (by decide) d_Tape_take_24 ?_
      cases h
      exact G_zret (Or.inr rfl) rfl d_Tape_take_25
    · replace h := ob_f h c_9
      refine G_iconst 0 (by decide) d_Tape_take_12 ?_
      cases h
      exact G_zret (Or.inl rfl) rfl d_Tape_take_13
theorem d_Tape_at_0 : decode m_Tape_at.2.1 0 = .ok (.iload_n 1, 1) := by decide +kernel
theorem d_Tape_at_1 : decode m_Tape_at.2.1 1 = .ok (.ifCond .lt 27, 3) := by decide +kernel
theorem d_Tape_at_4 : decode m_Tape_at.2.1 4 = .ok (.iload_n 1, 1) := by decide +kernel
theorem d_Tape_at_5 : decode m_Tape_at.2.1 5 = .ok (.aload_n 0, 1) := by decide +kernel
theorem d_Tape_at_6 : decode m_Tape_at.2.1 6 = .ok (.getfield 13, 3) := by decide +kernel
theorem d_Tape_at_9 : decode m_Tape_at.2.1 9 = .ok (.if_icmp .ge 19, 3) := by decide +kernel
theorem d_Tape_at_12 : decode m_Tape_at.2.1 12 = .ok (.iload_n 1, 1) := by decide +kernel
theorem d_Tape_at_13 : decode m_Tape_at.2.1 13 = .ok (.sipush 260, 3) := by decide +kernel
theorem d_Tape_at_16 : decode m_Tape_at.2.1 16 = .ok (.if_icmp .ge 12, 3) := by decide +kernel
theorem d_Tape_at_19 : decode m_Tape_at.2.1 19 = .ok (.aload_n 0, 1) := by decide +kernel
theorem d_Tape_at_20 : decode m_Tape_at.2.1 20 = .ok (.getfield 9, 3) := by decide +kernel
theorem d_Tape_at_23 : decode m_Tape_at.2.1 23 = .ok (.iload_n 1, 1) := by decide +kernel
theorem d_Tape_at_24 : decode m_Tape_at.2.1 24 = .ok (.iaload, 1) := by decide +kernel
theorem d_Tape_at_25 : decode m_Tape_at.2.1 25 = .ok (.goto 4, 3) := by decide +kernel
theorem d_Tape_at_28 : decode m_Tape_at.2.1 28 = .ok (.iconst (-1), 1) := by decide +kernel
theorem d_Tape_at_29 : decode m_Tape_at.2.1 29 = .ok (.ireturn, 1) := by decide +kernel
def f_Tape_at (S : St) (l1 : Int32) : Option (Int32) :=
    if l1 < 0 then (
    some ((-1) : Int32))
    else (
    if (S 1 1) ≤ l1 then (
    some ((-1) : Int32))
    else (
    if (260 : Int32) ≤ l1 then (
    some ((-1) : Int32))
    else (
    if ig l1 260 then (
    some (S 2 l1.toNatClampNeg)) else none)))
set_option maxHeartbeats 4000000 in
set_option maxRecDepth 20000 in
theorem t_Tape_at  {S : St} {l1 : Int32} {w : Int32} (h : f_Tape_at S l1 = some w) : Ct SX m_Tape_at 1 [.ref 1, .int l1] S (some w) S := by
  unfold f_Tape_at at h
  refine Ct.of pn_Tape (Nat.le_of_ble_eq_true rfl) ?_
  show G SX m_Tape_at 1 (some w) S 0 [(0, .ref 1), (1, .int l1)] [] S
  refine G_iload_n 1 rfl d_Tape_at_0 ?_
  refine G_if_lt 28 (by decide) d_Tape_at_1 (fun c_1 => ?_) (fun c_1 => ?_)
  · replace h := ob_t h c_1
    refine G_iconst (-1) (by decide) d_Tape_at_28 ?_
    cases h
    exact G_iret rfl d_Tape_at_29
  · replace h := ob_f h c_1
    refine G_iload_n 1 rfl d_Tape_at_4 ?_
    refine G_aload_n 0 rfl d_Tape_at_5 ?_
    refine G_getI fl_Tape_13 kx_1 sx_1 rfl d_Tape_at_6 ?_
    refine G_icmp_ge 28 (by decide) d_Tape_at_9 (fun c_9 => ?_) (fun c_9 => ?_)
    · replace h := ob_t h c_9
      refine G_iconst (-1) (by decide) d_Tape_at_28 ?_
      cases h
      exact G_iret rfl d_Tape_at_29
    · replace h := ob_f h c_9
      refine G_iload_n 1 rfl d_Tape_at_12 ?_
      refine G_sipush 260 (by decide) d_Tape_at_13 ?_
      refine G_icmp_ge 28 (by decide) d_Tape_at_16 (fun c_16 => ?_) (fun c_16 => ?_)
      · replace h := ob_t h c_16
        refine G_iconst (-1) (by decide) d_Tape_at_28 ?_
        cases h
        exact G_iret rfl d_Tape_at_29
      · replace h := ob_f h c_16
        refine G_aload_n 0 rfl d_Tape_at_19 ?_
        refine G_getR fl_Tape_9 kx_1 sx_1 rfl (by decide) d_Tape_at_20 ?_
        refine G_iload_n 1 rfl d_Tape_at_23 ?_
        obtain ⟨g_24, h⟩ := ob_g h
        refine G_iaload kx_2 sx_2 g_24 d_Tape_at_24 ?_
        refine G_goto 29 (by decide) d_Tape_at_25 ?_
        cases h
        exact G_iret rfl d_Tape_at_29
theorem d_Reading_begin_0 : decode m_Reading_begin.2.1 0 = .ok (.aload_n 0, 1) := by decide +kernel
theorem d_Reading_begin_1 : decode m_Reading_begin.2.1 1 = .ok (.iconst 0, 1) := by decide +kernel
theorem d_Reading_begin_2 : decode m_Reading_begin.2.1 2 = .ok (.putfield 7, 3) := by decide +kernel
theorem d_Reading_begin_5 : decode m_Reading_begin.2.1 5 = .ok (.aload_n 0, 1) := by decide +kernel
theorem d_Reading_begin_6 : decode m_Reading_begin.2.1 6 = .ok (.iconst 0, 1) := by decide +kernel
theorem d_Reading_begin_7 : decode m_Reading_begin.2.1 7 = .ok (.putfield 13, 3) := by decide +kernel
theorem d_Reading_begin_10 : decode m_Reading_begin.2.1 10 = .ok (.return_, 1) := by decide +kernel
def f_Reading_begin (S : St) : Option (St) :=
    (some (sF S 3 1 0)).bind fun S_2 =>
    (some (sF S_2 3 2 0)).bind fun S_7 =>
    some S_7
set_option maxHeartbeats 4000000 in
set_option maxRecDepth 20000 in
theorem t_Reading_begin  {S : St} {w : St} (h : f_Reading_begin S = some w) : Ct SX m_Reading_begin 1 [.ref 3] S none w := by
  unfold f_Reading_begin at h
  refine Ct.of pn_Reading (Nat.le_of_ble_eq_true rfl) ?_
  show G SX m_Reading_begin 1 none w 0 [(0, .ref 3)] [] S
  refine G_aload_n 0 rfl d_Reading_begin_0 ?_
  refine G_iconst 0 (by decide) d_Reading_begin_1 ?_
  obtain ⟨S_2, e_2, h⟩ := ob_s h
  refine G_putI e_2 fp_Reading_7 kx_3 sx_3 rfl d_Reading_begin_2 ?_
  refine G_aload_n 0 rfl d_Reading_begin_5 ?_
  refine G_iconst 0 (by decide) d_Reading_begin_6 ?_
  obtain ⟨S_7, e_7, h⟩ := ob_s h
  refine G_putI e_7 fp_Reading_13 kx_3 sx_3 rfl d_Reading_begin_7 ?_
  cases h
  exact G_vret rfl d_Reading_begin_10
theorem d_Reading_sign_0 : decode m_Reading_sign.2.1 0 = .ok (.aload_n 0, 1) := by decide +kernel
theorem d_Reading_sign_1 : decode m_Reading_sign.2.1 1 = .ok (.getfield 16, 3) := by decide +kernel
theorem d_Reading_sign_4 : decode m_Reading_sign.2.1 4 = .ok (.aload_n 0, 1) := by decide +kernel
theorem d_Reading_sign_5 : decode m_Reading_sign.2.1 5 = .ok (.getfield 7, 3) := by decide +kernel
theorem d_Reading_sign_8 : decode m_Reading_sign.2.1 8 = .ok (.invokevirtual 20, 3) := by decide +kernel
theorem d_Reading_sign_11 : decode m_Reading_sign.2.1 11 = .ok (.ireturn, 1) := by decide +kernel
def f_Reading_sign (S : St) : Option (Int32) :=
    (f_Tape_at S (S 3 1)).bind fun v_8 =>
    some v_8
set_option maxHeartbeats 4000000 in
set_option maxRecDepth 20000 in
theorem t_Reading_sign  {S : St} {w : Int32} (h : f_Reading_sign S = some w) : Ct SX m_Reading_sign 2 [.ref 3] S (some w) S := by
  unfold f_Reading_sign at h
  refine Ct.of pn_Reading (Nat.le_of_ble_eq_true rfl) ?_
  show G SX m_Reading_sign 2 (some w) S 0 [(0, .ref 3)] [] S
  refine G_aload_n 0 rfl d_Reading_sign_0 ?_
  refine G_getR fl_Reading_16 kx_3 sx_3 rfl (by decide) d_Reading_sign_1 ?_
  refine G_aload_n 0 rfl d_Reading_sign_4 ?_
  refine G_getI fl_Reading_7 kx_3 sx_3 rfl d_Reading_sign_5 ?_
  obtain ⟨v_8, q_8, h⟩ := ob_b h
  refine G_callV [.int (S 3 1)] [] (t_Tape_at q_8) (by decide) (by decide) mv_Tape_at rfl ml_Reading_20 kx_1 sx_1 cl_8 rfl (Nat.le_of_ble_eq_true rfl) d_Reading_sign_8 ?_
  cases h
  exact G_iret rfl d_Reading_sign_11
theorem d_Reading_failed_0 : decode m_Reading_failed.2.1 0 = .ok (.aload_n 0, 1) := by decide +kernel
theorem d_Reading_failed_1 : decode m_Reading_failed.2.1 1 = .ok (.getfield 13, 3) := by decide +kernel
theorem d_Reading_failed_4 : decode m_Reading_failed.2.1 4 = .ok (.ifCond .eq 7, 3) := by decide +kernel
theorem d_Reading_failed_7 : decode m_Reading_failed.2.1 7 = .ok (.iconst 1, 1) := by decide +kernel
theorem d_Reading_failed_8 : decode m_Reading_failed.2.1 8 = .ok (.goto 4, 3) := by decide +kernel
theorem d_Reading_failed_11 : decode m_Reading_failed.2.1 11 = .ok (.iconst 0, 1) := by decide +kernel
theorem d_Reading_failed_12 : decode m_Reading_failed.2.1 12 = .ok (.ireturn, 1) := by decide +kernel
def f_Reading_failed (S : St) : Option (Int32) :=
    if (S 3 2) = 0 then (
    some (0 : Int32))
    else (
    some (1 : Int32))
set_option maxHeartbeats 4000000 in
set_option maxRecDepth 20000 in
theorem t_Reading_failed  {S : St} {w : Int32} (h : f_Reading_failed S = some w) : Ct SX m_Reading_failed 1 [.ref 3] S (some w) S := by
  unfold f_Reading_failed at h
  refine Ct.of pn_Reading (Nat.le_of_ble_eq_true rfl) ?_
  show G SX m_Reading_failed 1 (some w) S 0 [(0, .ref 3)] [] S
  refine G_aload_n 0 rfl d_Reading_failed_0 ?_
  refine G_getI fl_Reading_13 kx_3 sx_3 rfl d_Reading_failed_1 ?_
  refine G_if_eq 11 (by decide) d_Reading_failed_4 (fun c_4 => ?_) (fun c_4 => ?_)
  · replace h := ob_t h c_4
    refine G_iconst 0 (by decide) d_Reading_failed_11 ?_
    cases h
    exact G_zret (Or.inl rfl) rfl d_Reading_failed_12
  · replace h := ob_f h c_4
    refine G_iconst 1 (by decide) d_Reading_failed_7 ?_
    refine G_goto 12 (by decide) d_Reading_failed_8 ?_
    cases h
    exact G_zret (Or.inr rfl) rfl d_Reading_failed_12
theorem d_Reading_fail_0 : decode m_Reading_fail.2.1 0 = .ok (.aload_n 0, 1) := by decide +kernel
theorem d_Reading_fail_1 : decode m_Reading_fail.2.1 1 = .ok (.getfield 13, 3) := by decide +kernel
theorem d_Reading_fail_4 : decode m_Reading_fail.2.1 4 = .ok (.ifCond .ne 14, 3) := by decide +kernel
theorem d_Reading_fail_7 : decode m_Reading_fail.2.1 7 = .ok (.aload_n 0, 1) := by decide +kernel
theorem d_Reading_fail_8 : decode m_Reading_fail.2.1 8 = .ok (.sipush (-1000), 3) := by decide +kernel
theorem d_Reading_fail_11 : decode m_Reading_fail.2.1 11 = .ok (.iload_n 1, 1) := by decide +kernel
theorem d_Reading_fail_12 : decode m_Reading_fail.2.1 12 = .ok (.imul, 1) := by decide +kernel
theorem d_Reading_fail_13 : decode m_Reading_fail.2.1 13 = .ok (.iload_n 2, 1) := by decide +kernel
theorem d_Reading_fail_14 : decode m_Reading_fail.2.1 14 = .ok (.isub, 1) := by decide +kernel
theorem d_Reading_fail_15 : decode m_Reading_fail.2.1 15 = .ok (.putfield 13, 3) := by decide +kernel
theorem d_Reading_fail_18 : decode m_Reading_fail.2.1 18 = .ok (.return_, 1) := by decide +kernel
def f_Reading_fail (S : St) (l1 : Int32) (l2 : Int32) : Option (St) :=
    if (S 3 2) = 0 then (
    (some (sF S 3 2 (((-1000) * l1) - l2))).bind fun S_15 =>
    some S_15)
    else (
    some S)
set_option maxHeartbeats 4000000 in
set_option maxRecDepth 20000 in
theorem t_Reading_fail  {S : St} {l1 : Int32} {l2 : Int32} {w : St} (h : f_Reading_fail S l1 l2 = some w) : Ct SX m_Reading_fail 1 [.ref 3, .int l1, .int l2] S none w := by
  unfold f_Reading_fail at h
  refine Ct.of pn_Reading (Nat.le_of_ble_eq_true rfl) ?_
  show G SX m_Reading_fail 1 none w 0 [(0, .ref 3), (1, .int l1), (2, .int l2)] [] S
  refine G_aload_n 0 rfl d_Reading_fail_0 ?_
  refine G_getI fl_Reading_13 kx_3 sx_3 rfl d_Reading_fail_1 ?_
  refine G_if_ne 18 (by decide) d_Reading_fail_4 (fun c_4 => ?_) (fun c_4 => ?_)
  · replace h := ob_f h c_4
    cases h
    exact G_vret rfl d_Reading_fail_18
  · replace h := ob_t h c_4
    refine G_aload_n 0 rfl d_Reading_fail_7 ?_
    refine G_sipush (-1000) (by decide) d_Reading_fail_8 ?_
    refine G_iload_n 1 rfl d_Reading_fail_11 ?_
    refine G_imul d_Reading_fail_12 ?_
    refine G_iload_n 2 rfl d_Reading_fail_13 ?_
    refine G_isub d_Reading_fail_14 ?_
    obtain ⟨S_15, e_15, h⟩ := ob_s h
    refine G_putI e_15 fp_Reading_13 kx_3 sx_3 rfl d_Reading_fail_15 ?_
    cases h
    exact G_vret rfl d_Reading_fail_18
theorem d_Reading_takes_0 : decode m_Reading_takes.2.1 0 = .ok (.aload_n 0, 1) := by decide +kernel
theorem d_Reading_takes_1 : decode m_Reading_takes.2.1 1 = .ok (.getfield 13, 3) := by decide +kernel
theorem d_Reading_takes_4 : decode m_Reading_takes.2.1 4 = .ok (.ifCond .ne 18, 3) := by decide +kernel
theorem d_Reading_takes_7 : decode m_Reading_takes.2.1 7 = .ok (.aload_n 0, 1) := by decide +kernel
theorem d_Reading_takes_8 : decode m_Reading_takes.2.1 8 = .ok (.getfield 16, 3) := by decide +kernel
theorem d_Reading_takes_11 : decode m_Reading_takes.2.1 11 = .ok (.aload_n 0, 1) := by decide +kernel
theorem d_Reading_takes_12 : decode m_Reading_takes.2.1 12 = .ok (.getfield 7, 3) := by decide +kernel
theorem d_Reading_takes_15 : decode m_Reading_takes.2.1 15 = .ok (.invokevirtual 20, 3) := by decide +kernel
theorem d_Reading_takes_18 : decode m_Reading_takes.2.1 18 = .ok (.iload_n 1, 1) := by decide +kernel
theorem d_Reading_takes_19 : decode m_Reading_takes.2.1 19 = .ok (.if_icmp .eq 5, 3) := by decide +kernel
theorem d_Reading_takes_22 : decode m_Reading_takes.2.1 22 = .ok (.iconst 0, 1) := by decide +kernel
theorem d_Reading_takes_23 : decode m_Reading_takes.2.1 23 = .ok (.ireturn, 1) := by decide +kernel
theorem d_Reading_takes_24 : decode m_Reading_takes.2.1 24 = .ok (.aload_n 0, 1) := by decide +kernel
theorem d_Reading_takes_25 : decode m_Reading_takes.2.1 25 = .ok (.dup, 1) := by decide +kernel
theorem d_Reading_takes_26 : decode m_Reading_takes.2.1 26 = .ok (.getfield 7, 3) := by decide +kernel
theorem d_Reading_takes_29 : decode m_Reading_takes.2.1 29 = .ok (.iconst 1, 1) := by decide +kernel
theorem d_Reading_takes_30 : decode m_Reading_takes.2.1 30 = .ok (.iadd, 1) := by decide +kernel
theorem d_Reading_takes_31 : decode m_Reading_takes.2.1 31 = .ok (.putfield 7, 3) := by decide +kernel
theorem d_Reading_takes_34 : decode m_Reading_takes.2.1 34 = .ok (.iconst 1, 1) := by decide +kernel
theorem d_Reading_takes_35 : decode m_Reading_takes.2.1 35 = .ok (.ireturn, 1) := by decide +kernel
def f_Reading_takes (S : St) (l1 : Int32) : Option (Int32 × St) :=
    if (S 3 2) = 0 then (
    (f_Tape_at S (S 3 1)).bind fun v_15 =>
    if v_15 = l1 then (
    (some (sF S 3 1 ((S 3 1) + 1))).bind fun S_31 =>
    some (1, S_31))
    else (
    some (0, S)))
    else (
    some (0, S))
set_option maxHeartbeats 4000000 in
set_option maxRecDepth 20000 in
theorem t_Reading_takes  {S : St} {l1 : Int32} {w : Int32 × St} (h : f_Reading_takes S l1 = some w) : Ct SX m_Reading_takes 2 [.ref 3, .int l1] S (some w.1) w.2 := by
  unfold f_Reading_takes at h
  refine Ct.of pn_Reading (Nat.le_of_ble_eq_true rfl) ?_
  show G SX m_Reading_takes 2 (some w.1) w.2 0 [(0, .ref 3), (1, .int l1)] [] S
  refine G_aload_n 0 rfl d_Reading_takes_0 ?_
  refine G_getI fl_Reading_13 kx_3 sx_3 rfl d_Reading_takes_1 ?_
  refine G_if_ne 22 (by decide) d_Reading_takes_4 (fun c_4 => ?_) (fun c_4 => ?_)
  · replace h := ob_f h c_4
    refine G_iconst 0 (by decide) d_Reading_takes_22 ?_
    cases h
    exact G_zret (Or.inl rfl) rfl d_Reading_takes_23
  · replace h := ob_t h c_4
    refine G_aload_n 0 rfl d_Reading_takes_7 ?_
    refine G_getR fl_Reading_16 kx_3 sx_3 rfl (by decide) d_Reading_takes_8 ?_
    refine G_aload_n 0 rfl d_Reading_takes_11 ?_
    refine G_getI fl_Reading_7 kx_3 sx_3 rfl d_Reading_takes_12 ?_
    obtain ⟨v_15, q_15, h⟩ := ob_b h
    refine G_callV [.int (S 3 1)] [] (t_Tape_at q_15) (by decide) (by decide) mv_Tape_at rfl ml_Reading_20 kx_1 sx_1 cl_8 rfl (Nat.le_of_ble_eq_true rfl) d_Reading_takes_15 ?_
    refine G_iload_n 1 rfl d_Reading_takes_18 ?_
    refine G_icmp_eq 24 (by decide) d_Reading_takes_19 (fun c_19 => ?_) (fun c_19 => ?_)
    · replace h := ob_t h c_19
      refine G_aload_n 0 rfl d_Reading_takes_24 ?_
      refine G_dup rfl d_Reading_takes_25 ?_
      refine G_getI fl_Reading_7 kx_3 sx_3 rfl d_Reading_takes_26 ?_
      refine G_iconst 1 (by decide) d_Reading_takes_29 ?_
      refine G_iadd d_Reading_takes_30 ?_
      obtain ⟨S_31, e_31, h⟩ := ob_s h
      refine G_putI e_31 fp_Reading_7 kx_3 sx_3 rfl d_Reading_takes_31 ?_
      refine G_iconst 1 (by decide) d_Reading_takes_34 ?_
      cases h
      exact G_zret (Or.inr rfl) rfl d_Reading_takes_35
    · replace h := ob_f h c_19
      refine G_iconst 0 (by decide) d_Reading_takes_22 ?_
      cases h
      exact G_zret (Or.inl rfl) rfl d_Reading_takes_23
theorem d_Reading_needs_0 : decode m_Reading_needs.2.1 0 = .ok (.aload_n 0, 1) := by decide +kernel
theorem d_Reading_needs_1 : decode m_Reading_needs.2.1 1 = .ok (.getfield 16, 3) := by decide +kernel
theorem d_Reading_needs_4 : decode m_Reading_needs.2.1 4 = .ok (.aload_n 0, 1) := by decide +kernel
theorem d_Reading_needs_5 : decode m_Reading_needs.2.1 5 = .ok (.getfield 7, 3) := by decide +kernel
theorem d_Reading_needs_8 : decode m_Reading_needs.2.1 8 = .ok (.invokevirtual 20, 3) := by decide +kernel
theorem d_Reading_needs_11 : decode m_Reading_needs.2.1 11 = .ok (.iload_n 1, 1) := by decide +kernel
theorem d_Reading_needs_12 : decode m_Reading_needs.2.1 12 = .ok (.if_icmp .eq 15, 3) := by decide +kernel
theorem d_Reading_needs_15 : decode m_Reading_needs.2.1 15 = .ok (.aload_n 0, 1) := by decide +kernel
theorem d_Reading_needs_16 : decode m_Reading_needs.2.1 16 = .ok (.iconst 1, 1) := by decide +kernel
theorem d_Reading_needs_17 : decode m_Reading_needs.2.1 17 = .ok (.aload_n 0, 1) := by decide +kernel
theorem d_Reading_needs_18 : decode m_Reading_needs.2.1 18 = .ok (.getfield 7, 3) := by decide +kernel
theorem d_Reading_needs_21 : decode m_Reading_needs.2.1 21 = .ok (.invokevirtual 25, 3) := by decide +kernel
theorem d_Reading_needs_24 : decode m_Reading_needs.2.1 24 = .ok (.goto 20, 3) := by decide +kernel
theorem d_Reading_needs_27 : decode m_Reading_needs.2.1 27 = .ok (.aload_n 0, 1) := by decide +kernel
theorem d_Reading_needs_28 : decode m_Reading_needs.2.1 28 = .ok (.getfield 13, 3) := by decide +kernel
theorem d_Reading_needs_31 : decode m_Reading_needs.2.1 31 = .ok (.ifCond .ne 13, 3) := by decide +kernel
theorem d_Reading_needs_34 : decode m_Reading_needs.2.1 34 = .ok (.aload_n 0, 1) := by decide +kernel
theorem d_Reading_needs_35 : decode m_Reading_needs.2.1 35 = .ok (.dup, 1) := by decide +kernel
theorem d_Reading_needs_36 : decode m_Reading_needs.2.1 36 = .ok (.getfield 7, 3) := by decide +kernel
theorem d_Reading_needs_39 : decode m_Reading_needs.2.1 39 = .ok (.iconst 1, 1) := by decide +kernel
theorem d_Reading_needs_40 : decode m_Reading_needs.2.1 40 = .ok (.iadd, 1) := by decide +kernel
theorem d_Reading_needs_41 : decode m_Reading_needs.2.1 41 = .ok (.putfield 7, 3) := by decide +kernel
theorem d_Reading_needs_44 : decode m_Reading_needs.2.1 44 = .ok (.return_, 1) := by decide +kernel
def f_Reading_needs (S : St) (l1 : Int32) : Option (St) :=
    (f_Tape_at S (S 3 1)).bind fun v_8 =>
    if v_8 = l1 then (
    if (S 3 2) = 0 then (
    (some (sF S 3 1 ((S 3 1) + 1))).bind fun S_41 =>
    some S_41)
    else (
    some S))
    else (
    (f_Reading_fail S (1 : Int32) (S 3 1)).bind fun w_21 =>
    some w_21)
set_option maxHeartbeats 4000000 in
set_option maxRecDepth 20000 in
theorem t_Reading_needs  {S : St} {l1 : Int32} {w : St} (h : f_Reading_needs S l1 = some w) : Ct SX m_Reading_needs 2 [.ref 3, .int l1] S none w := by
  unfold f_Reading_needs at h
  refine Ct.of pn_Reading (Nat.le_of_ble_eq_true rfl) ?_
  show G SX m_Reading_needs 2 none w 0 [(0, .ref 3), (1, .int l1)] [] S
  refine G_aload_n 0 rfl d_Reading_needs_0 ?_
  refine G_getR fl_Reading_16 kx_3 sx_3 rfl (by decide) d_Reading_needs_1 ?_
  refine G_aload_n 0 rfl d_Reading_needs_4 ?_
  refine G_getI fl_Reading_7 kx_3 sx_3 rfl d_Reading_needs_5 ?_
  obtain ⟨v_8, q_8, h⟩ := ob_b h
  refine G_callV [.int (S 3 1)] [] (t_Tape_at q_8) (by decide) (by decide) mv_Tape_at rfl ml_Reading_20 kx_1 sx_1 cl_8 rfl (Nat.le_of_ble_eq_true rfl) d_Reading_needs_8 ?_
  refine G_iload_n 1 rfl d_Reading_needs_11 ?_
  refine G_icmp_eq 27 (by decide) d_Reading_needs_12 (fun c_12 => ?_) (fun c_12 => ?_)
  · replace h := ob_t h c_12
    refine G_aload_n 0 rfl d_Reading_needs_27 ?_
    refine G_getI fl_Reading_13 kx_3 sx_3 rfl d_Reading_needs_28 ?_
    refine G_if_ne 44 (by decide) d_Reading_needs_31 (fun c_31 => ?_) (fun c_31 => ?_)
    · replace h := ob_f h c_31
      cases h
      exact G_vret rfl d_Reading_needs_44
    · replace h := ob_t h c_31
      refine G_aload_n 0 rfl d_Reading_needs_34 ?_
      refine G_dup rfl d_Reading_needs_35 ?_
      refine G_getI fl_Reading_7 kx_3 sx_3 rfl d_Reading_needs_36 ?_
      refine G_iconst 1 (by decide) d_Reading_needs_39 ?_
      refine G_iadd d_Reading_needs_40 ?_
      obtain ⟨S_41, e_41, h⟩ := ob_s h
      refine G_putI e_41 fp_Reading_7 kx_3 sx_3 rfl d_Reading_needs_41 ?_
      cases h
      exact G_vret rfl d_Reading_needs_44
  · replace h := ob_f h c_12
    refine G_aload_n 0 rfl d_Reading_needs_15 ?_
    refine G_iconst 1 (by decide) d_Reading_needs_16 ?_
    refine G_aload_n 0 rfl d_Reading_needs_17 ?_
    refine G_getI fl_Reading_7 kx_3 sx_3 rfl d_Reading_needs_18 ?_
    obtain ⟨w_21, q_21, h⟩ := ob_b h
    refine G_callV [.int 1, .int (S 3 1)] [] (t_Reading_fail q_21) (by decide) (by decide) mv_Reading_fail rfl ml_Reading_25 kx_3 sx_3 cl_4 rfl (Nat.le_of_ble_eq_true rfl) d_Reading_needs_21 ?_
    refine G_goto 44 (by decide) d_Reading_needs_24 ?_
    cases h
    exact G_vret rfl d_Reading_needs_44
theorem d_Reading_goesOn_0 : decode m_Reading_goesOn.2.1 0 = .ok (.aload_n 0, 1) := by decide +kernel
theorem d_Reading_goesOn_1 : decode m_Reading_goesOn.2.1 1 = .ok (.getfield 13, 3) := by decide +kernel
theorem d_Reading_goesOn_4 : decode m_Reading_goesOn.2.1 4 = .ok (.ifCond .ne 18, 3) := by decide +kernel
theorem d_Reading_goesOn_7 : decode m_Reading_goesOn.2.1 7 = .ok (.aload_n 0, 1) := by decide +kernel
theorem d_Reading_goesOn_8 : decode m_Reading_goesOn.2.1 8 = .ok (.getfield 16, 3) := by decide +kernel
theorem d_Reading_goesOn_11 : decode m_Reading_goesOn.2.1 11 = .ok (.aload_n 0, 1) := by decide +kernel
theorem d_Reading_goesOn_12 : decode m_Reading_goesOn.2.1 12 = .ok (.getfield 7, 3) := by decide +kernel
theorem d_Reading_goesOn_15 : decode m_Reading_goesOn.2.1 15 = .ok (.invokevirtual 20, 3) := by decide +kernel
theorem d_Reading_goesOn_18 : decode m_Reading_goesOn.2.1 18 = .ok (.iconst (-1), 1) := by decide +kernel
theorem d_Reading_goesOn_19 : decode m_Reading_goesOn.2.1 19 = .ok (.if_icmp .ne 5, 3) := by decide +kernel
theorem d_Reading_goesOn_22 : decode m_Reading_goesOn.2.1 22 = .ok (.iconst 0, 1) := by decide +kernel
theorem d_Reading_goesOn_23 : decode m_Reading_goesOn.2.1 23 = .ok (.ireturn, 1) := by decide +kernel
theorem d_Reading_goesOn_24 : decode m_Reading_goesOn.2.1 24 = .ok (.aload_n 0, 1) := by decide +kernel
theorem d_Reading_goesOn_25 : decode m_Reading_goesOn.2.1 25 = .ok (.bipush 59, 2) := by decide +kernel
theorem d_Reading_goesOn_27 : decode m_Reading_goesOn.2.1 27 = .ok (.invokevirtual 29, 3) := by decide +kernel
theorem d_Reading_goesOn_30 : decode m_Reading_goesOn.2.1 30 = .ok (.aload_n 0, 1) := by decide +kernel
theorem d_Reading_goesOn_31 : decode m_Reading_goesOn.2.1 31 = .ok (.getfield 13, 3) := by decide +kernel
theorem d_Reading_goesOn_34 : decode m_Reading_goesOn.2.1 34 = .ok (.ifCond .ne 7, 3) := by decide +kernel
theorem d_Reading_goesOn_37 : decode m_Reading_goesOn.2.1 37 = .ok (.iconst 1, 1) := by decide +kernel
theorem d_Reading_goesOn_38 : decode m_Reading_goesOn.2.1 38 = .ok (.goto 4, 3) := by decide +kernel
theorem d_Reading_goesOn_41 : decode m_Reading_goesOn.2.1 41 = .ok (.iconst 0, 1) := by decide +kernel
theorem d_Reading_goesOn_42 : decode m_Reading_goesOn.2.1 42 = .ok (.ireturn, 1) := by decide +kernel
def f_Reading_goesOn (S : St) : Option (Int32 × St) :=
    if (S 3 2) = 0 then (
    (f_Tape_at S (S 3 1)).bind fun v_15 =>
    if v_15 = (-1) then (
    some (0, S))
    else (
    (f_Reading_needs S (59 : Int32)).bind fun w_27 =>
    if (w_27 3 2) = 0 then (
    some (1, w_27))
    else (
    some (0, w_27))))
    else (
    some (0, S))
set_option maxHeartbeats 4000000 in
set_option maxRecDepth 20000 in
theorem t_Reading_goesOn  {S : St} {w : Int32 × St} (h : f_Reading_goesOn S = some w) : Ct SX m_Reading_goesOn 3 [.ref 3] S (some w.1) w.2 := by
  unfold f_Reading_goesOn at h
  refine Ct.of pn_Reading (Nat.le_of_ble_eq_true rfl) ?_
  show G SX m_Reading_goesOn 3 (some w.1) w.2 0 [(0, .ref 3)] [] S
  refine G_aload_n 0 rfl d_Reading_goesOn_0 ?_
  refine G_getI fl_Reading_13 kx_3 sx_3 rfl d_Reading_goesOn_1 ?_
  refine G_if_ne 22 (by decide) d_Reading_goesOn_4 (fun c_4 => ?_) (fun c_4 => ?_)
  · replace h := ob_f h c_4
    refine G_iconst 0 (by decide) d_Reading_goesOn_22 ?_
    cases h
    exact G_zret (Or.inl rfl) rfl d_Reading_goesOn_23
  · replace h := ob_t h c_4
    refine G_aload_n 0 rfl d_Reading_goesOn_7 ?_
    refine G_getR fl_Reading_16 kx_3 sx_3 rfl (by decide) d_Reading_goesOn_8 ?_
    refine G_aload_n 0 rfl d_Reading_goesOn_11 ?_
    refine G_getI fl_Reading_7 kx_3 sx_3 rfl d_Reading_goesOn_12 ?_
    obtain ⟨v_15, q_15, h⟩ := ob_b h
    refine G_callV [.int (S 3 1)] [] (t_Tape_at q_15) (by decide) (by decide) mv_Tape_at rfl ml_Reading_20 kx_1 sx_1 cl_8 rfl (Nat.le_of_ble_eq_true rfl) d_Reading_goesOn_15 ?_
    refine G_iconst (-1) (by decide) d_Reading_goesOn_18 ?_
    refine G_icmp_ne 24 (by decide) d_Reading_goesOn_19 (fun c_19 => ?_) (fun c_19 => ?_)
    · replace h := ob_f h c_19
      refine G_aload_n 0 rfl d_Reading_goesOn_24 ?_
      refine G_bipush 59 (by decide) d_Reading_goesOn_25 ?_
      obtain ⟨w_27, q_27, h⟩ := ob_b h
      refine G_callV [.int 59] [] (t_Reading_needs q_27) (by decide) (by decide) mv_Reading_needs rfl ml_Reading_29 kx_3 sx_3 cl_4 rfl (Nat.le_of_ble_eq_true rfl) d_Reading_goesOn_27 ?_
      refine G_aload_n 0 rfl d_Reading_goesOn_30 ?_
      refine G_getI fl_Reading_13 kx_3 sx_3 rfl d_Reading_goesOn_31 ?_
      refine G_if_ne 41 (by decide) d_Reading_goesOn_34 (fun c_34 => ?_) (fun c_34 => ?_)
      · replace h := ob_f h c_34
        refine G_iconst 0 (by decide) d_Reading_goesOn_41 ?_
        cases h
        exact G_zret (Or.inl rfl) rfl d_Reading_goesOn_42
      · replace h := ob_t h c_34
        refine G_iconst 1 (by decide) d_Reading_goesOn_37 ?_
        refine G_goto 42 (by decide) d_Reading_goesOn_38 ?_
        cases h
        exact G_zret (Or.inr rfl) rfl d_Reading_goesOn_42
    · replace h := ob_t h c_19
      refine G_iconst 0 (by decide) d_Reading_goesOn_22 ?_
      cases h
      exact G_zret (Or.inl rfl) rfl d_Reading_goesOn_23
theorem d_Reading_isDigit_0 : decode m_Reading_isDigit.2.1 0 = .ok (.iload_n 0, 1) := by decide +kernel
theorem d_Reading_isDigit_1 : decode m_Reading_isDigit.2.1 1 = .ok (.bipush 48, 2) := by decide +kernel
theorem d_Reading_isDigit_3 : decode m_Reading_isDigit.2.1 3 = .ok (.if_icmp .lt 13, 3) := by decide +kernel
theorem d_Reading_isDigit_6 : decode m_Reading_isDigit.2.1 6 = .ok (.iload_n 0, 1) := by decide +kernel
theorem d_Reading_isDigit_7 : decode m_Reading_isDigit.2.1 7 = .ok (.bipush 57, 2) := by decide +kernel
theorem d_Reading_isDigit_9 : decode m_Reading_isDigit.2.1 9 = .ok (.if_icmp .gt 7, 3) := by decide +kernel
theorem d_Reading_isDigit_12 : decode m_Reading_isDigit.2.1 12 = .ok (.iconst 1, 1) := by decide +kernel
theorem d_Reading_isDigit_13 : decode m_Reading_isDigit.2.1 13 = .ok (.goto 4, 3) := by decide +kernel
theorem d_Reading_isDigit_16 : decode m_Reading_isDigit.2.1 16 = .ok (.iconst 0, 1) := by decide +kernel
theorem d_Reading_isDigit_17 : decode m_Reading_isDigit.2.1 17 = .ok (.ireturn, 1) := by decide +kernel
def f_Reading_isDigit (S : St) (l0 : Int32) : Option (Int32) :=
    if l0 < 48 then (
    some (0 : Int32))
    else (
    if (57 : Int32) < l0 then (
    some (0 : Int32))
    else (
    some (1 : Int32)))
set_option maxHeartbeats 4000000 in
set_option maxRecDepth 20000 in
theorem t_Reading_isDigit  {S : St} {l0 : Int32} {w : Int32} (h : f_Reading_isDigit S l0 = some w) : Ct SX m_Reading_isDigit 1 [.int l0] S (some w) S := by
  unfold f_Reading_isDigit at h
  refine Ct.of pn_Reading (Nat.le_of_ble_eq_true rfl) ?_
  show G SX m_Reading_isDigit 1 (some w) S 0 [(0, .int l0)] [] S
  refine G_iload_n 0 rfl d_Reading_isDigit_0 ?_
  refine G_bipush 48 (by decide) d_Reading_isDigit_1 ?_
  refine G_icmp_lt 16 (by decide) d_Reading_isDigit_3 (fun c_3 => ?_) (fun c_3 => ?_)
  · replace h := ob_t h c_3
    refine G_iconst 0 (by decide) d_Reading_isDigit_16 ?_
    cases h
    exact G_zret (Or.inl rfl) rfl d_Reading_isDigit_17
  · replace h := ob_f h c_3
    refine G_iload_n 0 rfl d_Reading_isDigit_6 ?_
    refine G_bipush 57 (by decide) d_Reading_isDigit_7 ?_
    refine G_icmp_gt 16 (by decide) d_Reading_isDigit_9 (fun c_9 => ?_) (fun c_9 => ?_)
    · replace h := ob_t h c_9
      refine G_iconst 0 (by decide) d_Reading_isDigit_16 ?_
      cases h
      exact G_zret (Or.inl rfl) rfl d_Reading_isDigit_17
    · replace h := ob_f h c_9
      refine G_iconst 1 (by decide) d_Reading_isDigit_12 ?_
      refine G_goto 17 (by decide) d_Reading_isDigit_13 ?_
      cases h
      exact G_zret (Or.inr rfl) rfl d_Reading_isDigit_17
theorem d_Reading_number_0 : decode m_Reading_number.2.1 0 = .ok (.aload_n 0, 1) := by decide +kernel
theorem d_Reading_number_1 : decode m_Reading_number.2.1 1 = .ok (.getfield 13, 3) := by decide +kernel
theorem d_Reading_number_4 : decode m_Reading_number.2.1 4 = .ok (.ifCond .eq 5, 3) := by decide +kernel
theorem d_Reading_number_7 : decode m_Reading_number.2.1 7 = .ok (.iconst 0, 1) := by decide +kernel
theorem d_Reading_number_8 : decode m_Reading_number.2.1 8 = .ok (.ireturn, 1) := by decide +kernel
theorem d_Reading_number_9 : decode m_Reading_number.2.1 9 = .ok (.iconst 0, 1) := by decide +kernel
theorem d_Reading_number_10 : decode m_Reading_number.2.1 10 = .ok (.istore_n 2, 1) := by decide +kernel
theorem d_Reading_number_11 : decode m_Reading_number.2.1 11 = .ok (.iconst 0, 1) := by decide +kernel
theorem d_Reading_number_12 : decode m_Reading_number.2.1 12 = .ok (.istore_n 3, 1) := by decide +kernel
theorem d_Reading_number_13 : decode m_Reading_number.2.1 13 = .ok (.iload_n 3, 1) := by decide +kernel
theorem d_Reading_number_14 : decode m_Reading_number.2.1 14 = .ok (.iload_n 1, 1) := by decide +kernel
theorem d_Reading_number_15 : decode m_Reading_number.2.1 15 = .ok (.if_icmp .ge 56, 3) := by decide +kernel
theorem d_Reading_number_18 : decode m_Reading_number.2.1 18 = .ok (.aload_n 0, 1) := by decide +kernel
theorem d_Reading_number_19 : decode m_Reading_number.2.1 19 = .ok (.getfield 16, 3) := by decide +kernel
theorem d_Reading_number_22 : decode m_Reading_number.2.1 22 = .ok (.aload_n 0, 1) := by decide +kernel
theorem d_Reading_number_23 : decode m_Reading_number.2.1 23 = .ok (.getfield 7, 3) := by decide +kernel
theorem d_Reading_number_26 : decode m_Reading_number.2.1 26 = .ok (.invokevirtual 20, 3) := by decide +kernel
theorem d_Reading_number_29 : decode m_Reading_number.2.1 29 = .ok (.invokestatic 33, 3) := by decide +kernel
theorem d_Reading_number_32 : decode m_Reading_number.2.1 32 = .ok (.ifCond .eq 39, 3) := by decide +kernel
theorem d_Reading_number_35 : decode m_Reading_number.2.1 35 = .ok (.bipush 10, 2) := by decide +kernel
theorem d_Reading_number_37 : decode m_Reading_number.2.1 37 = .ok (.iload_n 2, 1) := by decide +kernel
theorem d_Reading_number_38 : decode m_Reading_number.2.1 38 = .ok (.imul, 1) := by decide +kernel
theorem d_Reading_number_39 : decode m_Reading_number.2.1 39 = .ok (.aload_n 0, 1) := by decide +kernel
theorem d_Reading_number_40 : decode m_Reading_number.2.1 40 = .ok (.getfield 16, 3) := by decide +kernel
theorem d_Reading_number_43 : decode m_Reading_number.2.1 43 = .ok (.aload_n 0, 1) := by decide +kernel
theorem d_Reading_number_44 : decode m_Reading_number.2.1 44 = .ok (.getfield 7, 3) := by decide +kernel
theorem d_Reading_number_47 : decode m_Reading_number.2.1 47 = .ok (.invokevirtual 20, 3) := by decide +kernel
theorem d_Reading_number_50 : decode m_Reading_number.2.1 50 = .ok (.iadd, 1) := by decide +kernel
theorem d_Reading_number_51 : decode m_Reading_number.2.1 51 = .ok (.bipush 48, 2) := by decide +kernel
theorem d_Reading_number_53 : decode m_Reading_number.2.1 53 = .ok (.isub, 1) := by decide +kernel
theorem d_Reading_number_54 : decode m_Reading_number.2.1 54 = .ok (.istore_n 2, 1) := by decide +kernel
theorem d_Reading_number_55 : decode m_Reading_number.2.1 55 = .ok (.aload_n 0, 1) := by decide +kernel
theorem d_Reading_number_56 : decode m_Reading_number.2.1 56 = .ok (.dup, 1) := by decide +kernel
theorem d_Reading_number_57 : decode m_Reading_number.2.1 57 = .ok (.getfield 7, 3) := by decide +kernel
theorem d_Reading_number_60 : decode m_Reading_number.2.1 60 = .ok (.iconst 1, 1) := by decide +kernel
theorem d_Reading_number_61 : decode m_Reading_number.2.1 61 = .ok (.iadd, 1) := by decide +kernel
theorem d_Reading_number_62 : decode m_Reading_number.2.1 62 = .ok (.putfield 7, 3) := by decide +kernel
theorem d_Reading_number_65 : decode m_Reading_number.2.1 65 = .ok (.iinc 3 1, 3) := by decide +kernel
theorem d_Reading_number_68 : decode m_Reading_number.2.1 68 = .ok (.goto (-55), 3) := by decide +kernel
theorem d_Reading_number_71 : decode m_Reading_number.2.1 71 = .ok (.iload_n 3, 1) := by decide +kernel
theorem d_Reading_number_72 : decode m_Reading_number.2.1 72 = .ok (.ifCond .ne 15, 3) := by decide +kernel
theorem d_Reading_number_75 : decode m_Reading_number.2.1 75 = .ok (.aload_n 0, 1) := by decide +kernel
theorem d_Reading_number_76 : decode m_Reading_number.2.1 76 = .ok (.iconst 1, 1) := by decide +kernel
theorem d_Reading_number_77 : decode m_Reading_number.2.1 77 = .ok (.aload_n 0, 1) := by decide +kernel
theorem d_Reading_number_78 : decode m_Reading_number.2.1 78 = .ok (.getfield 7, 3) := by decide +kernel
theorem d_Reading_number_81 : decode m_Reading_number.2.1 81 = .ok (.invokevirtual 25, 3) := by decide +kernel
theorem d_Reading_number_84 : decode m_Reading_number.2.1 84 = .ok (.goto 29, 3) := by decide +kernel
theorem d_Reading_number_87 : decode m_Reading_number.2.1 87 = .ok (.aload_n 0, 1) := by decide +kernel
theorem d_Reading_number_88 : decode m_Reading_number.2.1 88 = .ok (.getfield 16, 3) := by decide +kernel
theorem d_Reading_number_91 : decode m_Reading_number.2.1 91 = .ok (.aload_n 0, 1) := by decide +kernel
theorem d_Reading_number_92 : decode m_Reading_number.2.1 92 = .ok (.getfield 7, 3) := by decide +kernel
theorem d_Reading_number_95 : decode m_Reading_number.2.1 95 = .ok (.invokevirtual 20, 3) := by decide +kernel
theorem d_Reading_number_98 : decode m_Reading_number.2.1 98 = .ok (.invokestatic 33, 3) := by decide +kernel
theorem d_Reading_number_101 : decode m_Reading_number.2.1 101 = .ok (.ifCond .eq 12, 3) := by decide +kernel
theorem d_Reading_number_104 : decode m_Reading_number.2.1 104 = .ok (.aload_n 0, 1) := by decide +kernel
theorem d_Reading_number_105 : decode m_Reading_number.2.1 105 = .ok (.iconst 2, 1) := by decide +kernel
theorem d_Reading_number_106 : decode m_Reading_number.2.1 106 = .ok (.aload_n 0, 1) := by decide +kernel
theorem d_Reading_number_107 : decode m_Reading_number.2.1 107 = .ok (.getfield 7, 3) := by decide +kernel
theorem d_Reading_number_110 : decode m_Reading_number.2.1 110 = .ok (.invokevirtual 25, 3) := by decide +kernel
theorem d_Reading_number_113 : decode m_Reading_number.2.1 113 = .ok (.iload_n 2, 1) := by decide +kernel
theorem d_Reading_number_114 : decode m_Reading_number.2.1 114 = .ok (.ireturn, 1) := by decide +kernel
def f_Reading_number_71 (S : St) (l2 : Int32) (l3 : Int32) : Option (Int32 × St) :=
    if l3 = 0 then (
    (f_Reading_fail S (1 : Int32) (S 3 1)).bind fun w_81 =>
    some (l2, w_81))
    else (
    (f_Tape_at S (S 3 1)).bind fun v_95 =>
    (f_Reading_isDigit S v_95).bind fun v_98 =>
    if v_98 = 0 then (
    some (l2, S))
    else (
    (f_Reading_fail S (2 : Int32) (S 3 1)).bind fun w_110 =>
    some (l2, w_110)))
set_option maxHeartbeats 4000000 in
set_option maxRecDepth 20000 in
theorem t_Reading_number_71  (S : St) (l2 : Int32) (l3 : Int32) (w : Int32 × St) (h : f_Reading_number_71 S l2 l3 = some w) : G SX m_Reading_number 2 (some w.1) w.2 71 [(0, .ref 3), (2, .int l2), (3, .int l3)] [] S := by
  unfold f_Reading_number_71 at h
  refine G_iload_n 2 rfl d_Reading_number_71 ?_
  refine G_if_ne 87 (by decide) d_Reading_number_72 (fun c_72 => ?_) (fun c_72 => ?_)
  · replace h := ob_f h c_72
    refine G_aload_n 0 rfl d_Reading_number_87 ?_
    refine G_getR fl_Reading_16 kx_3 sx_3 rfl (by decide) d_Reading_number_88 ?_
    refine G_aload_n 0 rfl d_Reading_number_91 ?_
    refine G_getI fl_Reading_7 kx_3 sx_3 rfl d_Reading_number_92 ?_
    obtain ⟨v_95, q_95, h⟩ := ob_b h
    refine G_callV [.int (S 3 1)] [] (t_Tape_at q_95) (by decide) (by decide) mv_Tape_at rfl ml_Reading_20 kx_1 sx_1 cl_8 rfl (Nat.le_of_ble_eq_true rfl) d_Reading_number_95 ?_
    obtain ⟨v_98, q_98, h⟩ := ob_b h
    refine G_callS [.int v_95] [] (t_Reading_isDigit q_98) (by decide) (by decide) mt_Reading_isDigit rfl ml_Reading_33 rfl (Nat.le_of_ble_eq_true rfl) d_Reading_number_98 ?_
    refine G_if_eq 113 (by decide) d_Reading_number_101 (fun c_101 => ?_) (fun c_101 => ?_)
    · replace h := ob_t h c_101
      refine G_iload_n 1 rfl d_Reading_number_113 ?_
      cases h
      exact G_iret rfl d_Reading_number_114
    · replace h := ob_f h c_101
      refine G_aload_n 0 rfl d_Reading_number_104 ?_
      refine G_iconst 2 (by decide) d_Reading_number_105 ?_
      refine G_aload_n 0 rfl d_Reading_number_106 ?_
      refine G_getI fl_Reading_7 kx_3 sx_3 rfl d_Reading_number_107 ?_
      obtain ⟨w_110, q_110, h⟩ := ob_b h
      refine G_callV [.int 2, .int (S 3 1)] [] (t_Reading_fail q_110) (by decide) (by decide) mv_Reading_fail rfl ml_Reading_25 kx_3 sx_3 cl_4 rfl (Nat.le_of_ble_eq_true rfl) d_Reading_number_110 ?_
      refine G_iload_n 1 rfl d_Reading_number_113 ?_
      cases h
      exact G_iret rfl d_Reading_number_114
  · replace h := ob_t h c_72
    refine G_aload_n 0 rfl d_Reading_number_75 ?_
    refine G_iconst 1 (by decide) d_Reading_number_76 ?_
    refine G_aload_n 0 rfl d_Reading_number_77 ?_
    refine G_getI fl_Reading_7 kx_3 sx_3 rfl d_Reading_number_78 ?_
    obtain ⟨w_81, q_81, h⟩ := ob_b h
    refine G_callV [.int 1, .int (S 3 1)] [] (t_Reading_fail q_81) (by decide) (by decide) mv_Reading_fail rfl ml_Reading_25 kx_3 sx_3 cl_4 rfl (Nat.le_of_ble_eq_true rfl) d_Reading_number_81 ?_
    refine G_goto 113 (by decide) d_Reading_number_84 ?_
    refine G_iload_n 1 rfl d_Reading_number_113 ?_
    cases h
    exact G_iret rfl d_Reading_number_114
def f_Reading_number_13 : Nat → St → Int32 → Int32 → Int32 → Option (Int32 × St)
  | 0, _, _, _, _ => none
  | n + 1, S, l1, l2, l3 =>
    if l1 ≤ l3 then (
    f_Reading_number_71 S l2 l3)
    else (
    (f_Tape_at S (S 3 1)).bind fun v_26 =>
    (f_Reading_isDigit S v_26).bind fun v_29 =>
    if v_29 = 0 then (
    f_Reading_number_71 S l2 l3)
    else (
    (f_Tape_at S (S 3 1)).bind fun v_47 =>
    (some (((10 * l2) + v_47) - 48)).bind fun l2_54 =>
    (some (sF S 3 1 ((S 3 1) + 1))).bind fun S_62 =>
    (some (l3 + 1)).bind fun l3_65 =>
    f_Reading_number_13 n S_62 l1 l2_54 l3_65))
set_option maxHeartbeats 4000000 in
set_option maxRecDepth 20000 in
theorem t_Reading_number_13  : ∀ (n : Nat) (S : St) (l1 : Int32) (l2 : Int32) (l3 : Int32) (w : Int32 × St), f_Reading_number_13 n S l1 l2 l3 = some w → G SX m_Reading_number 2 (some w.1) w.2 13 [(0, .ref 3), (1, .int l1), (2, .int l2), (3, .int l3)] [] S := by
  intro n
  induction n with
  | zero =>
    intro S l1 l2 l3 w h
    rw [f_Reading_number_13] at h
    cases h
  | succ n ih =>
    intro S l1 l2 l3 w h
    rw [f_Reading_number_13] at h
    refine G_iload_n 3 rfl d_Reading_number_13 ?_
    refine G_iload_n 1 rfl d_Reading_number_14 ?_
    refine G_icmp_ge 71 (by decide) d_Reading_number_15 (fun c_15 => ?_) (fun c_15 => ?_)
    · replace h := ob_t h c_15
      exact G_sub _ [0, 2, 3] rfl (t_Reading_number_71 S l2 l3 _ h)
    · replace h := ob_f h c_15
      refine G_aload_n 0 rfl d_Reading_number_18 ?_
      refine G_getR fl_Reading_16 kx_3 sx_3 rfl (by decide) d_Reading_number_19 ?_
      refine G_aload_n 0 rfl d_Reading_number_22 ?_
      refine G_getI fl_Reading_7 kx_3 sx_3 rfl d_Reading_number_23 ?_
      obtain ⟨v_26, q_26, h⟩ := ob_b h
      refine G_callV [.int (S 3 1)] [] (t_Tape_at q_26) (by decide) (by decide) mv_Tape_at rfl ml_Reading_20 kx_1 sx_1 cl_8 rfl (Nat.le_of_ble_eq_true rfl) d_Reading_number_26 ?_
      obtain ⟨v_29, q_29, h⟩ := ob_b h
      refine G_callS [.int v_26] [] (t_Reading_isDigit q_29) (by decide) (by decide) mt_Reading_isDigit rfl ml_Reading_33 rfl (Nat.le_of_ble_eq_true rfl) d_Reading_number_29 ?_
      refine G_if_eq 71 (by decide) d_Reading_number_32 (fun c_32 => ?_) (fun c_32 => ?_)
      · replace h := ob_t h c_32
        exact G_sub _ [0, 2, 3] rfl (t_Reading_number_71 S l2 l3 _ h)
      · replace h := ob_f h c_32
        refine G_bipush 10 (by decide) d_Reading_number_35 ?_
        refine G_iload_n 2 rfl d_Reading_number_37 ?_
        refine G_imul d_Reading_number_38 ?_
        refine G_aload_n 0 rfl d_Reading_number_39 ?_
        refine G_getR fl_Reading_16 kx_3 sx_3 rfl (by decide) d_Reading_number_40 ?_
        refine G_aload_n 0 rfl d_Reading_number_43 ?_
        refine G_getI fl_Reading_7 kx_3 sx_3 rfl d_Reading_number_44 ?_
        obtain ⟨v_47, q_47, h⟩ := ob_b h
        refine G_callV [.int (S 3 1)] [.int (10 * l2)] (t_Tape_at q_47) (by decide) (by decide) mv_Tape_at rfl ml_Reading_20 kx_1 sx_1 cl_8 rfl (Nat.le_of_ble_eq_true rfl) d_Reading_number_47 ?_
        refine G_iadd d_Reading_number_50 ?_
        refine G_bipush 48 (by decide) d_Reading_number_51 ?_
        refine G_isub d_Reading_number_53 ?_
        obtain ⟨l2_54, e_54, h⟩ := ob_s h
        refine G_istore_n [(2, .int l2_54), (0, .ref 3), (1, .int l1), (3, .int l3)] e_54 rfl (by decide) d_Reading_number_54 ?_
        refine G_aload_n 1 rfl d_Reading_number_55 ?_
        refine G_dup rfl d_Reading_number_56 ?_
        refine G_getI fl_Reading_7 kx_3 sx_3 rfl d_Reading_number_57 ?_
        refine G_iconst 1 (by decide) d_Reading_number_60 ?_
        refine G_iadd d_Reading_number_61 ?_
        obtain ⟨S_62, e_62, h⟩ := ob_s h
        refine G_putI e_62 fp_Reading_7 kx_3 sx_3 rfl d_Reading_number_62 ?_
        obtain ⟨l3_65, e_65, h⟩ := ob_s h
        refine G_iinc 1 3 [(3, .int l3_65), (2, .int l2_54), (0, .ref 3), (1, .int l1)] (by decide) rfl e_65 rfl (by decide) d_Reading_number_65 ?_
        refine G_goto 13 (by decide) d_Reading_number_68 ?_
        exact G_sub _ [2, 3, 1, 0] rfl (ih S_62 l1 l2_54 l3_65 _ h)
def f_Reading_number (S : St) (l1 : Int32) : Option (Int32 × St) :=
    if (S 3 2) = 0 then (
    (some (0 : Int32)).bind fun l2_10 =>
    (some (0 : Int32)).bind fun l3_12 =>
    f_Reading_number_13 FU S l1 l2_10 l3_12)
    else (
    some (0, S))
set_option maxHeartbeats 4000000 in
set_option maxRecDepth 20000 in
theorem t_Reading_number  {S : St} {l1 : Int32} {w : Int32 × St} (h : f_Reading_number S l1 = some w) : Ct SX m_Reading_number 2 [.ref 3, .int l1] S (some w.1) w.2 := by
  unfold f_Reading_number at h
  refine Ct.of pn_Reading (Nat.le_of_ble_eq_true rfl) ?_
  show G SX m_Reading_number 2 (some w.1) w.2 0 [(0, .ref 3), (1, .int l1)] [] S
  refine G_aload_n 0 rfl d_Reading_number_0 ?_
  refine G_getI fl_Reading_13 kx_3 sx_3 rfl d_Reading_number_1 ?_
  refine G_if_eq 9 (by decide) d_Reading_number_4 (fun c_4 => ?_) (fun c_4 => ?_)
  · replace h := ob_t h c_4
    refine G_iconst 0 (by decide) d_Reading_number_9 ?_
    obtain ⟨l2_10, e_10, h⟩ := ob_s h
    refine G_istore_n [(2, .int l2_10), (0, .ref 3), (1, .int l1)] e_10 rfl (by decide) d_Reading_number_10 ?_
    refine G_iconst 0 (by decide) d_Reading_number_11 ?_
    obtain ⟨l3_12, e_12, h⟩ := ob_s h
    refine G_istore_n [(3, .int l3_12), (2, .int l2_10), (0, .ref 3), (1, .int l1)] e_12 rfl (by decide) d_Reading_number_12 ?_
    exact G_sub _ [2, 3, 1, 0] rfl (t_Reading_number_13 FU S l1 l2_10 l3_12 _ h)
  · replace h := ob_f h c_4
    refine G_iconst 0 (by decide) d_Reading_number_7 ?_
    cases h
    exact G_iret rfl d_Reading_number_8
