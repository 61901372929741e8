theorem d_Parish_has_0 : decode m_Parish_has.2.1 0 = .ok (.iload_n 1, 1) := by decide +kernel
theorem d_Parish_has_1 : decode m_Parish_has.2.1 1 = .ok (.ifCond .lt 21, 3) := by decide +kernel
theorem d_Parish_has_4 : decode m_Parish_has.2.1 4 = .ok (.iload_n 1, 1) := by decide +kernel
theorem d_Parish_has_5 : decode m_Parish_has.2.1 5 = .ok (.aload_n 0, 1) := by decide +kernel
theorem d_Parish_has_6 : decode m_Parish_has.2.1 6 = .ok (.getfield 31, 3) := by decide +kernel
theorem d_Parish_has_9 : decode m_Parish_has.2.1 9 = .ok (.if_icmp .ge 13, 3) := by decide +kernel
theorem d_Parish_has_12 : decode m_Parish_has.2.1 12 = .ok (.iload_n 1, 1) := by decide +kernel
theorem d_Parish_has_13 : decode m_Parish_has.2.1 13 = .ok (.bipush 24, 2) := by decide +kernel
theorem d_Parish_has_15 : decode m_Parish_has.2.1 15 = .ok (.if_icmp .ge 7, 3) := by decide +kernel
theorem d_Parish_has_18 : decode m_Parish_has.2.1 18 = .ok (.iconst 1, 1) := by decide +kernel
theorem d_Parish_has_19 : decode m_Parish_has.2.1 19 = .ok (.goto 4, 3) := by decide +kernel
theorem d_Parish_has_22 : decode m_Parish_has.2.1 22 = .ok (.iconst 0, 1) := by decide +kernel
theorem d_Parish_has_23 : decode m_Parish_has.2.1 23 = .ok (.ireturn, 1) := by decide +kernel
def f_Parish_has (S : St) (P : Nat) (l1 : Int32) : Option (Int32) :=
    if l1 < 0 then (
    some (0 : Int32))
    else (
    if (S P 6) ≤ l1 then (
    some (0 : Int32))
    else (
    if (24 : Int32) ≤ l1 then (
    some (0 : Int32))
    else (
    some (1 : Int32))))
set_option maxHeartbeats 4000000 in
set_option maxRecDepth 20000 in
theorem t_Parish_has  {P : Nat} (hP : isP P) {S : St} {l1 : Int32} {w : Int32} (h : f_Parish_has S P l1 = some w) : Ct SX m_Parish_has 1 [.ref P, .int l1] S (some w) S := by
  unfold f_Parish_has at h
  refine Ct.of pn_Parish (Nat.le_of_ble_eq_true rfl) ?_
  show G SX m_Parish_has 1 (some w) S 0 [(0, .ref P), (1, .int l1)] [] S
  refine G_iload_n 1 rfl d_Parish_has_0 ?_
  refine G_if_lt 22 (by decide) d_Parish_has_1 (fun c_1 => ?_) (fun c_1 => ?_)
  · replace h := ob_t h c_1
    refine G_iconst 0 (by decide) d_Parish_has_22 ?_
    cases h
    exact G_zret (Or.inl rfl) rfl d_Parish_has_23
  · replace h := ob_f h c_1
    refine G_iload_n 1 rfl d_Parish_has_4 ?_
    refine G_aload_n 0 rfl d_Parish_has_5 ?_
    refine G_getI fl_Parish_31 (kP hP) (sP hP) rfl d_Parish_has_6 ?_
    refine G_icmp_ge 22 (by decide) d_Parish_has_9 (fun c_9 => ?_) (fun c_9 => ?_)
    · replace h := ob_t h c_9
      refine G_iconst 0 (by decide) d_Parish_has_22 ?_
      cases h
      exact G_zret (Or.inl rfl) rfl d_Parish_has_23
    · replace h := ob_f h c_9
      refine G_iload_n 1 rfl d_Parish_has_12 ?_
      refine G_bipush 24 (by decide) d_Parish_has_13 ?_
      refine G_icmp_ge 22 (by decide) d_Parish_has_15 (fun c_15 => ?_) (fun c_15 => ?_)
      · replace h := ob_t h c_15
        refine G_iconst 0 (by decide) d_Parish_has_22 ?_
        cases h
        exact G_zret (Or.inl rfl) rfl d_Parish_has_23
      · replace h := ob_f h c_15
        refine G_iconst 1 (by decide) d_Parish_has_18 ?_
        refine G_goto 23 (by decide) d_Parish_has_19 ?_
        cases h
        exact G_zret (Or.inr rfl) rfl d_Parish_has_23
theorem d_Parish_isLit_0 : decode m_Parish_isLit.2.1 0 = .ok (.aload_n 0, 1) := by decide +kernel
theorem d_Parish_isLit_1 : decode m_Parish_isLit.2.1 1 = .ok (.getfield 24, 3) := by decide +kernel
theorem d_Parish_isLit_4 : decode m_Parish_isLit.2.1 4 = .ok (.iload_n 1, 1) := by decide +kernel
theorem d_Parish_isLit_5 : decode m_Parish_isLit.2.1 5 = .ok (.iushr, 1) := by decide +kernel
theorem d_Parish_isLit_6 : decode m_Parish_isLit.2.1 6 = .ok (.iconst 1, 1) := by decide +kernel
theorem d_Parish_isLit_7 : decode m_Parish_isLit.2.1 7 = .ok (.iand, 1) := by decide +kernel
theorem d_Parish_isLit_8 : decode m_Parish_isLit.2.1 8 = .ok (.ifCond .eq 7, 3) := by decide +kernel
theorem d_Parish_isLit_11 : decode m_Parish_isLit.2.1 11 = .ok (.iconst 1, 1) := by decide +kernel
theorem d_Parish_isLit_12 : decode m_Parish_isLit.2.1 12 = .ok (.goto 4, 3) := by decide +kernel
theorem d_Parish_isLit_15 : decode m_Parish_isLit.2.1 15 = .ok (.iconst 0, 1) := by decide +kernel
theorem d_Parish_isLit_16 : decode m_Parish_isLit.2.1 16 = .ok (.ireturn, 1) := by decide +kernel
def f_Parish_isLit (S : St) (P : Nat) (l1 : Int32) : Option (Int32) :=
    if ((jushr (S P 4) l1) &&& 1) = 0 then (
    some (0 : Int32))
    else (
    some (1 : Int32))
set_option maxHeartbeats 4000000 in
set_option maxRecDepth 20000 in
theorem t_Parish_isLit  {P : Nat} (hP : isP P) {S : St} {l1 : Int32} {w : Int32} (h : f_Parish_isLit S P l1 = some w) : Ct SX m_Parish_isLit 1 [.ref P, .int l1] S (some w) S := by
  unfold f_Parish_isLit at h
  refine Ct.of pn_Parish (Nat.le_of_ble_eq_true rfl) ?_
  show G SX m_Parish_isLit 1 (some w) S 0 [(0, .ref P), (1, .int l1)] [] S
  refine G_aload_n 0 rfl d_Parish_isLit_0 ?_
  refine G_getI fl_Parish_24 (kP hP) (sP hP) rfl d_Parish_isLit_1 ?_
  refine G_iload_n 1 rfl d_Parish_isLit_4 ?_
  refine G_iushr d_Parish_isLit_5 ?_
  refine G_iconst 1 (by decide) d_Parish_isLit_6 ?_
  refine G_iand d_Parish_isLit_7 ?_
  refine G_if_eq 15 (by decide) d_Parish_isLit_8 (fun c_8 => ?_) (fun c_8 => ?_)
  · replace h := ob_t h c_8
    refine G_iconst 0 (by decide) d_Parish_isLit_15 ?_
    cases h
    exact G_zret (Or.inl rfl) rfl d_Parish_isLit_16
  · replace h := ob_f h c_8
    refine G_iconst 1 (by decide) d_Parish_isLit_11 ?_
    refine G_goto 16 (by decide) d_Parish_isLit_12 ?_
    cases h
    exact G_zret (Or.inr rfl) rfl d_Parish_isLit_16
theorem d_Parish_isDone_0 : decode m_Parish_isDone.2.1 0 = .ok (.aload_n 0, 1) := by decide +kernel
theorem d_Parish_isDone_1 : decode m_Parish_isDone.2.1 1 = .ok (.getfield 28, 3) := by decide +kernel
theorem d_Parish_isDone_4 : decode m_Parish_isDone.2.1 4 = .ok (.iload_n 1, 1) := by decide +kernel
theorem d_Parish_isDone_5 : decode m_Parish_isDone.2.1 5 = .ok (.iushr, 1) := by decide +kernel
theorem d_Parish_isDone_6 : decode m_Parish_isDone.2.1 6 = .ok (.iconst 1, 1) := by decide +kernel
theorem d_Parish_isDone_7 : decode m_Parish_isDone.2.1 7 = .ok (.iand, 1) := by decide +kernel
theorem d_Parish_isDone_8 : decode m_Parish_isDone.2.1 8 = .ok (.ifCond .eq 7, 3) := by decide +kernel
theorem d_Parish_isDone_11 : decode m_Parish_isDone.2.1 11 = .ok (.iconst 1, 1) := by decide +kernel
theorem d_Parish_isDone_12 : decode m_Parish_isDone.2.1 12 = .ok (.goto 4, 3) := by decide +kernel
theorem d_Parish_isDone_15 : decode m_Parish_isDone.2.1 15 = .ok (.iconst 0, 1) := by decide +kernel
theorem d_Parish_isDone_16 : decode m_Parish_isDone.2.1 16 = .ok (.ireturn, 1) := by decide +kernel
def f_Parish_isDone (S : St) (P : Nat) (l1 : Int32) : Option (Int32) :=
    if ((jushr (S P 5) l1) &&& 1) = 0 then (
    some (0 : Int32))
    else (
    some (1 : Int32))
set_option maxHeartbeats 4000000 in
set_option maxRecDepth 20000 in
theorem t_Parish_isDone  {P : Nat} (hP : isP P) {S : St} {l1 : Int32} {w : Int32} (h : f_Parish_isDone S P l1 = some w) : Ct SX m_Parish_isDone 1 [.ref P, .int l1] S (some w) S := by
  unfold f_Parish_isDone at h
  refine Ct.of pn_Parish (Nat.le_of_ble_eq_true rfl) ?_
  show G SX m_Parish_isDone 1 (some w) S 0 [(0, .ref P), (1, .int l1)] [] S
  refine G_aload_n 0 rfl d_Parish_isDone_0 ?_
  refine G_getI fl_Parish_28 (kP hP) (sP hP) rfl d_Parish_isDone_1 ?_
  refine G_iload_n 1 rfl d_Parish_isDone_4 ?_
  refine G_iushr d_Parish_isDone_5 ?_
  refine G_iconst 1 (by decide) d_Parish_isDone_6 ?_
  refine G_iand d_Parish_isDone_7 ?_
  refine G_if_eq 15 (by decide) d_Parish_isDone_8 (fun c_8 => ?_) (fun c_8 => ?_)
  · replace h := ob_t h c_8
    refine G_iconst 0 (by decide) d_Parish_isDone_15 ?_
    cases h
    exact G_zret (Or.inl rfl) rfl d_Parish_isDone_16
  · replace h := ob_f h c_8
    refine G_iconst 1 (by decide) d_Parish_isDone_11 ?_
    refine G_goto 16 (by decide) d_Parish_isDone_12 ?_
    cases h
    exact G_zret (Or.inr rfl) rfl d_Parish_isDone_16
theorem d_Parish_putLight_0 : decode m_Parish_putLight.2.1 0 = .ok (.aload_n 0, 1) := by decide +kernel
theorem d_Parish_putLight_1 : decode m_Parish_putLight.2.1 1 = .ok (.iload_n 2, 1) := by decide +kernel
theorem d_Parish_putLight_2 : decode m_Parish_putLight.2.1 2 = .ok (.ifCond .eq 14, 3) := by decide +kernel
theorem d_Parish_putLight_5 : decode m_Parish_putLight.2.1 5 = .ok (.aload_n 0, 1) := by decide +kernel
theorem d_Parish_putLight_6 : decode m_Parish_putLight.2.1 6 = .ok (.getfield 24, 3) := by decide +kernel
theorem d_Parish_putLight_9 : decode m_Parish_putLight.2.1 9 = .ok (.iconst 1, 1) := by decide +kernel
theorem d_Parish_putLight_10 : decode m_Parish_putLight.2.1 10 = .ok (.iload_n 1, 1) := by decide +kernel
theorem d_Parish_putLight_11 : decode m_Parish_putLight.2.1 11 = .ok (.ishl, 1) := by decide +kernel
theorem d_Parish_putLight_12 : decode m_Parish_putLight.2.1 12 = .ok (.ior, 1) := by decide +kernel
theorem d_Parish_putLight_13 : decode m_Parish_putLight.2.1 13 = .ok (.goto 13, 3) := by decide +kernel
theorem d_Parish_putLight_16 : decode m_Parish_putLight.2.1 16 = .ok (.aload_n 0, 1) := by decide +kernel
theorem d_Parish_putLight_17 : decode m_Parish_putLight.2.1 17 = .ok (.getfield 24, 3) := by decide +kernel
theorem d_Parish_putLight_20 : decode m_Parish_putLight.2.1 20 = .ok (.iconst 1, 1) := by decide +kernel
theorem d_Parish_putLight_21 : decode m_Parish_putLight.2.1 21 = .ok (.iload_n 1, 1) := by decide +kernel
theorem d_Parish_putLight_22 : decode m_Parish_putLight.2.1 22 = .ok (.ishl, 1) := by decide +kernel
theorem d_Parish_putLight_23 : decode m_Parish_putLight.2.1 23 = .ok (.iconst (-1), 1) := by decide +kernel
theorem d_Parish_putLight_24 : decode m_Parish_putLight.2.1 24 = .ok (.ixor, 1) := by decide +kernel
theorem d_Parish_putLight_25 : decode m_Parish_putLight.2.1 25 = .ok (.iand, 1) := by decide +kernel
theorem d_Parish_putLight_26 : decode m_Parish_putLight.2.1 26 = .ok (.putfield 24, 3) := by decide +kernel
theorem d_Parish_putLight_29 : decode m_Parish_putLight.2.1 29 = .ok (.return_, 1) := by decide +kernel
def f_Parish_putLight_26 (P : Nat) (S : St) (s0 : Int32) : Option (St) :=
    (some (sF S P 4 s0)).bind fun S_26 =>
    some S_26
set_option maxHeartbeats 4000000 in
set_option maxRecDepth 20000 in
theorem t_Parish_putLight_26  {P : Nat} (hP : isP P) (S : St) (s0 : Int32) (w : St) (h : f_Parish_putLight_26 P S s0 = some w) : G SX m_Parish_putLight 1 none w 26 [(0, .ref P)] [.int s0, .ref P] S := by
  unfold f_Parish_putLight_26 at h
  obtain ⟨S_26, e_26, h⟩ := ob_s h
  refine G_putI e_26 fp_Parish_24 (kP hP) (sP hP) rfl d_Parish_putLight_26 ?_
  cases h
  exact G_vret rfl d_Parish_putLight_29
def f_Parish_putLight (S : St) (P : Nat) (l1 : Int32) (l2 : Int32) : Option (St) :=
    if l2 = 0 then (
    f_Parish_putLight_26 P S ((S P 4) &&& ((jshl 1 l1) ^^^ (-1))))
    else (
    f_Parish_putLight_26 P S ((S P 4) ||| (jshl 1 l1)))
set_option maxHeartbeats 4000000 in
set_option maxRecDepth 20000 in
theorem t_Parish_putLight  {P : Nat} (hP : isP P) {S : St} {l1 : Int32} {l2 : Int32} {w : St} (h : f_Parish_putLight S P l1 l2 = some w) : Ct SX m_Parish_putLight 1 [.ref P, .int l1, .int l2] S none w := by
  unfold f_Parish_putLight at h
  refine Ct.of pn_Parish (Nat.le_of_ble_eq_true rfl) ?_
  show G SX m_Parish_putLight 1 none w 0 [(0, .ref P), (1, .int l1), (2, .int l2)] [] S
  refine G_aload_n 0 rfl d_Parish_putLight_0 ?_
  refine G_iload_n 2 rfl d_Parish_putLight_1 ?_
  refine G_if_eq 16 (by decide) d_Parish_putLight_2 (fun c_2 => ?_) (fun c_2 => ?_)
  · replace h := ob_t h c_2
    refine G_aload_n 0 rfl d_Parish_putLight_16 ?_
    refine G_getI fl_Parish_24 (kP hP) (sP hP) rfl d_Parish_putLight_17 ?_
    refine G_iconst 1 (by decide) d_Parish_putLight_20 ?_
    refine G_iload_n 1 rfl d_Parish_putLight_21 ?_
    refine G_ishl d_Parish_putLight_22 ?_
    refine G_iconst (-1) (by decide) d_Parish_putLight_23 ?_
    refine G_ixor d_Parish_putLight_24 ?_
    refine G_iand d_Parish_putLight_25 ?_
    exact G_sub _ [0] rfl (t_Parish_putLight_26 hP S ((S P 4) &&& ((jshl 1 l1) ^^^ (-1))) _ h)
  · replace h := ob_f h c_2
    refine G_aload_n 0 rfl d_Parish_putLight_5 ?_
    refine G_getI fl_Parish_24 (kP hP) (sP hP) rfl d_Parish_putLight_6 ?_
    refine G_iconst 1 (by decide) d_Parish_putLight_9 ?_
    refine G_iload_n 1 rfl d_Parish_putLight_10 ?_
    refine G_ishl d_Parish_putLight_11 ?_
    refine G_ior d_Parish_putLight_12 ?_
    refine G_goto 26 (by decide) d_Parish_putLight_13 ?_
    exact G_sub _ [0] rfl (t_Parish_putLight_26 hP S ((S P 4) ||| (jshl 1 l1)) _ h)
theorem d_Parish_copyFrom_0 : decode m_Parish_copyFrom.2.1 0 = .ok (.aload_n 1, 1) := by decide +kernel
theorem d_Parish_copyFrom_1 : decode m_Parish_copyFrom.2.1 1 = .ok (.getfield 9, 3) := by decide +kernel
theorem d_Parish_copyFrom_4 : decode m_Parish_copyFrom.2.1 4 = .ok (.iconst 0, 1) := by decide +kernel
theorem d_Parish_copyFrom_5 : decode m_Parish_copyFrom.2.1 5 = .ok (.aload_n 0, 1) := by decide +kernel
theorem d_Parish_copyFrom_6 : decode m_Parish_copyFrom.2.1 6 = .ok (.getfield 9, 3) := by decide +kernel
theorem d_Parish_copyFrom_9 : decode m_Parish_copyFrom.2.1 9 = .ok (.iconst 0, 1) := by decide +kernel
theorem d_Parish_copyFrom_10 : decode m_Parish_copyFrom.2.1 10 = .ok (.bipush 24, 2) := by decide +kernel
theorem d_Parish_copyFrom_12 : decode m_Parish_copyFrom.2.1 12 = .ok (.invokestatic 43, 3) := by decide +kernel
theorem d_Parish_copyFrom_15 : decode m_Parish_copyFrom.2.1 15 = .ok (.aload_n 1, 1) := by decide +kernel
theorem d_Parish_copyFrom_16 : decode m_Parish_copyFrom.2.1 16 = .ok (.getfield 15, 3) := by decide +kernel
theorem d_Parish_copyFrom_19 : decode m_Parish_copyFrom.2.1 19 = .ok (.iconst 0, 1) := by decide +kernel
theorem d_Parish_copyFrom_20 : decode m_Parish_copyFrom.2.1 20 = .ok (.aload_n 0, 1) := by decide +kernel
theorem d_Parish_copyFrom_21 : decode m_Parish_copyFrom.2.1 21 = .ok (.getfield 15, 3) := by decide +kernel
theorem d_Parish_copyFrom_24 : decode m_Parish_copyFrom.2.1 24 = .ok (.iconst 0, 1) := by decide +kernel
theorem d_Parish_copyFrom_25 : decode m_Parish_copyFrom.2.1 25 = .ok (.bipush 24, 2) := by decide +kernel
theorem d_Parish_copyFrom_27 : decode m_Parish_copyFrom.2.1 27 = .ok (.invokestatic 43, 3) := by decide +kernel
theorem d_Parish_copyFrom_30 : decode m_Parish_copyFrom.2.1 30 = .ok (.aload_n 1, 1) := by decide +kernel
theorem d_Parish_copyFrom_31 : decode m_Parish_copyFrom.2.1 31 = .ok (.getfield 18, 3) := by decide +kernel
theorem d_Parish_copyFrom_34 : decode m_Parish_copyFrom.2.1 34 = .ok (.iconst 0, 1) := by decide +kernel
theorem d_Parish_copyFrom_35 : decode m_Parish_copyFrom.2.1 35 = .ok (.aload_n 0, 1) := by decide +kernel
theorem d_Parish_copyFrom_36 : decode m_Parish_copyFrom.2.1 36 = .ok (.getfield 18, 3) := by decide +kernel
theorem d_Parish_copyFrom_39 : decode m_Parish_copyFrom.2.1 39 = .ok (.iconst 0, 1) := by decide +kernel
theorem d_Parish_copyFrom_40 : decode m_Parish_copyFrom.2.1 40 = .ok (.bipush 24, 2) := by decide +kernel
theorem d_Parish_copyFrom_42 : decode m_Parish_copyFrom.2.1 42 = .ok (.invokestatic 43, 3) := by decide +kernel
theorem d_Parish_copyFrom_45 : decode m_Parish_copyFrom.2.1 45 = .ok (.aload_n 1, 1) := by decide +kernel
theorem d_Parish_copyFrom_46 : decode m_Parish_copyFrom.2.1 46 = .ok (.getfield 21, 3) := by decide +kernel
theorem d_Parish_copyFrom_49 : decode m_Parish_copyFrom.2.1 49 = .ok (.iconst 0, 1) := by decide +kernel
theorem d_Parish_copyFrom_50 : decode m_Parish_copyFrom.2.1 50 = .ok (.aload_n 0, 1) := by decide +kernel
theorem d_Parish_copyFrom_51 : decode m_Parish_copyFrom.2.1 51 = .ok (.getfield 21, 3) := by decide +kernel
theorem d_Parish_copyFrom_54 : decode m_Parish_copyFrom.2.1 54 = .ok (.iconst 0, 1) := by decide +kernel
theorem d_Parish_copyFrom_55 : decode m_Parish_copyFrom.2.1 55 = .ok (.bipush 24, 2) := by decide +kernel
theorem d_Parish_copyFrom_57 : decode m_Parish_copyFrom.2.1 57 = .ok (.invokestatic 43, 3) := by decide +kernel
theorem d_Parish_copyFrom_60 : decode m_Parish_copyFrom.2.1 60 = .ok (.aload_n 0, 1) := by decide +kernel
theorem d_Parish_copyFrom_61 : decode m_Parish_copyFrom.2.1 61 = .ok (.aload_n 1, 1) := by decide +kernel
theorem d_Parish_copyFrom_62 : decode m_Parish_copyFrom.2.1 62 = .ok (.getfield 24, 3) := by decide +kernel
theorem d_Parish_copyFrom_65 : decode m_Parish_copyFrom.2.1 65 = .ok (.putfield 24, 3) := by decide +kernel
theorem d_Parish_copyFrom_68 : decode m_Parish_copyFrom.2.1 68 = .ok (.aload_n 0, 1) := by decide +kernel
theorem d_Parish_copyFrom_69 : decode m_Parish_copyFrom.2.1 69 = .ok (.aload_n 1, 1) := by decide +kernel
theorem d_Parish_copyFrom_70 : decode m_Parish_copyFrom.2.1 70 = .ok (.getfield 28, 3) := by decide +kernel
theorem d_Parish_copyFrom_73 : decode m_Parish_copyFrom.2.1 73 = .ok (.putfield 28, 3) := by decide +kernel
theorem d_Parish_copyFrom_76 : decode m_Parish_copyFrom.2.1 76 = .ok (.aload_n 0, 1) := by decide +kernel
theorem d_Parish_copyFrom_77 : decode m_Parish_copyFrom.2.1 77 = .ok (.aload_n 1, 1) := by decide +kernel
theorem d_Parish_copyFrom_78 : decode m_Parish_copyFrom.2.1 78 = .ok (.getfield 31, 3) := by decide +kernel
theorem d_Parish_copyFrom_81 : decode m_Parish_copyFrom.2.1 81 = .ok (.putfield 31, 3) := by decide +kernel
theorem d_Parish_copyFrom_84 : decode m_Parish_copyFrom.2.1 84 = .ok (.aload_n 0, 1) := by decide +kernel
theorem d_Parish_copyFrom_85 : decode m_Parish_copyFrom.2.1 85 = .ok (.aload_n 1, 1) := by decide +kernel
theorem d_Parish_copyFrom_86 : decode m_Parish_copyFrom.2.1 86 = .ok (.getfield 34, 3) := by decide +kernel
theorem d_Parish_copyFrom_89 : decode m_Parish_copyFrom.2.1 89 = .ok (.putfield 34, 3) := by decide +kernel
theorem d_Parish_copyFrom_92 : decode m_Parish_copyFrom.2.1 92 = .ok (.aload_n 0, 1) := by decide +kernel
theorem d_Parish_copyFrom_93 : decode m_Parish_copyFrom.2.1 93 = .ok (.aload_n 1, 1) := by decide +kernel
theorem d_Parish_copyFrom_94 : decode m_Parish_copyFrom.2.1 94 = .ok (.getfield 37, 3) := by decide +kernel
theorem d_Parish_copyFrom_97 : decode m_Parish_copyFrom.2.1 97 = .ok (.putfield 37, 3) := by decide +kernel
theorem d_Parish_copyFrom_100 : decode m_Parish_copyFrom.2.1 100 = .ok (.aload_n 0, 1) := by decide +kernel
theorem d_Parish_copyFrom_101 : decode m_Parish_copyFrom.2.1 101 = .ok (.aload_n 1, 1) := by decide +kernel
theorem d_Parish_copyFrom_102 : decode m_Parish_copyFrom.2.1 102 = .ok (.getfield 40, 3) := by decide +kernel
theorem d_Parish_copyFrom_105 : decode m_Parish_copyFrom.2.1 105 = .ok (.putfield 40, 3) := by decide +kernel
theorem d_Parish_copyFrom_108 : decode m_Parish_copyFrom.2.1 108 = .ok (.return_, 1) := by decide +kernel
def f_Parish_copyFrom (S : St) (P : Nat) (Q : Nat) : Option (St) :=
    (some (sC S (Q + 1) (P + 1) (0 : Int32).toNatClampNeg (0 : Int32).toNatClampNeg (24 : Int32).toNatClampNeg)).bind fun S_12 =>
    (some (sC S_12 (Q + 2) (P + 2) (0 : Int32).toNatClampNeg (0 : Int32).toNatClampNeg (24 : Int32).toNatClampNeg)).bind fun S_27 =>
    (some (sC S_27 (Q + 3) (P + 3) (0 : Int32).toNatClampNeg (0 : Int32).toNatClampNeg (24 : Int32).toNatClampNeg)).bind fun S_42 =>
    (some (sC S_42 (Q + 4) (P + 4) (0 : Int32).toNatClampNeg (0 : Int32).toNatClampNeg (24 : Int32).toNatClampNeg)).bind fun S_57 =>
    (some (sF S_57 P 4 (S_57 Q 4))).bind fun S_65 =>
    (some (sF S_65 P 5 (S_65 Q 5))).bind fun S_73 =>
    (some (sF S_73 P 6 (S_73 Q 6))).bind fun S_81 =>
    (some (sF S_81 P 7 (S_81 Q 7))).bind fun S_89 =>
    (some (sF S_89 P 8 (S_89 Q 8))).bind fun S_97 =>
    (some (sF S_97 P 9 (S_97 Q 9))).bind fun S_105 =>
    some S_105
set_option maxHeartbeats 4000000 in
set_option maxRecDepth 20000 in
theorem t_Parish_copyFrom  {P : Nat} {Q : Nat} (hP : isP P) (hQ : isP Q) {S : St} {w : St} (h : f_Parish_copyFrom S P Q = some w) : Ct SX m_Parish_copyFrom 1 [.ref P, .ref Q] S none w := by
  unfold f_Parish_copyFrom at h
  refine Ct.of pn_Parish (Nat.le_of_ble_eq_true rfl) ?_
  show G SX m_Parish_copyFrom 1 none w 0 [(0, .ref P), (1, .ref Q)] [] S
  refine G_aload_n 1 rfl d_Parish_copyFrom_0 ?_
  refine G_getR fl_Parish_9 (kP hQ) (sP hQ) rfl (qP1 hQ) d_Parish_copyFrom_1 ?_
  refine G_iconst 0 (by decide) d_Parish_copyFrom_4 ?_
  refine G_aload_n 0 rfl d_Parish_copyFrom_5 ?_
  refine G_getR fl_Parish_9 (kP hP) (sP hP) rfl (qP1 hP) d_Parish_copyFrom_6 ?_
  refine G_iconst 0 (by decide) d_Parish_copyFrom_9 ?_
  refine G_bipush 24 (by decide) d_Parish_copyFrom_10 ?_
  obtain ⟨S_12, e_12, h⟩ := ob_s h
  refine G_copy e_12 ac_Parish_43 (by decide) (kPa1 hQ) (kPa1 hP) (sPa1 hQ) (sPa1 hP) (by decide) (by decide) (by decide) (by decide) (by decide) (Nat.le_of_ble_eq_true rfl) d_Parish_copyFrom_12 ?_
  refine G_aload_n 1 rfl d_Parish_copyFrom_15 ?_
  refine G_getR fl_Parish_15 (kP hQ) (sP hQ) rfl (qP2 hQ) d_Parish_copyFrom_16 ?_
  refine G_iconst 0 (by decide) d_Parish_copyFrom_19 ?_
  refine G_aload_n 0 rfl d_Parish_copyFrom_20 ?_
  refine G_getR fl_Parish_15 (kP hP) (sP hP) rfl (qP2 hP) d_Parish_copyFrom_21 ?_
  refine G_iconst 0 (by decide) d_Parish_copyFrom_24 ?_
  refine G_bipush 24 (by decide) d_Parish_copyFrom_25 ?_
  obtain ⟨S_27, e_27, h⟩ := ob_s h
  refine G_copy e_27 ac_Parish_43 (by decide) (kPa2 hQ) (kPa2 hP) (sPa2 hQ) (sPa2 hP) (by decide) (by decide) (by decide) (by decide) (by decide) (Nat.le_of_ble_eq_true rfl) d_Parish_copyFrom_27 ?_
  refine G_aload_n 1 rfl d_Parish_copyFrom_30 ?_
  refine G_getR fl_Parish_18 (kP hQ) (sP hQ) rfl (qP3 hQ) d_Parish_copyFrom_31 ?_
  refine G_iconst 0 (by decide) d_Parish_copyFrom_34 ?_
  refine G_aload_n 0 rfl d_Parish_copyFrom_35 ?_
  refine G_getR fl_Parish_18 (kP hP) (sP hP) rfl (qP3 hP) d_Parish_copyFrom_36 ?_
  refine G_iconst 0 (by decide) d_Parish_copyFrom_39 ?_
  refine G_bipush 24 (by decide) d_Parish_copyFrom_40 ?_
  obtain ⟨S_42, e_42, h⟩ := ob_s h
  refine G_copy e_42 ac_Parish_43 (by decide) (kPa3 hQ) (kPa3 hP) (sPa3 hQ) (sPa3 hP) (by decide) (by decide) (by decide) (by decide) (by decide) (Nat.le_of_ble_eq_true rfl) d_Parish_copyFrom_42 ?_
  refine G_aload_n 1 rfl d_Parish_copyFrom_45 ?_
  refine G_getR fl_Parish_21 (kP hQ) (sP hQ) rfl (qP4 hQ) d_Parish_copyFrom_46 ?_
  refine G_iconst 0 (by decide) d_Parish_copyFrom_49 ?_
  refine G_aload_n 0 rfl d_Parish_copyFrom_50 ?_
  refine G_getR fl_Parish_21 (kP hP) (sP hP) rfl (qP4 hP) d_Parish_copyFrom_51 ?_
  refine G_iconst 0 (by decide) d_Parish_copyFrom_54 ?_
  refine G_bipush 24 (by decide) d_Parish_copyFrom_55 ?_
  obtain ⟨S_57, e_57, h⟩ := ob_s h
  refine G_copy e_57 ac_Parish_43 (by decide) (kPa4 hQ) (kPa4 hP) (sPa4 hQ) (sPa4 hP) (by decide) (by decide) (by decide) (by decide) (by decide) (Nat.le_of_ble_eq_true rfl) d_Parish_copyFrom_57 ?_
  refine G_aload_n 0 rfl d_Parish_copyFrom_60 ?_
  refine G_aload_n 1 rfl d_Parish_copyFrom_61 ?_
  refine G_getI fl_Parish_24 (kP hQ) (sP hQ) rfl d_Parish_copyFrom_62 ?_
  obtain ⟨S_65, e_65, h⟩ := ob_s h
  refine G_putI e_65 fp_Parish_24 (kP hP) (sP hP) rfl d_Parish_copyFrom_65 ?_
  refine G_aload_n 0 rfl d_Parish_copyFrom_68 ?_
  refine G_aload_n 1 rfl d_Parish_copyFrom_69 ?_
  refine G_getI fl_Parish_28 (kP hQ) (sP hQ) rfl d_Parish_copyFrom_70 ?_
  obtain ⟨S_73, e_73, h⟩ := ob_s h
  refine G_putI e_73 fp_Parish_28 (kP hP) (sP hP) rfl d_Parish_copyFrom_73 ?_
  refine G_aload_n 0 rfl d_Parish_copyFrom_76 ?_
  refine G_aload_n 1 rfl d_Parish_copyFrom_77 ?_
  refine G_getI fl_Parish_31 (kP hQ) (sP hQ) rfl d_Parish_copyFrom_78 ?_
  obtain ⟨S_81, e_81, h⟩ := ob_s h
  refine G_putI e_81 fp_Parish_31 (kP hP) (sP hP) rfl d_Parish_copyFrom_81 ?_
  refine G_aload_n 0 rfl d_Parish_copyFrom_84 ?_
  refine G_aload_n 1 rfl d_Parish_copyFrom_85 ?_
  refine G_getI fl_Parish_34 (kP hQ) (sP hQ) rfl d_Parish_copyFrom_86 ?_
  obtain ⟨S_89, e_89, h⟩ := ob_s h
  refine G_putI e_89 fp_Parish_34 (kP hP) (sP hP) rfl d_Parish_copyFrom_89 ?_
  refine G_aload_n 0 rfl d_Parish_copyFrom_92 ?_
  refine G_aload_n 1 rfl d_Parish_copyFrom_93 ?_
  refine G_getI fl_Parish_37 (kP hQ) (sP hQ) rfl d_Parish_copyFrom_94 ?_
  obtain ⟨S_97, e_97, h⟩ := ob_s h
  refine G_putI e_97 fp_Parish_37 (kP hP) (sP hP) rfl d_Parish_copyFrom_97 ?_
  refine G_aload_n 0 rfl d_Parish_copyFrom_100 ?_
  refine G_aload_n 1 rfl d_Parish_copyFrom_101 ?_
  refine G_getI fl_Parish_40 (kP hQ) (sP hQ) rfl d_Parish_copyFrom_102 ?_
  obtain ⟨S_105, e_105, h⟩ := ob_s h
  refine G_putI e_105 fp_Parish_40 (kP hP) (sP hP) rfl d_Parish_copyFrom_105 ?_
  cases h
  exact G_vret rfl d_Parish_copyFrom_108
theorem d_Parish_beginAs_0 : decode m_Parish_beginAs.2.1 0 = .ok (.aload_n 0, 1) := by decide +kernel
theorem d_Parish_beginAs_1 : decode m_Parish_beginAs.2.1 1 = .ok (.getfield 37, 3) := by decide +kernel
theorem d_Parish_beginAs_4 : decode m_Parish_beginAs.2.1 4 = .ok (.istore_n 2, 1) := by decide +kernel
theorem d_Parish_beginAs_5 : decode m_Parish_beginAs.2.1 5 = .ok (.aload_n 0, 1) := by decide +kernel
theorem d_Parish_beginAs_6 : decode m_Parish_beginAs.2.1 6 = .ok (.getfield 40, 3) := by decide +kernel
theorem d_Parish_beginAs_9 : decode m_Parish_beginAs.2.1 9 = .ok (.istore_n 3, 1) := by decide +kernel
theorem d_Parish_beginAs_10 : decode m_Parish_beginAs.2.1 10 = .ok (.aload_n 0, 1) := by decide +kernel
theorem d_Parish_beginAs_11 : decode m_Parish_beginAs.2.1 11 = .ok (.aload_n 1, 1) := by decide +kernel
theorem d_Parish_beginAs_12 : decode m_Parish_beginAs.2.1 12 = .ok (.invokevirtual 49, 3) := by decide +kernel
theorem d_Parish_beginAs_15 : decode m_Parish_beginAs.2.1 15 = .ok (.aload_n 0, 1) := by decide +kernel
theorem d_Parish_beginAs_16 : decode m_Parish_beginAs.2.1 16 = .ok (.iload_n 2, 1) := by decide +kernel
theorem d_Parish_beginAs_17 : decode m_Parish_beginAs.2.1 17 = .ok (.putfield 37, 3) := by decide +kernel
theorem d_Parish_beginAs_20 : decode m_Parish_beginAs.2.1 20 = .ok (.aload_n 0, 1) := by decide +kernel
theorem d_Parish_beginAs_21 : decode m_Parish_beginAs.2.1 21 = .ok (.iload_n 3, 1) := by decide +kernel
theorem d_Parish_beginAs_22 : decode m_Parish_beginAs.2.1 22 = .ok (.putfield 40, 3) := by decide +kernel
theorem d_Parish_beginAs_25 : decode m_Parish_beginAs.2.1 25 = .ok (.return_, 1) := by decide +kernel
def f_Parish_beginAs (S : St) (P : Nat) (Q : Nat) : Option (St) :=
    (some (S P 8)).bind fun l2_4 =>
    (some (S P 9)).bind fun l3_9 =>
    (f_Parish_copyFrom S P Q).bind fun w_12 =>
    (some (sF w_12 P 8 l2_4)).bind fun S_17 =>
    (some (sF S_17 P 9 l3_9)).bind fun S_22 =>
    some S_22
set_option maxHeartbeats 4000000 in
set_option maxRecDepth 20000 in
theorem t_Parish_beginAs  {P : Nat} {Q : Nat} (hP : isP P) (hQ : isP Q) {S : St} {w : St} (h : f_Parish_beginAs S P Q = some w) : Ct SX m_Parish_beginAs 2 [.ref P, .ref Q] S none w := by
  unfold f_Parish_beginAs at h
  refine Ct.of pn_Parish (Nat.le_of_ble_eq_true rfl) ?_
  show G SX m_Parish_beginAs 2 none w 0 [(0, .ref P), (1, .ref Q)] [] S
  refine G_aload_n 0 rfl d_Parish_beginAs_0 ?_
  refine G_getI fl_Parish_37 (kP hP) (sP hP) rfl d_Parish_beginAs_1 ?_
  obtain ⟨l2_4, e_4, h⟩ := ob_s h
  refine G_istore_n [(2, .int l2_4), (0, .ref P), (1, .ref Q)] e_4 rfl (by decide) d_Parish_beginAs_4 ?_
  refine G_aload_n 1 rfl d_Parish_beginAs_5 ?_
  refine G_getI fl_Parish_40 (kP hP) (sP hP) rfl d_Parish_beginAs_6 ?_
  obtain ⟨l3_9, e_9, h⟩ := ob_s h
  refine G_istore_n [(3, .int l3_9), (2, .int l2_4), (0, .ref P), (1, .ref Q)] e_9 rfl (by decide) d_Parish_beginAs_9 ?_
  refine G_aload_n 2 rfl d_Parish_beginAs_10 ?_
  refine G_aload_n 3 rfl d_Parish_beginAs_11 ?_
  obtain ⟨w_12, q_12, h⟩ := ob_b h
  refine G_callV [.ref Q] [] (t_Parish_copyFrom hP hQ q_12) (by decide) (by decide) mv_Parish_copyFrom rfl ml_Parish_49 (kP hP) (sP hP) cl_2 rfl (Nat.le_of_ble_eq_true rfl) d_Parish_beginAs_12 ?_
  refine G_aload_n 2 rfl d_Parish_beginAs_15 ?_
  refine G_iload_n 1 rfl d_Parish_beginAs_16 ?_
  obtain ⟨S_17, e_17, h⟩ := ob_s h
  refine G_putI e_17 fp_Parish_37 (kP hP) (sP hP) rfl d_Parish_beginAs_17 ?_
  refine G_aload_n 2 rfl d_Parish_beginAs_20 ?_
  refine G_iload_n 0 rfl d_Parish_beginAs_21 ?_
  obtain ⟨S_22, e_22, h⟩ := ob_s h
  refine G_putI e_22 fp_Parish_40 (kP hP) (sP hP) rfl d_Parish_beginAs_22 ?_
  cases h
  exact G_vret rfl d_Parish_beginAs_25
theorem d_Parish_comeBackTo_0 : decode m_Parish_comeBackTo.2.1 0 = .ok (.aload_n 0, 1) := by decide +kernel
theorem d_Parish_comeBackTo_1 : decode m_Parish_comeBackTo.2.1 1 = .ok (.getfield 31, 3) := by decide +kernel
theorem d_Parish_comeBackTo_4 : decode m_Parish_comeBackTo.2.1 4 = .ok (.aload_n 1, 1) := by decide +kernel
theorem d_Parish_comeBackTo_5 : decode m_Parish_comeBackTo.2.1 5 = .ok (.getfield 31, 3) := by decide +kernel
theorem d_Parish_comeBackTo_8 : decode m_Parish_comeBackTo.2.1 8 = .ok (.invokestatic 53, 3) := by decide +kernel
theorem d_Parish_comeBackTo_11 : decode m_Parish_comeBackTo.2.1 11 = .ok (.istore_n 2, 1) := by decide +kernel
theorem d_Parish_comeBackTo_12 : decode m_Parish_comeBackTo.2.1 12 = .ok (.iconst 0, 1) := by decide +kernel
theorem d_Parish_comeBackTo_13 : decode m_Parish_comeBackTo.2.1 13 = .ok (.istore_n 3, 1) := by decide +kernel
theorem d_Parish_comeBackTo_14 : decode m_Parish_comeBackTo.2.1 14 = .ok (.iload_n 3, 1) := by decide +kernel
theorem d_Parish_comeBackTo_15 : decode m_Parish_comeBackTo.2.1 15 = .ok (.iload_n 2, 1) := by decide +kernel
theorem d_Parish_comeBackTo_16 : decode m_Parish_comeBackTo.2.1 16 = .ok (.if_icmp .ge 39, 3) := by decide +kernel
theorem d_Parish_comeBackTo_19 : decode m_Parish_comeBackTo.2.1 19 = .ok (.iload_n 3, 1) := by decide +kernel
theorem d_Parish_comeBackTo_20 : decode m_Parish_comeBackTo.2.1 20 = .ok (.bipush 24, 2) := by decide +kernel
theorem d_Parish_comeBackTo_22 : decode m_Parish_comeBackTo.2.1 22 = .ok (.if_icmp .ge 33, 3) := by decide +kernel
theorem d_Parish_comeBackTo_25 : decode m_Parish_comeBackTo.2.1 25 = .ok (.aload_n 0, 1) := by decide +kernel
theorem d_Parish_comeBackTo_26 : decode m_Parish_comeBackTo.2.1 26 = .ok (.getfield 18, 3) := by decide +kernel
theorem d_Parish_comeBackTo_29 : decode m_Parish_comeBackTo.2.1 29 = .ok (.iload_n 3, 1) := by decide +kernel
theorem d_Parish_comeBackTo_30 : decode m_Parish_comeBackTo.2.1 30 = .ok (.aload_n 1, 1) := by decide +kernel
theorem d_Parish_comeBackTo_31 : decode m_Parish_comeBackTo.2.1 31 = .ok (.getfield 18, 3) := by decide +kernel
theorem d_Parish_comeBackTo_34 : decode m_Parish_comeBackTo.2.1 34 = .ok (.iload_n 3, 1) := by decide +kernel
theorem d_Parish_comeBackTo_35 : decode m_Parish_comeBackTo.2.1 35 = .ok (.iaload, 1) := by decide +kernel
theorem d_Parish_comeBackTo_36 : decode m_Parish_comeBackTo.2.1 36 = .ok (.iastore, 1) := by decide +kernel
theorem d_Parish_comeBackTo_37 : decode m_Parish_comeBackTo.2.1 37 = .ok (.aload_n 0, 1) := by decide +kernel
theorem d_Parish_comeBackTo_38 : decode m_Parish_comeBackTo.2.1 38 = .ok (.getfield 21, 3) := by decide +kernel
theorem d_Parish_comeBackTo_41 : decode m_Parish_comeBackTo.2.1 41 = .ok (.iload_n 3, 1) := by decide +kernel
theorem d_Parish_comeBackTo_42 : decode m_Parish_comeBackTo.2.1 42 = .ok (.aload_n 1, 1) := by decide +kernel
theorem d_Parish_comeBackTo_43 : decode m_Parish_comeBackTo.2.1 43 = .ok (.getfield 21, 3) := by decide +kernel
theorem d_Parish_comeBackTo_46 : decode m_Parish_comeBackTo.2.1 46 = .ok (.iload_n 3, 1) := by decide +kernel
theorem d_Parish_comeBackTo_47 : decode m_Parish_comeBackTo.2.1 47 = .ok (.iaload, 1) := by decide +kernel
theorem d_Parish_comeBackTo_48 : decode m_Parish_comeBackTo.2.1 48 = .ok (.iastore, 1) := by decide +kernel
theorem d_Parish_comeBackTo_49 : decode m_Parish_comeBackTo.2.1 49 = .ok (.iinc 3 1, 3) := by decide +kernel
theorem d_Parish_comeBackTo_52 : decode m_Parish_comeBackTo.2.1 52 = .ok (.goto (-38), 3) := by decide +kernel
theorem d_Parish_comeBackTo_55 : decode m_Parish_comeBackTo.2.1 55 = .ok (.iconst 1, 1) := by decide +kernel
theorem d_Parish_comeBackTo_56 : decode m_Parish_comeBackTo.2.1 56 = .ok (.iload_n 2, 1) := by decide +kernel
theorem d_Parish_comeBackTo_57 : decode m_Parish_comeBackTo.2.1 57 = .ok (.ishl, 1) := by decide +kernel
theorem d_Parish_comeBackTo_58 : decode m_Parish_comeBackTo.2.1 58 = .ok (.iconst 1, 1) := by decide +kernel
theorem d_Parish_comeBackTo_59 : decode m_Parish_comeBackTo.2.1 59 = .ok (.isub, 1) := by decide +kernel
theorem d_Parish_comeBackTo_60 : decode m_Parish_comeBackTo.2.1 60 = .ok (.istore_n 3, 1) := by decide +kernel
theorem d_Parish_comeBackTo_61 : decode m_Parish_comeBackTo.2.1 61 = .ok (.aload_n 0, 1) := by decide +kernel
theorem d_Parish_comeBackTo_62 : decode m_Parish_comeBackTo.2.1 62 = .ok (.aload_n 0, 1) := by decide +kernel
theorem d_Parish_comeBackTo_63 : decode m_Parish_comeBackTo.2.1 63 = .ok (.getfield 24, 3) := by decide +kernel
theorem d_Parish_comeBackTo_66 : decode m_Parish_comeBackTo.2.1 66 = .ok (.iload_n 3, 1) := by decide +kernel
theorem d_Parish_comeBackTo_67 : decode m_Parish_comeBackTo.2.1 67 = .ok (.iconst (-1), 1) := by decide +kernel
theorem d_Parish_comeBackTo_68 : decode m_Parish_comeBackTo.2.1 68 = .ok (.ixor, 1) := by decide +kernel
theorem d_Parish_comeBackTo_69 : decode m_Parish_comeBackTo.2.1 69 = .ok (.iand, 1) := by decide +kernel
theorem d_Parish_comeBackTo_70 : decode m_Parish_comeBackTo.2.1 70 = .ok (.aload_n 1, 1) := by decide +kernel
theorem d_Parish_comeBackTo_71 : decode m_Parish_comeBackTo.2.1 71 = .ok (.getfield 24, 3) := by decide +kernel
theorem d_Parish_comeBackTo_74 : decode m_Parish_comeBackTo.2.1 74 = .ok (.iload_n 3, 1) := by decide +kernel
theorem d_Parish_comeBackTo_75 : decode m_Parish_comeBackTo.2.1 75 = .ok (.iand, 1) := by decide +kernel
theorem d_Parish_comeBackTo_76 : decode m_Parish_comeBackTo.2.1 76 = .ok (.ior, 1) := by decide +kernel
theorem d_Parish_comeBackTo_77 : decode m_Parish_comeBackTo.2.1 77 = .ok (.putfield 24, 3) := by decide +kernel
theorem d_Parish_comeBackTo_80 : decode m_Parish_comeBackTo.2.1 80 = .ok (.aload_n 0, 1) := by decide +kernel
theorem d_Parish_comeBackTo_81 : decode m_Parish_comeBackTo.2.1 81 = .ok (.aload_n 0, 1) := by decide +kernel
theorem d_Parish_comeBackTo_82 : decode m_Parish_comeBackTo.2.1 82 = .ok (.getfield 28, 3) := by decide +kernel
theorem d_Parish_comeBackTo_85 : decode m_Parish_comeBackTo.2.1 85 = .ok (.iload_n 3, 1) := by decide +kernel
theorem d_Parish_comeBackTo_86 : decode m_Parish_comeBackTo.2.1 86 = .ok (.iconst (-1), 1) := by decide +kernel
theorem d_Parish_comeBackTo_87 : decode m_Parish_comeBackTo.2.1 87 = .ok (.ixor, 1) := by decide +kernel
theorem d_Parish_comeBackTo_88 : decode m_Parish_comeBackTo.2.1 88 = .ok (.iand, 1) := by decide +kernel
theorem d_Parish_comeBackTo_89 : decode m_Parish_comeBackTo.2.1 89 = .ok (.aload_n 1, 1) := by decide +kernel
theorem d_Parish_comeBackTo_90 : decode m_Parish_comeBackTo.2.1 90 = .ok (.getfield 28, 3) := by decide +kernel
theorem d_Parish_comeBackTo_93 : decode m_Parish_comeBackTo.2.1 93 = .ok (.iload_n 3, 1) := by decide +kernel
theorem d_Parish_comeBackTo_94 : decode m_Parish_comeBackTo.2.1 94 = .ok (.iand, 1) := by decide +kernel
theorem d_Parish_comeBackTo_95 : decode m_Parish_comeBackTo.2.1 95 = .ok (.ior, 1) := by decide +kernel
theorem d_Parish_comeBackTo_96 : decode m_Parish_comeBackTo.2.1 96 = .ok (.putfield 28, 3) := by decide +kernel
theorem d_Parish_comeBackTo_99 : decode m_Parish_comeBackTo.2.1 99 = .ok (.aload_n 0, 1) := by decide +kernel
theorem d_Parish_comeBackTo_100 : decode m_Parish_comeBackTo.2.1 100 = .ok (.aload_n 1, 1) := by decide +kernel
theorem d_Parish_comeBackTo_101 : decode m_Parish_comeBackTo.2.1 101 = .ok (.getfield 34, 3) := by decide +kernel
theorem d_Parish_comeBackTo_104 : decode m_Parish_comeBackTo.2.1 104 = .ok (.putfield 34, 3) := by decide +kernel
theorem d_Parish_comeBackTo_107 : decode m_Parish_comeBackTo.2.1 107 = .ok (.aload_n 0, 1) := by decide +kernel
theorem d_Parish_comeBackTo_108 : decode m_Parish_comeBackTo.2.1 108 = .ok (.aload_n 1, 1) := by decide +kernel
theorem d_Parish_comeBackTo_109 : decode m_Parish_comeBackTo.2.1 109 = .ok (.getfield 37, 3) := by decide +kernel
theorem d_Parish_comeBackTo_112 : decode m_Parish_comeBackTo.2.1 112 = .ok (.putfield 37, 3) := by decide +kernel
theorem d_Parish_comeBackTo_115 : decode m_Parish_comeBackTo.2.1 115 = .ok (.aload_n 0, 1) := by decide +kernel
theorem d_Parish_comeBackTo_116 : decode m_Parish_comeBackTo.2.1 116 = .ok (.aload_n 1, 1) := by decide +kernel
theorem d_Parish_comeBackTo_117 : decode m_Parish_comeBackTo.2.1 117 = .ok (.getfield 40, 3) := by decide +kernel
theorem d_Parish_comeBackTo_120 : decode m_Parish_comeBackTo.2.1 120 = .ok (.putfield 40, 3) := by decide +kernel
theorem d_Parish_comeBackTo_123 : decode m_Parish_comeBackTo.2.1 123 = .ok (.return_, 1) := by decide +kernel
def f_Parish_comeBackTo_55 (P : Nat) (Q : Nat) (S : St) (l2 : Int32) : Option (St) :=
    (some ((jshl 1 l2) - 1)).bind fun l3_60 =>
    (some (sF S P 4 (((S P 4) &&& (l3_60 ^^^ (-1))) ||| ((S Q 4) &&& l3_60)))).bind fun S_77 =>
    (some (sF S_77 P 5 (((S_77 P 5) &&& (l3_60 ^^^ (-1))) ||| ((S_77 Q 5) &&& l3_60)))).bind fun S_96 =>
    (some (sF S_96 P 7 (S_96 Q 7))).bind fun S_104 =>
    (some (sF S_104 P 8 (S_104 Q 8))).bind fun S_112 =>
    (some (sF S_112 P 9 (S_112 Q 9))).bind fun S_120 =>
    some S_120
set_option maxHeartbeats 4000000 in
set_option maxRecDepth 20000 in
theorem t_Parish_comeBackTo_55  {P : Nat} {Q : Nat} (hP : isP P) (hQ : isP Q) (S : St) (l2 : Int32) (w : St) (h : f_Parish_comeBackTo_55 P Q S l2 = some w) : G SX m_Parish_comeBackTo 2 none w 55 [(0, .ref P), (1, .ref Q), (2, .int l2)] [] S := by
  unfold f_Parish_comeBackTo_55 at h
  refine G_iconst 1 (by decide) d_Parish_comeBackTo_55 ?_
  refine G_iload_n 2 rfl d_Parish_comeBackTo_56 ?_
  refine G_ishl d_Parish_comeBackTo_57 ?_
  refine G_iconst 1 (by decide) d_Parish_comeBackTo_58 ?_
  refine G_isub d_Parish_comeBackTo_59 ?_
  obtain ⟨l3_60, e_60, h⟩ := ob_s h
  refine G_istore_n [(3, .int l3_60), (0, .ref P), (1, .ref Q), (2, .int l2)] e_60 rfl (by decide) d_Parish_comeBackTo_60 ?_
  refine G_aload_n 1 rfl d_Parish_comeBackTo_61 ?_
  refine G_aload_n 1 rfl d_Parish_comeBackTo_62 ?_
  refine G_getI fl_Parish_24 (kP hP) (sP hP) rfl d_Parish_comeBackTo_63 ?_
  refine G_iload_n 0 rfl d_Parish_comeBackTo_66 ?_
  refine G_iconst (-1) (by decide) d_Parish_comeBackTo_67 ?_
  refine G_ixor d_Parish_comeBackTo_68 ?_
  refine G_iand d_Parish_comeBackTo_69 ?_
  refine G_aload_n 2 rfl d_Parish_comeBackTo_70 ?_
  refine G_getI fl_Parish_24 (kP hQ) (sP hQ) rfl d_Parish_comeBackTo_71 ?_
  refine G_iload_n 0 rfl d_Parish_comeBackTo_74 ?_
  refine G_iand d_Parish_comeBackTo_75 ?_
  refine G_ior d_Parish_comeBackTo_76 ?_
  obtain ⟨S_77, e_77, h⟩ := ob_s h
  refine G_putI e_77 fp_Parish_24 (kP hP) (sP hP) rfl d_Parish_comeBackTo_77 ?_
  refine G_aload_n 1 rfl d_Parish_comeBackTo_80 ?_
  refine G_aload_n 1 rfl d_Parish_comeBackTo_81 ?_
  refine G_getI fl_Parish_28 (kP hP) (sP hP) rfl d_Parish_comeBackTo_82 ?_
  refine G_iload_n 0 rfl d_Parish_comeBackTo_85 ?_
  refine G_iconst (-1) (by decide) d_Parish_comeBackTo_86 ?_
  refine G_ixor d_Parish_comeBackTo_87 ?_
  refine G_iand d_Parish_comeBackTo_88 ?_
  refine G_aload_n 2 rfl d_Parish_comeBackTo_89 ?_
  refine G_getI fl_Parish_28 (kP hQ) (sP hQ) rfl d_Parish_comeBackTo_90 ?_
  refine G_iload_n 0 rfl d_Parish_comeBackTo_93 ?_
  refine G_iand d_Parish_comeBackTo_94 ?_
  refine G_ior d_Parish_comeBackTo_95 ?_
  obtain ⟨S_96, e_96, h⟩ := ob_s h
  refine G_putI e_96 fp_Parish_28 (kP hP) (sP hP) rfl d_Parish_comeBackTo_96 ?_
  refine G_aload_n 1 rfl d_Parish_comeBackTo_99 ?_
  refine G_aload_n 2 rfl d_Parish_comeBackTo_100 ?_
  refine G_getI fl_Parish_34 (kP hQ) (sP hQ) rfl d_Parish_comeBackTo_101 ?_
  obtain ⟨S_104, e_104, h⟩ := ob_s h
  refine G_putI e_104 fp_Parish_34 (kP hP) (sP hP) rfl d_Parish_comeBackTo_104 ?_
  refine G_aload_n 1 rfl d_Parish_comeBackTo_107 ?_
  refine G_aload_n 2 rfl d_Parish_comeBackTo_108 ?_
  refine G_getI fl_Parish_37 (kP hQ) (sP hQ) rfl d_Parish_comeBackTo_109 ?_
  obtain ⟨S_112, e_112, h⟩ := ob_s h
  refine G_putI e_112 fp_Parish_37 (kP hP) (sP hP) rfl d_Parish_comeBackTo_112 ?_
  refine G_aload_n 1 rfl d_Parish_comeBackTo_115 ?_
  refine G_aload_n 2 rfl d_Parish_comeBackTo_116 ?_
  refine G_getI fl_Parish_40 (kP hQ) (sP hQ) rfl d_Parish_comeBackTo_117 ?_
  obtain ⟨S_120, e_120, h⟩ := ob_s h
  refine G_putI e_120 fp_Parish_40 (kP hP) (sP hP) rfl d_Parish_comeBackTo_120 ?_
  cases h
  exact G_vret rfl d_Parish_comeBackTo_123
def f_Parish_comeBackTo_14 (P : Nat) (Q : Nat) : Nat → St → Int32 → Int32 → Option (St)
  | 0, _, _, _ => none
  | n + 1, S, l2, l3 =>
    if l2 ≤ l3 then (
    f_Parish_comeBackTo_55 P Q S l2)
    else (
    if (24 : Int32) ≤ l3 then (
    f_Parish_comeBackTo_55 P Q S l2)
    else (
    if ig l3 24 then (
    if ig l3 24 then (
    (some (sF S (P + 3) l3.toNatClampNeg (S (Q + 3) l3.toNatClampNeg))).bind fun S_36 =>
    if ig l3 24 then (
    if ig l3 24 then (
    (some (sF S_36 (P + 4) l3.toNatClampNeg (S_36 (Q + 4) l3.toNatClampNeg))).bind fun S_48 =>
    (some (l3 + 1)).bind fun l3_49 =>
    f_Parish_comeBackTo_14 P Q n S_48 l2 l3_49) else none) else none) else none) else none))
set_option maxHeartbeats 4000000 in
set_option maxRecDepth 20000 in
theorem t_Parish_comeBackTo_14  {P : Nat} {Q : Nat} (hP : isP P) (hQ : isP Q) : ∀ (n : Nat) (S : St) (l2 : Int32) (l3 : Int32) (w : St), f_Parish_comeBackTo_14 P Q n S l2 l3 = some w → G SX m_Parish_comeBackTo 2 none w 14 [(0, .ref P), (1, .ref Q), (2, .int l2), (3, .int l3)] [] S := by
  intro n
  induction n with
  | zero =>
    intro S l2 l3 w h
    rw [f_Parish_comeBackTo_14] at h
    cases h
  | succ n ih =>
    intro S l2 l3 w h
    rw [f_Parish_comeBackTo_14] at h
    refine G_iload_n 3 rfl d_Parish_comeBackTo_14 ?_
    refine G_iload_n 2 rfl d_Parish_comeBackTo_15 ?_
    refine G_icmp_ge 55 (by decide) d_Parish_comeBackTo_16 (fun c_16 => ?_) (fun c_16 => ?_)
    · replace h := ob_t h c_16
      exact G_sub _ [0, 1, 2] rfl (t_Parish_comeBackTo_55 hP hQ S l2 _ h)
    · replace h := ob_f h c_16
      refine G_iload_n 3 rfl d_Parish_comeBackTo_19 ?_
      refine G_bipush 24 (by decide) d_Parish_comeBackTo_20 ?_
      refine G_icmp_ge 55 (by decide) d_Parish_comeBackTo_22 (fun c_22 => ?_) (fun c_22 => ?_)
      · replace h := ob_t h c_22
        exact G_sub _ [0, 1, 2] rfl (t_Parish_comeBackTo_55 hP hQ S l2 _ h)
      · replace h := ob_f h c_22
        refine G_aload_n 0 rfl d_Parish_comeBackTo_25 ?_
        refine G_getR fl_Parish_18 (kP hP) (sP hP) rfl (qP3 hP) d_Parish_comeBackTo_26 ?_
        refine G_iload_n 3 rfl d_Parish_comeBackTo_29 ?_
        refine G_aload_n 1 rfl d_Parish_comeBackTo_30 ?_
        refine G_getR fl_Parish_18 (kP hQ) (sP hQ) rfl (qP3 hQ) d_Parish_comeBackTo_31 ?_
        refine G_iload_n 3 rfl d_Parish_comeBackTo_34 ?_
        obtain ⟨g_35, h⟩ := ob_g h
        refine G_iaload (kPa3 hQ) (sPa3 hQ) g_35 d_Parish_comeBackTo_35 ?_
        obtain ⟨g_36, h⟩ := ob_g h
        obtain ⟨S_36, e_36, h⟩ := ob_s h
        refine G_iastore e_36 (kPa3 hP) (sPa3 hP) g_36 d_Parish_comeBackTo_36 ?_
        refine G_aload_n 0 rfl d_Parish_comeBackTo_37 ?_
        refine G_getR fl_Parish_21 (kP hP) (sP hP) rfl (qP4 hP) d_Parish_comeBackTo_38 ?_
        refine G_iload_n 3 rfl d_Parish_comeBackTo_41 ?_
        refine G_aload_n 1 rfl d_Parish_comeBackTo_42 ?_
        refine G_getR fl_Parish_21 (kP hQ) (sP hQ) rfl (qP4 hQ) d_Parish_comeBackTo_43 ?_
        refine G_iload_n 3 rfl d_Parish_comeBackTo_46 ?_
        obtain ⟨g_47, h⟩ := ob_g h
        refine G_iaload (kPa4 hQ) (sPa4 hQ) g_47 d_Parish_comeBackTo_47 ?_
        obtain ⟨g_48, h⟩ := ob_g h
        obtain ⟨S_48, e_48, h⟩ := ob_s h
        refine G_iastore e_48 (kPa4 hP) (sPa4 hP) g_48 d_Parish_comeBackTo_48 ?_
        obtain ⟨l3_49, e_49, h⟩ := ob_s h
        refine G_iinc 1 3 [(3, .int l3_49), (0, .ref P), (1, .ref Q), (2, .int l2)] (by decide) rfl e_49 rfl (by decide) d_Parish_comeBackTo_49 ?_
        refine G_goto 14 (by decide) d_Parish_comeBackTo_52 ?_
        exact G_sub _ [1, 2, 3, 0] rfl (ih S_48 l2 l3_49 _ h)
def f_Parish_comeBackTo (S : St) (P : Nat) (Q : Nat) : Option (St) :=
    (some (jmin (S P 6) (S Q 6))).bind fun l2_11 =>
    (some (0 : Int32)).bind fun l3_13 =>
    f_Parish_comeBackTo_14 P Q FU S l2_11 l3_13
set_option maxHeartbeats 4000000 in
set_option maxRecDepth 20000 in
theorem t_Parish_comeBackTo  {P : Nat} {Q : Nat} (hP : isP P) (hQ : isP Q) {S : St} {w : St} (h : f_Parish_comeBackTo S P Q = some w) : Ct SX m_Parish_comeBackTo 2 [.ref P, .ref Q] S none w := by
  unfold f_Parish_comeBackTo at h
  refine Ct.of pn_Parish (Nat.le_of_ble_eq_true rfl) ?_
  show G SX m_Parish_comeBackTo 2 none w 0 [(0, .ref P), (1, .ref Q)] [] S
  refine G_aload_n 0 rfl d_Parish_comeBackTo_0 ?_
  refine G_getI fl_Parish_31 (kP hP) (sP hP) rfl d_Parish_comeBackTo_1 ?_
  refine G_aload_n 1 rfl d_Parish_comeBackTo_4 ?_
  refine G_getI fl_Parish_31 (kP hQ) (sP hQ) rfl d_Parish_comeBackTo_5 ?_
  refine G_mmin ms_Parish_53 (by decide) (Nat.le_of_ble_eq_true rfl) d_Parish_comeBackTo_8 ?_
  obtain ⟨l2_11, e_11, h⟩ := ob_s h
  refine G_istore_n [(2, .int l2_11), (0, .ref P), (1, .ref Q)] e_11 rfl (by decide) d_Parish_comeBackTo_11 ?_
  refine G_iconst 0 (by decide) d_Parish_comeBackTo_12 ?_
  obtain ⟨l3_13, e_13, h⟩ := ob_s h
  refine G_istore_n [(3, .int l3_13), (2, .int l2_11), (0, .ref P), (1, .ref Q)] e_13 rfl (by decide) d_Parish_comeBackTo_13 ?_
  exact G_sub _ [2, 3, 1, 0] rfl (t_Parish_comeBackTo_14 hP hQ FU S l2_11 l3_13 _ h)
theorem d_Parish_draw_0 : decode m_Parish_draw.2.1 0 = .ok (.aload_n 0, 1) := by decide +kernel
theorem d_Parish_draw_1 : decode m_Parish_draw.2.1 1 = .ok (.sipush 25173, 3) := by decide +kernel
theorem d_Parish_draw_4 : decode m_Parish_draw.2.1 4 = .ok (.aload_n 0, 1) := by decide +kernel
theorem d_Parish_draw_5 : decode m_Parish_draw.2.1 5 = .ok (.getfield 40, 3) := by decide +kernel
theorem d_Parish_draw_8 : decode m_Parish_draw.2.1 8 = .ok (.imul, 1) := by decide +kernel
theorem d_Parish_draw_9 : decode m_Parish_draw.2.1 9 = .ok (.sipush 13849, 3) := by decide +kernel
theorem d_Parish_draw_12 : decode m_Parish_draw.2.1 12 = .ok (.iadd, 1) := by decide +kernel
theorem d_Parish_draw_13 : decode m_Parish_draw.2.1 13 = .ok (.ldc 59, 2) := by decide +kernel
theorem d_Parish_draw_15 : decode m_Parish_draw.2.1 15 = .ok (.iand, 1) := by decide +kernel
theorem d_Parish_draw_16 : decode m_Parish_draw.2.1 16 = .ok (.putfield 40, 3) := by decide +kernel
theorem d_Parish_draw_19 : decode m_Parish_draw.2.1 19 = .ok (.aload_n 0, 1) := by decide +kernel
theorem d_Parish_draw_20 : decode m_Parish_draw.2.1 20 = .ok (.getfield 40, 3) := by decide +kernel
theorem d_Parish_draw_23 : decode m_Parish_draw.2.1 23 = .ok (.bipush 10, 2) := by decide +kernel
theorem d_Parish_draw_25 : decode m_Parish_draw.2.1 25 = .ok (.irem, 1) := by decide +kernel
theorem d_Parish_draw_26 : decode m_Parish_draw.2.1 26 = .ok (.ireturn, 1) := by decide +kernel
def f_Parish_draw (S : St) (P : Nat) : Option (Int32 × St) :=
    (some (sF S P 9 (((25173 * (S P 9)) + 13849) &&& 65535))).bind fun S_16 =>
    some ((jrem (S_16 P 9) 10), S_16)
set_option maxHeartbeats 4000000 in
set_option maxRecDepth 20000 in
theorem t_Parish_draw  {P : Nat} (hP : isP P) {S : St} {w : Int32 × St} (h : f_Parish_draw S P = some w) : Ct SX m_Parish_draw 1 [.ref P] S (some w.1) w.2 := by
  unfold f_Parish_draw at h
  refine Ct.of pn_Parish (Nat.le_of_ble_eq_true rfl) ?_
  show G SX m_Parish_draw 1 (some w.1) w.2 0 [(0, .ref P)] [] S
  refine G_aload_n 0 rfl d_Parish_draw_0 ?_
  refine G_sipush 25173 (by decide) d_Parish_draw_1 ?_
  refine G_aload_n 0 rfl d_Parish_draw_4 ?_
  refine G_getI fl_Parish_40 (kP hP) (sP hP) rfl d_Parish_draw_5 ?_
  refine G_imul d_Parish_draw_8 ?_
  refine G_sipush 13849 (by decide) d_Parish_draw_9 ?_
  refine G_iadd d_Parish_draw_12 ?_
  refine G_ldc c_Parish_59 d_Parish_draw_13 ?_
  refine G_iand d_Parish_draw_15 ?_
  obtain ⟨S_16, e_16, h⟩ := ob_s h
  refine G_putI e_16 fp_Parish_40 (kP hP) (sP hP) rfl d_Parish_draw_16 ?_
  refine G_aload_n 0 rfl d_Parish_draw_19 ?_
  refine G_getI fl_Parish_40 (kP hP) (sP hP) rfl d_Parish_draw_20 ?_
  refine G_bipush 10 (by decide) d_Parish_draw_23 ?_
  refine G_irem (by decide) d_Parish_draw_25 ?_
  cases h
  exact G_iret rfl d_Parish_draw_26
theorem d_Parish_isFree_0 : decode m_Parish_isFree.2.1 0 = .ok (.aload_n 0, 1) := by decide +kernel
theorem d_Parish_isFree_1 : decode m_Parish_isFree.2.1 1 = .ok (.aload_n 0, 1) := by decide +kernel
theorem d_Parish_isFree_2 : decode m_Parish_isFree.2.1 2 = .ok (.getfield 15, 3) := by decide +kernel
theorem d_Parish_isFree_5 : decode m_Parish_isFree.2.1 5 = .ok (.iload_n 1, 1) := by decide +kernel
theorem d_Parish_isFree_6 : decode m_Parish_isFree.2.1 6 = .ok (.iaload, 1) := by decide +kernel
theorem d_Parish_isFree_7 : decode m_Parish_isFree.2.1 7 = .ok (.invokevirtual 60, 3) := by decide +kernel
theorem d_Parish_isFree_10 : decode m_Parish_isFree.2.1 10 = .ok (.ifCond .eq 16, 3) := by decide +kernel
theorem d_Parish_isFree_13 : decode m_Parish_isFree.2.1 13 = .ok (.aload_n 0, 1) := by decide +kernel
theorem d_Parish_isFree_14 : decode m_Parish_isFree.2.1 14 = .ok (.aload_n 0, 1) := by decide +kernel
theorem d_Parish_isFree_15 : decode m_Parish_isFree.2.1 15 = .ok (.getfield 15, 3) := by decide +kernel
theorem d_Parish_isFree_18 : decode m_Parish_isFree.2.1 18 = .ok (.iload_n 1, 1) := by decide +kernel
theorem d_Parish_isFree_19 : decode m_Parish_isFree.2.1 19 = .ok (.iaload, 1) := by decide +kernel
theorem d_Parish_isFree_20 : decode m_Parish_isFree.2.1 20 = .ok (.invokevirtual 64, 3) := by decide +kernel
theorem d_Parish_isFree_23 : decode m_Parish_isFree.2.1 23 = .ok (.ifCond .eq 7, 3) := by decide +kernel
theorem d_Parish_isFree_26 : decode m_Parish_isFree.2.1 26 = .ok (.iconst 1, 1) := by decide +kernel
theorem d_Parish_isFree_27 : decode m_Parish_isFree.2.1 27 = .ok (.goto 4, 3) := by decide +kernel
theorem d_Parish_isFree_30 : decode m_Parish_isFree.2.1 30 = .ok (.iconst 0, 1) := by decide +kernel
theorem d_Parish_isFree_31 : decode m_Parish_isFree.2.1 31 = .ok (.ireturn, 1) := by decide +kernel
def f_Parish_isFree (S : St) (P : Nat) (l1 : Int32) : Option (Int32) :=
    if ig l1 24 then (
    (f_Parish_has S P (S (P + 2) l1.toNatClampNeg)).bind fun v_7 =>
    if v_7 = 0 then (
    some (1 : Int32))
    else (
    if ig l1 24 then (
    (f_Parish_isDone S P (S (P + 2) l1.toNatClampNeg)).bind fun v_20 =>
    if v_20 = 0 then (
    some (0 : Int32))
    else (
    some (1 : Int32))) else none)) else none
set_option maxHeartbeats 4000000 in
set_option maxRecDepth 20000 in
theorem t_Parish_isFree  {P : Nat} (hP : isP P) {S : St} {l1 : Int32} {w : Int32} (h : f_Parish_isFree S P l1 = some w) : Ct SX m_Parish_isFree 2 [.ref P, .int l1] S (some w) S := by
  unfold f_Parish_isFree at h
  refine Ct.of pn_Parish (Nat.le_of_ble_eq_true rfl) ?_
  show G SX m_Parish_isFree 2 (some w) S 0 [(0, .ref P), (1, .int l1)] [] S
  refine G_aload_n 0 rfl d_Parish_isFree_0 ?_
  refine G_aload_n 0 rfl d_Parish_isFree_1 ?_
  refine G_getR fl_Parish_15 (kP hP) (sP hP) rfl (qP2 hP) d_Parish_isFree_2 ?_
  refine G_iload_n 1 rfl d_Parish_isFree_5 ?_
  obtain ⟨g_6, h⟩ := ob_g h
  refine G_iaload (kPa2 hP) (sPa2 hP) g_6 d_Parish_isFree_6 ?_
  obtain ⟨v_7, q_7, h⟩ := ob_b h
  refine G_callV [.int (S (P + 2) l1.toNatClampNeg)] [] (t_Parish_has hP q_7) (by decide) (by decide) mv_Parish_has rfl ml_Parish_60 (kP hP) (sP hP) cl_2 rfl (Nat.le_of_ble_eq_true rfl) d_Parish_isFree_7 ?_
  refine G_if_eq 26 (by decide) d_Parish_isFree_10 (fun c_10 => ?_) (fun c_10 => ?_)
  · replace h := ob_t h c_10
    refine G_iconst 1 (by decide) d_Parish_isFree_26 ?_
    refine G_goto 31 (by decide) d_Parish_isFree_27 ?_
    cases h
    exact G_zret (Or.inr rfl) rfl d_Parish_isFree_31
  · replace h := ob_f h c_10
    refine G_aload_n 0 rfl d_Parish_isFree_13 ?_
    refine G_aload_n 0 rfl d_Parish_isFree_14 ?_
    refine G_getR fl_Parish_15 (kP hP) (sP hP) rfl (qP2 hP) d_Parish_isFree_15 ?_
    refine G_iload_n 1 rfl d_Parish_isFree_18 ?_
    obtain ⟨g_19, h⟩ := ob_g h
    refine G_iaload (kPa2 hP) (sPa2 hP) g_19 d_Parish_isFree_19 ?_
    obtain ⟨v_20, q_20, h⟩ := ob_b h
    refine G_callV [.int (S (P + 2) l1.toNatClampNeg)] [] (t_Parish_isDone hP q_20) (by decide) (by decide) mv_Parish_isDone rfl ml_Parish_64 (kP hP) (sP hP) cl_2 rfl (Nat.le_of_ble_eq_true rfl) d_Parish_isFree_20 ?_
    refine G_if_eq 30 (by decide) d_Parish_isFree_23 (fun c_23 => ?_) (fun c_23 => ?_)
    · replace h := ob_t h c_23
      refine G_iconst 0 (by decide) d_Parish_isFree_30 ?_
      cases h
      exact G_zret (Or.inl rfl) rfl d_Parish_isFree_31
    · replace h := ob_f h c_23
      refine G_iconst 1 (by decide) d_Parish_isFree_26 ?_
      refine G_goto 31 (by decide) d_Parish_isFree_27 ?_
      cases h
      exact G_zret (Or.inr rfl) rfl d_Parish_isFree_31
theorem d_Parish_burn_0 : decode m_Parish_burn.2.1 0 = .ok (.aload_n 0, 1) := by decide +kernel
theorem d_Parish_burn_1 : decode m_Parish_burn.2.1 1 = .ok (.getfield 18, 3) := by decide +kernel
theorem d_Parish_burn_4 : decode m_Parish_burn.2.1 4 = .ok (.iload_n 1, 1) := by decide +kernel
theorem d_Parish_burn_5 : decode m_Parish_burn.2.1 5 = .ok (.iconst 0, 1) := by decide +kernel
theorem d_Parish_burn_6 : decode m_Parish_burn.2.1 6 = .ok (.aload_n 0, 1) := by decide +kernel
theorem d_Parish_burn_7 : decode m_Parish_burn.2.1 7 = .ok (.getfield 18, 3) := by decide +kernel
theorem d_Parish_burn_10 : decode m_Parish_burn.2.1 10 = .ok (.iload_n 1, 1) := by decide +kernel
theorem d_Parish_burn_11 : decode m_Parish_burn.2.1 11 = .ok (.iaload, 1) := by decide +kernel
theorem d_Parish_burn_12 : decode m_Parish_burn.2.1 12 = .ok (.iload_n 2, 1) := by decide +kernel
theorem d_Parish_burn_13 : decode m_Parish_burn.2.1 13 = .ok (.isub, 1) := by decide +kernel
theorem d_Parish_burn_14 : decode m_Parish_burn.2.1 14 = .ok (.invokestatic 67, 3) := by decide +kernel
theorem d_Parish_burn_17 : decode m_Parish_burn.2.1 17 = .ok (.iastore, 1) := by decide +kernel
theorem d_Parish_burn_18 : decode m_Parish_burn.2.1 18 = .ok (.aload_n 0, 1) := by decide +kernel
theorem d_Parish_burn_19 : decode m_Parish_burn.2.1 19 = .ok (.getfield 18, 3) := by decide +kernel
theorem d_Parish_burn_22 : decode m_Parish_burn.2.1 22 = .ok (.iload_n 1, 1) := by decide +kernel
theorem d_Parish_burn_23 : decode m_Parish_burn.2.1 23 = .ok (.iaload, 1) := by decide +kernel
theorem d_Parish_burn_24 : decode m_Parish_burn.2.1 24 = .ok (.ifCond .ne 9, 3) := by decide +kernel
theorem d_Parish_burn_27 : decode m_Parish_burn.2.1 27 = .ok (.aload_n 0, 1) := by decide +kernel
theorem d_Parish_burn_28 : decode m_Parish_burn.2.1 28 = .ok (.iload_n 1, 1) := by decide +kernel
theorem d_Parish_burn_29 : decode m_Parish_burn.2.1 29 = .ok (.iconst 0, 1) := by decide +kernel
theorem d_Parish_burn_30 : decode m_Parish_burn.2.1 30 = .ok (.invokevirtual 70, 3) := by decide +kernel
theorem d_Parish_burn_33 : decode m_Parish_burn.2.1 33 = .ok (.return_, 1) := by decide +kernel
def f_Parish_burn (S : St) (P : Nat) (l1 : Int32) (l2 : Int32) : Option (St) :=
    if ig l1 24 then (
    if ig l1 24 then (
    (some (sF S (P + 3) l1.toNatClampNeg (jmax (0 : Int32) ((S (P + 3) l1.toNatClampNeg) - l2)))).bind fun S_17 =>
    if ig l1 24 then (
    if (S_17 (P + 3) l1.toNatClampNeg) = 0 then (
    (f_Parish_putLight S_17 P l1 (0 : Int32)).bind fun w_30 =>
    some w_30)
    else (
    some S_17)) else none) else none) else none
set_option maxHeartbeats 4000000 in
set_option maxRecDepth 20000 in
theorem t_Parish_burn  {P : Nat} (hP : isP P) {S : St} {l1 : Int32} {l2 : Int32} {w : St} (h : f_Parish_burn S P l1 l2 = some w) : Ct SX m_Parish_burn 2 [.ref P, .int l1, .int l2] S none w := by
  unfold f_Parish_burn at h
  refine Ct.of pn_Parish (Nat.le_of_ble_eq_true rfl) ?_
  show G SX m_Parish_burn 2 none w 0 [(0, .ref P), (1, .int l1), (2, .int l2)] [] S
  refine G_aload_n 0 rfl d_Parish_burn_0 ?_
  refine G_getR fl_Parish_18 (kP hP) (sP hP) rfl (qP3 hP) d_Parish_burn_1 ?_
  refine G_iload_n 1 rfl d_Parish_burn_4 ?_
  refine G_iconst 0 (by decide) d_Parish_burn_5 ?_
  refine G_aload_n 0 rfl d_Parish_burn_6 ?_
  refine G_getR fl_Parish_18 (kP hP) (sP hP) rfl (qP3 hP) d_Parish_burn_7 ?_
  refine G_iload_n 1 rfl d_Parish_burn_10 ?_
  obtain ⟨g_11, h⟩ := ob_g h
  refine G_iaload (kPa3 hP) (sPa3 hP) g_11 d_Parish_burn_11 ?_
  refine G_iload_n 2 rfl d_Parish_burn_12 ?_
  refine G_isub d_Parish_burn_13 ?_
  refine G_mmax ms_Parish_67 (by decide) (Nat.le_of_ble_eq_true rfl) d_Parish_burn_14 ?_
  obtain ⟨g_17, h⟩ := ob_g h
  obtain ⟨S_17, e_17, h⟩ := ob_s h
  refine G_iastore e_17 (kPa3 hP) (sPa3 hP) g_17 d_Parish_burn_17 ?_
  refine G_aload_n 0 rfl d_Parish_burn_18 ?_
  refine G_getR fl_Parish_18 (kP hP) (sP hP) rfl (qP3 hP) d_Parish_burn_19 ?_
  refine G_iload_n 1 rfl d_Parish_burn_22 ?_
  obtain ⟨g_23, h⟩ := ob_g h
  refine G_iaload (kPa3 hP) (sPa3 hP) g_23 d_Parish_burn_23 ?_
  refine G_if_ne 33 (by decide) d_Parish_burn_24 (fun c_24 => ?_) (fun c_24 => ?_)
  · replace h := ob_f h c_24
    cases h
    exact G_vret rfl d_Parish_burn_33
  · replace h := ob_t h c_24
    refine G_aload_n 0 rfl d_Parish_burn_27 ?_
    refine G_iload_n 1 rfl d_Parish_burn_28 ?_
    refine G_iconst 0 (by decide) d_Parish_burn_29 ?_
    obtain ⟨w_30, q_30, h⟩ := ob_b h
    refine G_callV [.int l1, .int 0] [] (t_Parish_putLight hP q_30) (by decide) (by decide) mv_Parish_putLight rfl ml_Parish_70 (kP hP) (sP hP) cl_2 rfl (Nat.le_of_ble_eq_true rfl) d_Parish_burn_30 ?_
    cases h
    exact G_vret rfl d_Parish_burn_33
theorem d_Parish_finish_0 : decode m_Parish_finish.2.1 0 = .ok (.aload_n 0, 1) := by decide +kernel
theorem d_Parish_finish_1 : decode m_Parish_finish.2.1 1 = .ok (.dup, 1) := by decide +kernel
theorem d_Parish_finish_2 : decode m_Parish_finish.2.1 2 = .ok (.getfield 28, 3) := by decide +kernel
theorem d_Parish_finish_5 : decode m_Parish_finish.2.1 5 = .ok (.iconst 1, 1) := by decide +kernel
theorem d_Parish_finish_6 : decode m_Parish_finish.2.1 6 = .ok (.iload_n 1, 1) := by decide +kernel
theorem d_Parish_finish_7 : decode m_Parish_finish.2.1 7 = .ok (.ishl, 1) := by decide +kernel
theorem d_Parish_finish_8 : decode m_Parish_finish.2.1 8 = .ok (.ior, 1) := by decide +kernel
theorem d_Parish_finish_9 : decode m_Parish_finish.2.1 9 = .ok (.putfield 28, 3) := by decide +kernel
theorem d_Parish_finish_12 : decode m_Parish_finish.2.1 12 = .ok (.aload_n 0, 1) := by decide +kernel
theorem d_Parish_finish_13 : decode m_Parish_finish.2.1 13 = .ok (.iload_n 1, 1) := by decide +kernel
theorem d_Parish_finish_14 : decode m_Parish_finish.2.1 14 = .ok (.invokevirtual 74, 3) := by decide +kernel
theorem d_Parish_finish_17 : decode m_Parish_finish.2.1 17 = .ok (.ifCond .eq 19, 3) := by decide +kernel
theorem d_Parish_finish_20 : decode m_Parish_finish.2.1 20 = .ok (.aload_n 0, 1) := by decide +kernel
theorem d_Parish_finish_21 : decode m_Parish_finish.2.1 21 = .ok (.dup, 1) := by decide +kernel
theorem d_Parish_finish_22 : decode m_Parish_finish.2.1 22 = .ok (.getfield 34, 3) := by decide +kernel
theorem d_Parish_finish_25 : decode m_Parish_finish.2.1 25 = .ok (.iconst 1, 1) := by decide +kernel
theorem d_Parish_finish_26 : decode m_Parish_finish.2.1 26 = .ok (.iadd, 1) := by decide +kernel
theorem d_Parish_finish_27 : decode m_Parish_finish.2.1 27 = .ok (.putfield 34, 3) := by decide +kernel
theorem d_Parish_finish_30 : decode m_Parish_finish.2.1 30 = .ok (.aload_n 0, 1) := by decide +kernel
theorem d_Parish_finish_31 : decode m_Parish_finish.2.1 31 = .ok (.iload_n 1, 1) := by decide +kernel
theorem d_Parish_finish_32 : decode m_Parish_finish.2.1 32 = .ok (.iconst 0, 1) := by decide +kernel
theorem d_Parish_finish_33 : decode m_Parish_finish.2.1 33 = .ok (.invokevirtual 70, 3) := by decide +kernel
theorem d_Parish_finish_36 : decode m_Parish_finish.2.1 36 = .ok (.return_, 1) := by decide +kernel
def f_Parish_finish (S : St) (P : Nat) (l1 : Int32) : Option (St) :=
    (some (sF S P 5 ((S P 5) ||| (jshl 1 l1)))).bind fun S_9 =>
    (f_Parish_isLit S_9 P l1).bind fun v_14 =>
    if v_14 = 0 then (
    some S_9)
    else (
    (some (sF S_9 P 7 ((S_9 P 7) + 1))).bind fun S_27 =>
    (f_Parish_putLight S_27 P l1 (0 : Int32)).bind fun w_33 =>
    some w_33)
set_option maxHeartbeats 4000000 in
set_option maxRecDepth 20000 in
theorem t_Parish_finish  {P : Nat} (hP : isP P) {S : St} {l1 : Int32} {w : St} (h : f_Parish_finish S P l1 = some w) : Ct SX m_Parish_finish 2 [.ref P, .int l1] S none w := by
  unfold f_Parish_finish at h
  refine Ct.of pn_Parish (Nat.le_of_ble_eq_true rfl) ?_
  show G SX m_Parish_finish 2 none w 0 [(0, .ref P), (1, .int l1)] [] S
  refine G_aload_n 0 rfl d_Parish_finish_0 ?_
  refine G_dup rfl d_Parish_finish_1 ?_
  refine G_getI fl_Parish_28 (kP hP) (sP hP) rfl d_Parish_finish_2 ?_
  refine G_iconst 1 (by decide) d_Parish_finish_5 ?_
  refine G_iload_n 1 rfl d_Parish_finish_6 ?_
  refine G_ishl d_Parish_finish_7 ?_
  refine G_ior d_Parish_finish_8 ?_
  obtain ⟨S_9, e_9, h⟩ := ob_s h
  refine G_putI e_9 fp_Parish_28 (kP hP) (sP hP) rfl d_Parish_finish_9 ?_
  refine G_aload_n 0 rfl d_Parish_finish_12 ?_
  refine G_iload_n 1 rfl d_Parish_finish_13 ?_
  obtain ⟨v_14, q_14, h⟩ := ob_b h
  refine G_callV [.int l1] [] (t_Parish_isLit hP q_14) (by decide) (by decide) mv_Parish_isLit rfl ml_Parish_74 (kP hP) (sP hP) cl_2 rfl (Nat.le_of_ble_eq_true rfl) d_Parish_finish_14 ?_
  refine G_if_eq 36 (by decide) d_Parish_finish_17 (fun c_17 => ?_) (fun c_17 => ?_)
  · replace h := ob_t h c_17
    cases h
    exact G_vret rfl d_Parish_finish_36
  · replace h := ob_f h c_17
    refine G_aload_n 0 rfl d_Parish_finish_20 ?_
    refine G_dup rfl d_Parish_finish_21 ?_
    refine G_getI fl_Parish_34 (kP hP) (sP hP) rfl d_Parish_finish_22 ?_
    refine G_iconst 1 (by decide) d_Parish_finish_25 ?_
    refine G_iadd d_Parish_finish_26 ?_
    obtain ⟨S_27, e_27, h⟩ := ob_s h
    refine G_putI e_27 fp_Parish_34 (kP hP) (sP hP) rfl d_Parish_finish_27 ?_
    refine G_aload_n 0 rfl d_Parish_finish_30 ?_
    refine G_iload_n 1 rfl d_Parish_finish_31 ?_
    refine G_iconst 0 (by decide) d_Parish_finish_32 ?_
    obtain ⟨w_33, q_33, h⟩ := ob_b h
    refine G_callV [.int l1, .int 0] [] (t_Parish_putLight hP q_33) (by decide) (by decide) mv_Parish_putLight rfl ml_Parish_70 (kP hP) (sP hP) cl_2 rfl (Nat.le_of_ble_eq_true rfl) d_Parish_finish_33 ?_
    cases h
    exact G_vret rfl d_Parish_finish_36
theorem d_Parish_putItOff_0 : decode m_Parish_putItOff.2.1 0 = .ok (.aload_n 0, 1) := by decide +kernel
theorem d_Parish_putItOff_1 : decode m_Parish_putItOff.2.1 1 = .ok (.getfield 21, 3) := by decide +kernel
theorem d_Parish_putItOff_4 : decode m_Parish_putItOff.2.1 4 = .ok (.iload_n 1, 1) := by decide +kernel
theorem d_Parish_putItOff_5 : decode m_Parish_putItOff.2.1 5 = .ok (.sipush 9999, 3) := by decide +kernel
theorem d_Parish_putItOff_8 : decode m_Parish_putItOff.2.1 8 = .ok (.aload_n 0, 1) := by decide +kernel
theorem d_Parish_putItOff_9 : decode m_Parish_putItOff.2.1 9 = .ok (.getfield 21, 3) := by decide +kernel
theorem d_Parish_putItOff_12 : decode m_Parish_putItOff.2.1 12 = .ok (.iload_n 1, 1) := by decide +kernel
theorem d_Parish_putItOff_13 : decode m_Parish_putItOff.2.1 13 = .ok (.iaload, 1) := by decide +kernel
theorem d_Parish_putItOff_14 : decode m_Parish_putItOff.2.1 14 = .ok (.iconst 1, 1) := by decide +kernel
theorem d_Parish_putItOff_15 : decode m_Parish_putItOff.2.1 15 = .ok (.iadd, 1) := by decide +kernel
theorem d_Parish_putItOff_16 : decode m_Parish_putItOff.2.1 16 = .ok (.invokestatic 53, 3) := by decide +kernel
theorem d_Parish_putItOff_19 : decode m_Parish_putItOff.2.1 19 = .ok (.iastore, 1) := by decide +kernel
theorem d_Parish_putItOff_20 : decode m_Parish_putItOff.2.1 20 = .ok (.aload_n 0, 1) := by decide +kernel
theorem d_Parish_putItOff_21 : decode m_Parish_putItOff.2.1 21 = .ok (.iload_n 1, 1) := by decide +kernel
theorem d_Parish_putItOff_22 : decode m_Parish_putItOff.2.1 22 = .ok (.invokevirtual 74, 3) := by decide +kernel
theorem d_Parish_putItOff_25 : decode m_Parish_putItOff.2.1 25 = .ok (.ifCond .ne 23, 3) := by decide +kernel
theorem d_Parish_putItOff_28 : decode m_Parish_putItOff.2.1 28 = .ok (.aload_n 0, 1) := by decide +kernel
theorem d_Parish_putItOff_29 : decode m_Parish_putItOff.2.1 29 = .ok (.getfield 18, 3) := by decide +kernel
theorem d_Parish_putItOff_32 : decode m_Parish_putItOff.2.1 32 = .ok (.iload_n 1, 1) := by decide +kernel
theorem d_Parish_putItOff_33 : decode m_Parish_putItOff.2.1 33 = .ok (.sipush 999, 3) := by decide +kernel
theorem d_Parish_putItOff_36 : decode m_Parish_putItOff.2.1 36 = .ok (.aload_n 0, 1) := by decide +kernel
theorem d_Parish_putItOff_37 : decode m_Parish_putItOff.2.1 37 = .ok (.getfield 18, 3) := by decide +kernel
theorem d_Parish_putItOff_40 : decode m_Parish_putItOff.2.1 40 = .ok (.iload_n 1, 1) := by decide +kernel
theorem d_Parish_putItOff_41 : decode m_Parish_putItOff.2.1 41 = .ok (.iaload, 1) := by decide +kernel
theorem d_Parish_putItOff_42 : decode m_Parish_putItOff.2.1 42 = .ok (.iconst 1, 1) := by decide +kernel
theorem d_Parish_putItOff_43 : decode m_Parish_putItOff.2.1 43 = .ok (.iadd, 1) := by decide +kernel
theorem d_Parish_putItOff_44 : decode m_Parish_putItOff.2.1 44 = .ok (.invokestatic 53, 3) := by decide +kernel
theorem d_Parish_putItOff_47 : decode m_Parish_putItOff.2.1 47 = .ok (.iastore, 1) := by decide +kernel
theorem d_Parish_putItOff_48 : decode m_Parish_putItOff.2.1 48 = .ok (.return_, 1) := by decide +kernel
def f_Parish_putItOff (S : St) (P : Nat) (l1 : Int32) : Option (St) :=
    if ig l1 24 then (
    if ig l1 24 then (
    (some (sF S (P + 4) l1.toNatClampNeg (jmin (9999 : Int32) ((S (P + 4) l1.toNatClampNeg) + 1)))).bind fun S_19 =>
    (f_Parish_isLit S_19 P l1).bind fun v_22 =>
    if v_22 = 0 then (
    if ig l1 24 then (
    if ig l1 24 then (
    (some (sF S_19 (P + 3) l1.toNatClampNeg (jmin (999 : Int32) ((S_19 (P + 3) l1.toNatClampNeg) + 1)))).bind fun S_47 =>
    some S_47) else none) else none)
    else (
    some S_19)) else none) else none
set_option maxHeartbeats 4000000 in
set_option maxRecDepth 20000 in
theorem t_Parish_putItOff  {P : Nat} (hP : isP P) {S : St} {l1 : Int32} {w : St} (h : f_Parish_putItOff S P l1 = some w) : Ct SX m_Parish_putItOff 2 [.ref P, .int l1] S none w := by
  unfold f_Parish_putItOff at h
  refine Ct.of pn_Parish (Nat.le_of_ble_eq_true rfl) ?_
  show G SX m_Parish_putItOff 2 none w 0 [(0, .ref P), (1, .int l1)] [] S
  refine G_aload_n 0 rfl d_Parish_putItOff_0 ?_
  refine G_getR fl_Parish_21 (kP hP) (sP hP) rfl (qP4 hP) d_Parish_putItOff_1 ?_
  refine G_iload_n 1 rfl d_Parish_putItOff_4 ?_
  refine G_sipush 9999 (by decide) d_Parish_putItOff_5 ?_
  refine G_aload_n 0 rfl d_Parish_putItOff_8 ?_
  refine G_getR fl_Parish_21 (kP hP) (sP hP) rfl (qP4 hP) d_Parish_putItOff_9 ?_
  refine G_iload_n 1 rfl d_Parish_putItOff_12 ?_
  obtain ⟨g_13, h⟩ := ob_g h
  refine G_iaload (kPa4 hP) (sPa4 hP) g_13 d_Parish_putItOff_13 ?_
  refine G_iconst 1 (by decide) d_Parish_putItOff_14 ?_
  refine G_iadd d_Parish_putItOff_15 ?_
  refine G_mmin ms_Parish_53 (by decide) (Nat.le_of_ble_eq_true rfl) d_Parish_putItOff_16 ?_
  obtain ⟨g_19, h⟩ := ob_g h
  obtain ⟨S_19, e_19, h⟩ := ob_s h
  refine G_iastore e_19 (kPa4 hP) (sPa4 hP) g_19 d_Parish_putItOff_19 ?_
  refine G_aload_n 0 rfl d_Parish_putItOff_20 ?_
  refine G_iload_n 1 rfl d_Parish_putItOff_21 ?_
  obtain ⟨v_22, q_22, h⟩ := ob_b h
  refine G_callV [.int l1] [] (t_Parish_isLit hP q_22) (by decide) (by decide) mv_Parish_isLit rfl ml_Parish_74 (kP hP) (sP hP) cl_2 rfl (Nat.le_of_ble_eq_true rfl) d_Parish_putItOff_22 ?_
  refine G_if_ne 48 (by decide) d_Parish_putItOff_25 (fun c_25 => ?_) (fun c_25 => ?_)
  · replace h := ob_f h c_25
    cases h
    exact G_vret rfl d_Parish_putItOff_48
  · replace h := ob_t h c_25
    refine G_aload_n 0 rfl d_Parish_putItOff_28 ?_
    refine G_getR fl_Parish_18 (kP hP) (sP hP) rfl (qP3 hP) d_Parish_putItOff_29 ?_
    refine G_iload_n 1 rfl d_Parish_putItOff_32 ?_
    refine G_sipush 999 (by decide) d_Parish_putItOff_33 ?_
    refine G_aload_n 0 rfl d_Parish_putItOff_36 ?_
    refine G_getR fl_Parish_18 (kP hP) (sP hP) rfl (qP3 hP) d_Parish_putItOff_37 ?_
    refine G_iload_n 1 rfl d_Parish_putItOff_40 ?_
    obtain ⟨g_41, h⟩ := ob_g h
    refine G_iaload (kPa3 hP) (sPa3 hP) g_41 d_Parish_putItOff_41 ?_
    refine G_iconst 1 (by decide) d_Parish_putItOff_42 ?_
    refine G_iadd d_Parish_putItOff_43 ?_
    refine G_mmin ms_Parish_53 (by decide) (Nat.le_of_ble_eq_true rfl) d_Parish_putItOff_44 ?_
    obtain ⟨g_47, h⟩ := ob_g h
    obtain ⟨S_47, e_47, h⟩ := ob_s h
    refine G_iastore e_47 (kPa3 hP) (sPa3 hP) g_47 d_Parish_putItOff_47 ?_
    cases h
    exact G_vret rfl d_Parish_putItOff_48
theorem d_Parish_leftOf_0 : decode m_Parish_leftOf.2.1 0 = .ok (.iconst 0, 1) := by decide +kernel
theorem d_Parish_leftOf_1 : decode m_Parish_leftOf.2.1 1 = .ok (.istore_n 2, 1) := by decide +kernel
theorem d_Parish_leftOf_2 : decode m_Parish_leftOf.2.1 2 = .ok (.iconst 0, 1) := by decide +kernel
theorem d_Parish_leftOf_3 : decode m_Parish_leftOf.2.1 3 = .ok (.istore_n 3, 1) := by decide +kernel
theorem d_Parish_leftOf_4 : decode m_Parish_leftOf.2.1 4 = .ok (.iload_n 3, 1) := by decide +kernel
theorem d_Parish_leftOf_5 : decode m_Parish_leftOf.2.1 5 = .ok (.aload_n 0, 1) := by decide +kernel
theorem d_Parish_leftOf_6 : decode m_Parish_leftOf.2.1 6 = .ok (.getfield 31, 3) := by decide +kernel
theorem d_Parish_leftOf_9 : decode m_Parish_leftOf.2.1 9 = .ok (.if_icmp .ge 36, 3) := by decide +kernel
theorem d_Parish_leftOf_12 : decode m_Parish_leftOf.2.1 12 = .ok (.iload_n 3, 1) := by decide +kernel
theorem d_Parish_leftOf_13 : decode m_Parish_leftOf.2.1 13 = .ok (.bipush 24, 2) := by decide +kernel
theorem d_Parish_leftOf_15 : decode m_Parish_leftOf.2.1 15 = .ok (.if_icmp .ge 30, 3) := by decide +kernel
theorem d_Parish_leftOf_18 : decode m_Parish_leftOf.2.1 18 = .ok (.aload_n 0, 1) := by decide +kernel
theorem d_Parish_leftOf_19 : decode m_Parish_leftOf.2.1 19 = .ok (.getfield 9, 3) := by decide +kernel
theorem d_Parish_leftOf_22 : decode m_Parish_leftOf.2.1 22 = .ok (.iload_n 3, 1) := by decide +kernel
theorem d_Parish_leftOf_23 : decode m_Parish_leftOf.2.1 23 = .ok (.iaload, 1) := by decide +kernel
theorem d_Parish_leftOf_24 : decode m_Parish_leftOf.2.1 24 = .ok (.iload_n 1, 1) := by decide +kernel
theorem d_Parish_leftOf_25 : decode m_Parish_leftOf.2.1 25 = .ok (.if_icmp .ne 14, 3) := by decide +kernel
theorem d_Parish_leftOf_28 : decode m_Parish_leftOf.2.1 28 = .ok (.aload_n 0, 1) := by decide +kernel
theorem d_Parish_leftOf_29 : decode m_Parish_leftOf.2.1 29 = .ok (.iload_n 3, 1) := by decide +kernel
theorem d_Parish_leftOf_30 : decode m_Parish_leftOf.2.1 30 = .ok (.invokevirtual 64, 3) := by decide +kernel
theorem d_Parish_leftOf_33 : decode m_Parish_leftOf.2.1 33 = .ok (.ifCond .ne 6, 3) := by decide +kernel
theorem d_Parish_leftOf_36 : decode m_Parish_leftOf.2.1 36 = .ok (.iinc 2 1, 3) := by decide +kernel
theorem d_Parish_leftOf_39 : decode m_Parish_leftOf.2.1 39 = .ok (.iinc 3 1, 3) := by decide +kernel
theorem d_Parish_leftOf_42 : decode m_Parish_leftOf.2.1 42 = .ok (.goto (-38), 3) := by decide +kernel
theorem d_Parish_leftOf_45 : decode m_Parish_leftOf.2.1 45 = .ok (.iload_n 2, 1) := by decide +kernel
theorem d_Parish_leftOf_46 : decode m_Parish_leftOf.2.1 46 = .ok (.ireturn, 1) := by decide +kernel
def f_Parish_leftOf_39 (P : Nat) (k_4 : St → Int32 → Int32 → Int32 → Option (Int32)) (S : St) (l1 : Int32) (l2 : Int32) (l3 : Int32) : Option (Int32) :=
    (some (l3 + 1)).bind fun l3_39 =>
    k_4 S l1 l2 l3_39
set_option maxHeartbeats 4000000 in
set_option maxRecDepth 20000 in
theorem t_Parish_leftOf_39  {P : Nat} (hP : isP P) {k_4 : St → Int32 → Int32 → Int32 → Option (Int32)} (hk_4 : ∀ (S : St) (l1 : Int32) (l2 : Int32) (l3 : Int32) (w : Int32), k_4 S l1 l2 l3 = some w → G SX m_Parish_leftOf 2 (some w) S 4 [(0, .ref P), (1, .int l1), (2, .int l2), (3, .int l3)] [] S) (S : St) (l1 : Int32) (l2 : Int32) (l3 : Int32) (w : Int32) (h : f_Parish_leftOf_39 P k_4 S l1 l2 l3 = some w) : G SX m_Parish_leftOf 2 (some w) S 39 [(0, .ref P), (1, .int l1), (2, .int l2), (3, .int l3)] [] S := by
  unfold f_Parish_leftOf_39 at h
  obtain ⟨l3_39, e_39, h⟩ := ob_s h
  refine G_iinc 1 3 [(3, .int l3_39), (0, .ref P), (1, .int l1), (2, .int l2)] (by decide) rfl e_39 rfl (by decide) d_Parish_leftOf_39 ?_
  refine G_goto 4 (by decide) d_Parish_leftOf_42 ?_
  exact G_sub _ [1, 2, 3, 0] rfl (hk_4 S l1 l2 l3_39 _ h)
def f_Parish_leftOf_4 (P : Nat) : Nat → St → Int32 → Int32 → Int32 → Option (Int32)
  | 0, _, _, _, _ => none
  | n + 1, S, l1, l2, l3 =>
    if (S P 6) ≤ l3 then (
    some l2)
    else (
    if (24 : Int32) ≤ l3 then (
    some l2)
    else (
    if ig l3 24 then (
    if (S (P + 1) l3.toNatClampNeg) = l1 then (
    (f_Parish_isDone S P l3).bind fun v_30 =>
    if v_30 = 0 then (
    (some (l2 + 1)).bind fun l2_36 =>
    f_Parish_leftOf_39 P (f_Parish_leftOf_4 P n) S l1 l2_36 l3)
    else (
    f_Parish_leftOf_39 P (f_Parish_leftOf_4 P n) S l1 l2 l3))
    else (
    f_Parish_leftOf_39 P (f_Parish_leftOf_4 P n) S l1 l2 l3)) else none))
set_option maxHeartbeats 4000000 in
set_option maxRecDepth 20000 in
theorem t_Parish_leftOf_4  {P : Nat} (hP : isP P) : ∀ (n : Nat) (S : St) (l1 : Int32) (l2 : Int32) (l3 : Int32) (w : Int32), f_Parish_leftOf_4 P n S l1 l2 l3 = some w → G SX m_Parish_leftOf 2 (some w) S 4 [(0, .ref P), (1, .int l1), (2, .int l2), (3, .int l3)] [] S := by
  intro n
  induction n with
  | zero =>
    intro S l1 l2 l3 w h
    rw [f_Parish_leftOf_4] at h
    cases h
  | succ n ih =>
    intro S l1 l2 l3 w h
    rw [f_Parish_leftOf_4] at h
    refine G_iload_n 3 rfl d_Parish_leftOf_4 ?_
    refine G_aload_n 0 rfl d_Parish_leftOf_5 ?_
    refine G_getI fl_Parish_31 (kP hP) (sP hP) rfl d_Parish_leftOf_6 ?_
    refine G_icmp_ge 45 (by decide) d_Parish_leftOf_9 (fun c_9 => ?_) (fun c_9 => ?_)
    · replace h := ob_t h c_9
      refine G_iload_n 2 rfl d_Parish_leftOf_45 ?_
      cases h
      exact G_iret rfl d_Parish_leftOf_46
    · replace h := ob_f h c_9
      refine G_iload_n 3 rfl d_Parish_leftOf_12 ?_
      refine G_bipush 24 (by decide) d_Parish_leftOf_13 ?_
      refine G_icmp_ge 45 (by decide) d_Parish_leftOf_15 (fun c_15 => ?_) (fun c_15 => ?_)
      · replace h := ob_t h c_15
        refine G_iload_n 2 rfl d_Parish_leftOf_45 ?_
        cases h
        exact G_iret rfl d_Parish_leftOf_46
      · replace h := ob_f h c_15
        refine G_aload_n 0 rfl d_Parish_leftOf_18 ?_
        refine G_getR fl_Parish_9 (kP hP) (sP hP) rfl (qP1 hP) d_Parish_leftOf_19 ?_
        refine G_iload_n 3 rfl d_Parish_leftOf_22 ?_
        obtain ⟨g_23, h⟩ := ob_g h
        refine G_iaload (kPa1 hP) (sPa1 hP) g_23 d_Parish_leftOf_23 ?_
        refine G_iload_n 1 rfl d_Parish_leftOf_24 ?_
        refine G_icmp_ne 39 (by decide) d_Parish_leftOf_25 (fun c_25 => ?_) (fun c_25 => ?_)
        · replace h := ob_f h c_25
          exact G_sub _ [0, 1, 2, 3] rfl (t_Parish_leftOf_39 hP ih S l1 l2 l3 _ h)
        · replace h := ob_t h c_25
          refine G_aload_n 0 rfl d_Parish_leftOf_28 ?_
          refine G_iload_n 3 rfl d_Parish_leftOf_29 ?_
          obtain ⟨v_30, q_30, h⟩ := ob_b h
          refine G_callV [.int l3] [] (t_Parish_isDone hP q_30) (by decide) (by decide) mv_Parish_isDone rfl ml_Parish_64 (kP hP) (sP hP) cl_2 rfl (Nat.le_of_ble_eq_true rfl) d_Parish_leftOf_30 ?_
          refine G_if_ne 39 (by decide) d_Parish_leftOf_33 (fun c_33 => ?_) (fun c_33 => ?_)
          · replace h := ob_f h c_33
            exact G_sub _ [0, 1, 2, 3] rfl (t_Parish_leftOf_39 hP ih S l1 l2 l3 _ h)
          · replace h := ob_t h c_33
            obtain ⟨l2_36, e_36, h⟩ := ob_s h
            refine G_iinc 1 2 [(2, .int l2_36), (0, .ref P), (1, .int l1), (3, .int l3)] (by decide) rfl e_36 rfl (by decide) d_Parish_leftOf_36 ?_
            exact G_sub _ [1, 2, 0, 3] rfl (t_Parish_leftOf_39 hP ih S l1 l2_36 l3 _ h)
def f_Parish_leftOf (S : St) (P : Nat) (l1 : Int32) : Option (Int32) :=
    (some (0 : Int32)).bind fun l2_1 =>
    (some (0 : Int32)).bind fun l3_3 =>
    f_Parish_leftOf_4 P FU S l1 l2_1 l3_3
set_option maxHeartbeats 4000000 in
set_option maxRecDepth 20000 in
theorem t_Parish_leftOf  {P : Nat} (hP : isP P) {S : St} {l1 : Int32} {w : Int32} (h : f_Parish_leftOf S P l1 = some w) : Ct SX m_Parish_leftOf 2 [.ref P, .int l1] S (some w) S := by
  unfold f_Parish_leftOf at h
  refine Ct.of pn_Parish (Nat.le_of_ble_eq_true rfl) ?_
  show G SX m_Parish_leftOf 2 (some w) S 0 [(0, .ref P), (1, .int l1)] [] S
  refine G_iconst 0 (by decide) d_Parish_leftOf_0 ?_
  obtain ⟨l2_1, e_1, h⟩ := ob_s h
  refine G_istore_n [(2, .int l2_1), (0, .ref P), (1, .int l1)] e_1 rfl (by decide) d_Parish_leftOf_1 ?_
  refine G_iconst 0 (by decide) d_Parish_leftOf_2 ?_
  obtain ⟨l3_3, e_3, h⟩ := ob_s h
  refine G_istore_n [(3, .int l3_3), (2, .int l2_1), (0, .ref P), (1, .int l1)] e_3 rfl (by decide) d_Parish_leftOf_3 ?_
  exact G_sub _ [2, 3, 1, 0] rfl (t_Parish_leftOf_4 hP FU S l1 l2_1 l3_3 _ h)
theorem d_Parish_waitersFor_0 : decode m_Parish_waitersFor.2.1 0 = .ok (.iconst 0, 1) := by decide +kernel
theorem d_Parish_waitersFor_1 : decode m_Parish_waitersFor.2.1 1 = .ok (.istore_n 2, 1) := by decide +kernel
theorem d_Parish_waitersFor_2 : decode m_Parish_waitersFor.2.1 2 = .ok (.iconst 0, 1) := by decide +kernel
theorem d_Parish_waitersFor_3 : decode m_Parish_waitersFor.2.1 3 = .ok (.istore_n 3, 1) := by decide +kernel
theorem d_Parish_waitersFor_4 : decode m_Parish_waitersFor.2.1 4 = .ok (.iload_n 3, 1) := by decide +kernel
theorem d_Parish_waitersFor_5 : decode m_Parish_waitersFor.2.1 5 = .ok (.aload_n 0, 1) := by decide +kernel
theorem d_Parish_waitersFor_6 : decode m_Parish_waitersFor.2.1 6 = .ok (.getfield 31, 3) := by decide +kernel
theorem d_Parish_waitersFor_9 : decode m_Parish_waitersFor.2.1 9 = .ok (.if_icmp .ge 28, 3) := by decide +kernel
theorem d_Parish_waitersFor_12 : decode m_Parish_waitersFor.2.1 12 = .ok (.iload_n 3, 1) := by decide +kernel
theorem d_Parish_waitersFor_13 : decode m_Parish_waitersFor.2.1 13 = .ok (.bipush 24, 2) := by decide +kernel
theorem d_Parish_waitersFor_15 : decode m_Parish_waitersFor.2.1 15 = .ok (.if_icmp .ge 22, 3) := by decide +kernel
theorem d_Parish_waitersFor_18 : decode m_Parish_waitersFor.2.1 18 = .ok (.aload_n 0, 1) := by decide +kernel
theorem d_Parish_waitersFor_19 : decode m_Parish_waitersFor.2.1 19 = .ok (.getfield 15, 3) := by decide +kernel
theorem d_Parish_waitersFor_22 : decode m_Parish_waitersFor.2.1 22 = .ok (.iload_n 3, 1) := by decide +kernel
theorem d_Parish_waitersFor_23 : decode m_Parish_waitersFor.2.1 23 = .ok (.iaload, 1) := by decide +kernel
theorem d_Parish_waitersFor_24 : decode m_Parish_waitersFor.2.1 24 = .ok (.iload_n 1, 1) := by decide +kernel
theorem d_Parish_waitersFor_25 : decode m_Parish_waitersFor.2.1 25 = .ok (.if_icmp .ne 6, 3) := by decide +kernel
theorem d_Parish_waitersFor_28 : decode m_Parish_waitersFor.2.1 28 = .ok (.iinc 2 1, 3) := by decide +kernel
theorem d_Parish_waitersFor_31 : decode m_Parish_waitersFor.2.1 31 = .ok (.iinc 3 1, 3) := by decide +kernel
theorem d_Parish_waitersFor_34 : decode m_Parish_waitersFor.2.1 34 = .ok (.goto (-30), 3) := by decide +kernel
theorem d_Parish_waitersFor_37 : decode m_Parish_waitersFor.2.1 37 = .ok (.iload_n 2, 1) := by decide +kernel
theorem d_Parish_waitersFor_38 : decode m_Parish_waitersFor.2.1 38 = .ok (.ireturn, 1) := by decide +kernel
def f_Parish_waitersFor_31 (P : Nat) (k_4 : St → Int32 → Int32 → Int32 → Option (Int32)) (S : St) (l1 : Int32) (l2 : Int32) (l3 : Int32) : Option (Int32) :=
    (some (l3 + 1)).bind fun l3_31 =>
    k_4 S l1 l2 l3_31
set_option maxHeartbeats 4000000 in
set_option maxRecDepth 20000 in
theorem t_Parish_waitersFor_31  {P : Nat} (hP : isP P) {k_4 : St → Int32 → Int32 → Int32 → Option (Int32)} (hk_4 : ∀ (S : St) (l1 : Int32) (l2 : Int32) (l3 : Int32) (w : Int32), k_4 S l1 l2 l3 = some w → G SX m_Parish_waitersFor 1 (some w) S 4 [(0, .ref P), (1, .int l1), (2, .int l2), (3, .int l3)] [] S) (S : St) (l1 : Int32) (l2 : Int32) (l3 : Int32) (w : Int32) (h : f_Parish_waitersFor_31 P k_4 S l1 l2 l3 = some w) : G SX m_Parish_waitersFor 1 (some w) S 31 [(0, .ref P), (1, .int l1), (2, .int l2), (3, .int l3)] [] S := by
  unfold f_Parish_waitersFor_31 at h
  obtain ⟨l3_31, e_31, h⟩ := ob_s h
  refine G_iinc 1 3 [(3, .int l3_31), (0, .ref P), (1, .int l1), (2, .int l2)] (by decide) rfl e_31 rfl (by decide) d_Parish_waitersFor_31 ?_
  refine G_goto 4 (by decide) d_Parish_waitersFor_34 ?_
  exact G_sub _ [1, 2, 3, 0] rfl (hk_4 S l1 l2 l3_31 _ h)
def f_Parish_waitersFor_4 (P : Nat) : Nat → St → Int32 → Int32 → Int32 → Option (Int32)
  | 0, _, _, _, _ => none
  | n + 1, S, l1, l2, l3 =>
    if (S P 6) ≤ l3 then (
    some l2)
    else (
    if (24 : Int32) ≤ l3 then (
    some l2)
    else (
    if ig l3 24 then (
    if (S (P + 2) l3.toNatClampNeg) = l1 then (
    (some (l2 + 1)).bind fun l2_28 =>
    f_Parish_waitersFor_31 P (f_Parish_waitersFor_4 P n) S l1 l2_28 l3)
    else (
    f_Parish_waitersFor_31 P (f_Parish_waitersFor_4 P n) S l1 l2 l3)) else none))
set_option maxHeartbeats 4000000 in
set_option maxRecDepth 20000 in
theorem t_Parish_waitersFor_4  {P : Nat} (hP : isP P) : ∀ (n : Nat) (S : St) (l1 : Int32) (l2 : Int32) (l3 : Int32) (w : Int32), f_Parish_waitersFor_4 P n S l1 l2 l3 = some w → G SX m_Parish_waitersFor 1 (some w) S 4 [(0, .ref P), (1, .int l1), (2, .int l2), (3, .int l3)] [] S := by
  intro n
  induction n with
  | zero =>
    intro S l1 l2 l3 w h
    rw [f_Parish_waitersFor_4] at h
    cases h
  | succ n ih =>
    intro S l1 l2 l3 w h
    rw [f_Parish_waitersFor_4] at h
    refine G_iload_n 3 rfl d_Parish_waitersFor_4 ?_
    refine G_aload_n 0 rfl d_Parish_waitersFor_5 ?_
    refine G_getI fl_Parish_31 (kP hP) (sP hP) rfl d_Parish_waitersFor_6 ?_
    refine G_icmp_ge 37 (by decide) d_Parish_waitersFor_9 (fun c_9 => ?_) (fun c_9 => ?_)
    · replace h := ob_t h c_9
      refine G_iload_n 2 rfl d_Parish_waitersFor_37 ?_
      cases h
      exact G_iret rfl d_Parish_waitersFor_38
    · replace h := ob_f h c_9
      refine G_iload_n 3 rfl d_Parish_waitersFor_12 ?_
      refine G_bipush 24 (by decide) d_Parish_waitersFor_13 ?_
      refine G_icmp_ge 37 (by decide) d_Parish_waitersFor_15 (fun c_15 => ?_) (fun c_15 => ?_)
      · replace h := ob_t h c_15
        refine G_iload_n 2 rfl d_Parish_waitersFor_37 ?_
        cases h
        exact G_iret rfl d_Parish_waitersFor_38
      · replace h := ob_f h c_15
        refine G_aload_n 0 rfl d_Parish_waitersFor_18 ?_
        refine G_getR fl_Parish_15 (kP hP) (sP hP) rfl (qP2 hP) d_Parish_waitersFor_19 ?_
        refine G_iload_n 3 rfl d_Parish_waitersFor_22 ?_
        obtain ⟨g_23, h⟩ := ob_g h
        refine G_iaload (kPa2 hP) (sPa2 hP) g_23 d_Parish_waitersFor_23 ?_
        refine G_iload_n 1 rfl d_Parish_waitersFor_24 ?_
        refine G_icmp_ne 31 (by decide) d_Parish_waitersFor_25 (fun c_25 => ?_) (fun c_25 => ?_)
        · replace h := ob_f h c_25
          exact G_sub _ [0, 1, 2, 3] rfl (t_Parish_waitersFor_31 hP ih S l1 l2 l3 _ h)
        · replace h := ob_t h c_25
          obtain ⟨l2_28, e_28, h⟩ := ob_s h
          refine G_iinc 1 2 [(2, .int l2_28), (0, .ref P), (1, .int l1), (3, .int l3)] (by decide) rfl e_28 rfl (by decide) d_Parish_waitersFor_28 ?_
          exact G_sub _ [1, 2, 0, 3] rfl (t_Parish_waitersFor_31 hP ih S l1 l2_28 l3 _ h)
def f_Parish_waitersFor (S : St) (P : Nat) (l1 : Int32) : Option (Int32) :=
    (some (0 : Int32)).bind fun l2_1 =>
    (some (0 : Int32)).bind fun l3_3 =>
    f_Parish_waitersFor_4 P FU S l1 l2_1 l3_3
set_option maxHeartbeats 4000000 in
set_option maxRecDepth 20000 in
theorem t_Parish_waitersFor  {P : Nat} (hP : isP P) {S : St} {l1 : Int32} {w : Int32} (h : f_Parish_waitersFor S P l1 = some w) : Ct SX m_Parish_waitersFor 1 [.ref P, .int l1] S (some w) S := by
  unfold f_Parish_waitersFor at h
  refine Ct.of pn_Parish (Nat.le_of_ble_eq_true rfl) ?_
  show G SX m_Parish_waitersFor 1 (some w) S 0 [(0, .ref P), (1, .int l1)] [] S
  refine G_iconst 0 (by decide) d_Parish_waitersFor_0 ?_
  obtain ⟨l2_1, e_1, h⟩ := ob_s h
  refine G_istore_n [(2, .int l2_1), (0, .ref P), (1, .int l1)] e_1 rfl (by decide) d_Parish_waitersFor_1 ?_
  refine G_iconst 0 (by decide) d_Parish_waitersFor_2 ?_
  obtain ⟨l3_3, e_3, h⟩ := ob_s h
  refine G_istore_n [(3, .int l3_3), (2, .int l2_1), (0, .ref P), (1, .int l1)] e_3 rfl (by decide) d_Parish_waitersFor_3 ?_
  exact G_sub _ [2, 3, 1, 0] rfl (t_Parish_waitersFor_4 hP FU S l1 l2_1 l3_3 _ h)
theorem d_Parish_ownersLeft_0 : decode m_Parish_ownersLeft.2.1 0 = .ok (.iconst 0, 1) := by decide +kernel
theorem d_Parish_ownersLeft_1 : decode m_Parish_ownersLeft.2.1 1 = .ok (.istore_n 1, 1) := by decide +kernel
theorem d_Parish_ownersLeft_2 : decode m_Parish_ownersLeft.2.1 2 = .ok (.iconst 0, 1) := by decide +kernel
theorem d_Parish_ownersLeft_3 : decode m_Parish_ownersLeft.2.1 3 = .ok (.istore_n 2, 1) := by decide +kernel
theorem d_Parish_ownersLeft_4 : decode m_Parish_ownersLeft.2.1 4 = .ok (.iload_n 2, 1) := by decide +kernel
theorem d_Parish_ownersLeft_5 : decode m_Parish_ownersLeft.2.1 5 = .ok (.aload_n 0, 1) := by decide +kernel
theorem d_Parish_ownersLeft_6 : decode m_Parish_ownersLeft.2.1 6 = .ok (.getfield 31, 3) := by decide +kernel
theorem d_Parish_ownersLeft_9 : decode m_Parish_ownersLeft.2.1 9 = .ok (.if_icmp .ge 34, 3) := by decide +kernel
theorem d_Parish_ownersLeft_12 : decode m_Parish_ownersLeft.2.1 12 = .ok (.iload_n 2, 1) := by decide +kernel
theorem d_Parish_ownersLeft_13 : decode m_Parish_ownersLeft.2.1 13 = .ok (.bipush 24, 2) := by decide +kernel
theorem d_Parish_ownersLeft_15 : decode m_Parish_ownersLeft.2.1 15 = .ok (.if_icmp .ge 28, 3) := by decide +kernel
theorem d_Parish_ownersLeft_18 : decode m_Parish_ownersLeft.2.1 18 = .ok (.aload_n 0, 1) := by decide +kernel
theorem d_Parish_ownersLeft_19 : decode m_Parish_ownersLeft.2.1 19 = .ok (.iload_n 2, 1) := by decide +kernel
theorem d_Parish_ownersLeft_20 : decode m_Parish_ownersLeft.2.1 20 = .ok (.invokevirtual 64, 3) := by decide +kernel
theorem d_Parish_ownersLeft_23 : decode m_Parish_ownersLeft.2.1 23 = .ok (.ifCond .ne 14, 3) := by decide +kernel
theorem d_Parish_ownersLeft_26 : decode m_Parish_ownersLeft.2.1 26 = .ok (.iload_n 1, 1) := by decide +kernel
theorem d_Parish_ownersLeft_27 : decode m_Parish_ownersLeft.2.1 27 = .ok (.iconst 1, 1) := by decide +kernel
theorem d_Parish_ownersLeft_28 : decode m_Parish_ownersLeft.2.1 28 = .ok (.aload_n 0, 1) := by decide +kernel
theorem d_Parish_ownersLeft_29 : decode m_Parish_ownersLeft.2.1 29 = .ok (.getfield 9, 3) := by decide +kernel
theorem d_Parish_ownersLeft_32 : decode m_Parish_ownersLeft.2.1 32 = .ok (.iload_n 2, 1) := by decide +kernel
theorem d_Parish_ownersLeft_33 : decode m_Parish_ownersLeft.2.1 33 = .ok (.iaload, 1) := by decide +kernel
theorem d_Parish_ownersLeft_34 : decode m_Parish_ownersLeft.2.1 34 = .ok (.ishl, 1) := by decide +kernel
theorem d_Parish_ownersLeft_35 : decode m_Parish_ownersLeft.2.1 35 = .ok (.ior, 1) := by decide +kernel
theorem d_Parish_ownersLeft_36 : decode m_Parish_ownersLeft.2.1 36 = .ok (.istore_n 1, 1) := by decide +kernel
theorem d_Parish_ownersLeft_37 : decode m_Parish_ownersLeft.2.1 37 = .ok (.iinc 2 1, 3) := by decide +kernel
theorem d_Parish_ownersLeft_40 : decode m_Parish_ownersLeft.2.1 40 = .ok (.goto (-36), 3) := by decide +kernel
theorem d_Parish_ownersLeft_43 : decode m_Parish_ownersLeft.2.1 43 = .ok (.iload_n 1, 1) := by decide +kernel
theorem d_Parish_ownersLeft_44 : decode m_Parish_ownersLeft.2.1 44 = .ok (.ireturn, 1) := by decide +kernel
def f_Parish_ownersLeft_37 (P : Nat) (k_4 : St → Int32 → Int32 → Option (Int32)) (S : St) (l1 : Int32) (l2 : Int32) : Option (Int32) :=
    (some (l2 + 1)).bind fun l2_37 =>
    k_4 S l1 l2_37
set_option maxHeartbeats 4000000 in
set_option maxRecDepth 20000 in
theorem t_Parish_ownersLeft_37  {P : Nat} (hP : isP P) {k_4 : St → Int32 → Int32 → Option (Int32)} (hk_4 : ∀ (S : St) (l1 : Int32) (l2 : Int32) (w : Int32), k_4 S l1 l2 = some w → G SX m_Parish_ownersLeft 2 (some w) S 4 [(0, .ref P), (1, .int l1), (2, .int l2)] [] S) (S : St) (l1 : Int32) (l2 : Int32) (w : Int32) (h : f_Parish_ownersLeft_37 P k_4 S l1 l2 = some w) : G SX m_Parish_ownersLeft 2 (some w) S 37 [(0, .ref P), (1, .int l1), (2, .int l2)] [] S := by
  unfold f_Parish_ownersLeft_37 at h
  obtain ⟨l2_37, e_37, h⟩ := ob_s h
  refine G_iinc 1 2 [(2, .int l2_37), (0, .ref P), (1, .int l1)] (by decide) rfl e_37 rfl (by decide) d_Parish_ownersLeft_37 ?_
  refine G_goto 4 (by decide) d_Parish_ownersLeft_40 ?_
  exact G_sub _ [1, 2, 0] rfl (hk_4 S l1 l2_37 _ h)
def f_Parish_ownersLeft_4 (P : Nat) : Nat → St → Int32 → Int32 → Option (Int32)
  | 0, _, _, _ => none
  | n + 1, S, l1, l2 =>
    if (S P 6) ≤ l2 then (
    some l1)
    else (
    if (24 : Int32) ≤ l2 then (
    some l1)
    else (
    (f_Parish_isDone S P l2).bind fun v_20 =>
    if v_20 = 0 then (
    if ig l2 24 then (
    (some (l1 ||| (jshl 1 (S (P + 1) l2.toNatClampNeg)))).bind fun l1_36 =>
    f_Parish_ownersLeft_37 P (f_Parish_ownersLeft_4 P n) S l1_36 l2) else none)
    else (
    f_Parish_ownersLeft_37 P (f_Parish_ownersLeft_4 P n) S l1 l2)))
set_option maxHeartbeats 4000000 in
set_option maxRecDepth 20000 in
theorem t_Parish_ownersLeft_4  {P : Nat} (hP : isP P) : ∀ (n : Nat) (S : St) (l1 : Int32) (l2 : Int32) (w : Int32), f_Parish_ownersLeft_4 P n S l1 l2 = some w → G SX m_Parish_ownersLeft 2 (some w) S 4 [(0, .ref P), (1, .int l1), (2, .int l2)] [] S := by
  intro n
  induction n with
  | zero =>
    intro S l1 l2 w h
    rw [f_Parish_ownersLeft_4] at h
    cases h
  | succ n ih =>
    intro S l1 l2 w h
    rw [f_Parish_ownersLeft_4] at h
    refine G_iload_n 2 rfl d_Parish_ownersLeft_4 ?_
    refine G_aload_n 0 rfl d_Parish_ownersLeft_5 ?_
    refine G_getI fl_Parish_31 (kP hP) (sP hP) rfl d_Parish_ownersLeft_6 ?_
    refine G_icmp_ge 43 (by decide) d_Parish_ownersLeft_9 (fun c_9 => ?_) (fun c_9 => ?_)
    · replace h := ob_t h c_9
      refine G_iload_n 1 rfl d_Parish_ownersLeft_43 ?_
      cases h
      exact G_iret rfl d_Parish_ownersLeft_44
    · replace h := ob_f h c_9
      refine G_iload_n 2 rfl d_Parish_ownersLeft_12 ?_
      refine G_bipush 24 (by decide) d_Parish_ownersLeft_13 ?_
      refine G_icmp_ge 43 (by decide) d_Parish_ownersLeft_15 (fun c_15 => ?_) (fun c_15 => ?_)
      · replace h := ob_t h c_15
        refine G_iload_n 1 rfl d_Parish_ownersLeft_43 ?_
        cases h
        exact G_iret rfl d_Parish_ownersLeft_44
      · replace h := ob_f h c_15
        refine G_aload_n 0 rfl d_Parish_ownersLeft_18 ?_
        refine G_iload_n 2 rfl d_Parish_ownersLeft_19 ?_
        obtain ⟨v_20, q_20, h⟩ := ob_b h
        refine G_callV [.int l2] [] (t_Parish_isDone hP q_20) (by decide) (by decide) mv_Parish_isDone rfl ml_Parish_64 (kP hP) (sP hP) cl_2 rfl (Nat.le_of_ble_eq_true rfl) d_Parish_ownersLeft_20 ?_
        refine G_if_ne 37 (by decide) d_Parish_ownersLeft_23 (fun c_23 => ?_) (fun c_23 => ?_)
        · replace h := ob_f h c_23
          exact G_sub _ [0, 1, 2] rfl (t_Parish_ownersLeft_37 hP ih S l1 l2 _ h)
        · replace h := ob_t h c_23
          refine G_iload_n 1 rfl d_Parish_ownersLeft_26 ?_
          refine G_iconst 1 (by decide) d_Parish_ownersLeft_27 ?_
          refine G_aload_n 0 rfl d_Parish_ownersLeft_28 ?_
          refine G_getR fl_Parish_9 (kP hP) (sP hP) rfl (qP1 hP) d_Parish_ownersLeft_29 ?_
          refine G_iload_n 2 rfl d_Parish_ownersLeft_32 ?_
          obtain ⟨g_33, h⟩ := ob_g h
          refine G_iaload (kPa1 hP) (sPa1 hP) g_33 d_Parish_ownersLeft_33 ?_
          refine G_ishl d_Parish_ownersLeft_34 ?_
          refine G_ior d_Parish_ownersLeft_35 ?_
          obtain ⟨l1_36, e_36, h⟩ := ob_s h
          refine G_istore_n [(1, .int l1_36), (0, .ref P), (2, .int l2)] e_36 rfl (by decide) d_Parish_ownersLeft_36 ?_
          exact G_sub _ [1, 0, 2] rfl (t_Parish_ownersLeft_37 hP ih S l1_36 l2 _ h)
def f_Parish_ownersLeft (S : St) (P : Nat) : Option (Int32) :=
    (some (0 : Int32)).bind fun l1_1 =>
    (some (0 : Int32)).bind fun l2_3 =>
    f_Parish_ownersLeft_4 P FU S l1_1 l2_3
set_option maxHeartbeats 4000000 in
set_option maxRecDepth 20000 in
theorem t_Parish_ownersLeft  {P : Nat} (hP : isP P) {S : St} {w : Int32} (h : f_Parish_ownersLeft S P = some w) : Ct SX m_Parish_ownersLeft 2 [.ref P] S (some w) S := by
  unfold f_Parish_ownersLeft at h
  refine Ct.of pn_Parish (Nat.le_of_ble_eq_true rfl) ?_
  show G SX m_Parish_ownersLeft 2 (some w) S 0 [(0, .ref P)] [] S
  refine G_iconst 0 (by decide) d_Parish_ownersLeft_0 ?_
  obtain ⟨l1_1, e_1, h⟩ := ob_s h
  refine G_istore_n [(1, .int l1_1), (0, .ref P)] e_1 rfl (by decide) d_Parish_ownersLeft_1 ?_
  refine G_iconst 0 (by decide) d_Parish_ownersLeft_2 ?_
  obtain ⟨l2_3, e_3, h⟩ := ob_s h
  refine G_istore_n [(2, .int l2_3), (1, .int l1_1), (0, .ref P)] e_3 rfl (by decide) d_Parish_ownersLeft_3 ?_
  exact G_sub _ [2, 1, 0] rfl (t_Parish_ownersLeft_4 hP FU S l1_1 l2_3 _ h)
theorem d_Parish_putOffBy_0 : decode m_Parish_putOffBy.2.1 0 = .ok (.iconst 0, 1) := by decide +kernel
theorem d_Parish_putOffBy_1 : decode m_Parish_putOffBy.2.1 1 = .ok (.istore_n 2, 1) := by decide +kernel
theorem d_Parish_putOffBy_2 : decode m_Parish_putOffBy.2.1 2 = .ok (.iconst 0, 1) := by decide +kernel
theorem d_Parish_putOffBy_3 : decode m_Parish_putOffBy.2.1 3 = .ok (.istore_n 3, 1) := by decide +kernel
theorem d_Parish_putOffBy_4 : decode m_Parish_putOffBy.2.1 4 = .ok (.iload_n 3, 1) := by decide +kernel
theorem d_Parish_putOffBy_5 : decode m_Parish_putOffBy.2.1 5 = .ok (.aload_n 0, 1) := by decide +kernel
theorem d_Parish_putOffBy_6 : decode m_Parish_putOffBy.2.1 6 = .ok (.getfield 31, 3) := by decide +kernel
theorem d_Parish_putOffBy_9 : decode m_Parish_putOffBy.2.1 9 = .ok (.if_icmp .ge 42, 3) := by decide +kernel
theorem d_Parish_putOffBy_12 : decode m_Parish_putOffBy.2.1 12 = .ok (.iload_n 3, 1) := by decide +kernel
theorem d_Parish_putOffBy_13 : decode m_Parish_putOffBy.2.1 13 = .ok (.bipush 24, 2) := by decide +kernel
theorem d_Parish_putOffBy_15 : decode m_Parish_putOffBy.2.1 15 = .ok (.if_icmp .ge 36, 3) := by decide +kernel
theorem d_Parish_putOffBy_18 : decode m_Parish_putOffBy.2.1 18 = .ok (.aload_n 0, 1) := by decide +kernel
theorem d_Parish_putOffBy_19 : decode m_Parish_putOffBy.2.1 19 = .ok (.getfield 9, 3) := by decide +kernel
theorem d_Parish_putOffBy_22 : decode m_Parish_putOffBy.2.1 22 = .ok (.iload_n 3, 1) := by decide +kernel
theorem d_Parish_putOffBy_23 : decode m_Parish_putOffBy.2.1 23 = .ok (.iaload, 1) := by decide +kernel
theorem d_Parish_putOffBy_24 : decode m_Parish_putOffBy.2.1 24 = .ok (.iload_n 1, 1) := by decide +kernel
theorem d_Parish_putOffBy_25 : decode m_Parish_putOffBy.2.1 25 = .ok (.if_icmp .ne 20, 3) := by decide +kernel
theorem d_Parish_putOffBy_28 : decode m_Parish_putOffBy.2.1 28 = .ok (.aload_n 0, 1) := by decide +kernel
theorem d_Parish_putOffBy_29 : decode m_Parish_putOffBy.2.1 29 = .ok (.iload_n 3, 1) := by decide +kernel
theorem d_Parish_putOffBy_30 : decode m_Parish_putOffBy.2.1 30 = .ok (.invokevirtual 64, 3) := by decide +kernel
theorem d_Parish_putOffBy_33 : decode m_Parish_putOffBy.2.1 33 = .ok (.ifCond .ne 12, 3) := by decide +kernel
theorem d_Parish_putOffBy_36 : decode m_Parish_putOffBy.2.1 36 = .ok (.iload_n 2, 1) := by decide +kernel
theorem d_Parish_putOffBy_37 : decode m_Parish_putOffBy.2.1 37 = .ok (.aload_n 0, 1) := by decide +kernel
theorem d_Parish_putOffBy_38 : decode m_Parish_putOffBy.2.1 38 = .ok (.getfield 21, 3) := by decide +kernel
theorem d_Parish_putOffBy_41 : decode m_Parish_putOffBy.2.1 41 = .ok (.iload_n 3, 1) := by decide +kernel
theorem d_Parish_putOffBy_42 : decode m_Parish_putOffBy.2.1 42 = .ok (.iaload, 1) := by decide +kernel
theorem d_Parish_putOffBy_43 : decode m_Parish_putOffBy.2.1 43 = .ok (.iadd, 1) := by decide +kernel
theorem d_Parish_putOffBy_44 : decode m_Parish_putOffBy.2.1 44 = .ok (.istore_n 2, 1) := by decide +kernel
theorem d_Parish_putOffBy_45 : decode m_Parish_putOffBy.2.1 45 = .ok (.iinc 3 1, 3) := by decide +kernel
theorem d_Parish_putOffBy_48 : decode m_Parish_putOffBy.2.1 48 = .ok (.goto (-44), 3) := by decide +kernel
theorem d_Parish_putOffBy_51 : decode m_Parish_putOffBy.2.1 51 = .ok (.iload_n 2, 1) := by decide +kernel
theorem d_Parish_putOffBy_52 : decode m_Parish_putOffBy.2.1 52 = .ok (.ireturn, 1) := by decide +kernel
def f_Parish_putOffBy_45 (P : Nat) (k_4 : St → Int32 → Int32 → Int32 → Option (Int32)) (S : St) (l1 : Int32) (l2 : Int32) (l3 : Int32) : Option (Int32) :=
    (some (l3 + 1)).bind fun l3_45 =>
    k_4 S l1 l2 l3_45
set_option maxHeartbeats 4000000 in
set_option maxRecDepth 20000 in
theorem t_Parish_putOffBy_45  {P : Nat} (hP : isP P) {k_4 : St → Int32 → Int32 → Int32 → Option (Int32)} (hk_4 : ∀ (S : St) (l1 : Int32) (l2 : Int32) (l3 : Int32) (w : Int32), k_4 S l1 l2 l3 = some w → G SX m_Parish_putOffBy 2 (some w) S 4 [(0, .ref P), (1, .int l1), (2, .int l2), (3, .int l3)] [] S) (S : St) (l1 : Int32) (l2 : Int32) (l3 : Int32) (w : Int32) (h : f_Parish_putOffBy_45 P k_4 S l1 l2 l3 = some w) : G SX m_Parish_putOffBy 2 (some w) S 45 [(0, .ref P), (1, .int l1), (2, .int l2), (3, .int l3)] [] S := by
  unfold f_Parish_putOffBy_45 at h
  obtain ⟨l3_45, e_45, h⟩ := ob_s h
  refine G_iinc 1 3 [(3, .int l3_45), (0, .ref P), (1, .int l1), (2, .int l2)] (by decide) rfl e_45 rfl (by decide) d_Parish_putOffBy_45 ?_
  refine G_goto 4 (by decide) d_Parish_putOffBy_48 ?_
  exact G_sub _ [1, 2, 3, 0] rfl (hk_4 S l1 l2 l3_45 _ h)
def f_Parish_putOffBy_4 (P : Nat) : Nat → St → Int32 → Int32 → Int32 → Option (Int32)
  | 0, _, _, _, _ => none
  | n + 1, S, l1, l2, l3 =>
    if (S P 6) ≤ l3 then (
    some l2)
    else (
    if (24 : Int32) ≤ l3 then (
    some l2)
    else (
    if ig l3 24 then (
    if (S (P + 1) l3.toNatClampNeg) = l1 then (
    (f_Parish_isDone S P l3).bind fun v_30 =>
    if v_30 = 0 then (
    if ig l3 24 then (
    (some (l2 + (S (P + 4) l3.toNatClampNeg))).bind fun l2_44 =>
    f_Parish_putOffBy_45 P (f_Parish_putOffBy_4 P n) S l1 l2_44 l3) else none)
    else (
    f_Parish_putOffBy_45 P (f_Parish_putOffBy_4 P n) S l1 l2 l3))
    else (
    f_Parish_putOffBy_45 P (f_Parish_putOffBy_4 P n) S l1 l2 l3)) else none))
set_option maxHeartbeats 4000000 in
set_option maxRecDepth 20000 in
theorem t_Parish_putOffBy_4  {P : Nat} (hP : isP P) : ∀ (n : Nat) (S : St) (l1 : Int32) (l2 : Int32) (l3 : Int32) (w : Int32), f_Parish_putOffBy_4 P n S l1 l2 l3 = some w → G SX m_Parish_putOffBy 2 (some w) S 4 [(0, .ref P), (1, .int l1), (2, .int l2), (3, .int l3)] [] S := by
  intro n
  induction n with
  | zero =>
    intro S l1 l2 l3 w h
    rw [f_Parish_putOffBy_4] at h
    cases h
  | succ n ih =>
    intro S l1 l2 l3 w h
    rw [f_Parish_putOffBy_4] at h
    refine G_iload_n 3 rfl d_Parish_putOffBy_4 ?_
    refine G_aload_n 0 rfl d_Parish_putOffBy_5 ?_
    refine G_getI fl_Parish_31 (kP hP) (sP hP) rfl d_Parish_putOffBy_6 ?_
    refine G_icmp_ge 51 (by decide) d_Parish_putOffBy_9 (fun c_9 => ?_) (fun c_9 => ?_)
    · replace h := ob_t h c_9
      refine G_iload_n 2 rfl d_Parish_putOffBy_51 ?_
      cases h
      exact G_iret rfl d_Parish_putOffBy_52
    · replace h := ob_f h c_9
      refine G_iload_n 3 rfl d_Parish_putOffBy_12 ?_
      refine G_bipush 24 (by decide) d_Parish_putOffBy_13 ?_
      refine G_icmp_ge 51 (by decide) d_Parish_putOffBy_15 (fun c_15 => ?_) (fun c_15 => ?_)
      · replace h := ob_t h c_15
        refine G_iload_n 2 rfl d_Parish_putOffBy_51 ?_
        cases h
        exact G_iret rfl d_Parish_putOffBy_52
      · replace h := ob_f h c_15
        refine G_aload_n 0 rfl d_Parish_putOffBy_18 ?_
        refine G_getR fl_Parish_9 (kP hP) (sP hP) rfl (qP1 hP) d_Parish_putOffBy_19 ?_
        refine G_iload_n 3 rfl d_Parish_putOffBy_22 ?_
        obtain ⟨g_23, h⟩ := ob_g h
        refine G_iaload (kPa1 hP) (sPa1 hP) g_23 d_Parish_putOffBy_23 ?_
        refine G_iload_n 1 rfl d_Parish_putOffBy_24 ?_
        refine G_icmp_ne 45 (by decide) d_Parish_putOffBy_25 (fun c_25 => ?_) (fun c_25 => ?_)
        · replace h := ob_f h c_25
          exact G_sub _ [0, 1, 2, 3] rfl (t_Parish_putOffBy_45 hP ih S l1 l2 l3 _ h)
        · replace h := ob_t h c_25
          refine G_aload_n 0 rfl d_Parish_putOffBy_28 ?_
          refine G_iload_n 3 rfl d_Parish_putOffBy_29 ?_
          obtain ⟨v_30, q_30, h⟩ := ob_b h
          refine G_callV [.int l3] [] (t_Parish_isDone hP q_30) (by decide) (by decide) mv_Parish_isDone rfl ml_Parish_64 (kP hP) (sP hP) cl_2 rfl (Nat.le_of_ble_eq_true rfl) d_Parish_putOffBy_30 ?_
          refine G_if_ne 45 (by decide) d_Parish_putOffBy_33 (fun c_33 => ?_) (fun c_33 => ?_)
          · replace h := ob_f h c_33
            exact G_sub _ [0, 1, 2, 3] rfl (t_Parish_putOffBy_45 hP ih S l1 l2 l3 _ h)
          · replace h := ob_t h c_33
            refine G_iload_n 2 rfl d_Parish_putOffBy_36 ?_
            refine G_aload_n 0 rfl d_Parish_putOffBy_37 ?_
            refine G_getR fl_Parish_21 (kP hP) (sP hP) rfl (qP4 hP) d_Parish_putOffBy_38 ?_
            refine G_iload_n 3 rfl d_Parish_putOffBy_41 ?_
            obtain ⟨g_42, h⟩ := ob_g h
            refine G_iaload (kPa4 hP) (sPa4 hP) g_42 d_Parish_putOffBy_42 ?_
            refine G_iadd d_Parish_putOffBy_43 ?_
            obtain ⟨l2_44, e_44, h⟩ := ob_s h
            refine G_istore_n [(2, .int l2_44), (0, .ref P), (1, .int l1), (3, .int l3)] e_44 rfl (by decide) d_Parish_putOffBy_44 ?_
            exact G_sub _ [1, 2, 0, 3] rfl (t_Parish_putOffBy_45 hP ih S l1 l2_44 l3 _ h)
def f_Parish_putOffBy (S : St) (P : Nat) (l1 : Int32) : Option (Int32) :=
    (some (0 : Int32)).bind fun l2_1 =>
    (some (0 : Int32)).bind fun l3_3 =>
    f_Parish_putOffBy_4 P FU S l1 l2_1 l3_3
set_option maxHeartbeats 4000000 in
set_option maxRecDepth 20000 in
theorem t_Parish_putOffBy  {P : Nat} (hP : isP P) {S : St} {l1 : Int32} {w : Int32} (h : f_Parish_putOffBy S P l1 = some w) : Ct SX m_Parish_putOffBy 2 [.ref P, .int l1] S (some w) S := by
  unfold f_Parish_putOffBy at h
  refine Ct.of pn_Parish (Nat.le_of_ble_eq_true rfl) ?_
  show G SX m_Parish_putOffBy 2 (some w) S 0 [(0, .ref P), (1, .int l1)] [] S
  refine G_iconst 0 (by decide) d_Parish_putOffBy_0 ?_
  obtain ⟨l2_1, e_1, h⟩ := ob_s h
  refine G_istore_n [(2, .int l2_1), (0, .ref P), (1, .int l1)] e_1 rfl (by decide) d_Parish_putOffBy_1 ?_
  refine G_iconst 0 (by decide) d_Parish_putOffBy_2 ?_
  obtain ⟨l3_3, e_3, h⟩ := ob_s h
  refine G_istore_n [(3, .int l3_3), (2, .int l2_1), (0, .ref P), (1, .int l1)] e_3 rfl (by decide) d_Parish_putOffBy_3 ?_
  exact G_sub _ [2, 3, 1, 0] rfl (t_Parish_putOffBy_4 hP FU S l1 l2_1 l3_3 _ h)
theorem d_Parish_proudest_0 : decode m_Parish_proudest.2.1 0 = .ok (.aload_n 0, 1) := by decide +kernel
theorem d_Parish_proudest_1 : decode m_Parish_proudest.2.1 1 = .ok (.invokevirtual 77, 3) := by decide +kernel
theorem d_Parish_proudest_4 : decode m_Parish_proudest.2.1 4 = .ok (.istore_n 1, 1) := by decide +kernel
theorem d_Parish_proudest_5 : decode m_Parish_proudest.2.1 5 = .ok (.bipush (-2), 2) := by decide +kernel
theorem d_Parish_proudest_7 : decode m_Parish_proudest.2.1 7 = .ok (.istore_n 2, 1) := by decide +kernel
theorem d_Parish_proudest_8 : decode m_Parish_proudest.2.1 8 = .ok (.iconst (-1), 1) := by decide +kernel
theorem d_Parish_proudest_9 : decode m_Parish_proudest.2.1 9 = .ok (.istore_n 3, 1) := by decide +kernel
theorem d_Parish_proudest_10 : decode m_Parish_proudest.2.1 10 = .ok (.iconst 0, 1) := by decide +kernel
theorem d_Parish_proudest_11 : decode m_Parish_proudest.2.1 11 = .ok (.istore 4, 2) := by decide +kernel
theorem d_Parish_proudest_13 : decode m_Parish_proudest.2.1 13 = .ok (.iload 4, 2) := by decide +kernel
theorem d_Parish_proudest_15 : decode m_Parish_proudest.2.1 15 = .ok (.bipush 16, 2) := by decide +kernel
theorem d_Parish_proudest_17 : decode m_Parish_proudest.2.1 17 = .ok (.if_icmp .ge 38, 3) := by decide +kernel
theorem d_Parish_proudest_20 : decode m_Parish_proudest.2.1 20 = .ok (.aload_n 0, 1) := by decide +kernel
theorem d_Parish_proudest_21 : decode m_Parish_proudest.2.1 21 = .ok (.iload 4, 2) := by decide +kernel
theorem d_Parish_proudest_23 : decode m_Parish_proudest.2.1 23 = .ok (.invokevirtual 81, 3) := by decide +kernel
theorem d_Parish_proudest_26 : decode m_Parish_proudest.2.1 26 = .ok (.istore 5, 2) := by decide +kernel
theorem d_Parish_proudest_28 : decode m_Parish_proudest.2.1 28 = .ok (.iload_n 1, 1) := by decide +kernel
theorem d_Parish_proudest_29 : decode m_Parish_proudest.2.1 29 = .ok (.iload 4, 2) := by decide +kernel
theorem d_Parish_proudest_31 : decode m_Parish_proudest.2.1 31 = .ok (.iushr, 1) := by decide +kernel
theorem d_Parish_proudest_32 : decode m_Parish_proudest.2.1 32 = .ok (.iconst 1, 1) := by decide +kernel
theorem d_Parish_proudest_33 : decode m_Parish_proudest.2.1 33 = .ok (.iand, 1) := by decide +kernel
theorem d_Parish_proudest_34 : decode m_Parish_proudest.2.1 34 = .ok (.ifCond .eq 15, 3) := by decide +kernel
theorem d_Parish_proudest_37 : decode m_Parish_proudest.2.1 37 = .ok (.iload 5, 2) := by decide +kernel
theorem d_Parish_proudest_39 : decode m_Parish_proudest.2.1 39 = .ok (.iload_n 3, 1) := by decide +kernel
theorem d_Parish_proudest_40 : decode m_Parish_proudest.2.1 40 = .ok (.if_icmp .le 9, 3) := by decide +kernel
theorem d_Parish_proudest_43 : decode m_Parish_proudest.2.1 43 = .ok (.iload 4, 2) := by decide +kernel
theorem d_Parish_proudest_45 : decode m_Parish_proudest.2.1 45 = .ok (.istore_n 2, 1) := by decide +kernel
theorem d_Parish_proudest_46 : decode m_Parish_proudest.2.1 46 = .ok (.iload 5, 2) := by decide +kernel
theorem d_Parish_proudest_48 : decode m_Parish_proudest.2.1 48 = .ok (.istore_n 3, 1) := by decide +kernel
theorem d_Parish_proudest_49 : decode m_Parish_proudest.2.1 49 = .ok (.iinc 4 1, 3) := by decide +kernel
theorem d_Parish_proudest_52 : decode m_Parish_proudest.2.1 52 = .ok (.goto (-39), 3) := by decide +kernel
theorem d_Parish_proudest_55 : decode m_Parish_proudest.2.1 55 = .ok (.iload_n 2, 1) := by decide +kernel
theorem d_Parish_proudest_56 : decode m_Parish_proudest.2.1 56 = .ok (.ireturn, 1) := by decide +kernel
def f_Parish_proudest_49 (P : Nat) (k_13 : St → Int32 → Int32 → Int32 → Int32 → Option (Int32)) (S : St) (l1 : Int32) (l2 : Int32) (l3 : Int32) (l4 : Int32) : Option (Int32) :=
    (some (l4 + 1)).bind fun l4_49 =>
    k_13 S l1 l2 l3 l4_49
set_option maxHeartbeats 4000000 in
set_option maxRecDepth 20000 in
theorem t_Parish_proudest_49  {P : Nat} (hP : isP P) {k_13 : St → Int32 → Int32 → Int32 → Int32 → Option (Int32)} (hk_13 : ∀ (S : St) (l1 : Int32) (l2 : Int32) (l3 : Int32) (l4 : Int32) (w : Int32), k_13 S l1 l2 l3 l4 = some w → G SX m_Parish_proudest 3 (some w) S 13 [(0, .ref P), (1, .int l1), (2, .int l2), (3, .int l3), (4, .int l4)] [] S) (S : St) (l1 : Int32) (l2 : Int32) (l3 : Int32) (l4 : Int32) (w : Int32) (h : f_Parish_proudest_49 P k_13 S l1 l2 l3 l4 = some w) : G SX m_Parish_proudest 3 (some w) S 49 [(0, .ref P), (1, .int l1), (2, .int l2), (3, .int l3), (4, .int l4)] [] S := by
  unfold f_Parish_proudest_49 at h
  obtain ⟨l4_49, e_49, h⟩ := ob_s h
  refine G_iinc 1 4 [(4, .int l4_49), (0, .ref P), (1, .int l1), (2, .int l2), (3, .int l3)] (by decide) rfl e_49 rfl (by decide) d_Parish_proudest_49 ?_
  refine G_goto 13 (by decide) d_Parish_proudest_52 ?_
  exact G_sub _ [1, 2, 3, 4, 0] rfl (hk_13 S l1 l2 l3 l4_49 _ h)
def f_Parish_proudest_13 (P : Nat) : Nat → St → Int32 → Int32 → Int32 → Int32 → Option (Int32)
  | 0, _, _, _, _, _ => none
  | n + 1, S, l1, l2, l3, l4 =>
    if (16 : Int32) ≤ l4 then (
    some l2)
    else (
    (f_Parish_putOffBy S P l4).bind fun v_23 =>
    if ((jushr l1 l4) &&& 1) = 0 then (
    f_Parish_proudest_49 P (f_Parish_proudest_13 P n) S l1 l2 l3 l4)
    else (
    if v_23 ≤ l3 then (
    f_Parish_proudest_49 P (f_Parish_proudest_13 P n) S l1 l2 l3 l4)
    else (
    f_Parish_proudest_49 P (f_Parish_proudest_13 P n) S l1 l4 v_23 l4)))
set_option maxHeartbeats 4000000 in
set_option maxRecDepth 20000 in
theorem t_Parish_proudest_13  {P : Nat} (hP : isP P) : ∀ (n : Nat) (S : St) (l1 : Int32) (l2 : Int32) (l3 : Int32) (l4 : Int32) (w : Int32), f_Parish_proudest_13 P n S l1 l2 l3 l4 = some w → G SX m_Parish_proudest 3 (some w) S 13 [(0, .ref P), (1, .int l1), (2, .int l2), (3, .int l3), (4, .int l4)] [] S := by
  intro n
  induction n with
  | zero =>
    intro S l1 l2 l3 l4 w h
    rw [f_Parish_proudest_13] at h
    cases h
  | succ n ih =>
    intro S l1 l2 l3 l4 w h
    rw [f_Parish_proudest_13] at h
    refine G_iload 4 rfl d_Parish_proudest_13 ?_
    refine G_bipush 16 (by decide) d_Parish_proudest_15 ?_
    refine G_icmp_ge 55 (by decide) d_Parish_proudest_17 (fun c_17 => ?_) (fun c_17 => ?_)
    · replace h := ob_t h c_17
      refine G_iload_n 2 rfl d_Parish_proudest_55 ?_
      cases h
      exact G_iret rfl d_Parish_proudest_56
    · replace h := ob_f h c_17
      refine G_aload_n 0 rfl d_Parish_proudest_20 ?_
      refine G_iload 4 rfl d_Parish_proudest_21 ?_
      obtain ⟨v_23, q_23, h⟩ := ob_b h
      refine G_callV [.int l4] [] (t_Parish_putOffBy hP q_23) (by decide) (by decide) mv_Parish_putOffBy rfl ml_Parish_81 (kP hP) (sP hP) cl_2 rfl (Nat.le_of_ble_eq_true rfl) d_Parish_proudest_23 ?_
      refine G_istore [(5, .int v_23), (0, .ref P), (1, .int l1), (2, .int l2), (3, .int l3), (4, .int l4)] rfl rfl (by decide) d_Parish_proudest_26 ?_
      refine G_iload_n 2 rfl d_Parish_proudest_28 ?_
      refine G_iload 5 rfl d_Parish_proudest_29 ?_
      refine G_iushr d_Parish_proudest_31 ?_
      refine G_iconst 1 (by decide) d_Parish_proudest_32 ?_
      refine G_iand d_Parish_proudest_33 ?_
      refine G_if_eq 49 (by decide) d_Parish_proudest_34 (fun c_34 => ?_) (fun c_34 => ?_)
      · replace h := ob_t h c_34
        exact G_sub _ [1, 2, 3, 4, 5] rfl (t_Parish_proudest_49 hP ih S l1 l2 l3 l4 _ h)
      · replace h := ob_f h c_34
        refine G_iload 0 rfl d_Parish_proudest_37 ?_
        refine G_iload_n 4 rfl d_Parish_proudest_39 ?_
        refine G_icmp_le 49 (by decide) d_Parish_proudest_40 (fun c_40 => ?_) (fun c_40 => ?_)
        · replace h := ob_t h c_40
          exact G_sub _ [1, 2, 3, 4, 5] rfl (t_Parish_proudest_49 hP ih S l1 l2 l3 l4 _ h)
        · replace h := ob_f h c_40
          refine G_iload 5 rfl d_Parish_proudest_43 ?_
          refine G_istore_n [(2, .int l4), (5, .int v_23), (0, .ref P), (1, .int l1), (3, .int l3), (4, .int l4)] rfl rfl (by decide) d_Parish_proudest_45 ?_
          refine G_iload 1 rfl d_Parish_proudest_46 ?_
          refine G_istore_n [(3, .int v_23), (2, .int l4), (5, .int v_23), (0, .ref P), (1, .int l1), (4, .int l4)] rfl rfl (by decide) d_Parish_proudest_48 ?_
          exact G_sub _ [3, 4, 1, 0, 5] rfl (t_Parish_proudest_49 hP ih S l1 l4 v_23 l4 _ h)
def f_Parish_proudest (S : St) (P : Nat) : Option (Int32) :=
    (f_Parish_ownersLeft S P).bind fun v_1 =>
    (some ((-2) : Int32)).bind fun l2_7 =>
    (some ((-1) : Int32)).bind fun l3_9 =>
    (some (0 : Int32)).bind fun l4_11 =>
    f_Parish_proudest_13 P FU S v_1 l2_7 l3_9 l4_11
set_option maxHeartbeats 4000000 in
set_option maxRecDepth 20000 in
theorem t_Parish_proudest  {P : Nat} (hP : isP P) {S : St} {w : Int32} (h : f_Parish_proudest S P = some w) : Ct SX m_Parish_proudest 3 [.ref P] S (some w) S := by
  unfold f_Parish_proudest at h
  refine Ct.of pn_Parish (Nat.le_of_ble_eq_true rfl) ?_
  show G SX m_Parish_proudest 3 (some w) S 0 [(0, .ref P)] [] S
  refine G_aload_n 0 rfl d_Parish_proudest_0 ?_
  obtain ⟨v_1, q_1, h⟩ := ob_b h
  refine G_callV [] [] (t_Parish_ownersLeft hP q_1) (by decide) (by decide) mv_Parish_ownersLeft rfl ml_Parish_77 (kP hP) (sP hP) cl_2 rfl (Nat.le_of_ble_eq_true rfl) d_Parish_proudest_1 ?_
  refine G_istore_n [(1, .int v_1), (0, .ref P)] rfl rfl (by decide) d_Parish_proudest_4 ?_
  refine G_bipush (-2) (by decide) d_Parish_proudest_5 ?_
  obtain ⟨l2_7, e_7, h⟩ := ob_s h
  refine G_istore_n [(2, .int l2_7), (1, .int v_1), (0, .ref P)] e_7 rfl (by decide) d_Parish_proudest_7 ?_
  refine G_iconst (-1) (by decide) d_Parish_proudest_8 ?_
  obtain ⟨l3_9, e_9, h⟩ := ob_s h
  refine G_istore_n [(3, .int l3_9), (2, .int l2_7), (1, .int v_1), (0, .ref P)] e_9 rfl (by decide) d_Parish_proudest_9 ?_
  refine G_iconst 0 (by decide) d_Parish_proudest_10 ?_
  obtain ⟨l4_11, e_11, h⟩ := ob_s h
  refine G_istore [(4, .int l4_11), (3, .int l3_9), (2, .int l2_7), (1, .int v_1), (0, .ref P)] e_11 rfl (by decide) d_Parish_proudest_11 ?_
  exact G_sub _ [4, 3, 2, 1, 0] rfl (t_Parish_proudest_13 hP FU S v_1 l2_7 l3_9 l4_11 _ h)
theorem d_Parish_lightOf_0 : decode m_Parish_lightOf.2.1 0 = .ok (.iconst 0, 1) := by decide +kernel
theorem d_Parish_lightOf_1 : decode m_Parish_lightOf.2.1 1 = .ok (.istore_n 2, 1) := by decide +kernel
theorem d_Parish_lightOf_2 : decode m_Parish_lightOf.2.1 2 = .ok (.iconst 0, 1) := by decide +kernel
theorem d_Parish_lightOf_3 : decode m_Parish_lightOf.2.1 3 = .ok (.istore_n 3, 1) := by decide +kernel
theorem d_Parish_lightOf_4 : decode m_Parish_lightOf.2.1 4 = .ok (.iload_n 3, 1) := by decide +kernel
theorem d_Parish_lightOf_5 : decode m_Parish_lightOf.2.1 5 = .ok (.aload_n 0, 1) := by decide +kernel
theorem d_Parish_lightOf_6 : decode m_Parish_lightOf.2.1 6 = .ok (.getfield 31, 3) := by decide +kernel
theorem d_Parish_lightOf_9 : decode m_Parish_lightOf.2.1 9 = .ok (.if_icmp .ge 48, 3) := by decide +kernel
theorem d_Parish_lightOf_12 : decode m_Parish_lightOf.2.1 12 = .ok (.iload_n 3, 1) := by decide +kernel
theorem d_Parish_lightOf_13 : decode m_Parish_lightOf.2.1 13 = .ok (.bipush 24, 2) := by decide +kernel
theorem d_Parish_lightOf_15 : decode m_Parish_lightOf.2.1 15 = .ok (.if_icmp .ge 42, 3) := by decide +kernel
theorem d_Parish_lightOf_18 : decode m_Parish_lightOf.2.1 18 = .ok (.aload_n 0, 1) := by decide +kernel
theorem d_Parish_lightOf_19 : decode m_Parish_lightOf.2.1 19 = .ok (.iload_n 3, 1) := by decide +kernel
theorem d_Parish_lightOf_20 : decode m_Parish_lightOf.2.1 20 = .ok (.invokevirtual 74, 3) := by decide +kernel
theorem d_Parish_lightOf_23 : decode m_Parish_lightOf.2.1 23 = .ok (.ifCond .eq 28, 3) := by decide +kernel
theorem d_Parish_lightOf_26 : decode m_Parish_lightOf.2.1 26 = .ok (.iload_n 1, 1) := by decide +kernel
theorem d_Parish_lightOf_27 : decode m_Parish_lightOf.2.1 27 = .ok (.bipush 16, 2) := by decide +kernel
theorem d_Parish_lightOf_29 : decode m_Parish_lightOf.2.1 29 = .ok (.if_icmp .eq 13, 3) := by decide +kernel
theorem d_Parish_lightOf_32 : decode m_Parish_lightOf.2.1 32 = .ok (.aload_n 0, 1) := by decide +kernel
theorem d_Parish_lightOf_33 : decode m_Parish_lightOf.2.1 33 = .ok (.getfield 9, 3) := by decide +kernel
theorem d_Parish_lightOf_36 : decode m_Parish_lightOf.2.1 36 = .ok (.iload_n 3, 1) := by decide +kernel
theorem d_Parish_lightOf_37 : decode m_Parish_lightOf.2.1 37 = .ok (.iaload, 1) := by decide +kernel
theorem d_Parish_lightOf_38 : decode m_Parish_lightOf.2.1 38 = .ok (.iload_n 1, 1) := by decide +kernel
theorem d_Parish_lightOf_39 : decode m_Parish_lightOf.2.1 39 = .ok (.if_icmp .ne 12, 3) := by decide +kernel
theorem d_Parish_lightOf_42 : decode m_Parish_lightOf.2.1 42 = .ok (.iload_n 2, 1) := by decide +kernel
theorem d_Parish_lightOf_43 : decode m_Parish_lightOf.2.1 43 = .ok (.aload_n 0, 1) := by decide +kernel
theorem d_Parish_lightOf_44 : decode m_Parish_lightOf.2.1 44 = .ok (.getfield 18, 3) := by decide +kernel
theorem d_Parish_lightOf_47 : decode m_Parish_lightOf.2.1 47 = .ok (.iload_n 3, 1) := by decide +kernel
theorem d_Parish_lightOf_48 : decode m_Parish_lightOf.2.1 48 = .ok (.iaload, 1) := by decide +kernel
theorem d_Parish_lightOf_49 : decode m_Parish_lightOf.2.1 49 = .ok (.iadd, 1) := by decide +kernel
theorem d_Parish_lightOf_50 : decode m_Parish_lightOf.2.1 50 = .ok (.istore_n 2, 1) := by decide +kernel
theorem d_Parish_lightOf_51 : decode m_Parish_lightOf.2.1 51 = .ok (.iinc 3 1, 3) := by decide +kernel
theorem d_Parish_lightOf_54 : decode m_Parish_lightOf.2.1 54 = .ok (.goto (-50), 3) := by decide +kernel
theorem d_Parish_lightOf_57 : decode m_Parish_lightOf.2.1 57 = .ok (.iload_n 2, 1) := by decide +kernel
theorem d_Parish_lightOf_58 : decode m_Parish_lightOf.2.1 58 = .ok (.ireturn, 1) := by decide +kernel
def f_Parish_lightOf_51 (P : Nat) (k_4 : St → Int32 → Int32 → Int32 → Option (Int32)) (S : St) (l1 : Int32) (l2 : Int32) (l3 : Int32) : Option (Int32) :=
    (some (l3 + 1)).bind fun l3_51 =>
    k_4 S l1 l2 l3_51
set_option maxHeartbeats 4000000 in
set_option maxRecDepth 20000 in
theorem t_Parish_lightOf_51  {P : Nat} (hP : isP P) {k_4 : St → Int32 → Int32 → Int32 → Option (Int32)} (hk_4 : ∀ (S : St) (l1 : Int32) (l2 : Int32) (l3 : Int32) (w : Int32), k_4 S l1 l2 l3 = some w → G SX m_Parish_lightOf 2 (some w) S 4 [(0, .ref P), (1, .int l1), (2, .int l2), (3, .int l3)] [] S) (S : St) (l1 : Int32) (l2 : Int32) (l3 : Int32) (w : Int32) (h : f_Parish_lightOf_51 P k_4 S l1 l2 l3 = some w) : G SX m_Parish_lightOf 2 (some w) S 51 [(0, .ref P), (1, .int l1), (2, .int l2), (3, .int l3)] [] S := by
  unfold f_Parish_lightOf_51 at h
  obtain ⟨l3_51, e_51, h⟩ := ob_s h
  refine G_iinc 1 3 [(3, .int l3_51), (0, .ref P), (1, .int l1), (2, .int l2)] (by decide) rfl e_51 rfl (by decide) d_Parish_lightOf_51 ?_
  refine G_goto 4 (by decide) d_Parish_lightOf_54 ?_
  exact G_sub _ [1, 2, 3, 0] rfl (hk_4 S l1 l2 l3_51 _ h)
def f_Parish_lightOf_42 (P : Nat) (k_4 : St → Int32 → Int32 → Int32 → Option (Int32)) (S : St) (l1 : Int32) (l2 : Int32) (l3 : Int32) : Option (Int32) :=
    if ig l3 24 then (
    (some (l2 + (S (P + 3) l3.toNatClampNeg))).bind fun l2_50 =>
    f_Parish_lightOf_51 P k_4 S l1 l2_50 l3) else none
set_option maxHeartbeats 4000000 in
set_option maxRecDepth 20000 in
theorem t_Parish_lightOf_42  {P : Nat} (hP : isP P) {k_4 : St → Int32 → Int32 → Int32 → Option (Int32)} (hk_4 : ∀ (S : St) (l1 : Int32) (l2 : Int32) (l3 : Int32) (w : Int32), k_4 S l1 l2 l3 = some w → G SX m_Parish_lightOf 2 (some w) S 4 [(0, .ref P), (1, .int l1), (2, .int l2), (3, .int l3)] [] S) (S : St) (l1 : Int32) (l2 : Int32) (l3 : Int32) (w : Int32) (h : f_Parish_lightOf_42 P k_4 S l1 l2 l3 = some w) : G SX m_Parish_lightOf 2 (some w) S 42 [(0, .ref P), (1, .int l1), (2, .int l2), (3, .int l3)] [] S := by
  unfold f_Parish_lightOf_42 at h
  refine G_iload_n 2 rfl d_Parish_lightOf_42 ?_
  refine G_aload_n 0 rfl d_Parish_lightOf_43 ?_
  refine G_getR fl_Parish_18 (kP hP) (sP hP) rfl (qP3 hP) d_Parish_lightOf_44 ?_
  refine G_iload_n 3 rfl d_Parish_lightOf_47 ?_
  obtain ⟨g_48, h⟩ := ob_g h
  refine G_iaload (kPa3 hP) (sPa3 hP) g_48 d_Parish_lightOf_48 ?_
  refine G_iadd d_Parish_lightOf_49 ?_
  obtain ⟨l2_50, e_50, h⟩ := ob_s h
  refine G_istore_n [(2, .int l2_50), (0, .ref P), (1, .int l1), (3, .int l3)] e_50 rfl (by decide) d_Parish_lightOf_50 ?_
  exact G_sub _ [1, 2, 0, 3] rfl (t_Parish_lightOf_51 hP hk_4 S l1 l2_50 l3 _ h)
def f_Parish_lightOf_4 (P : Nat) : Nat → St → Int32 → Int32 → Int32 → Option (Int32)
  | 0, _, _, _, _ => none
  | n + 1, S, l1, l2, l3 =>
    if (S P 6) ≤ l3 then (
    some l2)
    else (
    if (24 : Int32) ≤ l3 then (
    some l2)
    else (
    (f_Parish_isLit S P l3).bind fun v_20 =>
    if v_20 = 0 then (
    f_Parish_lightOf_51 P (f_Parish_lightOf_4 P n) S l1 l2 l3)
    else (
    if l1 = 16 then (
    f_Parish_lightOf_42 P (f_Parish_lightOf_4 P n) S l1 l2 l3)
    else (
    if ig l3 24 then (
    if (S (P + 1) l3.toNatClampNeg) = l1 then (
    f_Parish_lightOf_42 P (f_Parish_lightOf_4 P n) S l1 l2 l3)
    else (
    f_Parish_lightOf_51 P (f_Parish_lightOf_4 P n) S l1 l2 l3)) else none))))
set_option maxHeartbeats 4000000 in
set_option maxRecDepth 20000 in
theorem t_Parish_lightOf_4  {P : Nat} (hP : isP P) : ∀ (n : Nat) (S : St) (l1 : Int32) (l2 : Int32) (l3 : Int32) (w : Int32), f_Parish_lightOf_4 P n S l1 l2 l3 = some w → G SX m_Parish_lightOf 2 (some w) S 4 [(0, .ref P), (1, .int l1), (2, .int l2), (3, .int l3)] [] S := by
  intro n
  induction n with
  | zero =>
    intro S l1 l2 l3 w h
    rw [f_Parish_lightOf_4] at h
    cases h
  | succ n ih =>
    intro S l1 l2 l3 w h
    rw [f_Parish_lightOf_4] at h
    refine G_iload_n 3 rfl d_Parish_lightOf_4 ?_
    refine G_aload_n 0 rfl d_Parish_lightOf_5 ?_
    refine G_getI fl_Parish_31 (kP hP) (sP hP) rfl d_Parish_lightOf_6 ?_
    refine G_icmp_ge 57 (by decide) d_Parish_lightOf_9 (fun c_9 => ?_) (fun c_9 => ?_)
    · replace h := ob_t h c_9
      refine G_iload_n 2 rfl d_Parish_lightOf_57 ?_
      cases h
      exact G_iret rfl d_Parish_lightOf_58
    · replace h := ob_f h c_9
      refine G_iload_n 3 rfl d_Parish_lightOf_12 ?_
      refine G_bipush 24 (by decide) d_Parish_lightOf_13 ?_
      refine G_icmp_ge 57 (by decide) d_Parish_lightOf_15 (fun c_15 => ?_) (fun c_15 => ?_)
      · replace h := ob_t h c_15
        refine G_iload_n 2 rfl d_Parish_lightOf_57 ?_
        cases h
        exact G_iret rfl d_Parish_lightOf_58
      · replace h := ob_f h c_15
        refine G_aload_n 0 rfl d_Parish_lightOf_18 ?_
        refine G_iload_n 3 rfl d_Parish_lightOf_19 ?_
        obtain ⟨v_20, q_20, h⟩ := ob_b h
        refine G_callV [.int l3] [] (t_Parish_isLit hP q_20) (by decide) (by decide) mv_Parish_isLit rfl ml_Parish_74 (kP hP) (sP hP) cl_2 rfl (Nat.le_of_ble_eq_true rfl) d_Parish_lightOf_20 ?_
        refine G_if_eq 51 (by decide) d_Parish_lightOf_23 (fun c_23 => ?_) (fun c_23 => ?_)
        · replace h := ob_t h c_23
          exact G_sub _ [0, 1, 2, 3] rfl (t_Parish_lightOf_51 hP ih S l1 l2 l3 _ h)
        · replace h := ob_f h c_23
          refine G_iload_n 1 rfl d_Parish_lightOf_26 ?_
          refine G_bipush 16 (by decide) d_Parish_lightOf_27 ?_
          refine G_icmp_eq 42 (by decide) d_Parish_lightOf_29 (fun c_29 => ?_) (fun c_29 => ?_)
          · replace h := ob_t h c_29
            exact G_sub _ [0, 1, 2, 3] rfl (t_Parish_lightOf_42 hP ih S l1 l2 l3 _ h)
          · replace h := ob_f h c_29
            refine G_aload_n 0 rfl d_Parish_lightOf_32 ?_
            refine G_getR fl_Parish_9 (kP hP) (sP hP) rfl (qP1 hP) d_Parish_lightOf_33 ?_
            refine G_iload_n 3 rfl d_Parish_lightOf_36 ?_
            obtain ⟨g_37, h⟩ := ob_g h
            refine G_iaload (kPa1 hP) (sPa1 hP) g_37 d_Parish_lightOf_37 ?_
            refine G_iload_n 1 rfl d_Parish_lightOf_38 ?_
            refine G_icmp_ne 51 (by decide) d_Parish_lightOf_39 (fun c_39 => ?_) (fun c_39 => ?_)
            · replace h := ob_f h c_39
              exact G_sub _ [0, 1, 2, 3] rfl (t_Parish_lightOf_51 hP ih S l1 l2 l3 _ h)
            · replace h := ob_t h c_39
              exact G_sub _ [0, 1, 2, 3] rfl (t_Parish_lightOf_42 hP ih S l1 l2 l3 _ h)
def f_Parish_lightOf (S : St) (P : Nat) (l1 : Int32) : Option (Int32) :=
    (some (0 : Int32)).bind fun l2_1 =>
    (some (0 : Int32)).bind fun l3_3 =>
    f_Parish_lightOf_4 P FU S l1 l2_1 l3_3
set_option maxHeartbeats 4000000 in
set_option maxRecDepth 20000 in
theorem t_Parish_lightOf  {P : Nat} (hP : isP P) {S : St} {l1 : Int32} {w : Int32} (h : f_Parish_lightOf S P l1 = some w) : Ct SX m_Parish_lightOf 2 [.ref P, .int l1] S (some w) S := by
  unfold f_Parish_lightOf at h
  refine Ct.of pn_Parish (Nat.le_of_ble_eq_true rfl) ?_
  show G SX m_Parish_lightOf 2 (some w) S 0 [(0, .ref P), (1, .int l1)] [] S
  refine G_iconst 0 (by decide) d_Parish_lightOf_0 ?_
  obtain ⟨l2_1, e_1, h⟩ := ob_s h
  refine G_istore_n [(2, .int l2_1), (0, .ref P), (1, .int l1)] e_1 rfl (by decide) d_Parish_lightOf_1 ?_
  refine G_iconst 0 (by decide) d_Parish_lightOf_2 ?_
  obtain ⟨l3_3, e_3, h⟩ := ob_s h
  refine G_istore_n [(3, .int l3_3), (2, .int l2_1), (0, .ref P), (1, .int l1)] e_3 rfl (by decide) d_Parish_lightOf_3 ?_
  exact G_sub _ [2, 3, 1, 0] rfl (t_Parish_lightOf_4 hP FU S l1 l2_1 l3_3 _ h)
theorem d_Parish_brightestOwner_0 : decode m_Parish_brightestOwner.2.1 0 = .ok (.bipush (-2), 2) := by decide +kernel
theorem d_Parish_brightestOwner_2 : decode m_Parish_brightestOwner.2.1 2 = .ok (.istore_n 1, 1) := by decide +kernel
theorem d_Parish_brightestOwner_3 : decode m_Parish_brightestOwner.2.1 3 = .ok (.iconst 0, 1) := by decide +kernel
theorem d_Parish_brightestOwner_4 : decode m_Parish_brightestOwner.2.1 4 = .ok (.istore_n 2, 1) := by decide +kernel
theorem d_Parish_brightestOwner_5 : decode m_Parish_brightestOwner.2.1 5 = .ok (.iconst 0, 1) := by decide +kernel
theorem d_Parish_brightestOwner_6 : decode m_Parish_brightestOwner.2.1 6 = .ok (.istore_n 3, 1) := by decide +kernel
theorem d_Parish_brightestOwner_7 : decode m_Parish_brightestOwner.2.1 7 = .ok (.iload_n 3, 1) := by decide +kernel
theorem d_Parish_brightestOwner_8 : decode m_Parish_brightestOwner.2.1 8 = .ok (.bipush 16, 2) := by decide +kernel
theorem d_Parish_brightestOwner_10 : decode m_Parish_brightestOwner.2.1 10 = .ok (.if_icmp .ge 27, 3) := by decide +kernel
theorem d_Parish_brightestOwner_13 : decode m_Parish_brightestOwner.2.1 13 = .ok (.aload_n 0, 1) := by decide +kernel
theorem d_Parish_brightestOwner_14 : decode m_Parish_brightestOwner.2.1 14 = .ok (.iload_n 3, 1) := by decide +kernel
theorem d_Parish_brightestOwner_15 : decode m_Parish_brightestOwner.2.1 15 = .ok (.invokevirtual 85, 3) := by decide +kernel
theorem d_Parish_brightestOwner_18 : decode m_Parish_brightestOwner.2.1 18 = .ok (.istore 4, 2) := by decide +kernel
theorem d_Parish_brightestOwner_20 : decode m_Parish_brightestOwner.2.1 20 = .ok (.iload 4, 2) := by decide +kernel
theorem d_Parish_brightestOwner_22 : decode m_Parish_brightestOwner.2.1 22 = .ok (.iload_n 2, 1) := by decide +kernel
theorem d_Parish_brightestOwner_23 : decode m_Parish_brightestOwner.2.1 23 = .ok (.if_icmp .le 8, 3) := by decide +kernel
theorem d_Parish_brightestOwner_26 : decode m_Parish_brightestOwner.2.1 26 = .ok (.iload_n 3, 1) := by decide +kernel
theorem d_Parish_brightestOwner_27 : decode m_Parish_brightestOwner.2.1 27 = .ok (.istore_n 1, 1) := by decide +kernel
theorem d_Parish_brightestOwner_28 : decode m_Parish_brightestOwner.2.1 28 = .ok (.iload 4, 2) := by decide +kernel
theorem d_Parish_brightestOwner_30 : decode m_Parish_brightestOwner.2.1 30 = .ok (.istore_n 2, 1) := by decide +kernel
theorem d_Parish_brightestOwner_31 : decode m_Parish_brightestOwner.2.1 31 = .ok (.iinc 3 1, 3) := by decide +kernel
theorem d_Parish_brightestOwner_34 : decode m_Parish_brightestOwner.2.1 34 = .ok (.goto (-27), 3) := by decide +kernel
theorem d_Parish_brightestOwner_37 : decode m_Parish_brightestOwner.2.1 37 = .ok (.iload_n 1, 1) := by decide +kernel
theorem d_Parish_brightestOwner_38 : decode m_Parish_brightestOwner.2.1 38 = .ok (.ireturn, 1) := by decide +kernel
def f_Parish_brightestOwner_31 (P : Nat) (k_7 : St → Int32 → Int32 → Int32 → Option (Int32)) (S : St) (l1 : Int32) (l2 : Int32) (l3 : Int32) : Option (Int32) :=
    (some (l3 + 1)).bind fun l3_31 =>
    k_7 S l1 l2 l3_31
set_option maxHeartbeats 4000000 in
set_option maxRecDepth 20000 in
theorem t_Parish_brightestOwner_31  {P : Nat} (hP : isP P) {k_7 : St → Int32 → Int32 → Int32 → Option (Int32)} (hk_7 : ∀ (S : St) (l1 : Int32) (l2 : Int32) (l3 : Int32) (w : Int32), k_7 S l1 l2 l3 = some w → G SX m_Parish_brightestOwner 3 (some w) S 7 [(0, .ref P), (1, .int l1), (2, .int l2), (3, .int l3)] [] S) (S : St) (l1 : Int32) (l2 : Int32) (l3 : Int32) (w : Int32) (h : f_Parish_brightestOwner_31 P k_7 S l1 l2 l3 = some w) : G SX m_Parish_brightestOwner 3 (some w) S 31 [(0, .ref P), (1, .int l1), (2, .int l2), (3, .int l3)] [] S := by
  unfold f_Parish_brightestOwner_31 at h
  obtain ⟨l3_31, e_31, h⟩ := ob_s h
  refine G_iinc 1 3 [(3, .int l3_31), (0, .ref P), (1, .int l1), (2, .int l2)] (by decide) rfl e_31 rfl (by decide) d_Parish_brightestOwner_31 ?_
  refine G_goto 7 (by decide) d_Parish_brightestOwner_34 ?_
  exact G_sub _ [1, 2, 3, 0] rfl (hk_7 S l1 l2 l3_31 _ h)
def f_Parish_brightestOwner_7 (P : Nat) : Nat → St → Int32 → Int32 → Int32 → Option (Int32)
  | 0, _, _, _, _ => none
  | n + 1, S, l1, l2, l3 =>
    if (16 : Int32) ≤ l3 then (
    some l1)
    else (
    (f_Parish_lightOf S P l3).bind fun v_15 =>
    if v_15 ≤ l2 then (
    f_Parish_brightestOwner_31 P (f_Parish_brightestOwner_7 P n) S l1 l2 l3)
    else (
    f_Parish_brightestOwner_31 P (f_Parish_brightestOwner_7 P n) S l3 v_15 l3))
set_option maxHeartbeats 4000000 in
set_option maxRecDepth 20000 in
theorem t_Parish_brightestOwner_7  {P : Nat} (hP : isP P) : ∀ (n : Nat) (S : St) (l1 : Int32) (l2 : Int32) (l3 : Int32) (w : Int32), f_Parish_brightestOwner_7 P n S l1 l2 l3 = some w → G SX m_Parish_brightestOwner 3 (some w) S 7 [(0, .ref P), (1, .int l1), (2, .int l2), (3, .int l3)] [] S := by
  intro n
  induction n with
  | zero =>
    intro S l1 l2 l3 w h
    rw [f_Parish_brightestOwner_7] at h
    cases h
  | succ n ih =>
    intro S l1 l2 l3 w h
    rw [f_Parish_brightestOwner_7] at h
    refine G_iload_n 3 rfl d_Parish_brightestOwner_7 ?_
    refine G_bipush 16 (by decide) d_Parish_brightestOwner_8 ?_
    refine G_icmp_ge 37 (by decide) d_Parish_brightestOwner_10 (fun c_10 => ?_) (fun c_10 => ?_)
    · replace h := ob_t h c_10
      refine G_iload_n 1 rfl d_Parish_brightestOwner_37 ?_
      cases h
      exact G_iret rfl d_Parish_brightestOwner_38
    · replace h := ob_f h c_10
      refine G_aload_n 0 rfl d_Parish_brightestOwner_13 ?_
      refine G_iload_n 3 rfl d_Parish_brightestOwner_14 ?_
      obtain ⟨v_15, q_15, h⟩ := ob_b h
      refine G_callV [.int l3] [] (t_Parish_lightOf hP q_15) (by decide) (by decide) mv_Parish_lightOf rfl ml_Parish_85 (kP hP) (sP hP) cl_2 rfl (Nat.le_of_ble_eq_true rfl) d_Parish_brightestOwner_15 ?_
      refine G_istore [(4, .int v_15), (0, .ref P), (1, .int l1), (2, .int l2), (3, .int l3)] rfl rfl (by decide) d_Parish_brightestOwner_18 ?_
      refine G_iload 0 rfl d_Parish_brightestOwner_20 ?_
      refine G_iload_n 3 rfl d_Parish_brightestOwner_22 ?_
      refine G_icmp_le 31 (by decide) d_Parish_brightestOwner_23 (fun c_23 => ?_) (fun c_23 => ?_)
      · replace h := ob_t h c_23
        exact G_sub _ [1, 2, 3, 4] rfl (t_Parish_brightestOwner_31 hP ih S l1 l2 l3 _ h)
      · replace h := ob_f h c_23
        refine G_iload_n 4 rfl d_Parish_brightestOwner_26 ?_
        refine G_istore_n [(1, .int l3), (4, .int v_15), (0, .ref P), (2, .int l2), (3, .int l3)] rfl rfl (by decide) d_Parish_brightestOwner_27 ?_
        refine G_iload 1 rfl d_Parish_brightestOwner_28 ?_
        refine G_istore_n [(2, .int v_15), (1, .int l3), (4, .int v_15), (0, .ref P), (3, .int l3)] rfl rfl (by decide) d_Parish_brightestOwner_30 ?_
        exact G_sub _ [3, 1, 0, 4] rfl (t_Parish_brightestOwner_31 hP ih S l3 v_15 l3 _ h)
def f_Parish_brightestOwner (S : St) (P : Nat) : Option (Int32) :=
    (some ((-2) : Int32)).bind fun l1_2 =>
    (some (0 : Int32)).bind fun l2_4 =>
    (some (0 : Int32)).bind fun l3_6 =>
    f_Parish_brightestOwner_7 P FU S l1_2 l2_4 l3_6
set_option maxHeartbeats 4000000 in
set_option maxRecDepth 20000 in
theorem t_Parish_brightestOwner  {P : Nat} (hP : isP P) {S : St} {w : Int32} (h : f_Parish_brightestOwner S P = some w) : Ct SX m_Parish_brightestOwner 3 [.ref P] S (some w) S := by
  unfold f_Parish_brightestOwner at h
  refine Ct.of pn_Parish (Nat.le_of_ble_eq_true rfl) ?_
  show G SX m_Parish_brightestOwner 3 (some w) S 0 [(0, .ref P)] [] S
  refine G_bipush (-2) (by decide) d_Parish_brightestOwner_0 ?_
  obtain ⟨l1_2, e_2, h⟩ := ob_s h
  refine G_istore_n [(1, .int l1_2), (0, .ref P)] e_2 rfl (by decide) d_Parish_brightestOwner_2 ?_
  refine G_iconst 0 (by decide) d_Parish_brightestOwner_3 ?_
  obtain ⟨l2_4, e_4, h⟩ := ob_s h
  refine G_istore_n [(2, .int l2_4), (1, .int l1_2), (0, .ref P)] e_4 rfl (by decide) d_Parish_brightestOwner_4 ?_
  refine G_iconst 0 (by decide) d_Parish_brightestOwner_5 ?_
  obtain ⟨l3_6, e_6, h⟩ := ob_s h
  refine G_istore_n [(3, .int l3_6), (2, .int l2_4), (1, .int l1_2), (0, .ref P)] e_6 rfl (by decide) d_Parish_brightestOwner_6 ?_
  exact G_sub _ [3, 2, 1, 0] rfl (t_Parish_brightestOwner_7 hP FU S l1_2 l2_4 l3_6 _ h)
theorem d_Parish_leftPutOffUnder_0 : decode m_Parish_leftPutOffUnder.2.1 0 = .ok (.iconst 0, 1) := by decide +kernel
theorem d_Parish_leftPutOffUnder_1 : decode m_Parish_leftPutOffUnder.2.1 1 = .ok (.istore_n 2, 1) := by decide +kernel
theorem d_Parish_leftPutOffUnder_2 : decode m_Parish_leftPutOffUnder.2.1 2 = .ok (.iconst 0, 1) := by decide +kernel
theorem d_Parish_leftPutOffUnder_3 : decode m_Parish_leftPutOffUnder.2.1 3 = .ok (.istore_n 3, 1) := by decide +kernel
theorem d_Parish_leftPutOffUnder_4 : decode m_Parish_leftPutOffUnder.2.1 4 = .ok (.iload_n 3, 1) := by decide +kernel
theorem d_Parish_leftPutOffUnder_5 : decode m_Parish_leftPutOffUnder.2.1 5 = .ok (.aload_n 0, 1) := by decide +kernel
theorem d_Parish_leftPutOffUnder_6 : decode m_Parish_leftPutOffUnder.2.1 6 = .ok (.getfield 31, 3) := by decide +kernel
theorem d_Parish_leftPutOffUnder_9 : decode m_Parish_leftPutOffUnder.2.1 9 = .ok (.if_icmp .ge 36, 3) := by decide +kernel
theorem d_Parish_leftPutOffUnder_12 : decode m_Parish_leftPutOffUnder.2.1 12 = .ok (.iload_n 3, 1) := by decide +kernel
theorem d_Parish_leftPutOffUnder_13 : decode m_Parish_leftPutOffUnder.2.1 13 = .ok (.bipush 24, 2) := by decide +kernel
theorem d_Parish_leftPutOffUnder_15 : decode m_Parish_leftPutOffUnder.2.1 15 = .ok (.if_icmp .ge 30, 3) := by decide +kernel
theorem d_Parish_leftPutOffUnder_18 : decode m_Parish_leftPutOffUnder.2.1 18 = .ok (.aload_n 0, 1) := by decide +kernel
theorem d_Parish_leftPutOffUnder_19 : decode m_Parish_leftPutOffUnder.2.1 19 = .ok (.iload_n 3, 1) := by decide +kernel
theorem d_Parish_leftPutOffUnder_20 : decode m_Parish_leftPutOffUnder.2.1 20 = .ok (.invokevirtual 64, 3) := by decide +kernel
theorem d_Parish_leftPutOffUnder_23 : decode m_Parish_leftPutOffUnder.2.1 23 = .ok (.ifCond .ne 16, 3) := by decide +kernel
theorem d_Parish_leftPutOffUnder_26 : decode m_Parish_leftPutOffUnder.2.1 26 = .ok (.aload_n 0, 1) := by decide +kernel
theorem d_Parish_leftPutOffUnder_27 : decode m_Parish_leftPutOffUnder.2.1 27 = .ok (.getfield 21, 3) := by decide +kernel
theorem d_Parish_leftPutOffUnder_30 : decode m_Parish_leftPutOffUnder.2.1 30 = .ok (.iload_n 3, 1) := by decide +kernel
theorem d_Parish_leftPutOffUnder_31 : decode m_Parish_leftPutOffUnder.2.1 31 = .ok (.iaload, 1) := by decide +kernel
theorem d_Parish_leftPutOffUnder_32 : decode m_Parish_leftPutOffUnder.2.1 32 = .ok (.iload_n 1, 1) := by decide +kernel
theorem d_Parish_leftPutOffUnder_33 : decode m_Parish_leftPutOffUnder.2.1 33 = .ok (.if_icmp .ge 6, 3) := by decide +kernel
theorem d_Parish_leftPutOffUnder_36 : decode m_Parish_leftPutOffUnder.2.1 36 = .ok (.iinc 2 1, 3) := by decide +kernel
theorem d_Parish_leftPutOffUnder_39 : decode m_Parish_leftPutOffUnder.2.1 39 = .ok (.iinc 3 1, 3) := by decide +kernel
theorem d_Parish_leftPutOffUnder_42 : decode m_Parish_leftPutOffUnder.2.1 42 = .ok (.goto (-38), 3) := by decide +kernel
theorem d_Parish_leftPutOffUnder_45 : decode m_Parish_leftPutOffUnder.2.1 45 = .ok (.iload_n 2, 1) := by decide +kernel
theorem d_Parish_leftPutOffUnder_46 : decode m_Parish_leftPutOffUnder.2.1 46 = .ok (.ireturn, 1) := by decide +kernel
def f_Parish_leftPutOffUnder_39 (P : Nat) (k_4 : St → Int32 → Int32 → Int32 → Option (Int32)) (S : St) (l1 : Int32) (l2 : Int32) (l3 : Int32) : Option (Int32) :=
    (some (l3 + 1)).bind fun l3_39 =>
    k_4 S l1 l2 l3_39
set_option maxHeartbeats 4000000 in
set_option maxRecDepth 20000 in
theorem t_Parish_leftPutOffUnder_39  {P : Nat} (hP : isP P) {k_4 : St → Int32 → Int32 → Int32 → Option (Int32)} (hk_4 : ∀ (S : St) (l1 : Int32) (l2 : Int32) (l3 : Int32) (w : Int32), k_4 S l1 l2 l3 = some w → G SX m_Parish_leftPutOffUnder 2 (some w) S 4 [(0, .ref P), (1, .int l1), (2, .int l2), (3, .int l3)] [] S) (S : St) (l1 : Int32) (l2 : Int32) (l3 : Int32) (w : Int32) (h : f_Parish_leftPutOffUnder_39 P k_4 S l1 l2 l3 = some w) : G SX m_Parish_leftPutOffUnder 2 (some w) S 39 [(0, .ref P), (1, .int l1), (2, .int l2), (3, .int l3)] [] S := by
  unfold f_Parish_leftPutOffUnder_39 at h
  obtain ⟨l3_39, e_39, h⟩ := ob_s h
  refine G_iinc 1 3 [(3, .int l3_39), (0, .ref P), (1, .int l1), (2, .int l2)] (by decide) rfl e_39 rfl (by decide) d_Parish_leftPutOffUnder_39 ?_
  refine G_goto 4 (by decide) d_Parish_leftPutOffUnder_42 ?_
  exact G_sub _ [1, 2, 3, 0] rfl (hk_4 S l1 l2 l3_39 _ h)
def f_Parish_leftPutOffUnder_4 (P : Nat) : Nat → St → Int32 → Int32 → Int32 → Option (Int32)
  | 0, _, _, _, _ => none
  | n + 1, S, l1, l2, l3 =>
    if (S P 6) ≤ l3 then (
    some l2)
    else (
    if (24 : Int32) ≤ l3 then (
    some l2)
    else (
    (f_Parish_isDone S P l3).bind fun v_20 =>
    if v_20 = 0 then (
    if ig l3 24 then (
    if l1 ≤ (S (P + 4) l3.toNatClampNeg) then (
    f_Parish_leftPutOffUnder_39 P (f_Parish_leftPutOffUnder_4 P n) S l1 l2 l3)
    else (
    (some (l2 + 1)).bind fun l2_36 =>
    f_Parish_leftPutOffUnder_39 P (f_Parish_leftPutOffUnder_4 P n) S l1 l2_36 l3)) else none)
    else (
    f_Parish_leftPutOffUnder_39 P (f_Parish_leftPutOffUnder_4 P n) S l1 l2 l3)))
set_option maxHeartbeats 4000000 in
set_option maxRecDepth 20000 in
theorem t_Parish_leftPutOffUnder_4  {P : Nat} (hP : isP P) : ∀ (n : Nat) (S : St) (l1 : Int32) (l2 : Int32) (l3 : Int32) (w : Int32), f_Parish_leftPutOffUnder_4 P n S l1 l2 l3 = some w → G SX m_Parish_leftPutOffUnder 2 (some w) S 4 [(0, .ref P), (1, .int l1), (2, .int l2), (3, .int l3)] [] S := by
  intro n
  induction n with
  | zero =>
    intro S l1 l2 l3 w h
    rw [f_Parish_leftPutOffUnder_4] at h
    cases h
  | succ n ih =>
    intro S l1 l2 l3 w h
    rw [f_Parish_leftPutOffUnder_4] at h
    refine G_iload_n 3 rfl d_Parish_leftPutOffUnder_4 ?_
    refine G_aload_n 0 rfl d_Parish_leftPutOffUnder_5 ?_
    refine G_getI fl_Parish_31 (kP hP) (sP hP) rfl d_Parish_leftPutOffUnder_6 ?_
    refine G_icmp_ge 45 (by decide) d_Parish_leftPutOffUnder_9 (fun c_9 => ?_) (fun c_9 => ?_)
    · replace h := ob_t h c_9
      refine G_iload_n 2 rfl d_Parish_leftPutOffUnder_45 ?_
      cases h
      exact G_iret rfl d_Parish_leftPutOffUnder_46
    · replace h := ob_f h c_9
      refine G_iload_n 3 rfl d_Parish_leftPutOffUnder_12 ?_
      refine G_bipush 24 (by decide) d_Parish_leftPutOffUnder_13 ?_
      refine G_icmp_ge 45 (by decide) d_Parish_leftPutOffUnder_15 (fun c_15 => ?_) (fun c_15 => ?_)
      · replace h := ob_t h c_15
        refine G_iload_n 2 rfl d_Parish_leftPutOffUnder_45 ?_
        cases h
        exact G_iret rfl d_Parish_leftPutOffUnder_46
      · replace h := ob_f h c_15
        refine G_aload_n 0 rfl d_Parish_leftPutOffUnder_18 ?_
        refine G_iload_n 3 rfl d_Parish_leftPutOffUnder_19 ?_
        obtain ⟨v_20, q_20, h⟩ := ob_b h
        refine G_callV [.int l3] [] (t_Parish_isDone hP q_20) (by decide) (by decide) mv_Parish_isDone rfl ml_Parish_64 (kP hP) (sP hP) cl_2 rfl (Nat.le_of_ble_eq_true rfl) d_Parish_leftPutOffUnder_20 ?_
        refine G_if_ne 39 (by decide) d_Parish_leftPutOffUnder_23 (fun c_23 => ?_) (fun c_23 => ?_)
        · replace h := ob_f h c_23
          exact G_sub _ [0, 1, 2, 3] rfl (t_Parish_leftPutOffUnder_39 hP ih S l1 l2 l3 _ h)
        · replace h := ob_t h c_23
          refine G_aload_n 0 rfl d_Parish_leftPutOffUnder_26 ?_
          refine G_getR fl_Parish_21 (kP hP) (sP hP) rfl (qP4 hP) d_Parish_leftPutOffUnder_27 ?_
          refine G_iload_n 3 rfl d_Parish_leftPutOffUnder_30 ?_
          obtain ⟨g_31, h⟩ := ob_g h
          refine G_iaload (kPa4 hP) (sPa4 hP) g_31 d_Parish_leftPutOffUnder_31 ?_
          refine G_iload_n 1 rfl d_Parish_leftPutOffUnder_32 ?_
          refine G_icmp_ge 39 (by decide) d_Parish_leftPutOffUnder_33 (fun c_33 => ?_) (fun c_33 => ?_)
          · replace h := ob_t h c_33
            exact G_sub _ [0, 1, 2, 3] rfl (t_Parish_leftPutOffUnder_39 hP ih S l1 l2 l3 _ h)
          · replace h := ob_f h c_33
            obtain ⟨l2_36, e_36, h⟩ := ob_s h
            refine G_iinc 1 2 [(2, .int l2_36), (0, .ref P), (1, .int l1), (3, .int l3)] (by decide) rfl e_36 rfl (by decide) d_Parish_leftPutOffUnder_36 ?_
            exact G_sub _ [1, 2, 0, 3] rfl (t_Parish_leftPutOffUnder_39 hP ih S l1 l2_36 l3 _ h)
def f_Parish_leftPutOffUnder (S : St) (P : Nat) (l1 : Int32) : Option (Int32) :=
    (some (0 : Int32)).bind fun l2_1 =>
    (some (0 : Int32)).bind fun l3_3 =>
    f_Parish_leftPutOffUnder_4 P FU S l1 l2_1 l3_3
set_option maxHeartbeats 4000000 in
set_option maxRecDepth 20000 in
theorem t_Parish_leftPutOffUnder  {P : Nat} (hP : isP P) {S : St} {l1 : Int32} {w : Int32} (h : f_Parish_leftPutOffUnder S P l1 = some w) : Ct SX m_Parish_leftPutOffUnder 2 [.ref P, .int l1] S (some w) S := by
  unfold f_Parish_leftPutOffUnder at h
  refine Ct.of pn_Parish (Nat.le_of_ble_eq_true rfl) ?_
  show G SX m_Parish_leftPutOffUnder 2 (some w) S 0 [(0, .ref P), (1, .int l1)] [] S
  refine G_iconst 0 (by decide) d_Parish_leftPutOffUnder_0 ?_
  obtain ⟨l2_1, e_1, h⟩ := ob_s h
  refine G_istore_n [(2, .int l2_1), (0, .ref P), (1, .int l1)] e_1 rfl (by decide) d_Parish_leftPutOffUnder_1 ?_
  refine G_iconst 0 (by decide) d_Parish_leftPutOffUnder_2 ?_
  obtain ⟨l3_3, e_3, h⟩ := ob_s h
  refine G_istore_n [(3, .int l3_3), (2, .int l2_1), (0, .ref P), (1, .int l1)] e_3 rfl (by decide) d_Parish_leftPutOffUnder_3 ?_
  exact G_sub _ [2, 3, 1, 0] rfl (t_Parish_leftPutOffUnder_4 hP FU S l1 l2_1 l3_3 _ h)
theorem d_Parish_middlePutOff_0 : decode m_Parish_middlePutOff.2.1 0 = .ok (.aload_n 0, 1) := by decide +kernel
theorem d_Parish_middlePutOff_1 : decode m_Parish_middlePutOff.2.1 1 = .ok (.getfield 31, 3) := by decide +kernel
theorem d_Parish_middlePutOff_4 : decode m_Parish_middlePutOff.2.1 4 = .ok (.aload_n 0, 1) := by decide +kernel
theorem d_Parish_middlePutOff_5 : decode m_Parish_middlePutOff.2.1 5 = .ok (.getfield 28, 3) := by decide +kernel
theorem d_Parish_middlePutOff_8 : decode m_Parish_middlePutOff.2.1 8 = .ok (.invokestatic 88, 3) := by decide +kernel
theorem d_Parish_middlePutOff_11 : decode m_Parish_middlePutOff.2.1 11 = .ok (.isub, 1) := by decide +kernel
theorem d_Parish_middlePutOff_12 : decode m_Parish_middlePutOff.2.1 12 = .ok (.iconst 1, 1) := by decide +kernel
theorem d_Parish_middlePutOff_13 : decode m_Parish_middlePutOff.2.1 13 = .ok (.isub, 1) := by decide +kernel
theorem d_Parish_middlePutOff_14 : decode m_Parish_middlePutOff.2.1 14 = .ok (.iconst 2, 1) := by decide +kernel
theorem d_Parish_middlePutOff_15 : decode m_Parish_middlePutOff.2.1 15 = .ok (.idiv, 1) := by decide +kernel
theorem d_Parish_middlePutOff_16 : decode m_Parish_middlePutOff.2.1 16 = .ok (.istore_n 1, 1) := by decide +kernel
theorem d_Parish_middlePutOff_17 : decode m_Parish_middlePutOff.2.1 17 = .ok (.iconst 0, 1) := by decide +kernel
theorem d_Parish_middlePutOff_18 : decode m_Parish_middlePutOff.2.1 18 = .ok (.istore_n 2, 1) := by decide +kernel
theorem d_Parish_middlePutOff_19 : decode m_Parish_middlePutOff.2.1 19 = .ok (.iload_n 2, 1) := by decide +kernel
theorem d_Parish_middlePutOff_20 : decode m_Parish_middlePutOff.2.1 20 = .ok (.aload_n 0, 1) := by decide +kernel
theorem d_Parish_middlePutOff_21 : decode m_Parish_middlePutOff.2.1 21 = .ok (.getfield 31, 3) := by decide +kernel
theorem d_Parish_middlePutOff_24 : decode m_Parish_middlePutOff.2.1 24 = .ok (.if_icmp .ge 66, 3) := by decide +kernel
theorem d_Parish_middlePutOff_27 : decode m_Parish_middlePutOff.2.1 27 = .ok (.iload_n 2, 1) := by decide +kernel
theorem d_Parish_middlePutOff_28 : decode m_Parish_middlePutOff.2.1 28 = .ok (.bipush 24, 2) := by decide +kernel
theorem d_Parish_middlePutOff_30 : decode m_Parish_middlePutOff.2.1 30 = .ok (.if_icmp .ge 60, 3) := by decide +kernel
theorem d_Parish_middlePutOff_33 : decode m_Parish_middlePutOff.2.1 33 = .ok (.aload_n 0, 1) := by decide +kernel
theorem d_Parish_middlePutOff_34 : decode m_Parish_middlePutOff.2.1 34 = .ok (.iload_n 2, 1) := by decide +kernel
theorem d_Parish_middlePutOff_35 : decode m_Parish_middlePutOff.2.1 35 = .ok (.invokevirtual 64, 3) := by decide +kernel
theorem d_Parish_middlePutOff_38 : decode m_Parish_middlePutOff.2.1 38 = .ok (.ifCond .ne 46, 3) := by decide +kernel
theorem d_Parish_middlePutOff_41 : decode m_Parish_middlePutOff.2.1 41 = .ok (.aload_n 0, 1) := by decide +kernel
theorem d_Parish_middlePutOff_42 : decode m_Parish_middlePutOff.2.1 42 = .ok (.aload_n 0, 1) := by decide +kernel
theorem d_Parish_middlePutOff_43 : decode m_Parish_middlePutOff.2.1 43 = .ok (.getfield 21, 3) := by decide +kernel
theorem d_Parish_middlePutOff_46 : decode m_Parish_middlePutOff.2.1 46 = .ok (.iload_n 2, 1) := by decide +kernel
theorem d_Parish_middlePutOff_47 : decode m_Parish_middlePutOff.2.1 47 = .ok (.iaload, 1) := by decide +kernel
theorem d_Parish_middlePutOff_48 : decode m_Parish_middlePutOff.2.1 48 = .ok (.invokevirtual 93, 3) := by decide +kernel
theorem d_Parish_middlePutOff_51 : decode m_Parish_middlePutOff.2.1 51 = .ok (.istore_n 3, 1) := by decide +kernel
theorem d_Parish_middlePutOff_52 : decode m_Parish_middlePutOff.2.1 52 = .ok (.aload_n 0, 1) := by decide +kernel
theorem d_Parish_middlePutOff_53 : decode m_Parish_middlePutOff.2.1 53 = .ok (.aload_n 0, 1) := by decide +kernel
theorem d_Parish_middlePutOff_54 : decode m_Parish_middlePutOff.2.1 54 = .ok (.getfield 21, 3) := by decide +kernel
theorem d_Parish_middlePutOff_57 : decode m_Parish_middlePutOff.2.1 57 = .ok (.iload_n 2, 1) := by decide +kernel
theorem d_Parish_middlePutOff_58 : decode m_Parish_middlePutOff.2.1 58 = .ok (.iaload, 1) := by decide +kernel
theorem d_Parish_middlePutOff_59 : decode m_Parish_middlePutOff.2.1 59 = .ok (.iconst 1, 1) := by decide +kernel
theorem d_Parish_middlePutOff_60 : decode m_Parish_middlePutOff.2.1 60 = .ok (.iadd, 1) := by decide +kernel
theorem d_Parish_middlePutOff_61 : decode m_Parish_middlePutOff.2.1 61 = .ok (.invokevirtual 93, 3) := by decide +kernel
theorem d_Parish_middlePutOff_64 : decode m_Parish_middlePutOff.2.1 64 = .ok (.istore 4, 2) := by decide +kernel
theorem d_Parish_middlePutOff_66 : decode m_Parish_middlePutOff.2.1 66 = .ok (.iload_n 3, 1) := by decide +kernel
theorem d_Parish_middlePutOff_67 : decode m_Parish_middlePutOff.2.1 67 = .ok (.iload_n 1, 1) := by decide +kernel
theorem d_Parish_middlePutOff_68 : decode m_Parish_middlePutOff.2.1 68 = .ok (.if_icmp .gt 16, 3) := by decide +kernel
theorem d_Parish_middlePutOff_71 : decode m_Parish_middlePutOff.2.1 71 = .ok (.iload_n 1, 1) := by decide +kernel
theorem d_Parish_middlePutOff_72 : decode m_Parish_middlePutOff.2.1 72 = .ok (.iload 4, 2) := by decide +kernel
theorem d_Parish_middlePutOff_74 : decode m_Parish_middlePutOff.2.1 74 = .ok (.if_icmp .ge 10, 3) := by decide +kernel
theorem d_Parish_middlePutOff_77 : decode m_Parish_middlePutOff.2.1 77 = .ok (.aload_n 0, 1) := by decide +kernel
theorem d_Parish_middlePutOff_78 : decode m_Parish_middlePutOff.2.1 78 = .ok (.getfield 21, 3) := by decide +kernel
theorem d_Parish_middlePutOff_81 : decode m_Parish_middlePutOff.2.1 81 = .ok (.iload_n 2, 1) := by decide +kernel
theorem d_Parish_middlePutOff_82 : decode m_Parish_middlePutOff.2.1 82 = .ok (.iaload, 1) := by decide +kernel
theorem d_Parish_middlePutOff_83 : decode m_Parish_middlePutOff.2.1 83 = .ok (.ireturn, 1) := by decide +kernel
theorem d_Parish_middlePutOff_84 : decode m_Parish_middlePutOff.2.1 84 = .ok (.iinc 2 1, 3) := by decide +kernel
theorem d_Parish_middlePutOff_87 : decode m_Parish_middlePutOff.2.1 87 = .ok (.goto (-68), 3) := by decide +kernel
theorem d_Parish_middlePutOff_90 : decode m_Parish_middlePutOff.2.1 90 = .ok (.bipush (-2), 2) := by decide +kernel
theorem d_Parish_middlePutOff_92 : decode m_Parish_middlePutOff.2.1 92 = .ok (.ireturn, 1) := by decide +kernel
def f_Parish_middlePutOff_84 (P : Nat) (k_19 : St → Int32 → Int32 → Option (Int32)) (S : St) (l1 : Int32) (l2 : Int32) : Option (Int32) :=
    (some (l2 + 1)).bind fun l2_84 =>
    k_19 S l1 l2_84
set_option maxHeartbeats 4000000 in
set_option maxRecDepth 20000 in
theorem t_Parish_middlePutOff_84  {P : Nat} (hP : isP P) {k_19 : St → Int32 → Int32 → Option (Int32)} (hk_19 : ∀ (S : St) (l1 : Int32) (l2 : Int32) (w : Int32), k_19 S l1 l2 = some w → G SX m_Parish_middlePutOff 3 (some w) S 19 [(0, .ref P), (1, .int l1), (2, .int l2)] [] S) (S : St) (l1 : Int32) (l2 : Int32) (w : Int32) (h : f_Parish_middlePutOff_84 P k_19 S l1 l2 = some w) : G SX m_Parish_middlePutOff 3 (some w) S 84 [(0, .ref P), (1, .int l1), (2, .int l2)] [] S := by
  unfold f_Parish_middlePutOff_84 at h
  obtain ⟨l2_84, e_84, h⟩ := ob_s h
  refine G_iinc 1 2 [(2, .int l2_84), (0, .ref P), (1, .int l1)] (by decide) rfl e_84 rfl (by decide) d_Parish_middlePutOff_84 ?_
  refine G_goto 19 (by decide) d_Parish_middlePutOff_87 ?_
  exact G_sub _ [1, 2, 0] rfl (hk_19 S l1 l2_84 _ h)
def f_Parish_middlePutOff_19 (P : Nat) : Nat → St → Int32 → Int32 → Option (Int32)
  | 0, _, _, _ => none
  | n + 1, S, l1, l2 =>
    if (S P 6) ≤ l2 then (
    some ((-2) : Int32))
    else (
    if (24 : Int32) ≤ l2 then (
    some ((-2) : Int32))
    else (
    (f_Parish_isDone S P l2).bind fun v_35 =>
    if v_35 = 0 then (
    if ig l2 24 then (
    (f_Parish_leftPutOffUnder S P (S (P + 4) l2.toNatClampNeg)).bind fun v_48 =>
    if ig l2 24 then (
    (f_Parish_leftPutOffUnder S P ((S (P + 4) l2.toNatClampNeg) + 1)).bind fun v_61 =>
    if l1 < v_48 then (
    f_Parish_middlePutOff_84 P (f_Parish_middlePutOff_19 P n) S l1 l2)
    else (
    if v_61 ≤ l1 then (
    f_Parish_middlePutOff_84 P (f_Parish_middlePutOff_19 P n) S l1 l2)
    else (
    if ig l2 24 then (
    some (S (P + 4) l2.toNatClampNeg)) else none))) else none) else none)
    else (
    f_Parish_middlePutOff_84 P (f_Parish_middlePutOff_19 P n) S l1 l2)))
set_option maxHeartbeats 4000000 in
set_option maxRecDepth 20000 in
theorem t_Parish_middlePutOff_19  {P : Nat} (hP : isP P) : ∀ (n : Nat) (S : St) (l1 : Int32) (l2 : Int32) (w : Int32), f_Parish_middlePutOff_19 P n S l1 l2 = some w → G SX m_Parish_middlePutOff 3 (some w) S 19 [(0, .ref P), (1, .int l1), (2, .int l2)] [] S := by
  intro n
  induction n with
  | zero =>
    intro S l1 l2 w h
    rw [f_Parish_middlePutOff_19] at h
    cases h
  | succ n ih =>
    intro S l1 l2 w h
    rw [f_Parish_middlePutOff_19] at h
    refine G_iload_n 2 rfl d_Parish_middlePutOff_19 ?_
    refine G_aload_n 0 rfl d_Parish_middlePutOff_20 ?_
    refine G_getI fl_Parish_31 (kP hP) (sP hP) rfl d_Parish_middlePutOff_21 ?_
    refine G_icmp_ge 90 (by decide) d_Parish_middlePutOff_24 (fun c_24 => ?_) (fun c_24 => ?_)
    · replace h := ob_t h c_24
      refine G_bipush (-2) (by decide) d_Parish_middlePutOff_90 ?_
      cases h
      exact G_iret rfl d_Parish_middlePutOff_92
    · replace h := ob_f h c_24
      refine G_iload_n 2 rfl d_Parish_middlePutOff_27 ?_
      refine G_bipush 24 (by decide) d_Parish_middlePutOff_28 ?_
      refine G_icmp_ge 90 (by decide) d_Parish_middlePutOff_30 (fun c_30 => ?_) (fun c_30 => ?_)
      · replace h := ob_t h c_30
        refine G_bipush (-2) (by decide) d_Parish_middlePutOff_90 ?_
        cases h
        exact G_iret rfl d_Parish_middlePutOff_92
      · replace h := ob_f h c_30
        refine G_aload_n 0 rfl d_Parish_middlePutOff_33 ?_
        refine G_iload_n 2 rfl d_Parish_middlePutOff_34 ?_
        obtain ⟨v_35, q_35, h⟩ := ob_b h
        refine G_callV [.int l2] [] (t_Parish_isDone hP q_35) (by decide) (by decide) mv_Parish_isDone rfl ml_Parish_64 (kP hP) (sP hP) cl_2 rfl (Nat.le_of_ble_eq_true rfl) d_Parish_middlePutOff_35 ?_
        refine G_if_ne 84 (by decide) d_Parish_middlePutOff_38 (fun c_38 => ?_) (fun c_38 => ?_)
        · replace h := ob_f h c_38
          exact G_sub _ [0, 1, 2] rfl (t_Parish_middlePutOff_84 hP ih S l1 l2 _ h)
        · replace h := ob_t h c_38
          refine G_aload_n 0 rfl d_Parish_middlePutOff_41 ?_
          refine G_aload_n 0 rfl d_Parish_middlePutOff_42 ?_
          refine G_getR fl_Parish_21 (kP hP) (sP hP) rfl (qP4 hP) d_Parish_middlePutOff_43 ?_
          refine G_iload_n 2 rfl d_Parish_middlePutOff_46 ?_
          obtain ⟨g_47, h⟩ := ob_g h
          refine G_iaload (kPa4 hP) (sPa4 hP) g_47 d_Parish_middlePutOff_47 ?_
          obtain ⟨v_48, q_48, h⟩ := ob_b h
          refine G_callV [.int (S (P + 4) l2.toNatClampNeg)] [] (t_Parish_leftPutOffUnder hP q_48) (by decide) (by decide) mv_Parish_leftPutOffUnder rfl ml_Parish_93 (kP hP) (sP hP) cl_2 rfl (Nat.le_of_ble_eq_true rfl) d_Parish_middlePutOff_48 ?_
          refine G_istore_n [(3, .int v_48), (0, .ref P), (1, .int l1), (2, .int l2)] rfl rfl (by decide) d_Parish_middlePutOff_51 ?_
          refine G_aload_n 1 rfl d_Parish_middlePutOff_52 ?_
          refine G_aload_n 1 rfl d_Parish_middlePutOff_53 ?_
          refine G_getR fl_Parish_21 (kP hP) (sP hP) rfl (qP4 hP) d_Parish_middlePutOff_54 ?_
          refine G_iload_n 3 rfl d_Parish_middlePutOff_57 ?_
          obtain ⟨g_58, h⟩ := ob_g h
          refine G_iaload (kPa4 hP) (sPa4 hP) g_58 d_Parish_middlePutOff_58 ?_
          refine G_iconst 1 (by decide) d_Parish_middlePutOff_59 ?_
          refine G_iadd d_Parish_middlePutOff_60 ?_
          obtain ⟨v_61, q_61, h⟩ := ob_b h
          refine G_callV [.int ((S (P + 4) l2.toNatClampNeg) + 1)] [] (t_Parish_leftPutOffUnder hP q_61) (by decide) (by decide) mv_Parish_leftPutOffUnder rfl ml_Parish_93 (kP hP) (sP hP) cl_2 rfl (Nat.le_of_ble_eq_true rfl) d_Parish_middlePutOff_61 ?_
          refine G_istore [(4, .int v_61), (3, .int v_48), (0, .ref P), (1, .int l1), (2, .int l2)] rfl rfl (by decide) d_Parish_middlePutOff_64 ?_
          refine G_iload_n 1 rfl d_Parish_middlePutOff_66 ?_
          refine G_iload_n 3 rfl d_Parish_middlePutOff_67 ?_
          refine G_icmp_gt 84 (by decide) d_Parish_middlePutOff_68 (fun c_68 => ?_) (fun c_68 => ?_)
          · replace h := ob_t h c_68
            exact G_sub _ [2, 3, 4] rfl (t_Parish_middlePutOff_84 hP ih S l1 l2 _ h)
          · replace h := ob_f h c_68
            refine G_iload_n 3 rfl d_Parish_middlePutOff_71 ?_
            refine G_iload 0 rfl d_Parish_middlePutOff_72 ?_
            refine G_icmp_ge 84 (by decide) d_Parish_middlePutOff_74 (fun c_74 => ?_) (fun c_74 => ?_)
            · replace h := ob_t h c_74
              exact G_sub _ [2, 3, 4] rfl (t_Parish_middlePutOff_84 hP ih S l1 l2 _ h)
            · replace h := ob_f h c_74
              refine G_aload_n 2 rfl d_Parish_middlePutOff_77 ?_
              refine G_getR fl_Parish_21 (kP hP) (sP hP) rfl (qP4 hP) d_Parish_middlePutOff_78 ?_
              refine G_iload_n 4 rfl d_Parish_middlePutOff_81 ?_
              obtain ⟨g_82, h⟩ := ob_g h
              refine G_iaload (kPa4 hP) (sPa4 hP) g_82 d_Parish_middlePutOff_82 ?_
              cases h
              exact G_iret rfl d_Parish_middlePutOff_83
def f_Parish_middlePutOff (S : St) (P : Nat) : Option (Int32) :=
    (f_JI_bitCount S (S P 5)).bind fun v_8 =>
    (some ((((S P 6) - v_8) - 1) / 2)).bind fun l1_16 =>
    (some (0 : Int32)).bind fun l2_18 =>
    f_Parish_middlePutOff_19 P FU S l1_16 l2_18
set_option maxHeartbeats 4000000 in
set_option maxRecDepth 20000 in
theorem t_Parish_middlePutOff  {P : Nat} (hP : isP P) {S : St} {w : Int32} (h : f_Parish_middlePutOff S P = some w) : Ct SX m_Parish_middlePutOff 3 [.ref P] S (some w) S := by
  unfold f_Parish_middlePutOff at h
  refine Ct.of pn_Parish (Nat.le_of_ble_eq_true rfl) ?_
  show G SX m_Parish_middlePutOff 3 (some w) S 0 [(0, .ref P)] [] S
  refine G_aload_n 0 rfl d_Parish_middlePutOff_0 ?_
  refine G_getI fl_Parish_31 (kP hP) (sP hP) rfl d_Parish_middlePutOff_1 ?_
  refine G_aload_n 0 rfl d_Parish_middlePutOff_4 ?_
  refine G_getI fl_Parish_28 (kP hP) (sP hP) rfl d_Parish_middlePutOff_5 ?_
  obtain ⟨v_8, q_8, h⟩ := ob_b h
  refine G_callS [.int (S P 5)] [.int (S P 6)] (t_JI_bitCount q_8) (by decide) (by decide) mt_JI_bitCount rfl ml_Parish_88 rfl (Nat.le_of_ble_eq_true rfl) d_Parish_middlePutOff_8 ?_
  refine G_isub d_Parish_middlePutOff_11 ?_
  refine G_iconst 1 (by decide) d_Parish_middlePutOff_12 ?_
  refine G_isub d_Parish_middlePutOff_13 ?_
  refine G_iconst 2 (by decide) d_Parish_middlePutOff_14 ?_
  refine G_idiv (by decide) d_Parish_middlePutOff_15 ?_
  obtain ⟨l1_16, e_16, h⟩ := ob_s h
  refine G_istore_n [(1, .int l1_16), (0, .ref P)] e_16 rfl (by decide) d_Parish_middlePutOff_16 ?_
  refine G_iconst 0 (by decide) d_Parish_middlePutOff_17 ?_
  obtain ⟨l2_18, e_18, h⟩ := ob_s h
  refine G_istore_n [(2, .int l2_18), (1, .int l1_16), (0, .ref P)] e_18 rfl (by decide) d_Parish_middlePutOff_18 ?_
  exact G_sub _ [2, 1, 0] rfl (t_Parish_middlePutOff_19 hP FU S l1_16 l2_18 _ h)
theorem d_Parish_leftThatNeed_0 : decode m_Parish_leftThatNeed.2.1 0 = .ok (.iconst 1, 1) := by decide +kernel
theorem d_Parish_leftThatNeed_1 : decode m_Parish_leftThatNeed.2.1 1 = .ok (.iload_n 1, 1) := by decide +kernel
theorem d_Parish_leftThatNeed_2 : decode m_Parish_leftThatNeed.2.1 2 = .ok (.ishl, 1) := by decide +kernel
theorem d_Parish_leftThatNeed_3 : decode m_Parish_leftThatNeed.2.1 3 = .ok (.istore_n 2, 1) := by decide +kernel
theorem d_Parish_leftThatNeed_4 : decode m_Parish_leftThatNeed.2.1 4 = .ok (.iload_n 1, 1) := by decide +kernel
theorem d_Parish_leftThatNeed_5 : decode m_Parish_leftThatNeed.2.1 5 = .ok (.iconst 1, 1) := by decide +kernel
theorem d_Parish_leftThatNeed_6 : decode m_Parish_leftThatNeed.2.1 6 = .ok (.iadd, 1) := by decide +kernel
theorem d_Parish_leftThatNeed_7 : decode m_Parish_leftThatNeed.2.1 7 = .ok (.istore_n 3, 1) := by decide +kernel
theorem d_Parish_leftThatNeed_8 : decode m_Parish_leftThatNeed.2.1 8 = .ok (.iload_n 3, 1) := by decide +kernel
theorem d_Parish_leftThatNeed_9 : decode m_Parish_leftThatNeed.2.1 9 = .ok (.aload_n 0, 1) := by decide +kernel
theorem d_Parish_leftThatNeed_10 : decode m_Parish_leftThatNeed.2.1 10 = .ok (.getfield 31, 3) := by decide +kernel
theorem d_Parish_leftThatNeed_13 : decode m_Parish_leftThatNeed.2.1 13 = .ok (.if_icmp .ge 67, 3) := by decide +kernel
theorem d_Parish_leftThatNeed_16 : decode m_Parish_leftThatNeed.2.1 16 = .ok (.iload_n 3, 1) := by decide +kernel
theorem d_Parish_leftThatNeed_17 : decode m_Parish_leftThatNeed.2.1 17 = .ok (.bipush 24, 2) := by decide +kernel
theorem d_Parish_leftThatNeed_19 : decode m_Parish_leftThatNeed.2.1 19 = .ok (.if_icmp .ge 61, 3) := by decide +kernel
theorem d_Parish_leftThatNeed_22 : decode m_Parish_leftThatNeed.2.1 22 = .ok (.aload_n 0, 1) := by decide +kernel
theorem d_Parish_leftThatNeed_23 : decode m_Parish_leftThatNeed.2.1 23 = .ok (.aload_n 0, 1) := by decide +kernel
theorem d_Parish_leftThatNeed_24 : decode m_Parish_leftThatNeed.2.1 24 = .ok (.getfield 15, 3) := by decide +kernel
theorem d_Parish_leftThatNeed_27 : decode m_Parish_leftThatNeed.2.1 27 = .ok (.iload_n 3, 1) := by decide +kernel
theorem d_Parish_leftThatNeed_28 : decode m_Parish_leftThatNeed.2.1 28 = .ok (.iaload, 1) := by decide +kernel
theorem d_Parish_leftThatNeed_29 : decode m_Parish_leftThatNeed.2.1 29 = .ok (.invokevirtual 60, 3) := by decide +kernel
theorem d_Parish_leftThatNeed_32 : decode m_Parish_leftThatNeed.2.1 32 = .ok (.ifCond .eq 20, 3) := by decide +kernel
theorem d_Parish_leftThatNeed_35 : decode m_Parish_leftThatNeed.2.1 35 = .ok (.iload_n 2, 1) := by decide +kernel
theorem d_Parish_leftThatNeed_36 : decode m_Parish_leftThatNeed.2.1 36 = .ok (.aload_n 0, 1) := by decide +kernel
theorem d_Parish_leftThatNeed_37 : decode m_Parish_leftThatNeed.2.1 37 = .ok (.getfield 15, 3) := by decide +kernel
theorem d_Parish_leftThatNeed_40 : decode m_Parish_leftThatNeed.2.1 40 = .ok (.iload_n 3, 1) := by decide +kernel
theorem d_Parish_leftThatNeed_41 : decode m_Parish_leftThatNeed.2.1 41 = .ok (.iaload, 1) := by decide +kernel
theorem d_Parish_leftThatNeed_42 : decode m_Parish_leftThatNeed.2.1 42 = .ok (.iushr, 1) := by decide +kernel
theorem d_Parish_leftThatNeed_43 : decode m_Parish_leftThatNeed.2.1 43 = .ok (.iconst 1, 1) := by decide +kernel
theorem d_Parish_leftThatNeed_44 : decode m_Parish_leftThatNeed.2.1 44 = .ok (.iand, 1) := by decide +kernel
theorem d_Parish_leftThatNeed_45 : decode m_Parish_leftThatNeed.2.1 45 = .ok (.ifCond .eq 7, 3) := by decide +kernel
theorem d_Parish_leftThatNeed_48 : decode m_Parish_leftThatNeed.2.1 48 = .ok (.iconst 1, 1) := by decide +kernel
theorem d_Parish_leftThatNeed_49 : decode m_Parish_leftThatNeed.2.1 49 = .ok (.goto 4, 3) := by decide +kernel
theorem d_Parish_leftThatNeed_52 : decode m_Parish_leftThatNeed.2.1 52 = .ok (.iconst 0, 1) := by decide +kernel
theorem d_Parish_leftThatNeed_53 : decode m_Parish_leftThatNeed.2.1 53 = .ok (.istore 4, 2) := by decide +kernel
theorem d_Parish_leftThatNeed_55 : decode m_Parish_leftThatNeed.2.1 55 = .ok (.iload 4, 2) := by decide +kernel
theorem d_Parish_leftThatNeed_57 : decode m_Parish_leftThatNeed.2.1 57 = .ok (.ifCond .eq 17, 3) := by decide +kernel
theorem d_Parish_leftThatNeed_60 : decode m_Parish_leftThatNeed.2.1 60 = .ok (.aload_n 0, 1) := by decide +kernel
theorem d_Parish_leftThatNeed_61 : decode m_Parish_leftThatNeed.2.1 61 = .ok (.iload_n 3, 1) := by decide +kernel
theorem d_Parish_leftThatNeed_62 : decode m_Parish_leftThatNeed.2.1 62 = .ok (.invokevirtual 64, 3) := by decide +kernel
theorem d_Parish_leftThatNeed_65 : decode m_Parish_leftThatNeed.2.1 65 = .ok (.ifCond .ne 9, 3) := by decide +kernel
theorem d_Parish_leftThatNeed_68 : decode m_Parish_leftThatNeed.2.1 68 = .ok (.iload_n 2, 1) := by decide +kernel
theorem d_Parish_leftThatNeed_69 : decode m_Parish_leftThatNeed.2.1 69 = .ok (.iconst 1, 1) := by decide +kernel
theorem d_Parish_leftThatNeed_70 : decode m_Parish_leftThatNeed.2.1 70 = .ok (.iload_n 3, 1) := by decide +kernel
theorem d_Parish_leftThatNeed_71 : decode m_Parish_leftThatNeed.2.1 71 = .ok (.ishl, 1) := by decide +kernel
theorem d_Parish_leftThatNeed_72 : decode m_Parish_leftThatNeed.2.1 72 = .ok (.ior, 1) := by decide +kernel
theorem d_Parish_leftThatNeed_73 : decode m_Parish_leftThatNeed.2.1 73 = .ok (.istore_n 2, 1) := by decide +kernel
theorem d_Parish_leftThatNeed_74 : decode m_Parish_leftThatNeed.2.1 74 = .ok (.iinc 3 1, 3) := by decide +kernel
theorem d_Parish_leftThatNeed_77 : decode m_Parish_leftThatNeed.2.1 77 = .ok (.goto (-69), 3) := by decide +kernel
theorem d_Parish_leftThatNeed_80 : decode m_Parish_leftThatNeed.2.1 80 = .ok (.iload_n 2, 1) := by decide +kernel
theorem d_Parish_leftThatNeed_81 : decode m_Parish_leftThatNeed.2.1 81 = .ok (.invokestatic 88, 3) := by decide +kernel
theorem d_Parish_leftThatNeed_84 : decode m_Parish_leftThatNeed.2.1 84 = .ok (.ireturn, 1) := by decide +kernel
def f_Parish_leftThatNeed_74 (P : Nat) (k_8 : St → Int32 → Int32 → Option (Int32)) (S : St) (l2 : Int32) (l3 : Int32) : Option (Int32) :=
    (some (l3 + 1)).bind fun l3_74 =>
    k_8 S l2 l3_74
set_option maxHeartbeats 4000000 in
set_option maxRecDepth 20000 in
theorem t_Parish_leftThatNeed_74  {P : Nat} (hP : isP P) {k_8 : St → Int32 → Int32 → Option (Int32)} (hk_8 : ∀ (S : St) (l2 : Int32) (l3 : Int32) (w : Int32), k_8 S l2 l3 = some w → G SX m_Parish_leftThatNeed 2 (some w) S 8 [(0, .ref P), (2, .int l2), (3, .int l3)] [] S) (S : St) (l2 : Int32) (l3 : Int32) (w : Int32) (h : f_Parish_leftThatNeed_74 P k_8 S l2 l3 = some w) : G SX m_Parish_leftThatNeed 2 (some w) S 74 [(0, .ref P), (2, .int l2), (3, .int l3)] [] S := by
  unfold f_Parish_leftThatNeed_74 at h
  obtain ⟨l3_74, e_74, h⟩ := ob_s h
  refine G_iinc 1 2 [(3, .int l3_74), (0, .ref P), (2, .int l2)] (by decide) rfl e_74 rfl (by decide) d_Parish_leftThatNeed_74 ?_
  refine G_goto 8 (by decide) d_Parish_leftThatNeed_77 ?_
  exact G_sub _ [1, 2, 0] rfl (hk_8 S l2 l3_74 _ h)
def f_Parish_leftThatNeed_53 (P : Nat) (k_8 : St → Int32 → Int32 → Option (Int32)) (S : St) (l2 : Int32) (l3 : Int32) (s0 : Int32) : Option (Int32) :=
    if s0 = 0 then (
    f_Parish_leftThatNeed_74 P k_8 S l2 l3)
    else (
    (f_Parish_isDone S P l3).bind fun v_62 =>
    if v_62 = 0 then (
    (some (l2 ||| (jshl 1 l3))).bind fun l2_73 =>
    f_Parish_leftThatNeed_74 P k_8 S l2_73 l3)
    else (
    f_Parish_leftThatNeed_74 P k_8 S l2 l3))
set_option maxHeartbeats 4000000 in
set_option maxRecDepth 20000 in
theorem t_Parish_leftThatNeed_53  {P : Nat} (hP : isP P) {k_8 : St → Int32 → Int32 → Option (Int32)} (hk_8 : ∀ (S : St) (l2 : Int32) (l3 : Int32) (w : Int32), k_8 S l2 l3 = some w → G SX m_Parish_leftThatNeed 2 (some w) S 8 [(0, .ref P), (2, .int l2), (3, .int l3)] [] S) (S : St) (l2 : Int32) (l3 : Int32) (s0 : Int32) (w : Int32) (h : f_Parish_leftThatNeed_53 P k_8 S l2 l3 s0 = some w) : G SX m_Parish_leftThatNeed 2 (some w) S 53 [(0, .ref P), (2, .int l2), (3, .int l3)] [.int s0] S := by
  unfold f_Parish_leftThatNeed_53 at h
  refine G_istore [(4, .int s0), (0, .ref P), (2, .int l2), (3, .int l3)] rfl rfl (by decide) d_Parish_leftThatNeed_53 ?_
  refine G_iload 0 rfl d_Parish_leftThatNeed_55 ?_
  refine G_if_eq 74 (by decide) d_Parish_leftThatNeed_57 (fun c_57 => ?_) (fun c_57 => ?_)
  · replace h := ob_t h c_57
    exact G_sub _ [1, 2, 3] rfl (t_Parish_leftThatNeed_74 hP hk_8 S l2 l3 _ h)
  · replace h := ob_f h c_57
    refine G_aload_n 1 rfl d_Parish_leftThatNeed_60 ?_
    refine G_iload_n 3 rfl d_Parish_leftThatNeed_61 ?_
    obtain ⟨v_62, q_62, h⟩ := ob_b h
    refine G_callV [.int l3] [] (t_Parish_isDone hP q_62) (by decide) (by decide) mv_Parish_isDone rfl ml_Parish_64 (kP hP) (sP hP) cl_2 rfl (Nat.le_of_ble_eq_true rfl) d_Parish_leftThatNeed_62 ?_
    refine G_if_ne 74 (by decide) d_Parish_leftThatNeed_65 (fun c_65 => ?_) (fun c_65 => ?_)
    · replace h := ob_f h c_65
      exact G_sub _ [1, 2, 3] rfl (t_Parish_leftThatNeed_74 hP hk_8 S l2 l3 _ h)
    · replace h := ob_t h c_65
      refine G_iload_n 2 rfl d_Parish_leftThatNeed_68 ?_
      refine G_iconst 1 (by decide) d_Parish_leftThatNeed_69 ?_
      refine G_iload_n 3 rfl d_Parish_leftThatNeed_70 ?_
      refine G_ishl d_Parish_leftThatNeed_71 ?_
      refine G_ior d_Parish_leftThatNeed_72 ?_
      obtain ⟨l2_73, e_73, h⟩ := ob_s h
      refine G_istore_n [(2, .int l2_73), (4, .int s0), (0, .ref P), (3, .int l3)] e_73 rfl (by decide) d_Parish_leftThatNeed_73 ?_
      exact G_sub _ [2, 0, 3] rfl (t_Parish_leftThatNeed_74 hP hk_8 S l2_73 l3 _ h)
def f_Parish_leftThatNeed_52 (P : Nat) (k_8 : St → Int32 → Int32 → Option (Int32)) (S : St) (l2 : Int32) (l3 : Int32) : Option (Int32) :=
    f_Parish_leftThatNeed_53 P k_8 S l2 l3 (0 : Int32)
set_option maxHeartbeats 4000000 in
set_option maxRecDepth 20000 in
theorem t_Parish_leftThatNeed_52  {P : Nat} (hP : isP P) {k_8 : St → Int32 → Int32 → Option (Int32)} (hk_8 : ∀ (S : St) (l2 : Int32) (l3 : Int32) (w : Int32), k_8 S l2 l3 = some w → G SX m_Parish_leftThatNeed 2 (some w) S 8 [(0, .ref P), (2, .int l2), (3, .int l3)] [] S) (S : St) (l2 : Int32) (l3 : Int32) (w : Int32) (h : f_Parish_leftThatNeed_52 P k_8 S l2 l3 = some w) : G SX m_Parish_leftThatNeed 2 (some w) S 52 [(0, .ref P), (2, .int l2), (3, .int l3)] [] S := by
  unfold f_Parish_leftThatNeed_52 at h
  refine G_iconst 0 (by decide) d_Parish_leftThatNeed_52 ?_
  exact G_sub _ [0, 1, 2] rfl (t_Parish_leftThatNeed_53 hP hk_8 S l2 l3 (0 : Int32) _ h)
def f_Parish_leftThatNeed_80 (P : Nat) (S : St) (l2 : Int32) : Option (Int32) :=
    (f_JI_bitCount S l2).bind fun v_81 =>
    some v_81
set_option maxHeartbeats 4000000 in
set_option maxRecDepth 20000 in
theorem t_Parish_leftThatNeed_80  {P : Nat} (hP : isP P) (S : St) (l2 : Int32) (w : Int32) (h : f_Parish_leftThatNeed_80 P S l2 = some w) : G SX m_Parish_leftThatNeed 2 (some w) S 80 [(0, .ref P), (2, .int l2)] [] S := by
  unfold f_Parish_leftThatNeed_80 at h
  refine G_iload_n 1 rfl d_Parish_leftThatNeed_80 ?_
  obtain ⟨v_81, q_81, h⟩ := ob_b h
  refine G_callS [.int l2] [] (t_JI_bitCount q_81) (by decide) (by decide) mt_JI_bitCount rfl ml_Parish_88 rfl (Nat.le_of_ble_eq_true rfl) d_Parish_leftThatNeed_81 ?_
  cases h
  exact G_iret rfl d_Parish_leftThatNeed_84
def f_Parish_leftThatNeed_8 (P : Nat) : Nat → St → Int32 → Int32 → Option (Int32)
  | 0, _, _, _ => none
  | n + 1, S, l2, l3 =>
    if (S P 6) ≤ l3 then (
    f_Parish_leftThatNeed_80 P S l2)
    else (
    if (24 : Int32) ≤ l3 then (
    f_Parish_leftThatNeed_80 P S l2)
    else (
    if ig l3 24 then (
    (f_Parish_has S P (S (P + 2) l3.toNatClampNeg)).bind fun v_29 =>
    if v_29 = 0 then (
    f_Parish_leftThatNeed_52 P (f_Parish_leftThatNeed_8 P n) S l2 l3)
    else (
    if ig l3 24 then (
    if ((jushr l2 (S (P + 2) l3.toNatClampNeg)) &&& 1) = 0 then (
    f_Parish_leftThatNeed_52 P (f_Parish_leftThatNeed_8 P n) S l2 l3)
    else (
    f_Parish_leftThatNeed_53 P (f_Parish_leftThatNeed_8 P n) S l2 l3 (1 : Int32))) else none)) else none))
set_option maxHeartbeats 4000000 in
set_option maxRecDepth 20000 in
theorem t_Parish_leftThatNeed_8  {P : Nat} (hP : isP P) : ∀ (n : Nat) (S : St) (l2 : Int32) (l3 : Int32) (w : Int32), f_Parish_leftThatNeed_8 P n S l2 l3 = some w → G SX m_Parish_leftThatNeed 2 (some w) S 8 [(0, .ref P), (2, .int l2), (3, .int l3)] [] S := by
  intro n
  induction n with
  | zero =>
    intro S l2 l3 w h
    rw [f_Parish_leftThatNeed_8] at h
    cases h
  | succ n ih =>
    intro S l2 l3 w h
    rw [f_Parish_leftThatNeed_8] at h
    refine G_iload_n 2 rfl d_Parish_leftThatNeed_8 ?_
    refine G_aload_n 0 rfl d_Parish_leftThatNeed_9 ?_
    refine G_getI fl_Parish_31 (kP hP) (sP hP) rfl d_Parish_leftThatNeed_10 ?_
    refine G_icmp_ge 80 (by decide) d_Parish_leftThatNeed_13 (fun c_13 => ?_) (fun c_13 => ?_)
    · replace h := ob_t h c_13
      exact G_sub _ [0, 1] rfl (t_Parish_leftThatNeed_80 hP S l2 _ h)
    · replace h := ob_f h c_13
      refine G_iload_n 2 rfl d_Parish_leftThatNeed_16 ?_
      refine G_bipush 24 (by decide) d_Parish_leftThatNeed_17 ?_
      refine G_icmp_ge 80 (by decide) d_Parish_leftThatNeed_19 (fun c_19 => ?_) (fun c_19 => ?_)
      · replace h := ob_t h c_19
        exact G_sub _ [0, 1] rfl (t_Parish_leftThatNeed_80 hP S l2 _ h)
      · replace h := ob_f h c_19
        refine G_aload_n 0 rfl d_Parish_leftThatNeed_22 ?_
        refine G_aload_n 0 rfl d_Parish_leftThatNeed_23 ?_
        refine G_getR fl_Parish_15 (kP hP) (sP hP) rfl (qP2 hP) d_Parish_leftThatNeed_24 ?_
        refine G_iload_n 2 rfl d_Parish_leftThatNeed_27 ?_
        obtain ⟨g_28, h⟩ := ob_g h
        refine G_iaload (kPa2 hP) (sPa2 hP) g_28 d_Parish_leftThatNeed_28 ?_
        obtain ⟨v_29, q_29, h⟩ := ob_b h
        refine G_callV [.int (S (P + 2) l3.toNatClampNeg)] [] (t_Parish_has hP q_29) (by decide) (by decide) mv_Parish_has rfl ml_Parish_60 (kP hP) (sP hP) cl_2 rfl (Nat.le_of_ble_eq_true rfl) d_Parish_leftThatNeed_29 ?_
        refine G_if_eq 52 (by decide) d_Parish_leftThatNeed_32 (fun c_32 => ?_) (fun c_32 => ?_)
        · replace h := ob_t h c_32
          exact G_sub _ [0, 1, 2] rfl (t_Parish_leftThatNeed_52 hP ih S l2 l3 _ h)
        · replace h := ob_f h c_32
          refine G_iload_n 1 rfl d_Parish_leftThatNeed_35 ?_
          refine G_aload_n 0 rfl d_Parish_leftThatNeed_36 ?_
          refine G_getR fl_Parish_15 (kP hP) (sP hP) rfl (qP2 hP) d_Parish_leftThatNeed_37 ?_
          refine G_iload_n 2 rfl d_Parish_leftThatNeed_40 ?_
          obtain ⟨g_41, h⟩ := ob_g h
          refine G_iaload (kPa2 hP) (sPa2 hP) g_41 d_Parish_leftThatNeed_41 ?_
          refine G_iushr d_Parish_leftThatNeed_42 ?_
          refine G_iconst 1 (by decide) d_Parish_leftThatNeed_43 ?_
          refine G_iand d_Parish_leftThatNeed_44 ?_
          refine G_if_eq 52 (by decide) d_Parish_leftThatNeed_45 (fun c_45 => ?_) (fun c_45 => ?_)
          · replace h := ob_t h c_45
            exact G_sub _ [0, 1, 2] rfl (t_Parish_leftThatNeed_52 hP ih S l2 l3 _ h)
          · replace h := ob_f h c_45
            refine G_iconst 1 (by decide) d_Parish_leftThatNeed_48 ?_
            refine G_goto 53 (by decide) d_Parish_leftThatNeed_49 ?_
            exact G_sub _ [0, 1, 2] rfl (t_Parish_leftThatNeed_53 hP ih S l2 l3 (1 : Int32) _ h)
def f_Parish_leftThatNeed (S : St) (P : Nat) (l1 : Int32) : Option (Int32) :=
    (some (jshl 1 l1)).bind fun l2_3 =>
    (some (l1 + 1)).bind fun l3_7 =>
    f_Parish_leftThatNeed_8 P FU S l2_3 l3_7
set_option maxHeartbeats 4000000 in
set_option maxRecDepth 20000 in
theorem t_Parish_leftThatNeed  {P : Nat} (hP : isP P) {S : St} {l1 : Int32} {w : Int32} (h : f_Parish_leftThatNeed S P l1 = some w) : Ct SX m_Parish_leftThatNeed 2 [.ref P, .int l1] S (some w) S := by
  unfold f_Parish_leftThatNeed at h
  refine Ct.of pn_Parish (Nat.le_of_ble_eq_true rfl) ?_
  show G SX m_Parish_leftThatNeed 2 (some w) S 0 [(0, .ref P), (1, .int l1)] [] S
  refine G_iconst 1 (by decide) d_Parish_leftThatNeed_0 ?_
  refine G_iload_n 1 rfl d_Parish_leftThatNeed_1 ?_
  refine G_ishl d_Parish_leftThatNeed_2 ?_
  obtain ⟨l2_3, e_3, h⟩ := ob_s h
  refine G_istore_n [(2, .int l2_3), (0, .ref P), (1, .int l1)] e_3 rfl (by decide) d_Parish_leftThatNeed_3 ?_
  refine G_iload_n 2 rfl d_Parish_leftThatNeed_4 ?_
  refine G_iconst 1 (by decide) d_Parish_leftThatNeed_5 ?_
  refine G_iadd d_Parish_leftThatNeed_6 ?_
  obtain ⟨l3_7, e_7, h⟩ := ob_s h
  refine G_istore_n [(3, .int l3_7), (2, .int l2_3), (0, .ref P), (1, .int l1)] e_7 rfl (by decide) d_Parish_leftThatNeed_7 ?_
  exact G_sub _ [2, 1, 0] rfl (t_Parish_leftThatNeed_8 hP FU S l2_3 l3_7 _ h)
theorem d_Parish_ordersLeft_0 : decode m_Parish_ordersLeft.2.1 0 = .ok (.aload_n 0, 1) := by decide +kernel
theorem d_Parish_ordersLeft_1 : decode m_Parish_ordersLeft.2.1 1 = .ok (.getfield 31, 3) := by decide +kernel
theorem d_Parish_ordersLeft_4 : decode m_Parish_ordersLeft.2.1 4 = .ok (.aload_n 0, 1) := by decide +kernel
theorem d_Parish_ordersLeft_5 : decode m_Parish_ordersLeft.2.1 5 = .ok (.getfield 28, 3) := by decide +kernel
theorem d_Parish_ordersLeft_8 : decode m_Parish_ordersLeft.2.1 8 = .ok (.invokestatic 88, 3) := by decide +kernel
theorem d_Parish_ordersLeft_11 : decode m_Parish_ordersLeft.2.1 11 = .ok (.isub, 1) := by decide +kernel
theorem d_Parish_ordersLeft_12 : decode m_Parish_ordersLeft.2.1 12 = .ok (.istore_n 1, 1) := by decide +kernel
theorem d_Parish_ordersLeft_13 : decode m_Parish_ordersLeft.2.1 13 = .ok (.iload_n 1, 1) := by decide +kernel
theorem d_Parish_ordersLeft_14 : decode m_Parish_ordersLeft.2.1 14 = .ok (.bipush 12, 2) := by decide +kernel
theorem d_Parish_ordersLeft_16 : decode m_Parish_ordersLeft.2.1 16 = .ok (.if_icmp .le 6, 3) := by decide +kernel
theorem d_Parish_ordersLeft_19 : decode m_Parish_ordersLeft.2.1 19 = .ok (.bipush (-4), 2) := by decide +kernel
theorem d_Parish_ordersLeft_21 : decode m_Parish_ordersLeft.2.1 21 = .ok (.ireturn, 1) := by decide +kernel
theorem d_Parish_ordersLeft_22 : decode m_Parish_ordersLeft.2.1 22 = .ok (.lconst 1, 1) := by decide +kernel
theorem d_Parish_ordersLeft_23 : decode m_Parish_ordersLeft.2.1 23 = .ok (.lstore_n 2, 1) := by decide +kernel
theorem d_Parish_ordersLeft_24 : decode m_Parish_ordersLeft.2.1 24 = .ok (.iconst 2, 1) := by decide +kernel
theorem d_Parish_ordersLeft_25 : decode m_Parish_ordersLeft.2.1 25 = .ok (.istore 4, 2) := by decide +kernel
theorem d_Parish_ordersLeft_27 : decode m_Parish_ordersLeft.2.1 27 = .ok (.iload 4, 2) := by decide +kernel
theorem d_Parish_ordersLeft_29 : decode m_Parish_ordersLeft.2.1 29 = .ok (.iload_n 1, 1) := by decide +kernel
theorem d_Parish_ordersLeft_30 : decode m_Parish_ordersLeft.2.1 30 = .ok (.if_icmp .gt 15, 3) := by decide +kernel
theorem d_Parish_ordersLeft_33 : decode m_Parish_ordersLeft.2.1 33 = .ok (.lload_n 2, 1) := by decide +kernel
theorem d_Parish_ordersLeft_34 : decode m_Parish_ordersLeft.2.1 34 = .ok (.iload 4, 2) := by decide +kernel
theorem d_Parish_ordersLeft_36 : decode m_Parish_ordersLeft.2.1 36 = .ok (.i2l, 1) := by decide +kernel
theorem d_Parish_ordersLeft_37 : decode m_Parish_ordersLeft.2.1 37 = .ok (.lmul, 1) := by decide +kernel
theorem d_Parish_ordersLeft_38 : decode m_Parish_ordersLeft.2.1 38 = .ok (.lstore_n 2, 1) := by decide +kernel
theorem d_Parish_ordersLeft_39 : decode m_Parish_ordersLeft.2.1 39 = .ok (.iinc 4 1, 3) := by decide +kernel
theorem d_Parish_ordersLeft_42 : decode m_Parish_ordersLeft.2.1 42 = .ok (.goto (-15), 3) := by decide +kernel
theorem d_Parish_ordersLeft_45 : decode m_Parish_ordersLeft.2.1 45 = .ok (.lconst 1, 1) := by decide +kernel
theorem d_Parish_ordersLeft_46 : decode m_Parish_ordersLeft.2.1 46 = .ok (.lstore 4, 2) := by decide +kernel
theorem d_Parish_ordersLeft_48 : decode m_Parish_ordersLeft.2.1 48 = .ok (.iconst 0, 1) := by decide +kernel
theorem d_Parish_ordersLeft_49 : decode m_Parish_ordersLeft.2.1 49 = .ok (.istore 6, 2) := by decide +kernel
theorem d_Parish_ordersLeft_51 : decode m_Parish_ordersLeft.2.1 51 = .ok (.iload 6, 2) := by decide +kernel
theorem d_Parish_ordersLeft_53 : decode m_Parish_ordersLeft.2.1 53 = .ok (.aload_n 0, 1) := by decide +kernel
theorem d_Parish_ordersLeft_54 : decode m_Parish_ordersLeft.2.1 54 = .ok (.getfield 31, 3) := by decide +kernel
theorem d_Parish_ordersLeft_57 : decode m_Parish_ordersLeft.2.1 57 = .ok (.if_icmp .ge 37, 3) := by decide +kernel
theorem d_Parish_ordersLeft_60 : decode m_Parish_ordersLeft.2.1 60 = .ok (.iload 6, 2) := by decide +kernel
theorem d_Parish_ordersLeft_62 : decode m_Parish_ordersLeft.2.1 62 = .ok (.bipush 24, 2) := by decide +kernel
theorem d_Parish_ordersLeft_64 : decode m_Parish_ordersLeft.2.1 64 = .ok (.if_icmp .ge 30, 3) := by decide +kernel
theorem d_Parish_ordersLeft_67 : decode m_Parish_ordersLeft.2.1 67 = .ok (.aload_n 0, 1) := by decide +kernel
theorem d_Parish_ordersLeft_68 : decode m_Parish_ordersLeft.2.1 68 = .ok (.iload 6, 2) := by decide +kernel
theorem d_Parish_ordersLeft_70 : decode m_Parish_ordersLeft.2.1 70 = .ok (.invokevirtual 64, 3) := by decide +kernel
theorem d_Parish_ordersLeft_73 : decode m_Parish_ordersLeft.2.1 73 = .ok (.ifCond .ne 15, 3) := by decide +kernel
theorem d_Parish_ordersLeft_76 : decode m_Parish_ordersLeft.2.1 76 = .ok (.lload 4, 2) := by decide +kernel
theorem d_Parish_ordersLeft_78 : decode m_Parish_ordersLeft.2.1 78 = .ok (.aload_n 0, 1) := by decide +kernel
theorem d_Parish_ordersLeft_79 : decode m_Parish_ordersLeft.2.1 79 = .ok (.iload 6, 2) := by decide +kernel
theorem d_Parish_ordersLeft_81 : decode m_Parish_ordersLeft.2.1 81 = .ok (.invokevirtual 96, 3) := by decide +kernel
theorem d_Parish_ordersLeft_84 : decode m_Parish_ordersLeft.2.1 84 = .ok (.i2l, 1) := by decide +kernel
theorem d_Parish_ordersLeft_85 : decode m_Parish_ordersLeft.2.1 85 = .ok (.lmul, 1) := by decide +kernel
theorem d_Parish_ordersLeft_86 : decode m_Parish_ordersLeft.2.1 86 = .ok (.lstore 4, 2) := by decide +kernel
theorem d_Parish_ordersLeft_88 : decode m_Parish_ordersLeft.2.1 88 = .ok (.iinc 6 1, 3) := by decide +kernel
theorem d_Parish_ordersLeft_91 : decode m_Parish_ordersLeft.2.1 91 = .ok (.goto (-40), 3) := by decide +kernel
theorem d_Parish_ordersLeft_94 : decode m_Parish_ordersLeft.2.1 94 = .ok (.lload 4, 2) := by decide +kernel
theorem d_Parish_ordersLeft_96 : decode m_Parish_ordersLeft.2.1 96 = .ok (.lconst 0, 1) := by decide +kernel
theorem d_Parish_ordersLeft_97 : decode m_Parish_ordersLeft.2.1 97 = .ok (.lcmp, 1) := by decide +kernel
theorem d_Parish_ordersLeft_98 : decode m_Parish_ordersLeft.2.1 98 = .ok (.ifCond .ne 7, 3) := by decide +kernel
theorem d_Parish_ordersLeft_101 : decode m_Parish_ordersLeft.2.1 101 = .ok (.iconst 1, 1) := by decide +kernel
theorem d_Parish_ordersLeft_102 : decode m_Parish_ordersLeft.2.1 102 = .ok (.goto 8, 3) := by decide +kernel
theorem d_Parish_ordersLeft_105 : decode m_Parish_ordersLeft.2.1 105 = .ok (.lload_n 2, 1) := by decide +kernel
theorem d_Parish_ordersLeft_106 : decode m_Parish_ordersLeft.2.1 106 = .ok (.lload 4, 2) := by decide +kernel
theorem d_Parish_ordersLeft_108 : decode m_Parish_ordersLeft.2.1 108 = .ok (.ldiv, 1) := by decide +kernel
theorem d_Parish_ordersLeft_109 : decode m_Parish_ordersLeft.2.1 109 = .ok (.l2i, 1) := by decide +kernel
theorem d_Parish_ordersLeft_110 : decode m_Parish_ordersLeft.2.1 110 = .ok (.ireturn, 1) := by decide +kernel
def f_Parish_ordersLeft_88 (P : Nat) (k_51 : St → Int64 → Int64 → Int32 → Option (Int32)) (S : St) (l2 : Int64) (l4 : Int64) (l6 : Int32) : Option (Int32) :=
    (some (l6 + 1)).bind fun l6_88 =>
    k_51 S l2 l4 l6_88
set_option maxHeartbeats 4000000 in
set_option maxRecDepth 20000 in
theorem t_Parish_ordersLeft_88  {P : Nat} (hP : isP P) {k_51 : St → Int64 → Int64 → Int32 → Option (Int32)} (hk_51 : ∀ (S : St) (l2 : Int64) (l4 : Int64) (l6 : Int32) (w : Int32), k_51 S l2 l4 l6 = some w → G SX m_Parish_ordersLeft 3 (some w) S 51 [(0, .ref P), (2, .long l2), (4, .long l4), (6, .int l6)] [] S) (S : St) (l2 : Int64) (l4 : Int64) (l6 : Int32) (w : Int32) (h : f_Parish_ordersLeft_88 P k_51 S l2 l4 l6 = some w) : G SX m_Parish_ordersLeft 3 (some w) S 88 [(0, .ref P), (2, .long l2), (4, .long l4), (6, .int l6)] [] S := by
  unfold f_Parish_ordersLeft_88 at h
  obtain ⟨l6_88, e_88, h⟩ := ob_s h
  refine G_iinc 1 3 [(6, .int l6_88), (0, .ref P), (2, .long l2), (4, .long l4)] (by decide) rfl e_88 rfl (by decide) d_Parish_ordersLeft_88 ?_
  refine G_goto 51 (by decide) d_Parish_ordersLeft_91 ?_
  exact G_sub _ [1, 2, 3, 0] rfl (hk_51 S l2 l4 l6_88 _ h)
def f_Parish_ordersLeft_94 (P : Nat) (S : St) (l2 : Int64) (l4 : Int64) : Option (Int32) :=
    if (lg_cmp l4 0) = 0 then (
    some (1 : Int32))
    else (
    if ¬ (l4 = 0) then (
    some (((l2 / l4) : Int64).toInt32)) else none)
set_option maxHeartbeats 4000000 in
set_option maxRecDepth 20000 in
theorem t_Parish_ordersLeft_94  {P : Nat} (hP : isP P) (S : St) (l2 : Int64) (l4 : Int64) (w : Int32) (h : f_Parish_ordersLeft_94 P S l2 l4 = some w) : G SX m_Parish_ordersLeft 3 (some w) S 94 [(0, .ref P), (2, .long l2), (4, .long l4)] [] S := by
  unfold f_Parish_ordersLeft_94 at h
  refine G_lload 2 rfl d_Parish_ordersLeft_94 ?_
  refine G_lconst 0 (by decide) d_Parish_ordersLeft_96 ?_
  refine G_lcmp d_Parish_ordersLeft_97 ?_
  refine G_if_ne 105 (by decide) d_Parish_ordersLeft_98 (fun c_98 => ?_) (fun c_98 => ?_)
  · replace h := ob_f h c_98
    refine G_lload_n 1 rfl d_Parish_ordersLeft_105 ?_
    refine G_lload 2 rfl d_Parish_ordersLeft_106 ?_
    obtain ⟨g_108, h⟩ := ob_g h
    refine G_ldiv g_108 d_Parish_ordersLeft_108 ?_
    refine G_l2i d_Parish_ordersLeft_109 ?_
    cases h
    exact G_iret rfl d_Parish_ordersLeft_110
  · replace h := ob_t h c_98
    refine G_iconst 1 (by decide) d_Parish_ordersLeft_101 ?_
    refine G_goto 110 (by decide) d_Parish_ordersLeft_102 ?_
    cases h
    exact G_iret rfl d_Parish_ordersLeft_110
def f_Parish_ordersLeft_51 (P : Nat) : Nat → St → Int64 → Int64 → Int32 → Option (Int32)
  | 0, _, _, _, _ => none
  | n + 1, S, l2, l4, l6 =>
    if (S P 6) ≤ l6 then (
    f_Parish_ordersLeft_94 P S l2 l4)
    else (
    if (24 : Int32) ≤ l6 then (
    f_Parish_ordersLeft_94 P S l2 l4)
    else (
    (f_Parish_isDone S P l6).bind fun v_70 =>
    if v_70 = 0 then (
    (f_Parish_leftThatNeed S P l6).bind fun v_81 =>
    (some (l4 * (v_81 : Int32).toInt64)).bind fun l4_86 =>
    f_Parish_ordersLeft_88 P (f_Parish_ordersLeft_51 P n) S l2 l4_86 l6)
    else (
    f_Parish_ordersLeft_88 P (f_Parish_ordersLeft_51 P n) S l2 l4 l6)))
set_option maxHeartbeats 4000000 in
set_option maxRecDepth 20000 in
theorem t_Parish_ordersLeft_51  {P : Nat} (hP : isP P) : ∀ (n : Nat) (S : St) (l2 : Int64) (l4 : Int64) (l6 : Int32) (w : Int32), f_Parish_ordersLeft_51 P n S l2 l4 l6 = some w → G SX m_Parish_ordersLeft 3 (some w) S 51 [(0, .ref P), (2, .long l2), (4, .long l4), (6, .int l6)] [] S := by
  intro n
  induction n with
  | zero =>
    intro S l2 l4 l6 w h
    rw [f_Parish_ordersLeft_51] at h
    cases h
  | succ n ih =>
    intro S l2 l4 l6 w h
    rw [f_Parish_ordersLeft_51] at h
    refine G_iload 3 rfl d_Parish_ordersLeft_51 ?_
    refine G_aload_n 0 rfl d_Parish_ordersLeft_53 ?_
    refine G_getI fl_Parish_31 (kP hP) (sP hP) rfl d_Parish_ordersLeft_54 ?_
    refine G_icmp_ge 94 (by decide) d_Parish_ordersLeft_57 (fun c_57 => ?_) (fun c_57 => ?_)
    · replace h := ob_t h c_57
      exact G_sub _ [0, 1, 2] rfl (t_Parish_ordersLeft_94 hP S l2 l4 _ h)
    · replace h := ob_f h c_57
      refine G_iload 3 rfl d_Parish_ordersLeft_60 ?_
      refine G_bipush 24 (by decide) d_Parish_ordersLeft_62 ?_
      refine G_icmp_ge 94 (by decide) d_Parish_ordersLeft_64 (fun c_64 => ?_) (fun c_64 => ?_)
      · replace h := ob_t h c_64
        exact G_sub _ [0, 1, 2] rfl (t_Parish_ordersLeft_94 hP S l2 l4 _ h)
      · replace h := ob_f h c_64
        refine G_aload_n 0 rfl d_Parish_ordersLeft_67 ?_
        refine G_iload 3 rfl d_Parish_ordersLeft_68 ?_
        obtain ⟨v_70, q_70, h⟩ := ob_b h
        refine G_callV [.int l6] [] (t_Parish_isDone hP q_70) (by decide) (by decide) mv_Parish_isDone rfl ml_Parish_64 (kP hP) (sP hP) cl_2 rfl (Nat.le_of_ble_eq_true rfl) d_Parish_ordersLeft_70 ?_
        refine G_if_ne 88 (by decide) d_Parish_ordersLeft_73 (fun c_73 => ?_) (fun c_73 => ?_)
        · replace h := ob_f h c_73
          exact G_sub _ [0, 1, 2, 3] rfl (t_Parish_ordersLeft_88 hP ih S l2 l4 l6 _ h)
        · replace h := ob_t h c_73
          refine G_lload 2 rfl d_Parish_ordersLeft_76 ?_
          refine G_aload_n 0 rfl d_Parish_ordersLeft_78 ?_
          refine G_iload 3 rfl d_Parish_ordersLeft_79 ?_
          obtain ⟨v_81, q_81, h⟩ := ob_b h
          refine G_callV [.int l6] [.long l4] (t_Parish_leftThatNeed hP q_81) (by decide) (by decide) mv_Parish_leftThatNeed rfl ml_Parish_96 (kP hP) (sP hP) cl_2 rfl (Nat.le_of_ble_eq_true rfl) d_Parish_ordersLeft_81 ?_
          refine G_i2l d_Parish_ordersLeft_84 ?_
          refine G_lmul d_Parish_ordersLeft_85 ?_
          obtain ⟨l4_86, e_86, h⟩ := ob_s h
          refine G_lstore [(4, .long l4_86), (0, .ref P), (2, .long l2), (6, .int l6)] e_86 rfl (by decide) d_Parish_ordersLeft_86 ?_
          exact G_sub _ [1, 2, 0, 3] rfl (t_Parish_ordersLeft_88 hP ih S l2 l4_86 l6 _ h)
def f_Parish_ordersLeft_27 (P : Nat) : Nat → St → Int32 → Int64 → Int32 → Option (Int32)
  | 0, _, _, _, _ => none
  | n + 1, S, l1, l2, l4 =>
    if l1 < l4 then (
    (some (1 : Int64)).bind fun l4_46 =>
    (some (0 : Int32)).bind fun l6_49 =>
    f_Parish_ordersLeft_51 P FU S l2 l4_46 l6_49)
    else (
    (some (l2 * (l4 : Int32).toInt64)).bind fun l2_38 =>
    (some (l4 + 1)).bind fun l4_39 =>
    f_Parish_ordersLeft_27 P n S l1 l2_38 l4_39)
set_option maxHeartbeats 4000000 in
set_option maxRecDepth 20000 in
theorem t_Parish_ordersLeft_27  {P : Nat} (hP : isP P) : ∀ (n : Nat) (S : St) (l1 : Int32) (l2 : Int64) (l4 : Int32) (w : Int32), f_Parish_ordersLeft_27 P n S l1 l2 l4 = some w → G SX m_Parish_ordersLeft 3 (some w) S 27 [(0, .ref P), (1, .int l1), (2, .long l2), (4, .int l4)] [] S := by
  intro n
  induction n with
  | zero =>
    intro S l1 l2 l4 w h
    rw [f_Parish_ordersLeft_27] at h
    cases h
  | succ n ih =>
    intro S l1 l2 l4 w h
    rw [f_Parish_ordersLeft_27] at h
    refine G_iload 3 rfl d_Parish_ordersLeft_27 ?_
    refine G_iload_n 1 rfl d_Parish_ordersLeft_29 ?_
    refine G_icmp_gt 45 (by decide) d_Parish_ordersLeft_30 (fun c_30 => ?_) (fun c_30 => ?_)
    · replace h := ob_t h c_30
      refine G_lconst 1 (by decide) d_Parish_ordersLeft_45 ?_
      obtain ⟨l4_46, e_46, h⟩ := ob_s h
      refine G_lstore [(4, .long l4_46), (0, .ref P), (1, .int l1), (2, .long l2)] e_46 rfl (by decide) d_Parish_ordersLeft_46 ?_
      refine G_iconst 0 (by decide) d_Parish_ordersLeft_48 ?_
      obtain ⟨l6_49, e_49, h⟩ := ob_s h
      refine G_istore [(6, .int l6_49), (4, .long l4_46), (0, .ref P), (1, .int l1), (2, .long l2)] e_49 rfl (by decide) d_Parish_ordersLeft_49 ?_
      exact G_sub _ [2, 4, 1, 0] rfl (t_Parish_ordersLeft_51 hP FU S l2 l4_46 l6_49 _ h)
    · replace h := ob_f h c_30
      refine G_lload_n 2 rfl d_Parish_ordersLeft_33 ?_
      refine G_iload 3 rfl d_Parish_ordersLeft_34 ?_
      refine G_i2l d_Parish_ordersLeft_36 ?_
      refine G_lmul d_Parish_ordersLeft_37 ?_
      obtain ⟨l2_38, e_38, h⟩ := ob_s h
      refine G_lstore_n [(2, .long l2_38), (0, .ref P), (1, .int l1), (4, .int l4)] e_38 rfl (by decide) d_Parish_ordersLeft_38 ?_
      obtain ⟨l4_39, e_39, h⟩ := ob_s h
      refine G_iinc 1 3 [(4, .int l4_39), (2, .long l2_38), (0, .ref P), (1, .int l1)] (by decide) rfl e_39 rfl (by decide) d_Parish_ordersLeft_39 ?_
      refine G_goto 27 (by decide) d_Parish_ordersLeft_42 ?_
      exact G_sub _ [2, 3, 1, 0] rfl (ih S l1 l2_38 l4_39 _ h)
def f_Parish_ordersLeft (S : St) (P : Nat) : Option (Int32) :=
    (f_JI_bitCount S (S P 5)).bind fun v_8 =>
    (some ((S P 6) - v_8)).bind fun l1_12 =>
    if l1_12 ≤ 12 then (
    (some (1 : Int64)).bind fun l2_23 =>
    (some (2 : Int32)).bind fun l4_25 =>
    f_Parish_ordersLeft_27 P FU S l1_12 l2_23 l4_25)
    else (
    some ((-4) : Int32))
set_option maxHeartbeats 4000000 in
set_option maxRecDepth 20000 in
theorem t_Parish_ordersLeft  {P : Nat} (hP : isP P) {S : St} {w : Int32} (h : f_Parish_ordersLeft S P = some w) : Ct SX m_Parish_ordersLeft 3 [.ref P] S (some w) S := by
  unfold f_Parish_ordersLeft at h
  refine Ct.of pn_Parish (Nat.le_of_ble_eq_true rfl) ?_
  show G SX m_Parish_ordersLeft 3 (some w) S 0 [(0, .ref P)] [] S
  refine G_aload_n 0 rfl d_Parish_ordersLeft_0 ?_
  refine G_getI fl_Parish_31 (kP hP) (sP hP) rfl d_Parish_ordersLeft_1 ?_
  refine G_aload_n 0 rfl d_Parish_ordersLeft_4 ?_
  refine G_getI fl_Parish_28 (kP hP) (sP hP) rfl d_Parish_ordersLeft_5 ?_
  obtain ⟨v_8, q_8, h⟩ := ob_b h
  refine G_callS [.int (S P 5)] [.int (S P 6)] (t_JI_bitCount q_8) (by decide) (by decide) mt_JI_bitCount rfl ml_Parish_88 rfl (Nat.le_of_ble_eq_true rfl) d_Parish_ordersLeft_8 ?_
  refine G_isub d_Parish_ordersLeft_11 ?_
  obtain ⟨l1_12, e_12, h⟩ := ob_s h
  refine G_istore_n [(1, .int l1_12), (0, .ref P)] e_12 rfl (by decide) d_Parish_ordersLeft_12 ?_
  refine G_iload_n 0 rfl d_Parish_ordersLeft_13 ?_
  refine G_bipush 12 (by decide) d_Parish_ordersLeft_14 ?_
  refine G_icmp_le 22 (by decide) d_Parish_ordersLeft_16 (fun c_16 => ?_) (fun c_16 => ?_)
  · replace h := ob_t h c_16
    refine G_lconst 1 (by decide) d_Parish_ordersLeft_22 ?_
    obtain ⟨l2_23, e_23, h⟩ := ob_s h
    refine G_lstore_n [(2, .long l2_23), (1, .int l1_12), (0, .ref P)] e_23 rfl (by decide) d_Parish_ordersLeft_23 ?_
    refine G_iconst 2 (by decide) d_Parish_ordersLeft_24 ?_
    obtain ⟨l4_25, e_25, h⟩ := ob_s h
    refine G_istore [(4, .int l4_25), (2, .long l2_23), (1, .int l1_12), (0, .ref P)] e_25 rfl (by decide) d_Parish_ordersLeft_25 ?_
    exact G_sub _ [3, 2, 1, 0] rfl (t_Parish_ordersLeft_27 hP FU S l1_12 l2_23 l4_25 _ h)
  · replace h := ob_f h c_16
    refine G_bipush (-4) (by decide) d_Parish_ordersLeft_19 ?_
    cases h
    exact G_iret rfl d_Parish_ordersLeft_21
