theorem dl_0 : decode code 0 = .ok (.new 7, 3) := by decide +kernel
theorem dl_3 : decode code 3 = .ok (.dup, 1) := by decide +kernel
theorem dl_4 : decode code 4 = .ok (.invokespecial 9, 3) := by decide +kernel
theorem dl_7 : decode code 7 = .ok (.astore_n 1, 1) := by decide +kernel
theorem dl_8 : decode code 8 = .ok (.new 10, 3) := by decide +kernel
theorem dl_11 : decode code 11 = .ok (.dup, 1) := by decide +kernel
theorem dl_12 : decode code 12 = .ok (.invokespecial 12, 3) := by decide +kernel
theorem dl_15 : decode code 15 = .ok (.astore_n 2, 1) := by decide +kernel
theorem dl_16 : decode code 16 = .ok (.iconst 0, 1) := by decide +kernel
theorem dl_17 : decode code 17 = .ok (.istore_n 3, 1) := by decide +kernel
def Sx0 : St := sF (sF (fun _ => z0) 4 9 1) 40 4 (nI 4)
def Sm0 : St := sF (fun _ => z0) 1 (98 : Int32).toNatClampNeg 1
set_option maxRecDepth 20000 in
theorem conv_x (ρ : Nat → Nat) (τ : Nat → ClassId) : ∀ k, k < 57 → (aw ρ τ W_197)[k]? = some (ρ k, ce ρ τ (SX.2 k) (Sx0 k)) := fun k hk => match k, hk with
  | 0, _ => rfl
  | 1, _ => rfl
  | 2, _ => rfl
  | 3, _ => rfl
  | 4, _ => rfl
  | 5, _ => rfl
  | 6, _ => rfl
  | 7, _ => rfl
  | 8, _ => rfl
  | 9, _ => rfl
  | 10, _ => rfl
  | 11, _ => rfl
  | 12, _ => rfl
  | 13, _ => rfl
  | 14, _ => rfl
  | 15, _ => rfl
  | 16, _ => rfl
  | 17, _ => rfl
  | 18, _ => rfl
  | 19, _ => rfl
  | 20, _ => rfl
  | 21, _ => rfl
  | 22, _ => rfl
  | 23, _ => rfl
  | 24, _ => rfl
  | 25, _ => rfl
  | 26, _ => rfl
  | 27, _ => rfl
  | 28, _ => rfl
  | 29, _ => rfl
  | 30, _ => rfl
  | 31, _ => rfl
  | 32, _ => rfl
  | 33, _ => rfl
  | 34, _ => rfl
  | 35, _ => rfl
  | 36, _ => rfl
  | 37, _ => rfl
  | 38, _ => rfl
  | 39, _ => rfl
  | 40, _ => rfl
  | 41, _ => rfl
  | 42, _ => rfl
  | 43, _ => rfl
  | 44, _ => rfl
  | 45, _ => rfl
  | 46, _ => rfl
  | 47, _ => rfl
  | 48, _ => rfl
  | 49, _ => rfl
  | 50, _ => rfl
  | 51, _ => rfl
  | 52, _ => rfl
  | 53, _ => rfl
  | 54, _ => rfl
  | 55, _ => rfl
  | 56, _ => rfl
  | n + 57, h => absurd h (by omega)
set_option maxRecDepth 20000 in
theorem conv_m (ρ : Nat → Nat) (τ : Nat → ClassId) : ∀ k, k < 37 → (aw ρ τ W_197)[57 + k]? = some (ρ (57 + k), ce (fun j => ρ (57 + j)) τ (SM.2 k) (Sm0 k)) := fun k hk => match k, hk with
  | 0, _ => rfl
  | 1, _ => rfl
  | 2, _ => rfl
  | 3, _ => rfl
  | 4, _ => rfl
  | 5, _ => rfl
  | 6, _ => rfl
  | 7, _ => rfl
  | 8, _ => rfl
  | 9, _ => rfl
  | 10, _ => rfl
  | 11, _ => rfl
  | 12, _ => rfl
  | 13, _ => rfl
  | 14, _ => rfl
  | 15, _ => rfl
  | 16, _ => rfl
  | 17, _ => rfl
  | 18, _ => rfl
  | 19, _ => rfl
  | 20, _ => rfl
  | 21, _ => rfl
  | 22, _ => rfl
  | 23, _ => rfl
  | 24, _ => rfl
  | 25, _ => rfl
  | 26, _ => rfl
  | 27, _ => rfl
  | 28, _ => rfl
  | 29, _ => rfl
  | 30, _ => rfl
  | 31, _ => rfl
  | 32, _ => rfl
  | 33, _ => rfl
  | 34, _ => rfl
  | 35, _ => rfl
  | 36, _ => rfl
  | n + 37, h => absurd h (by omega)
theorem len_f : W_197.length = 94 := rfl
theorem arr_t {s : State} {args : Array Value} {ty : FieldType} (h : (Cond.arrayClass ty).before args s = true) : ∃ cA : ClassId, s.vm.findClass ("[" ++ ty.toString) = some cA ∧ ArrOfT s cA ty := by
  obtain ⟨cB, kB, comp, hcB, hkB, hkind⟩ := Cond.arrayClass_spec h
  exact ⟨cB, hcB, fun n z => ⟨fun k h => (by cases h), kB, hkB, comp, hkind⟩⟩
theorem dv_11 : ∀ (ρ : Nat → Nat) (j : Nat), j < 14 → defaultValue (ty_11 j) = vp_V ([.null, .null, .null, .null, .null, .null, .null, .null, .null, .null, .null, .null, .null, .int 0] : List Value) j := fun ρ j hj => by
  rcases (show j = 0 ∨ j = 1 ∨ j = 2 ∨ j = 3 ∨ j = 4 ∨ j = 5 ∨ j = 6 ∨ j = 7 ∨ j = 8 ∨ j = 9 ∨ j = 10 ∨ j = 11 ∨ j = 12 ∨ j = 13 by omega) with rfl | rfl | rfl | rfl | rfl | rfl | rfl | rfl | rfl | rfl | rfl | rfl | rfl | rfl <;> rfl
theorem dv_12 : ∀ (ρ : Nat → Nat) (j : Nat), j < 55 → defaultValue (ty_12 j) = vp_V ([.null, .null, .null, .null, .null, .int 0, .null, .int 0, .int 0, .int 0, .int 0, .int 0, .int 0, .int 0, .int 0, .int 0, .int 0, .null, .null, .null, .null, .null, .null, .null, .null, .null, .null, .null, .null, .null, .null, .null, .null, .null, .int 0, .int 0, .null, .null, .null, .null, .null, .null, .null, .null, .null, .int 0, .int 0, .int 0, .int 0, .null, .null, .null, .null, .int 0, .int 0] : List Value) j := fun ρ j hj => by
  rcases (show j = 0 ∨ j = 1 ∨ j = 2 ∨ j = 3 ∨ j = 4 ∨ j = 5 ∨ j = 6 ∨ j = 7 ∨ j = 8 ∨ j = 9 ∨ j = 10 ∨ j = 11 ∨ j = 12 ∨ j = 13 ∨ j = 14 ∨ j = 15 ∨ j = 16 ∨ j = 17 ∨ j = 18 ∨ j = 19 ∨ j = 20 ∨ j = 21 ∨ j = 22 ∨ j = 23 ∨ j = 24 ∨ j = 25 ∨ j = 26 ∨ j = 27 ∨ j = 28 ∨ j = 29 ∨ j = 30 ∨ j = 31 ∨ j = 32 ∨ j = 33 ∨ j = 34 ∨ j = 35 ∨ j = 36 ∨ j = 37 ∨ j = 38 ∨ j = 39 ∨ j = 40 ∨ j = 41 ∨ j = 42 ∨ j = 43 ∨ j = 44 ∨ j = 45 ∨ j = 46 ∨ j = 47 ∨ j = 48 ∨ j = 49 ∨ j = 50 ∨ j = 51 ∨ j = 52 ∨ j = 53 ∨ j = 54 by omega) with rfl | rfl | rfl | rfl | rfl | rfl | rfl | rfl | rfl | rfl | rfl | rfl | rfl | rfl | rfl | rfl | rfl | rfl | rfl | rfl | rfl | rfl | rfl | rfl | rfl | rfl | rfl | rfl | rfl | rfl | rfl | rfl | rfl | rfl | rfl | rfl | rfl | rfl | rfl | rfl | rfl | rfl | rfl | rfl | rfl | rfl | rfl | rfl | rfl | rfl | rfl | rfl | rfl | rfl | rfl <;> rfl
set_option maxHeartbeats 8000000 in
set_option maxRecDepth 100000 in
theorem whole_from {Rel : St → St → Prop} (hst : STEPS Rel) (hR0 : Rel Sx0 Sm0) {p : Program} {e : Env} {s : State} {m : MethodId} {below : List Frame} {meth : Method} {c : Code} (l : Launch) {b L : Nat} {xs : Nat → Int32} (hL : L ≤ 3072) (C0 : lw_At p s m meth c b L xs) : W p l e room_1 s m #[Value.ref b] below meth c s.heap [] 0 0 (lw_Z below #[Value.ref b] s) (entryFrame m ([Value.ref b] : List Value).toArray 4) := by
  obtain ⟨hx, hb, hr, hml, hown, hts, hX, hbl, hlocks, hgv⟩ := id C0
  have hg := lw_hts C0
  obtain ⟨c0, iS0, hKn0⟩ := u_known (C := "PutOffWicks$Almanac") (T := T_0) (N := 1) (n := 1) hg iw_0 (hg (.instantiable "PutOffWicks$Almanac" 1) (lg_of 289 (by decide +kernel) (by decide +kernel)))
  obtain ⟨c1, iS1, hKn1⟩ := u_known (C := "PutOffWicks$Law") (T := T_1) (N := 9) (n := 9) hg iw_1 (hg (.instantiable "PutOffWicks$Law" 9) (lg_of 247 (by decide +kernel) (by decide +kernel)))
  obtain ⟨c2, iS2, hKn2⟩ := u_known (C := "PutOffWicks$Parish") (T := T_2) (N := 10) (n := 10) hg iw_2 (hg (.instantiable "PutOffWicks$Parish" 10) (lg_of 171 (by decide +kernel) (by decide +kernel)))
  obtain ⟨c3, iS3, hKn3⟩ := u_known (C := "PutOffWicks$ParishReader") (T := T_3) (N := 2) (n := 2) hg iw_3 (hg (.instantiable "PutOffWicks$ParishReader" 2) (lg_of 231 (by decide +kernel) (by decide +kernel)))
  obtain ⟨c4, iS4, hKn4⟩ := u_known (C := "PutOffWicks$Reading") (T := T_4) (N := 3) (n := 3) hg iw_4 (hg (.instantiable "PutOffWicks$Reading" 3) (lg_of 149 (by decide +kernel) (by decide +kernel)))
  obtain ⟨c5, iS5, hKn5⟩ := u_known (C := "PutOffWicks$Reckoner") (T := T_5) (N := 7) (n := 7) hg iw_5 (hg (.instantiable "PutOffWicks$Reckoner" 7) (lg_of 291 (by decide +kernel) (by decide +kernel)))
  obtain ⟨c6, iS6, hKn6⟩ := u_known (C := "PutOffWicks$Rows") (T := T_6) (N := 1) (n := 1) hg iw_6 (hg (.instantiable "PutOffWicks$Rows" 1) (lg_of 398 (by decide +kernel) (by decide +kernel)))
  obtain ⟨c7, iS7, hKn7⟩ := u_known (C := "PutOffWicks$Shore") (T := T_7) (N := 2) (n := 2) hg iw_7 (hg (.instantiable "PutOffWicks$Shore" 2) (lg_of 384 (by decide +kernel) (by decide +kernel)))
  obtain ⟨c8, iS8, hKn8⟩ := u_known (C := "PutOffWicks$Tape") (T := T_8) (N := 3) (n := 3) hg iw_8 (hg (.instantiable "PutOffWicks$Tape" 3) (lg_of 131 (by decide +kernel) (by decide +kernel)))
  obtain ⟨c9, iS9, hKn9⟩ := u_known (C := "PutOffWicks$Twist") (T := T_9) (N := 9) (n := 9) hg iw_9 (hg (.instantiable "PutOffWicks$Twist" 9) (lg_of 327 (by decide +kernel) (by decide +kernel)))
  obtain ⟨c10, iS10, hKn10⟩ := u_known (C := "PutOffWicks$Waits") (T := T_10) (N := 5) (n := 5) hg iw_10 (hg (.instantiable "PutOffWicks$Waits" 5) (lg_of 362 (by decide +kernel) (by decide +kernel)))
  obtain ⟨c11, iS11, hKn11⟩ := u_known (C := "PutOffWicks") (T := T_11) (N := 14) (n := 14) hg iw_11 (hg (.instantiable "PutOffWicks" 14) (lg_of 123 (by decide +kernel) (by decide +kernel)))
  obtain ⟨c12, iS12, hKn12⟩ := u_known (C := "PutOffWicksModel") (T := T_12) (N := 55) (n := 55) hg iw_12 (hg (.instantiable "PutOffWicksModel" 55) (lg_of 1055 (by decide +kernel) (by decide +kernel)))
  obtain ⟨dC, dI, hKc⟩ : ∃ (dC : Nat → ClassId) (dI : Nat → Nat → Nat), ∀ (k : Nat) (q : vw_C), clA[k]? = some q → u_Kn s q.1 q.2.1 q.2.2 (dC k) (dI k) := by
    refine ⟨fun k => if k = 0 then c0 else if k = 1 then c1 else if k = 2 then c2 else if k = 3 then c3 else if k = 4 then c4 else if k = 5 then c5 else if k = 6 then c6 else if k = 7 then c7 else if k = 8 then c8 else if k = 9 then c9 else if k = 10 then c10 else if k = 11 then c11 else c12, fun k => if k = 0 then iS0 else if k = 1 then iS1 else if k = 2 then iS2 else if k = 3 then iS3 else if k = 4 then iS4 else if k = 5 then iS5 else if k = 6 then iS6 else if k = 7 then iS7 else if k = 8 then iS8 else if k = 9 then iS9 else if k = 10 then iS10 else if k = 11 then iS11 else iS12, ?_⟩
    intro k q hq
    match k, hq with
    | 0, hq => cases hq; exact hKn0
    | 1, hq => cases hq; exact hKn1
    | 2, hq => cases hq; exact hKn2
    | 3, hq => cases hq; exact hKn3
    | 4, hq => cases hq; exact hKn4
    | 5, hq => cases hq; exact hKn5
    | 6, hq => cases hq; exact hKn6
    | 7, hq => cases hq; exact hKn7
    | 8, hq => cases hq; exact hKn8
    | 9, hq => cases hq; exact hKn9
    | 10, hq => cases hq; exact hKn10
    | 11, hq => cases hq; exact hKn11
    | 12, hq => cases hq; exact hKn12
    | k + 13, hq => simp [clA] at hq
  obtain ⟨t0, ht0, ha0⟩ := arr_t (hg (.arrayClass .int) wa_0)
  obtain ⟨t1, ht1, ha1⟩ := arr_t (hg (.arrayClass .long) wa_1)
  obtain ⟨t2, ht2, ha2⟩ := arr_t (hg (.arrayClass .byte) wa_2)
  obtain ⟨τ, e0, e1, e2⟩ : ∃ τ : Nat → ClassId, τ 0 = t0 ∧ τ 1 = t1 ∧ τ 2 = t2 := ⟨fun k => if k = 0 then t0 else if k = 1 then t1 else t2, rfl, rfl, rfl⟩
  have hKa : va_K (dC, dI) clA (sty τ) s := by
    refine ⟨hKc, fun k q hq => ?_⟩
    match k, hq with
    | 0, hq => cases hq; exact ⟨by rw [e0]; exact ha0, by rw [e0]; exact ht0⟩
    | 1, hq => cases hq; exact ⟨by rw [e1]; exact ha1, by rw [e1]; exact ht1⟩
    | 2, hq => cases hq; exact ⟨by rw [e2]; exact ha2, by rw [e2]; exact ht2⟩
    | k + 3, hq => simp [sty] at hq
  have hKB : KB (dC, dI) τ s := ⟨⟨hKa, va_Nw.of rfl (hts nW (List.mem_of_getElem? (i := 852) (by decide +kernel)))⟩, va_Nw.of rfl (hts nb1 (List.mem_of_getElem? (i := 132) (by decide +kernel))), va_Nw.of rfl (hts nb2 (List.mem_of_getElem? (i := 172) (by decide +kernel))), va_Nw.of rfl (hts nb3 (List.mem_of_getElem? (i := 237) (by decide +kernel)))⟩
  have hA : ∀ q : Nat, s.heap.size ≤ q → (fun q : Nat => s.heap.size ≤ q) q := fun _ h => h
  have hS : va_S (fun q : Nat => s.heap.size ≤ q) s.heap s.heap [] := va_S.rf
  have hP : va_P (dC, dI) clA [] s.heap := fun k q h => by simp at h
  have hD : va_D (fun q : Nat => s.heap.size ≤ q) [] := ⟨fun i j p q h => by simp at h, fun k q h => by simp at h⟩
  have hl := lv_entry ([.ref b]) (n := 4) (Nat.le_of_ble_eq_true rfl)
  rw [lg_entry_eq]
  generalize (lg_sl ([.ref b]) ++ List.replicate (4 - (lg_sl ([.ref b])).length) Slot.unset).toArray = ls at hl ⊢
  have hl : lv_has ls 4 [(0, .ref b)] := hl
  refine va_new (ci := 11) (fs := [.null, .null, .null, .null, .null, .null, .null, .null, .null, .null, .null, .null, .null, .int 0]) (C := "PutOffWicks") (T := T_11) (N := 14) hx hb hg iw_11 ty_11 tk_11 hown (hg (.classLink R_law 7 "PutOffWicks") (lg_of 122 (by decide +kernel) (by decide +kernel))) (hg (.instantiable "PutOffWicks" 14) (lg_of 123 (by decide +kernel) (by decide +kernel))) (hg (.initialized "PutOffWicks") (lg_of 104 (by decide +kernel) (by decide +kernel))) hKa hP hD hS hA rfl (fun j hj => dv_11 (fun k => k) j hj) (Nat.le_of_ble_eq_true rfl) (Nat.le_of_ble_eq_true rfl) dl_0 (fun q1 H1 hP hD hS => ?_)
  obtain ⟨ρ, hρ⟩ : ∃ ρ : Nat → Nat, ρ 0 = q1 := ⟨fun _ => q1, rfl⟩
  have hP : va_P (dC, dI) clA (aw ρ τ W_0) H1 := by rw [show aw ρ τ W_0 = [(ρ 0, .inr (11, [.null, .null, .null, .null, .null, .null, .null, .null, .null, .null, .null, .null, .null, .int 0]))] from rfl, hρ]; exact hP
  have hD : va_D (fun q : Nat => s.heap.size ≤ q) (aw ρ τ W_0) := by rw [show aw ρ τ W_0 = [(ρ 0, .inr (11, [.null, .null, .null, .null, .null, .null, .null, .null, .null, .null, .null, .null, .null, .int 0]))] from rfl, hρ]; exact hD
  subst hρ
  refine lv_dup hx hb dl_3 rfl ?_
  refine GB_after (w := W_0) (w1 := W_123) (D := (dC, dI)) (ρ := ρ) (τ := τ) (rest := [.ref (ρ 0)]) (va_runI (As := []) (rest := [.ref (ρ 0)]) (b := ρ 0) (nL := 4) (n := 0) (own := R_law) ⟨hx, hb, hml, hown, hg⟩ (b_W_init_0 l (dC, dI) ρ τ H1.size)
    ⟨callB_of 0 hg (mw_good mi_W_init.2.2.2.1) rfl rfl rfl (hg _ mi_W_init.2.2.1) (hg (.methodLink R_law 9 m_W_init.1) (lg_of 124 (by decide +kernel) (by decide +kernel))) mi_W_init.2.2.2.2 ⟨Nat.le_of_ble_eq_true rfl, Nat.le_of_ble_eq_true rfl⟩, rfl, hg _ mi_W_init.1⟩
    ⟨pb_blind _ ρ τ _ _ _, fun U hU hW => ⟨rfl, by rw [hU], by rw [hU]; exact hP, hKB.warm hW, hD.weaken (fun _ _ _ _ => trivial)⟩⟩ rfl rfl hl.1 rfl (lv_room (Nat.le_of_ble_eq_true rfl)) dl_4 ⟨Nat.le_of_ble_eq_true rfl, Nat.le_of_ble_eq_true rfl⟩) hA hD hS (fun H2 locs2 ρ2 hρ2 hP hD hS => ?_)
  refine lv_astore_n (lv' := [(1, .ref (ρ 0)), (0, .ref b)]) hx hb dl_7 rfl hl (by decide) rfl (fun ls hl => ?_)
  refine va_new (ci := 12) (fs := [.null, .null, .null, .null, .null, .int 0, .null, .int 0, .int 0, .int 0, .int 0, .int 0, .int 0, .int 0, .int 0, .int 0, .int 0, .null, .null, .null, .null, .null, .null, .null, .null, .null, .null, .null, .null, .null, .null, .null, .null, .null, .int 0, .int 0, .null, .null, .null, .null, .null, .null, .null, .null, .null, .int 0, .int 0, .int 0, .int 0, .null, .null, .null, .null, .int 0, .int 0]) (C := "PutOffWicksModel") (T := T_12) (N := 55) hx hb hg iw_12 ty_12 tk_12 hown (hg (.classLink R_law 10 "PutOffWicksModel") (lg_of 1054 (by decide +kernel) (by decide +kernel))) (hg (.instantiable "PutOffWicksModel" 55) (lg_of 1055 (by decide +kernel) (by decide +kernel))) (hg (.initialized "PutOffWicksModel") (lg_of 116 (by decide +kernel) (by decide +kernel))) hKa hP hD hS hA rfl (fun j hj => dv_12 (fun k => k) j hj) (Nat.le_of_ble_eq_true rfl) (Nat.le_of_ble_eq_true rfl) dl_8 (fun q2 H3 hP hD hS => ?_)
  have hx3 : ∀ k, k < W_123.length → ρu ρ2 57 q2 k = ρ2 k := ρu_lt
  have hW3 : aw ρ2 τ W_123 ++ [(q2, .inr (12, [.null, .null, .null, .null, .null, .int 0, .null, .int 0, .int 0, .int 0, .int 0, .int 0, .int 0, .int 0, .int 0, .int 0, .int 0, .null, .null, .null, .null, .null, .null, .null, .null, .null, .null, .null, .null, .null, .null, .null, .null, .null, .int 0, .int 0, .null, .null, .null, .null, .null, .null, .null, .null, .null, .int 0, .int 0, .int 0, .int 0, .null, .null, .null, .null, .int 0, .int 0]))] = aw (ρu ρ2 57 q2) τ W_124 := by
    rw [show W_124 = W_123 ++ [.inl (12, [.null, .null, .null, .null, .null, .int 0, .null, .int 0, .int 0, .int 0, .int 0, .int 0, .int 0, .int 0, .int 0, .int 0, .int 0, .null, .null, .null, .null, .null, .null, .null, .null, .null, .null, .null, .null, .null, .null, .null, .null, .null, .int 0, .int 0, .null, .null, .null, .null, .null, .null, .null, .null, .null, .int 0, .int 0, .int 0, .int 0, .null, .null, .null, .null, .int 0, .int 0])] from rfl, ← aw_push, aw_ext hx3 (by decide)]
    rfl
  rw [hW3] at hP hD
  have hq2 : ρu ρ2 57 q2 57 = q2 := by simp [ρu]
  have hq1 : ρu ρ2 57 q2 0 = ρ 0 := (ρu_lt 0 (by decide)).trans (hρ2 0 (by decide))
  rw [← hq2]
  generalize ρu ρ2 57 q2 = ρ3 at hP hD hq1 ⊢
  refine lv_dup hx hb dl_11 rfl ?_
  refine GB_after (w := W_124) (w1 := W_197) (D := (dC, dI)) (ρ := ρ3) (τ := τ) (rest := [.ref (ρ3 57)]) (va_runI (As := []) (rest := [.ref (ρ3 57)]) (b := ρ3 57) (nL := 4) (n := 0) (own := R_law) ⟨hx, hb, hml, hown, hg⟩ (b_Mo_init_57 l (dC, dI) ρ3 τ H3.size)
    ⟨callB_of 0 hg (mw_good mi_Mo_init.2.2.2.1) rfl rfl rfl (hg _ mi_Mo_init.2.2.1) (hg (.methodLink R_law 12 m_Mo_init.1) (lg_of 1056 (by decide +kernel) (by decide +kernel))) mi_Mo_init.2.2.2.2 ⟨Nat.le_of_ble_eq_true rfl, Nat.le_of_ble_eq_true rfl⟩, rfl, hg _ mi_Mo_init.1⟩
    ⟨pb_blind _ ρ3 τ _ _ _, fun U hU hW => ⟨rfl, by rw [hU], by rw [hU]; exact hP, hKB.warm hW, hD.weaken (fun _ _ _ _ => trivial)⟩⟩ rfl rfl hl.1 rfl (lv_room (Nat.le_of_ble_eq_true rfl)) dl_12 ⟨Nat.le_of_ble_eq_true rfl, Nat.le_of_ble_eq_true rfl⟩) hA hD hS (fun H4 locs4 ρ4 hρ4 hP hD hS => ?_)
  refine lv_astore_n (lv' := [(2, .ref (ρ3 57)), (1, .ref (ρ 0)), (0, .ref b)]) hx hb dl_15 rfl hl (by decide) rfl (fun ls hl => ?_)
  refine lv_iconst (v := 0) hx hb dl_16 (by decide) ?_
  refine lv_istore_n (lv' := [(3, .int 0), (2, .ref (ρ3 57)), (1, .ref (ρ 0)), (0, .ref b)]) hx hb dl_17 rfl hl (by decide) rfl (fun ls hl => ?_)
  refine W.widen (k := 94) (n := 74322) (Nat.le_of_ble_eq_true rfl) (Nat.le_of_ble_eq_true rfl) ?_
  have d57 : ρ4 57 = ρ3 57 := hρ4 57 (by decide)
  have d0 : ρ4 0 = ρ 0 := (hρ4 0 (by decide)).trans hq1
  rw [← d57, ← d0] at hl
  have hlen : ∀ k, k < 94 → ∃ cc, (aw ρ4 τ W_197)[k]? = some (ρ4 k, cc) := fun k hk => by
    have hk' : k < (W_197).length := by rw [len_f]; exact hk
    exact ⟨_, aw_at (List.getElem?_eq_getElem hk')⟩
  have hinj : ∀ i j, i < 94 → j < 94 → ρ4 i = ρ4 j → i = j := fun i j hi hj hij => by
    obtain ⟨ci, hci⟩ := hlen i hi
    obtain ⟨cj, hcj⟩ := hlen j hj
    exact hD.1 i j _ _ hci hcj hij
  have hge : ∀ i, i < 94 → s.heap.size ≤ ρ4 i := fun i hi => by
    obtain ⟨ci, hci⟩ := hlen i hi
    exact hD.2 i _ hci
  have hPx : va_P (dC, dI) clA (sw SX ρ4 τ Sx0) H4 := fun k q hq => by
    obtain ⟨h1, rfl⟩ := sw_get hq
    exact hP k _ (conv_x ρ4 τ k h1)
  have hPm : va_P (dC, dI) clA (sw SM (fun j => ρ4 (57 + j)) τ Sm0) H4 := fun k q hq => by
    obtain ⟨h1, rfl⟩ := sw_get hq
    exact hP (57 + k) _ (conv_m ρ4 τ k h1)
  have n1 : SX.1 = 57 := rfl
  have n2 : SM.1 = 37 := rfl
  have hLW : LW s (dC, dI) τ ρ4 (fun j => ρ4 (57 + j)) Sx0 Sm0 H4 locs4 := by
    refine ⟨fun i j hi hj hij => hinj i j (by omega) (by omega) hij, fun i j hi hj hij => ?_, fun i j hi hj hij => ?_, fun i hi => hge i (by omega), fun i hi => hge (57 + i) (by omega), hKB.1, hPx, hPm, hS⟩
    · have := hinj (57 + i) (57 + j) (by omega) (by omega) hij
      omega
    · have := hinj i (57 + j) (by omega) (by omega) hij
      omega
  have hgo := law_loop (L := L) (xs := xs) hL hst (L + 1) 0 (by omega) (by omega) Sx0 Sm0 hR0
  exact hgo p l e s m below meth c b H4 locs4 (dC, dI) ρ4 (fun j => ρ4 (57 + j)) τ ls C0 hLW (lv_sub hl [3, 2, 1, 0] rfl)
