/-! THE CLAIM OUT OF ONE WALK OF THE LAW'S BODY. Your part is whole_start (and what it stands on); all else here is the same for every law, but numbers. -/
def R_law : String := "PutOffWicksLaw"
def lw_P (b : Addr) (xs : List Int32) (args : Array Value) (s : State) : Prop := args = #[.ref b] ∧ s.IntsAt b xs ∧ xs.length ≤ 3072 ∧ (Jvm.Cond.and given_1 narrow_1).before args s = true
def lw_Q (_ : Array Value) (s : State) (o : Outcome) (t : State) : Prop := o = .returned (some (.int 1)) ∧ Framed s o t [] 600000 7302250
def lw_Z (below : List Frame) (a : Array Value) (s : State) : State → Prop := fun t => ∃ o, t.status = .running ∧ Ended t below o ∧ lw_Q a s o t
/-- the law's own end, with 1 on the stack, nothing written that was there before, its room as the claim has it -/
theorem lw_ret {p : Program} {l : Launch} {e : Env} {s : State} {m : MethodId} {below : List Frame} {meth : Method} {c : Code} {b : Nat} (hx : p.tables.exec = Jvm.exec) (hb : c.code = code) (hr : meth.sig.returnType = ret) (hlocks : meth.locks = false) {pc : Nat} {H : Heap} {ls : Array Slot} (hdg : decode code pc = .ok (.ireturn, 1)) : W p l e room_1 s m #[Value.ref b] below meth c H [] 600000 7302250 (lw_Z below #[Value.ref b] s) (F0 m pc ls [.int 1]) := by
  intro T hT X
  obtain ⟨fs, hret, hrun, hended, hW, hframe⟩ := X.leave (v := some (.int 1)) (hlocks := hlocks) (fun h => by rw [hr] at h; cases h)
  have hmeth' : T.vm.method? m = some meth := X.method'
  refine ⟨T.setFrames fs, ?_, .returned (some (.int 1)), hrun, hended, rfl, ⟨_, rfl⟩, hW, hframe⟩
  jvm_step X.here [X.here.top, hx, hb, hdg, hmeth', hr, ret, narrow_b1]
  (try refine ⟨rfl, ?_⟩); (try refine ⟨rfl, ?_⟩)
  first | (intro acts; rw [hret _ acts rfl rfl rfl]) | rw [hret _ _ rfl rfl rfl]
  exact Steps.refl _
/-- what holds at the law's entry: the machine, the code, the tables' words (any of lw_tbl by 'hts w (by decide +kernel)'), the script of L ints xs at the cell b, what the Statement gives of the start (any of its parts by flat_of_before) -/
def lw_At (p : Program) (s : State) (m : MethodId) (meth : Method) (c : Code) (b L : Nat) (xs : Nat → Int32) : Prop :=
  p.tables.exec = Jvm.exec ∧ c.code = code ∧ meth.sig.returnType = ret ∧ c.maxLocals = 4 ∧ s.vm.findClass R_law = some m.cls ∧ (∀ w ∈ lw_tbl, w.before #[Value.ref b] s = true) ∧ va_X b L xs s s.heap ∧ b < s.heap.size ∧ meth.locks = false ∧ (Jvm.Cond.and given_1 narrow_1).before #[Value.ref b] s = true
def κ (b : Nat) (ρx ρm : Nat → Nat) : Nat → Nat := fun k => if k = 0 then b else if k = 1 then ρx 0 else ρm 0
def apart (ρx ρm : Nat → Nat) : Prop := ∀ i j, i < SX.1 → j < SM.1 → ρx i ≠ ρm j
def LW (s : State) (D : va_G) (τ : Nat → ClassId) (ρx ρm : Nat → Nat) (Sx Sm : St) (H : Heap) (locs : List Loc) : Prop := inj SX ρx ∧ inj SM ρm ∧ apart ρx ρm ∧ (∀ i, i < SX.1 → s.heap.size ≤ ρx i) ∧ (∀ i, i < SM.1 → s.heap.size ≤ ρm i) ∧ KK D τ s ∧ va_P D clA (sw SX ρx τ Sx) H ∧ va_P D clA (sw SM ρm τ Sm) H ∧ va_S (fun q => s.heap.size ≤ q) s.heap H locs
def GL (L : Nat) (xs : Nat → Int32) (pc : Nat) (ls : List (Nat × Value)) (stk : List Value) (Sx Sm : St) : Prop := ∀ (p : Program) (l : Launch) (e : Env) (s : State) (m : MethodId) (below : List Frame) (meth : Method) (c : Code) (b : Nat) (H : Heap) (locs : List Loc) (D : va_G) (ρx ρm : Nat → Nat) (τ : Nat → ClassId) (lr : Array Slot),
  lw_At p s m meth c b L xs → LW s D τ ρx ρm Sx Sm H locs → lv_has lr 4 (lc (κ b ρx ρm) ls) → W p l e room_1 s m #[Value.ref b] below meth c H locs 94 74322 (lw_Z below #[Value.ref b] s) (F0 m pc lr (stk.map (cv (κ b ρx ρm))))
theorem lw_hts {p : Program} {s : State} {m : MethodId} {meth : Method} {c : Code} {b L : Nat} {xs : Nat → Int32} (h : lw_At p s m meth c b L xs) : ∀ w ∈ lw_g, w.before #[Value.ref b] s = true := fun w hw => h.2.2.2.2.2.1 w (List.mem_filter.mp hw).1
section GLR
variable {L : Nat} {xs : Nat → Int32} {pc : Nat} {ls : List (Nat × Value)} {stk : List Value} {Sx Sm : St}
theorem GL_iconst {n : Int} (v : Int32) (hv : Int32.ofInt n = v) (hd : decode code pc = .ok (.iconst n, 1)) (kk : GL L xs (pc + 1) ls (.int v :: stk) Sx Sm) : GL L xs pc ls stk Sx Sm := fun p l e s m below meth c b H locs D ρx ρm τ lr hc hw hl => lv_iconst hc.1 hc.2.1 hd hv (kk p l e s m below meth c b H locs D ρx ρm τ lr hc hw hl)
theorem GL_bipush {n : Int} (v : Int32) (hv : (Int8.ofInt n).toInt32 = v) (hd : decode code pc = .ok (.bipush n, 2)) (kk : GL L xs (pc + 2) ls (.int v :: stk) Sx Sm) : GL L xs pc ls stk Sx Sm := fun p l e s m below meth c b H locs D ρx ρm τ lr hc hw hl => lv_bipush hc.1 hc.2.1 hd hv (kk p l e s m below meth c b H locs D ρx ρm τ lr hc hw hl)
theorem GL_iload_n {k : Fin 4} {x : Int32} (j : Nat) (hj : ls[j]? = some ((k : Nat), Value.int x)) (hd : decode code pc = .ok (.iload_n k, 1)) (kk : GL L xs (pc + 1) ls (.int x :: stk) Sx Sm) : GL L xs pc ls stk Sx Sm := fun p l e s m below meth c b H locs D ρx ρm τ lr hc hw hl => lv_iload_n hc.1 hc.2.1 hd rfl (lv_at hl j (lc_at hj)) (kk p l e s m below meth c b H locs D ρx ρm τ lr hc hw hl)
theorem GL_aload_n {k : Fin 4} {x : Nat} (j : Nat) (hj : ls[j]? = some ((k : Nat), Value.ref x)) (hd : decode code pc = .ok (.aload_n k, 1)) (kk : GL L xs (pc + 1) ls (.ref x :: stk) Sx Sm) : GL L xs pc ls stk Sx Sm := fun p l e s m below meth c b H locs D ρx ρm τ lr hc hw hl => lv_aload_n hc.1 hc.2.1 hd rfl (lv_at hl j (lc_at hj)) (kk p l e s m below meth c b H locs D ρx ρm τ lr hc hw hl)
theorem GL_iinc {k : Nat} {n : Int} {x v : Int32} (c0 : Int32) (j : Nat) (ls' : List (Nat × Value)) (hcn : Int32.ofInt n = c0) (hj : ls[j]? = some (k, Value.int x)) (hv : x + c0 = v) (hs : (k, Value.int v) :: ls.filter (fun q => !(q.1 == k) && !(q.1 + 1 == k && q.2.category == 2)) = ls') (hn : k < 4) (hd : decode code pc = .ok (.iinc k n, 3)) (kk : GL L xs (pc + 3) ls' (stk) Sx Sm) : GL L xs pc ls stk Sx Sm := fun p l e s m below meth c b H locs D ρx ρm τ lr hc hw hl => by subst hcn; exact lv_iinc hc.1 hc.2.1 hd hl (lc_at hj) hv hn (lc_f1 hs) (fun lr hl => kk p l e s m below meth c b H locs D ρx ρm τ lr hc hw hl)
theorem GL_iadd {x y : Int32} (hd : decode code pc = .ok (.iadd, 1)) (kk : GL L xs (pc + 1) ls (.int (x + y) :: stk) Sx Sm) : GL L xs pc ls (.int y :: .int x :: stk) Sx Sm := fun p l e s m below meth c b H locs D ρx ρm τ lr hc hw hl => lv_iadd hc.1 hc.2.1 hd (kk p l e s m below meth c b H locs D ρx ρm τ lr hc hw hl)
theorem GL_isub {x y : Int32} (hd : decode code pc = .ok (.isub, 1)) (kk : GL L xs (pc + 1) ls (.int (x - y) :: stk) Sx Sm) : GL L xs pc ls (.int y :: .int x :: stk) Sx Sm := fun p l e s m below meth c b H locs D ρx ρm τ lr hc hw hl => lv_isub hc.1 hc.2.1 hd (kk p l e s m below meth c b H locs D ρx ρm τ lr hc hw hl)
theorem GL_iand {x y : Int32} (hd : decode code pc = .ok (.iand, 1)) (kk : GL L xs (pc + 1) ls (.int (x &&& y) :: stk) Sx Sm) : GL L xs pc ls (.int y :: .int x :: stk) Sx Sm := fun p l e s m below meth c b H locs D ρx ρm τ lr hc hw hl => lv_iand hc.1 hc.2.1 hd (kk p l e s m below meth c b H locs D ρx ρm τ lr hc hw hl)
theorem GL_goto {off : Int} (tgt : Nat) (ht : (pc : Int) + off = (tgt : Int)) (hd : decode code pc = .ok (.goto off, 3)) (kk : GL L xs (tgt) ls (stk) Sx Sm) : GL L xs pc ls stk Sx Sm := fun p l e s m below meth c b H locs D ρx ρm τ lr hc hw hl => lv_goto hc.1 hc.2.1 hd ht (kk p l e s m below meth c b H locs D ρx ρm τ lr hc hw hl)
theorem GL_if_eq {x : Int32} {off : Int} (tgt : Nat) (ht : (pc : Int) + off = (tgt : Int)) (hd : decode code pc = .ok (.ifCond .eq off, 3)) (kt : x = 0 → GL L xs tgt ls stk Sx Sm) (kf : ¬ x = 0 → GL L xs (pc + 3) ls stk Sx Sm) : GL L xs pc ls (.int x :: stk) Sx Sm := fun p l e s m below meth c b H locs D ρx ρm τ lr hc hw hl => lv_if_eq hc.1 hc.2.1 hd ht (fun q => kt q p l e s m below meth c b H locs D ρx ρm τ lr hc hw hl) (fun q => kf q p l e s m below meth c b H locs D ρx ρm τ lr hc hw hl)
theorem GL_icmp_eq {x y : Int32} {off : Int} (tgt : Nat) (ht : (pc : Int) + off = (tgt : Int)) (hd : decode code pc = .ok (.if_icmp .eq off, 3)) (kt : x = y → GL L xs tgt ls stk Sx Sm) (kf : ¬ x = y → GL L xs (pc + 3) ls stk Sx Sm) : GL L xs pc ls (.int y :: .int x :: stk) Sx Sm := fun p l e s m below meth c b H locs D ρx ρm τ lr hc hw hl => lv_icmp_eq hc.1 hc.2.1 hd ht (fun q => kt q p l e s m below meth c b H locs D ρx ρm τ lr hc hw hl) (fun q => kf q p l e s m below meth c b H locs D ρx ρm τ lr hc hw hl)
theorem GL_icmp_gt {x y : Int32} {off : Int} (tgt : Nat) (ht : (pc : Int) + off = (tgt : Int)) (hd : decode code pc = .ok (.if_icmp .gt off, 3)) (kt : y < x → GL L xs tgt ls stk Sx Sm) (kf : ¬ y < x → GL L xs (pc + 3) ls stk Sx Sm) : GL L xs pc ls (.int y :: .int x :: stk) Sx Sm := fun p l e s m below meth c b H locs D ρx ρm τ lr hc hw hl => lv_icmp_gt hc.1 hc.2.1 hd ht (fun q => kt q p l e s m below meth c b H locs D ρx ρm τ lr hc hw hl) (fun q => kf q p l e s m below meth c b H locs D ρx ρm τ lr hc hw hl)
theorem GL_tin {dflt lo hi' : Int} {offs : Array Int} {len : Nat} {x : Int32} {off : Int} (z : Int) (hx : x.toInt = z) (tgt : Nat) (h1 : ¬ z < lo) (h2 : ¬ hi' < z) (ho : offs[(z - lo).toNat]? = some off) (ht : (pc : Int) + off = (tgt : Int)) (hd : decode code pc = .ok (.tableswitch dflt lo hi' offs, len)) (kk : GL L xs (tgt) ls (stk) Sx Sm) : GL L xs pc ls (.int x :: stk) Sx Sm := fun p l e s m below meth c b H locs D ρx ρm τ lr hc hw hl => lv_tableIn hc.1 hc.2.1 hd (by rw [hx]; exact h1) (by rw [hx]; exact h2) (by rw [hx]; exact ho) ht (kk p l e s m below meth c b H locs D ρx ρm τ lr hc hw hl)
theorem GL_tout {dflt lo hi' : Int} {offs : Array Int} {len : Nat} {x : Int32} (hx : x.toInt < lo ∨ hi' < x.toInt) (tgt : Nat) (ht : (pc : Int) + dflt = (tgt : Int)) (hd : decode code pc = .ok (.tableswitch dflt lo hi' offs, len)) (kk : GL L xs (tgt) ls (stk) Sx Sm) : GL L xs pc ls (.int x :: stk) Sx Sm := fun p l e s m below meth c b H locs D ρx ρm τ lr hc hw hl => lv_tableOut hc.1 hc.2.1 hd hx ht (kk p l e s m below meth c b H locs D ρx ρm τ lr hc hw hl)
theorem GL_alen (hd : decode code pc = .ok (.arraylength, 1)) (kk : GL L xs (pc + 1) ls (.int (Int32.ofNat L) :: stk) Sx Sm) : GL L xs pc ls (.ref 0 :: stk) Sx Sm := fun p l e s m below meth c b H locs D ρx ρm τ lr hc hw hl => va_slen hc.1 hc.2.1 hc.2.2.2.2.2.2.1 hc.2.2.2.2.2.2.2.1 (Nat.not_le.mpr hc.2.2.2.2.2.2.2.1) hw.2.2.2.2.2.2.2.2 hd (kk p l e s m below meth c b H locs D ρx ρm τ lr hc hw hl)
theorem GL_iald {i : Int32} (hg : ig i L = true) (hd : decode code pc = .ok (.iaload, 1)) (kk : GL L xs (pc + 1) ls (.int (xs i.toNatClampNeg) :: stk) Sx Sm) : GL L xs pc ls (.int i :: .ref 0 :: stk) Sx Sm := fun p l e s m below meth c b H locs D ρx ρm τ lr hc hw hl => va_sld hc.1 hc.2.1 hc.2.2.2.2.2.2.1 hc.2.2.2.2.2.2.2.1 (Nat.not_le.mpr hc.2.2.2.2.2.2.2.1) hw.2.2.2.2.2.2.2.2 (ig_in hg) hd (kk p l e s m below meth c b H locs D ρx ρm τ lr hc hw hl)
theorem GL_ret1 (hd : decode code pc = .ok (.ireturn, 1)) : GL L xs pc ls [.int 1] Sx Sm := fun p l e s m below meth c b H locs D ρx ρm τ lr hc hw hl => by
  refine W.widen (k := 600000) (n := 7302250) (Nat.le_of_ble_eq_true rfl) (Nat.le_of_ble_eq_true rfl) ?_
  exact va_forget (fun q hq => hw.2.2.2.2.2.2.2.2.2.2 q hq) (lw_ret hc.1 hc.2.1 hc.2.2.1 hc.2.2.2.2.2.2.2.2.1 hd)
theorem mp_int (ρ : Nat → Nat) (av : List Int32) : (av.map Value.int).map (cv ρ) = av.map Value.int := by
  rw [List.map_map]
  rfl
theorem g_afterL {p : Program} {l : Launch} {e : Env} {R : Room} {s : State} {m : MethodId} {args : Array Value} {below : List Frame} {meth : Method} {c : Code} {H : Heap} {locs : List Loc} {Q : State → Prop} {Y : SY} {D : va_G} {ρ : Nat → Nat} {τ : Nat → ClassId} {r1 : Int32} {S1 : St} {a : Array Value} {pc : Nat} {lr : Array Slot} {st0 rest : List Value} {cells slots : Nat}
    (hr : va_Run p l e R s m args below meth c H locs cells slots 0 0 (F0 m pc lr st0) rest (qc Y D ρ τ (some r1) S1 a) (sA Y ρ)) (hA : ∀ i, i < Y.1 → s.heap.size ≤ ρ i) (hS : va_S (fun q => s.heap.size ≤ q) s.heap H locs)
    (kk : ∀ (H1 : Heap) (locs1 : List Loc), va_P D clA (sw Y ρ τ S1) H1 → (∀ q, q < H.size → ¬ sA Y ρ q → H1[q]? = H[q]?) → va_S (fun q => s.heap.size ≤ q) s.heap H1 locs1 → W p l e R s m args below meth c H1 locs1 cells slots Q (F0 m (pc + 3) lr (.int r1 :: rest))) : W p l e R s m args below meth c H locs cells slots Q (F0 m pc lr st0) := by
  intro T hT X'
  obtain ⟨v, st₀, t, T', L, h0, X', hL, e1, e2, ⟨⟨hv, hb⟩, hz, hk⟩, st⟩ := hr T hT X'
  cases hv
  rw [h0] at hz hk
  have hF : ∀ q, sA Y ρ q → s.heap.size ≤ q := fun q ⟨k, h1, h2⟩ => by rw [h2]; exact hA k h1
  obtain ⟨t2, a1, b1⟩ := kk T'.heap (locs ++ L) (by rw [e1]; exact hb) (fun q h1 h2 => by rw [e1]; exact hk q h1 h2)
    ⟨Nat.le_trans hS.1 (by rw [e1]; exact hz), fun q h1 h2 => by rw [e1, hk q (Nat.lt_of_lt_of_le h1 hS.1) (fun h => h2 (hF q h))]; exact hS.2.1 q h1 h2, fun q hq => by
      rcases List.mem_append.mp hq with h | h
      · exact hS.2.2 q h
      · exact hF _ (hL q h)⟩ T' rfl X'
  exact ⟨t2, st t2 a1, b1⟩
theorem sw_kept {Y : SY} {D : va_G} {ρ : Nat → Nat} {τ : Nat → ClassId} {S : St} {H H1 : Heap} (h : va_P D clA (sw Y ρ τ S) H) (hk : ∀ k, k < Y.1 → ρ k < H.size → H1[ρ k]? = H[ρ k]?) : va_P D clA (sw Y ρ τ S) H1 := by
  refine h.kept (fun k q hq => ?_)
  have hlt := (h k q hq).lt
  obtain ⟨h1, rfl⟩ := sw_get hq
  exact hk k h1 hlt
theorem GL_callX {idx n h' : Nat} {J : MI} {r1 : Int32} {S1 : St} (av : List Int32) (rest : List Value) (hM : Ct SX J h' (.ref 0 :: av.map Value.int) Sx (some r1) S1) (hh : h' ≤ 300) (hm : J.2.2.1 ≤ 21) (hJ : MV J n) (hcls : J.1.cls = "PutOffWicks") (hn : av.length = n) (hw0 : Cond.methodLink R_law idx J.1 ∈ lw_g) (hst : stk = (av.map Value.int).reverse ++ .ref 1 :: rest) (hrm : (rest.map fun v => v.category).sum ≤ 8) (hd : decode code pc = .ok (.invokevirtual idx, 3))
    (kk : GL L xs (pc + 3) ls (.int r1 :: rest) S1 Sm) : GL L xs pc ls stk Sx Sm := by
  intro p l e s m below meth c b H locs D ρx ρm τ lr hc hw hl
  obtain ⟨i1, i2, ap, a1, a2, hK, hPx, hPm, hS⟩ := hw
  obtain ⟨j1, j2, j3, j4, j5⟩ := hJ
  have ht := lw_hts hc
  refine g_afterL (Y := SX) (D := D) (ρ := ρx) (τ := τ) (r1 := r1) (S1 := S1) (rest := rest.map (cv (κ b ρx ρm))) (va_runV (As := av.map Value.int) (rest := rest.map (cv (κ b ρx ρm))) (b := ρx 0) (nL := 4) (C := J.1.cls) (n := n) (own := R_law) ⟨hc.1, hc.2.1, hc.2.2.2.1, hc.2.2.2.2.1, ht⟩ (hM l D ρx τ i1)
    ⟨callB_of n ht (mw_good j4) rfl rfl rfl (ht _ j3) (ht _ hw0) j5 ⟨by show h' + 1 ≤ 2048; omega, by show 8 + (J.2.2.1 + 11) + 40 * h' ≤ 84000; omega⟩, ht _ j1, ht _ j2⟩
    ⟨pcw_blind SX D ρx τ _ Sx, by rw [hcls]; exact va_recv hK.1 hPx (ci := 11) (q := ("PutOffWicks", T_11, 14)) rfl (sw_obj kx_0 sx_0), fun U hU hW => ⟨by rw [List.map_cons, mp_int]; rfl, by rw [hU]; exact hPx, hK.warm hW⟩⟩ rfl (by simpa using hn) hl.1 (by rw [hst]; simp [cv, κ]) (lv_room (by rw [cat_sum]; exact hrm)) hd ⟨Nat.le_of_ble_eq_true rfl, Nat.le_of_ble_eq_true rfl⟩) a1 hS (fun H1 locs1 hP1 hk1 hS1 => ?_)
  exact kk p l e s m below meth c b H1 locs1 D ρx ρm τ lr hc ⟨i1, i2, ap, a1, a2, hK, hP1, sw_kept hPm (fun k h1 h2 => hk1 _ h2 (fun ⟨j, q1, q2⟩ => ap j k q1 h1 q2.symm)), hS1⟩ hl
theorem GL_callM {idx n h' : Nat} {J : MI} {r1 : Int32} {S1 : St} (av : List Int32) (rest : List Value) (hM : Ct SM J h' (.ref 0 :: av.map Value.int) Sm (some r1) S1) (hh : h' ≤ 300) (hm : J.2.2.1 ≤ 21) (hJ : MV J n) (hcls : J.1.cls = "PutOffWicksModel") (hn : av.length = n) (hw0 : Cond.methodLink R_law idx J.1 ∈ lw_g) (hst : stk = (av.map Value.int).reverse ++ .ref 2 :: rest) (hrm : (rest.map fun v => v.category).sum ≤ 8) (hd : decode code pc = .ok (.invokevirtual idx, 3))
    (kk : GL L xs (pc + 3) ls (.int r1 :: rest) Sx S1) : GL L xs pc ls stk Sx Sm := by
  intro p l e s m below meth c b H locs D ρx ρm τ lr hc hw hl
  obtain ⟨i1, i2, ap, a1, a2, hK, hPx, hPm, hS⟩ := hw
  obtain ⟨j1, j2, j3, j4, j5⟩ := hJ
  have ht := lw_hts hc
  refine g_afterL (Y := SM) (D := D) (ρ := ρm) (τ := τ) (r1 := r1) (S1 := S1) (rest := rest.map (cv (κ b ρx ρm))) (va_runV (As := av.map Value.int) (rest := rest.map (cv (κ b ρx ρm))) (b := ρm 0) (nL := 4) (C := J.1.cls) (n := n) (own := R_law) ⟨hc.1, hc.2.1, hc.2.2.2.1, hc.2.2.2.2.1, ht⟩ (hM l D ρm τ i2)
    ⟨callB_of n ht (mw_good j4) rfl rfl rfl (ht _ j3) (ht _ hw0) j5 ⟨by show h' + 1 ≤ 2048; omega, by show 8 + (J.2.2.1 + 11) + 40 * h' ≤ 84000; omega⟩, ht _ j1, ht _ j2⟩
    ⟨pcw_blind SM D ρm τ _ Sm, by rw [hcls]; exact va_recv hK.1 hPm (ci := 12) (q := ("PutOffWicksModel", T_12, 55)) rfl (sw_obj km_0 sm_0), fun U hU hW => ⟨by rw [List.map_cons, mp_int]; rfl, by rw [hU]; exact hPm, hK.warm hW⟩⟩ rfl (by simpa using hn) hl.1 (by rw [hst]; simp [cv, κ]) (lv_room (by rw [cat_sum]; exact hrm)) hd ⟨Nat.le_of_ble_eq_true rfl, Nat.le_of_ble_eq_true rfl⟩) a2 hS (fun H1 locs1 hP1 hk1 hS1 => ?_)
  exact kk p l e s m below meth c b H1 locs1 D ρx ρm τ lr hc ⟨i1, i2, ap, a1, a2, hK, sw_kept hPx (fun k h1 h2 => hk1 _ h2 (fun ⟨j, q1, q2⟩ => ap k j h1 q1 q2)), hP1, hS1⟩ hl
end GLR

