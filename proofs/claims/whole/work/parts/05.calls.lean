/-! CALLS, over G -/
def MV (J : MI) (n : Nat) : Prop := Cond.instanceMethod J.1 ∈ lw_g ∧ Cond.selects J.1.cls J.1 J.1 ∈ lw_g ∧ Cond.initialized J.1.cls ∈ lw_g ∧ Cond.code J.1 J.2.1 J.2.2.1 J.2.2.2 ∈ lw_g ∧ J.1.cls ≠ "java/lang/invoke/MethodHandle" ∧ J.1.cls ≠ "java/lang/invoke/VarHandle" ∧ (parseMethodDescriptor J.1.desc).map (fun d => d.parameters.length) = some n
def MT (J : MI) (n : Nat) : Prop := Cond.static J.1 ∈ lw_g ∧ Cond.initialized J.1.cls ∈ lw_g ∧ Cond.code J.1 J.2.1 J.2.2.1 J.2.2.2 ∈ lw_g ∧ J.1.cls ≠ "java/lang/invoke/MethodHandle" ∧ J.1.cls ≠ "java/lang/invoke/VarHandle" ∧ (parseMethodDescriptor J.1.desc).map (fun d => d.parameters.length) = some n
theorem mw_good {J : MI} (hc : Cond.code J.1 J.2.1 J.2.2.1 J.2.2.2 ∈ lw_g) : GoodIn lw_g (mw J) := fun w hw => (List.mem_cons.mp hw).elim (fun e => e ▸ lg_good _ hc) (lg_good w)
theorem pcw_blind (X : SY) (D : va_G) (ρ : Nat → Nat) (τ : Nat → ClassId) (av : List Value) (S : St) : FrameBlind (pcw X D ρ τ av S) := fun a U g mk q => ⟨q.1, q.2.1, KK.same (s := U) (U := U.calling g mk a) rfl q.2.2⟩
theorem rm_c {J : MI} {h h' : Nat} (hh : h' < h) (hm : J.2.2.1 ≤ 21) : (rmH h').frames + 1 ≤ (rmH h).frames ∧ 8 + (J.2.2.1 + 11) + (rmH h').locals ≤ (rmH h).locals := by
  refine ⟨hh, ?_⟩
  show 8 + (J.2.2.1 + 11) + 40 * h' ≤ 40 * h
  omega
theorem g_after {p : Program} {l : Launch} {e : Env} {R : Room} {s : State} {m : MethodId} {args : Array Value} {below : List Frame} {meth : Method} {c : Code} {H : Heap} {locs : List Loc} {Q : State → Prop} {X : SY} {D : va_G} {ρ : Nat → Nat} {τ : Nat → ClassId} {r1 : Option Int32} {S1 : St} {a : Array Value} {pc : Nat} {lr : Array Slot} {st0 rest : List Value}
    (hr : va_Run p l e R s m args below meth c H locs 0 0 0 0 (F0 m pc lr st0) rest (qc X D ρ τ r1 S1 a) (sA X ρ)) (hS : va_S (sA X ρ) s.heap H locs)
    (kk : ∀ (H1 : Heap) (locs1 : List Loc), va_P D clA (sw X ρ τ S1) H1 → va_S (sA X ρ) s.heap H1 locs1 → W p l e R s m args below meth c H1 locs1 0 0 Q (F0 m (pc + 3) lr ((r1.map Value.int).toList ++ rest))) : W p l e R s m args below meth c H locs 0 0 Q (F0 m pc lr st0) := by
  intro T hT X'
  obtain ⟨v, st₀, t, T', L, h0, X', hL, e1, e2, ⟨⟨hv, hb⟩, hz, hk⟩, st⟩ := hr T hT X'
  cases hv
  rw [h0] at hz hk
  obtain ⟨t2, a1, b1⟩ := kk T'.heap (locs ++ L) (by rw [e1]; exact hb)
    ⟨Nat.le_trans hS.1 (by rw [e1]; exact hz), fun q h1 h2 => by rw [e1, hk q (Nat.lt_of_lt_of_le h1 hS.1) h2]; exact hS.2.1 q h1 h2, fun q hq => by
      rcases List.mem_append.mp hq with h | h
      · exact hS.2.2 q h
      · exact hL q h⟩ T' rfl X'
  exact ⟨t2, st t2 a1, b1⟩
section GC
variable {X : SY} {I : MI} {h : Nat} {r : Option Int32} {S' : St} {pc : Nat} {ls : List (Nat × Value)} {stk : List Value} {S : St}
theorem G_callV {k ci idx n h' : Nat} {J : MI} {ks : List (Option Nat)} {r1 : Option Int32} {S1 : St} (av rest : List Value) (hM : Ct X J h' (.ref k :: av) S r1 S1) (hh : h' < h) (hm : J.2.2.1 ≤ 21) (hJ : MV J n) (hn : av.length = n) (hw : Cond.methodLink I.1.cls idx J.1 ∈ lw_g) (hk : k < X.1) (hsh : X.2 k = .inl (ci, ks)) (hcl : ∃ T N, clA[ci]? = some (J.1.cls, T, N)) (hst : stk = av.reverse ++ .ref k :: rest) (hrm : (rest.map fun v => v.category).sum ≤ 8) (hd : decode I.2.1 pc = .ok (.invokevirtual idx, 3))
    (kk : G X I h r S' (pc + 3) ls ((r1.map Value.int).toList ++ rest) S1) : G X I h r S' pc ls stk S := by
  intro p l e s m args below meth c H locs D ρ τ lr hc hi hK hP hS hl
  obtain ⟨T, N, hcl⟩ := hcl
  obtain ⟨j1, j2, j3, j4, j5⟩ := hJ
  have ht := hc.2.2.2.2.2.1
  refine g_after (X := X) (D := D) (ρ := ρ) (τ := τ) (r1 := r1) (S1 := S1) (rest := rest.map (cv ρ)) (va_runV (As := av.map (cv ρ)) (rest := rest.map (cv ρ)) (b := ρ k) (nL := I.2.2.1) (C := J.1.cls) (n := n) ⟨hc.1, hc.2.1, hc.2.2.2.1, hc.2.2.2.2.1, ht⟩ (hM l D ρ τ hi)
    ⟨callB_of n ht (mw_good j4) rfl rfl rfl (ht _ j3) (ht _ hw) j5 (rm_c hh hm), ht _ j1, ht _ j2⟩
    ⟨pcw_blind X D ρ τ _ S, va_recv hK.1 hP hcl (sw_obj hk hsh), fun U hU hW => ⟨rfl, by rw [hU]; exact hP, hK.warm hW⟩⟩ rfl (by simpa using hn) hl.1 (by rw [hst]; simp [cv]) (lv_room (by rw [cat_sum]; exact hrm)) hd ⟨Nat.zero_le _, Nat.zero_le _⟩) hS (fun H1 locs1 hP1 hS1 => ?_)
  have := kk p l e s m args below meth c H1 locs1 D ρ τ lr hc hi hK hP1 hS1 hl
  rw [List.map_append] at this
  cases r1 <;> exact this
theorem G_callS {idx n h' : Nat} {J : MI} {r1 : Option Int32} {S1 : St} (av rest : List Value) (hM : Ct X J h' av S r1 S1) (hh : h' < h) (hm : J.2.2.1 ≤ 21) (hJ : MT J n) (hn : av.length = n) (hw : Cond.methodLink I.1.cls idx J.1 ∈ lw_g) (hst : stk = av.reverse ++ rest) (hrm : (rest.map fun v => v.category).sum ≤ 8) (hd : decode I.2.1 pc = .ok (.invokestatic idx, 3))
    (kk : G X I h r S' (pc + 3) ls ((r1.map Value.int).toList ++ rest) S1) : G X I h r S' pc ls stk S := by
  intro p l e s m args below meth c H locs D ρ τ lr hc hi hK hP hS hl
  obtain ⟨j1, j3, j4, j5⟩ := hJ
  have ht := hc.2.2.2.2.2.1
  refine g_after (X := X) (D := D) (ρ := ρ) (τ := τ) (r1 := r1) (S1 := S1) (rest := rest.map (cv ρ)) (va_runS (As := av.map (cv ρ)) (rest := rest.map (cv ρ)) (nL := I.2.2.1) (n := n) ⟨hc.1, hc.2.1, hc.2.2.2.1, hc.2.2.2.2.1, ht⟩ (hM l D ρ τ hi)
    ⟨callB_of n ht (mw_good j4) rfl rfl rfl (ht _ j3) (ht _ hw) j5 (rm_c hh hm), ht _ j1⟩
    ⟨pcw_blind X D ρ τ _ S, fun U hU hW => ⟨rfl, by rw [hU]; exact hP, hK.warm hW⟩⟩ rfl (by simpa using hn) hl.1 (by rw [hst]; simp [cv]) (lv_room (by rw [cat_sum]; exact hrm)) hd ⟨Nat.zero_le _, Nat.zero_le _⟩) hS (fun H1 locs1 hP1 hS1 => ?_)
  have := kk p l e s m args below meth c H1 locs1 D ρ τ lr hc hi hK hP1 hS1 hl
  rw [List.map_append] at this
  cases r1 <;> exact this
theorem G_callSN {idx n h' : Nat} {J : MI} {host : String} {r1 : Option Int32} {S1 : St} (av rest : List Value) (hM : Ct X J h' av S r1 S1) (hh : h' < h) (hm : J.2.2.1 ≤ 21) (hJ : MT J n) (hn : av.length = n) (hw : nW = Cond.methodLinkNest I.1.cls idx J.1 host) (hst : stk = av.reverse ++ rest) (hrm : (rest.map fun v => v.category).sum ≤ 8) (hd : decode I.2.1 pc = .ok (.invokestatic idx, 3))
    (kk : G X I h r S' (pc + 3) ls ((r1.map Value.int).toList ++ rest) S1) : G X I h r S' pc ls stk S := by
  intro p l e s m args below meth c H locs D ρ τ lr hc hi hK hP hS hl
  obtain ⟨j1, j3, j4, j5⟩ := hJ
  have ht := hc.2.2.2.2.2.1
  have hcb : ∀ w ∈ mw J, ∀ (a' : Array Value) (U : State), s.WarmedH U.vm → w.before a' U = true := pay_in ht (mw_good j4)
  refine g_after (X := X) (D := D) (ρ := ρ) (τ := τ) (r1 := r1) (S1 := S1) (rest := rest.map (cv ρ)) (va_runSN (As := av.map (cv ρ)) (rest := rest.map (cv ρ)) (nL := I.2.2.1) (n := n) (host := host) ⟨hc.1, hc.2.1, hc.2.2.2.1, hc.2.2.2.2.1, ht⟩ (hM l D ρ τ hi)
    ⟨⟨⟨rfl, rfl, (rm_c hh hm).1, (rm_c hh hm).2, hcb, List.mem_cons_self⟩, ht _ j4, ht _ j3, ⟨j5.1, j5.2.1⟩, fun sig hsig => by
      have h2 := j5.2.2
      rw [hsig] at h2
      exact (Option.some.inj h2).symm, by rw [← hw]; exact va_Nw.use rfl hK.2⟩, ht _ j1, trivial⟩
    ⟨pcw_blind X D ρ τ _ S, fun U hU hW => ⟨rfl, by rw [hU]; exact hP, hK.warm hW⟩⟩ rfl (by simpa using hn) hl.1 (by rw [hst]; simp [cv]) (lv_room (by rw [cat_sum]; exact hrm)) hd ⟨Nat.zero_le _, Nat.zero_le _⟩) hS (fun H1 locs1 hP1 hS1 => ?_)
  have := kk p l e s m args below meth c H1 locs1 D ρ τ lr hc hi hK hP1 hS1 hl
  rw [List.map_append] at this
  cases r1 <;> exact this
def sC (S : St) (k0 k1 sp dp n : Nat) : St := sR S k1 (va_cpy (S k0) (S k1) sp dp n)
def AC (own : String) (idx : Nat) : Prop := Cond.methodLink own idx arraycopyName ∈ lw_g ∧ Cond.native arraycopyName ∈ lw_g ∧ Cond.static arraycopyName ∈ lw_g ∧ Cond.initialized "java/lang/System" ∈ lw_g
theorem G_copy {idx k0 k1 n0 n1 : Nat} {sp dp n : Int32} {S1 : St} (hst : sC S k0 k1 sp.toNatClampNeg dp.toNatClampNeg n.toNatClampNeg = S1) (hw : AC I.1.cls idx) (hh : 0 < h) (hk0 : k0 < X.1) (hk1 : k1 < X.1) (hs0 : X.2 k0 = .inr (0, n0)) (hs1 : X.2 k1 = .inr (0, n1)) (h1 : ¬ sp < 0) (h2 : ¬ dp < 0) (h3 : ¬ n < 0) (h4 : sp.toNatClampNeg + n.toNatClampNeg ≤ n0) (h5 : dp.toNatClampNeg + n.toNatClampNeg ≤ n1) (hrm : (stk.map fun v => v.category).sum ≤ 8) (hd : decode I.2.1 pc = .ok (.invokestatic idx, 3))
    (kk : G X I h r S' (pc + 3) ls stk S1) : G X I h r S' pc ls (.int n :: .int dp :: .ref k1 :: .int sp :: .ref k0 :: stk) S := by
  intro p l e s m args below meth c H locs D ρ τ lr hc hi hK hP hS hl
  have ht := hc.2.2.2.2.2.1
  exact va_copyi hc.1 hc.2.1 (hc.2.2.2.1.trans hl.1.symm) hc.2.2.2.2.1 (ht _ hw.1) (ht _ hw.2.1) (ht _ hw.2.2.1) (ht _ hw.2.2.2) hK.1 hP (sw_D hi) hS k0 k1 0 0 (sw_arr hk0 hs0) (sw_arr hk1 hs1) rfl rfl rfl h1 h2 h3 h4 h5 (fun _ _ => rfl) (Nat.succ_le_of_lt hh) (by
    rw [cat_sum]
    have : nativeFrameWords "java/lang/System" "arraycopy" 5 + 11 ≤ 32 := by decide
    show _ ≤ 40 * h
    omega) hd (fun H1 locs1 hP1 _ hS1 => kk p l e s m args below meth c H1 locs1 D ρ τ lr hc hi hK (by rw [sw_set hk1 (by rw [hs1]; rfl)] at hP1; rw [← hst]; exact hP1) hS1 hl)
end GC
/-! what the printed functions of methods are opened with -/
theorem ob_g {α : Type} {c : Prop} [Decidable c] {a : Option α} {x : α} (h : (if c then a else none) = some x) : c ∧ a = some x := by
  by_cases hc : c
  · rw [if_pos hc] at h; exact ⟨hc, h⟩
  · rw [if_neg hc] at h; cases h
theorem ob_b {α β : Type} {a : Option α} {k : α → Option β} {x : β} (h : a.bind k = some x) : ∃ y, a = some y ∧ k y = some x := Option.bind_eq_some_iff.mp h
theorem ob_s {α β : Type} {a : α} {k : α → Option β} {x : β} (h : (some a).bind k = some x) : ∃ y, a = y ∧ k y = some x := ⟨a, rfl, h⟩
theorem ob_t {α : Type} {c : Prop} [Decidable c] {a b : Option α} {x : α} (h : (if c then a else b) = some x) (hc : c) : a = some x := by rw [if_pos hc] at h; exact h
theorem ob_f {α : Type} {c : Prop} [Decidable c] {a b : Option α} {x : α} (h : (if c then a else b) = some x) (hc : ¬ c) : b = some x := by rw [if_neg hc] at h; exact h
theorem ob_n {α : Type} {c : Prop} [Decidable c] {a b : Option α} {x : α} (h : (if ¬ c then a else b) = some x) (hc : c) : b = some x := by rw [if_neg (fun q => q hc)] at h; exact h
