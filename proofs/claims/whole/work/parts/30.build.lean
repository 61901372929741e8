/-! CONSTRUCTORS: worlds that grow, as lists of cells; places are numbers, ρ gives their addresses -/
abbrev BC : Type := (Nat × List Value) ⊕ (Nat × Nat × (Nat → Int32))
def z0 : Nat → Int32 := fun _ => 0
def ae (ρ : Nat → Nat) (τ : Nat → ClassId) (c : BC) : va_E := match c with
  | .inl o => .inr (o.1, o.2.map (cv ρ))
  | .inr a => .inl (τ a.1, a.2.1, if a.1 = 1 then .inr (.inl (lrow a.2.2)) else .inl a.2.2)
def aw (ρ : Nat → Nat) (τ : Nat → ClassId) (w : List BC) : va_W := w.zipIdx.map fun p => (ρ p.2, ae ρ τ p.1)
theorem aw_at {ρ : Nat → Nat} {τ : Nat → ClassId} {w : List BC} {k : Nat} {c : BC} (h : w[k]? = some c) : (aw ρ τ w)[k]? = some (ρ k, ae ρ τ c) := by
  simp [aw, List.getElem?_zipIdx, h]
theorem aw_len (ρ : Nat → Nat) (τ : Nat → ClassId) (w : List BC) : (aw ρ τ w).length = w.length := by simp [aw]
theorem aw_get {ρ : Nat → Nat} {τ : Nat → ClassId} {w : List BC} {k : Nat} {q : Nat × va_E} (h : (aw ρ τ w)[k]? = some q) : ∃ c, w[k]? = some c ∧ q = (ρ k, ae ρ τ c) := by
  have hk : k < w.length := by have := (List.getElem?_eq_some_iff.mp h).1; rwa [aw_len] at this
  refine ⟨w[k], List.getElem?_eq_getElem hk, ?_⟩
  rw [aw_at (List.getElem?_eq_getElem hk)] at h
  exact (Option.some.inj h).symm
theorem aw_set {ρ : Nat → Nat} {τ : Nat → ClassId} {w : List BC} {k : Nat} {c c0 : BC} {e : va_E} (h : w[k]? = some c0) (he : e = ae ρ τ c) : (aw ρ τ w).set k (ρ k, e) = aw ρ τ (w.set k c) := by
  subst he
  have hk : k < w.length := (List.getElem?_eq_some_iff.mp h).1
  apply List.ext_getElem?
  intro j
  by_cases hj : j = k
  · subst hj
    rw [List.getElem?_set_self (by rw [aw_len]; exact hk)]
    rw [aw_at (List.getElem?_set_self hk)]
  · rw [List.getElem?_set_ne (Ne.symm hj)]
    by_cases hl : j < w.length
    · rw [aw_at (List.getElem?_eq_getElem hl), aw_at (c := w[j]) (by rw [List.getElem?_set_ne (Ne.symm hj)]; exact List.getElem?_eq_getElem hl)]
    · rw [List.getElem?_eq_none (by rw [aw_len]; omega), List.getElem?_eq_none (by rw [aw_len]; simp; omega)]
theorem aw_push (ρ : Nat → Nat) (τ : Nat → ClassId) (w : List BC) (c : BC) : aw ρ τ w ++ [(ρ w.length, ae ρ τ c)] = aw ρ τ (w ++ [c]) := by
  simp [aw, List.zipIdx_append]
def wfv (n : Nat) (v : Value) : Bool := match v with
  | .ref k => Nat.blt k n
  | _ => true
def wfc (n : Nat) (c : BC) : Bool := match c with
  | .inl o => o.2.all (wfv n)
  | .inr _ => true
def wfw (w : List BC) : Bool := w.all (wfc w.length)
theorem cv_ext {ρ ρ' : Nat → Nat} {n : Nat} (h : ∀ k, k < n → ρ' k = ρ k) {v : Value} (hv : wfv n v = true) : cv ρ' v = cv ρ v := by
  cases v with
  | ref k =>
    have hk : k < n := by simpa [wfv] using hv
    show Value.ref (ρ' k) = Value.ref (ρ k)
    rw [h k hk]
  | _ => rfl
theorem mp_ext {ρ ρ' : Nat → Nat} {n : Nat} (h : ∀ k, k < n → ρ' k = ρ k) {st : List Value} (hv : st.all (wfv n) = true) : st.map (cv ρ') = st.map (cv ρ) := by
  apply List.map_congr_left
  intro v hm
  exact cv_ext h (List.all_eq_true.mp hv v hm)
theorem lc_ext {ρ ρ' : Nat → Nat} {n : Nat} (h : ∀ k, k < n → ρ' k = ρ k) {ls : List (Nat × Value)} (hv : ls.all (fun q => wfv n q.2) = true) : lc ρ' ls = lc ρ ls := by
  apply List.map_congr_left
  intro v hm
  rw [cv_ext h (List.all_eq_true.mp hv v hm)]
theorem ae_ext {ρ ρ' : Nat → Nat} {τ : Nat → ClassId} {n : Nat} (h : ∀ k, k < n → ρ' k = ρ k) {c : BC} (hv : wfc n c = true) : ae ρ' τ c = ae ρ τ c := by
  cases c with
  | inl o => show (Sum.inr (o.1, o.2.map (cv ρ')) : va_E) = Sum.inr (o.1, o.2.map (cv ρ)); rw [mp_ext h hv]
  | inr a => rfl
theorem aw_ext {ρ ρ' : Nat → Nat} {τ : Nat → ClassId} {w : List BC} (h : ∀ k, k < w.length → ρ' k = ρ k) (hw : wfw w = true) : aw ρ' τ w = aw ρ τ w := by
  apply List.ext_getElem?
  intro k
  by_cases hk : k < w.length
  · have hc := List.getElem?_eq_getElem hk
    rw [aw_at hc, aw_at hc, h k hk, ae_ext h (List.all_eq_true.mp hw _ (List.mem_of_getElem? hc))]
  · rw [List.getElem?_eq_none (by rw [aw_len]; omega), List.getElem?_eq_none (by rw [aw_len]; omega)]
def nb1 : Cond := .methodLinkNest "PutOffWicks" 9 ⟨"PutOffWicks$Tape", "<init>", "()V"⟩ "PutOffWicks"
def nb2 : Cond := .methodLinkNest "PutOffWicks" 27 ⟨"PutOffWicks$Parish", "<init>", "()V"⟩ "PutOffWicks"
def nb3 : Cond := .methodLinkNest "PutOffWicks$ParishReader" 11 ⟨"PutOffWicks$Parish", "<init>", "()V"⟩ "PutOffWicks"
def KB (D : va_G) (τ : Nat → ClassId) (U : State) : Prop := KK D τ U ∧ va_Nw nb1 U ∧ va_Nw nb2 U ∧ va_Nw nb3 U
theorem KB.warm {D : va_G} {τ : Nat → ClassId} {s U : State} (hW : s.WarmedH U.vm) (h : KB D τ s) : KB D τ U := ⟨h.1.warm hW, va_Nw.warmM hW h.2.1, va_Nw.warmM hW h.2.2.1, va_Nw.warmM hW h.2.2.2⟩
theorem KB.same {D : va_G} {τ : Nat → ClassId} {s U : State} (hv : s.vm = U.vm) (h : KB D τ s) : KB D τ U := ⟨h.1.same hv, va_Nw.same rfl hv h.2.1, va_Nw.same rfl hv h.2.2.1, va_Nw.same rfl hv h.2.2.2⟩
def rmB (h mc ms : Nat) : Room := { frames := h, cells := mc, slots := ms, locals := 40 * h }
def qb (D : va_G) (ρ0 : Nat → Nat) (τ : Nat → ClassId) (A : Nat → Prop) (n0 : Nat) (w : List BC) : Array Value → State → Outcome → State → Prop := fun _ st oc t => (oc = .returned none ∧ ∃ ρ' : Nat → Nat, (∀ k, k < n0 → ρ' k = ρ0 k) ∧ va_P D clA (aw ρ' τ w) t.heap ∧ va_D A (aw ρ' τ w)) ∧ va_F A st t
def pb (D : va_G) (ρ : Nat → Nat) (τ : Nat → ClassId) (av : List Value) (w : List BC) (sz : Nat) : Array Value → State → Prop := va_Pc (av.map (cv ρ)) (fun U => U.heap.size = sz ∧ va_P D clA (aw ρ τ w) U.heap ∧ KB D τ U ∧ va_D (fun _ => True) (aw ρ τ w))
def Bt (I : MI) (h mc ms : Nat) (av : List Value) (w w' : List BC) : Prop := ∀ (l : Launch) (D : va_G) (ρ : Nat → Nat) (τ : Nat → ClassId) (sz : Nat), Met l I.1 (mw I) (rmB h mc ms) (pb D ρ τ av w sz) (qb D ρ τ (va_A (aw ρ τ w) sz) w.length w') mc ms (va_A (aw ρ τ w) sz)
def GB (I : MI) (h mc ms n0 : Nat) (w' : List BC) (pc : Nat) (ls : List (Nat × Value)) (stk : List Value) (w : List BC) (cells slots : Nat) : Prop := ∀ (p : Program) (l : Launch) (e : Env) (s : State) (m : MethodId) (args : Array Value) (below : List Frame) (meth : Method) (c : Code) (H : Heap) (locs : List Loc) (D : va_G) (ρ0 ρ : Nat → Nat) (τ : Nat → ClassId) (A : Nat → Prop) (lr : Array Slot),
  gc p s m args meth c I → meth.name = "<init>" → KB D τ s → (∀ k, k < n0 → ρ k = ρ0 k) → (∀ q, s.heap.size ≤ q → A q) → va_P D clA (aw ρ τ w) H → va_D A (aw ρ τ w) → va_S A s.heap H locs → lv_has lr I.2.2.1 (lc ρ ls) → W p l e (rmB h mc ms) s m args below meth c H locs cells slots (MQ below (qb D ρ0 τ A n0 w') args s mc ms A) (F0 m pc lr (stk.map (cv ρ)))
theorem Bt.of {I : MI} {h mc ms : Nat} {av : List Value} {w w' : List BC} (hpl : plainName I.1.cls = true) (hin : I.1.name = "<init>") (hlen : (lg_sl av).length ≤ I.2.2.1) (body : GB I h mc ms w.length w' 0 (lv_args 0 av) [] w 0 0) : Bt I h mc ms av w w' := by
  intro l D ρ τ sz
  refine Met.ofW (cc := I.2.1) (maxL := I.2.2.1) (ret := I.2.2.2) (ws' := lw_g) hpl rfl ?_
  intro p e s m args below meth c s₁ B hml hv
  obtain ⟨rfl, rfl, hP, hK, hD0⟩ := hv
  have hts := atoms_spec (ws := mw I) B.pre
  have hl := lv_entry (av.map (cv ρ)) (n := I.2.2.1) (by rw [lg_len]; exact hlen)
  rw [lg_entry_eq]
  exact body p l e s m _ below meth c s.heap [] D ρ ρ τ _ _ ⟨B.exec, B.bytes, B.returns, hml, findClass_of_methodNamed B.named, fun w hw => hts w (List.mem_cons_of_mem _ hw), B.notSynchronized⟩ ((name_of_methodNamed B.named B.method).1.trans hin) hK (fun _ _ => rfl) (fun q hq => Or.inr hq) hP (hD0.self) va_S.rf (by rw [lc_args]; exact hl)
section GBR
variable {I : MI} {h mc ms n0 : Nat} {w' : List BC} {pc : Nat} {ls : List (Nat × Value)} {stk : List Value} {w : List BC} {cells slots : Nat}
theorem GB_iconst {n : Int} (v : Int32) (hv : Int32.ofInt n = v) (hd : decode I.2.1 pc = .ok (.iconst n, 1)) (kk : GB I h mc ms n0 w' (pc + 1) ls (.int v :: stk) w cells slots) : GB I h mc ms n0 w' pc ls stk w cells slots := fun p l e s m args below meth c H locs D ρ0 ρ τ A lr hc hi hK hρ hA hP hD hS hl => lv_iconst hc.1 hc.2.1 hd hv (kk p l e s m args below meth c H locs D ρ0 ρ τ A lr hc hi hK hρ hA hP hD hS hl)
theorem GB_bipush {n : Int} (v : Int32) (hv : (Int8.ofInt n).toInt32 = v) (hd : decode I.2.1 pc = .ok (.bipush n, 2)) (kk : GB I h mc ms n0 w' (pc + 2) ls (.int v :: stk) w cells slots) : GB I h mc ms n0 w' pc ls stk w cells slots := fun p l e s m args below meth c H locs D ρ0 ρ τ A lr hc hi hK hρ hA hP hD hS hl => lv_bipush hc.1 hc.2.1 hd hv (kk p l e s m args below meth c H locs D ρ0 ρ τ A lr hc hi hK hρ hA hP hD hS hl)
theorem GB_sipush {n : Int} (v : Int32) (hv : (Int16.ofInt n).toInt32 = v) (hd : decode I.2.1 pc = .ok (.sipush n, 3)) (kk : GB I h mc ms n0 w' (pc + 3) ls (.int v :: stk) w cells slots) : GB I h mc ms n0 w' pc ls stk w cells slots := fun p l e s m args below meth c H locs D ρ0 ρ τ A lr hc hi hK hρ hA hP hD hS hl => lv_sipush hc.1 hc.2.1 hd hv (kk p l e s m args below meth c H locs D ρ0 ρ τ A lr hc hi hK hρ hA hP hD hS hl)
theorem GB_ldc {n : Nat} {v : Int32} (hw : Cond.constant I.1.cls n v ∈ lw_g) (hd : decode I.2.1 pc = .ok (.ldc n, 2)) (kk : GB I h mc ms n0 w' (pc + 2) ls (.int v :: stk) w cells slots) : GB I h mc ms n0 w' pc ls stk w cells slots := fun p l e s m args below meth c H locs D ρ0 ρ τ A lr hc hi hK hρ hA hP hD hS hl => lv_ldc hc.1 hc.2.1 hc.2.2.2.2.1 (hc.2.2.2.2.2.1 _ hw) hd (kk p l e s m args below meth c H locs D ρ0 ρ τ A lr hc hi hK hρ hA hP hD hS hl)
theorem GB_aload_n {k : Fin 4} {x : Nat} (j : Nat) (hj : ls[j]? = some ((k : Nat), Value.ref x)) (hd : decode I.2.1 pc = .ok (.aload_n k, 1)) (kk : GB I h mc ms n0 w' (pc + 1) ls (.ref x :: stk) w cells slots) : GB I h mc ms n0 w' pc ls stk w cells slots := fun p l e s m args below meth c H locs D ρ0 ρ τ A lr hc hi hK hρ hA hP hD hS hl => lv_aload_n hc.1 hc.2.1 hd rfl (lv_at hl j (lc_at hj)) (kk p l e s m args below meth c H locs D ρ0 ρ τ A lr hc hi hK hρ hA hP hD hS hl)
theorem GB_dup {va : Value} (hva : va.category = 1) (hd : decode I.2.1 pc = .ok (.dup, 1)) (kk : GB I h mc ms n0 w' (pc + 1) ls (va :: va :: stk) w cells slots) : GB I h mc ms n0 w' pc ls (va :: stk) w cells slots := fun p l e s m args below meth c H locs D ρ0 ρ τ A lr hc hi hK hρ hA hP hD hS hl => lv_dup hc.1 hc.2.1 hd ((cv_cat ρ va).trans hva) (kk p l e s m args below meth c H locs D ρ0 ρ τ A lr hc hi hK hρ hA hP hD hS hl)
theorem GB_get {k ci j idx : Nat} {fs : List Value} {v : Value} (hf : FL I.1.cls idx ci j) (hw : w[k]? = some (.inl (ci, fs))) (hv : fs[j]? = some v) (hd : decode I.2.1 pc = .ok (.getfield idx, 3)) (kk : GB I h mc ms n0 w' (pc + 3) ls (v :: stk) w cells slots) : GB I h mc ms n0 w' pc ls (.ref k :: stk) w cells slots := by
  intro p l e s m args below meth c H locs D ρ0 ρ τ A lr hc hi hK hρ hA hP hD hS hl
  obtain ⟨C, T, N, h1, h2, h3, h4⟩ := hf
  exact va_get hc.1 hc.2.1 hc.2.2.2.2.2.1 h4 hc.2.2.2.2.1 hK.1.1 hP k (aw_at hw) h1 j h2 (hc.2.2.2.2.2.1 _ h3) (fun _ q => q) (by rw [List.getElem?_map, hv]; rfl) hd (kk p l e s m args below meth c H locs D ρ0 ρ τ A lr hc hi hK hρ hA hP hD hS hl)
theorem GB_put {k ci j idx : Nat} {fs : List Value} {v : Value} {ty : FieldType} (w1 : List BC) (hf : FP I.1.cls idx ci j ty) (hw : w[k]? = some (.inl (ci, fs))) (hw1 : w.set k (.inl (ci, fs.set j v)) = w1) (hl0 : j < fs.length) (hn : ∀ ρ, narrow ty (cv ρ v) = cv ρ v) (hfit : ∀ ρ, fits ty (cv ρ v) = true) (hd : decode I.2.1 pc = .ok (.putfield idx, 3)) (kk : GB I h mc ms n0 w' (pc + 3) ls stk w1 cells slots) : GB I h mc ms n0 w' pc ls (v :: .ref k :: stk) w cells slots := by
  intro p l e s m args below meth c H locs D ρ0 ρ τ A lr hc hi hK hρ hA hP hD hS hl
  obtain ⟨C, T, N, tf, h1, h2, h3, h4, h5, h6, h7, h8⟩ := hf
  have hset : (aw ρ τ w).set k (ρ k, .inr (ci, (fs.map (cv ρ)).set j (cv ρ v))) = aw ρ τ w1 := by
    rw [← hw1]
    exact aw_set hw (by rw [← List.map_set]; rfl)
  exact va_put hc.1 hc.2.1 hc.2.2.2.2.2.1 h4 tf h5 h6 hc.2.2.2.2.1 hK.1.1 hP hD hS k (aw_at hw) h1 j h2 (hc.2.2.2.2.2.1 _ h3) (fun _ q => q) h7 h8 (hn ρ) (hfit ρ) (by rw [List.length_map]; exact hl0) hd (fun H1 locs1 hP1 hD1 hS1 => kk p l e s m args below meth c H1 locs1 D ρ0 ρ τ A lr hc hi hK hρ hA (by rw [← hset]; exact hP1) (by rw [← hset]; exact hD1) hS1 hl)
def FF (own : String) (idx ci j : Nat) (ty : FieldType) : Prop := ∃ (C : String) (T : u_T) (N : Nat) (tf : Nat → FieldType), clA[ci]? = some (C, T, N) ∧ j < N ∧ Cond.fieldLink own idx (T j).1 (T j).2.1 (T j).2.2.1 ∈ lw_g ∧ (∀ w ∈ u_ws C T N, w ∈ lw_g) ∧ (∀ k, k < N → parseFieldDescriptor (T k).2.2.1 = some (tf k)) ∧ (∀ a, a < N → ∀ b, b < N → a ≠ b → (T a).2.1 ≠ (T b).2.1) ∧ (T j).2.2.2 = true ∧ parseFieldDescriptor (T j).2.2.1 = some ty ∧ (T j).1 = own
theorem GB_putF {k ci j idx : Nat} {fs : List Value} {v : Value} {ty : FieldType} (w1 : List BC) (hf : FF I.1.cls idx ci j ty) (hw : w[k]? = some (.inl (ci, fs))) (hw1 : w.set k (.inl (ci, fs.set j v)) = w1) (hl0 : j < fs.length) (hn : ∀ ρ, narrow ty (cv ρ v) = cv ρ v) (hfit : ∀ ρ, fits ty (cv ρ v) = true) (hd : decode I.2.1 pc = .ok (.putfield idx, 3)) (kk : GB I h mc ms n0 w' (pc + 3) ls stk w1 cells slots) : GB I h mc ms n0 w' pc ls (v :: .ref k :: stk) w cells slots := by
  intro p l e s m args below meth c H locs D ρ0 ρ τ A lr hc hi hK hρ hA hP hD hS hl
  obtain ⟨C, T, N, tf, h1, h2, h3, h4, h5, h6, h7, h8, h9⟩ := hf
  have hset : (aw ρ τ w).set k (ρ k, .inr (ci, (fs.map (cv ρ)).set j (cv ρ v))) = aw ρ τ w1 := by
    rw [← hw1]
    exact aw_set hw (by rw [← List.map_set]; rfl)
  exact va_putF hc.1 hc.2.1 hc.2.2.2.2.2.1 h4 tf h5 h6 hc.2.2.2.2.1 hK.1.1 hP hD hS k (aw_at hw) h1 j h2 (hc.2.2.2.2.2.1 _ h3) (fun _ q => q) h7 hi h9 h8 (hn ρ) (hfit ρ) (by rw [List.length_map]; exact hl0) hd (fun H1 locs1 hP1 hD1 hS1 => kk p l e s m args below meth c H1 locs1 D ρ0 ρ τ A lr hc hi hK hρ hA (by rw [← hset]; exact hP1) (by rw [← hset]; exact hD1) hS1 hl)
theorem GB_iast {k n : Nat} {f : Nat → Int32} {i x : Int32} (w1 : List BC) (hw : w[k]? = some (.inr (0, n, f))) (hw1 : w.set k (.inr (0, n, upd f i.toNatClampNeg x)) = w1) (hg : vp_in i n) (hd : decode I.2.1 pc = .ok (.iastore, 1)) (kk : GB I h mc ms n0 w' (pc + 1) ls stk w1 cells slots) : GB I h mc ms n0 w' pc ls (.int x :: .int i :: .ref k :: stk) w cells slots := by
  intro p l e s m args below meth c H locs D ρ0 ρ τ A lr hc hi hK hρ hA hP hD hS hl
  have hset : (aw ρ τ w).set k (ρ k, .inl (τ 0, n, .inl (upd f i.toNatClampNeg x))) = aw ρ τ w1 := by
    rw [← hw1]
    exact aw_set hw rfl
  exact va_iast hc.1 hc.2.1 hK.1.1 hP hD hS k 0 (aw_at hw) rfl hg hd (fun H1 locs1 hP1 hD1 hS1 => kk p l e s m args below meth c H1 locs1 D ρ0 ρ τ A lr hc hi hK hρ hA (by rw [← hset]; exact hP1) (by rw [← hset]; exact hD1) hS1 hl)
def ρu (ρ : Nat → Nat) (n q : Nat) : Nat → Nat := fun k => if k = n then q else ρ k
theorem ρu_lt {ρ : Nat → Nat} {n q : Nat} : ∀ k, k < n → ρu ρ n q k = ρ k := fun k hk => by simp [ρu, Nat.ne_of_lt hk]
theorem GB_newK {H1 : Heap} {locs : List Loc} {p : Program} {l : Launch} {e : Env} {s : State} {m : MethodId} {args : Array Value} {below : List Frame} {meth : Method} {c : Code} {D : va_G} {ρ0 ρ : Nat → Nat} {τ : Nat → ClassId} {A : Nat → Prop} {lr : Array Slot} {q : Nat} {cl : BC} {w1 : List BC} {c2 s2 : Nat} {pc1 : Nat} (hn0 : n0 ≤ w.length) (hw1 : w ++ [cl] = w1) (wf1 : wfw w = true) (wf2 : wfc w.length cl = true) (wf3 : stk.all (wfv w.length) = true) (wf4 : ls.all (fun q => wfv w.length q.2) = true) (hc : gc p s m args meth c I) (hi : meth.name = "<init>") (hK : KB D τ s) (hρ : ∀ k, k < n0 → ρ k = ρ0 k) (hA : ∀ q, s.heap.size ≤ q → A q) (hl : lv_has lr I.2.2.1 (lc ρ ls))
    (hP : va_P D clA (aw ρ τ w ++ [(q, ae ρ τ cl)]) H1) (hD : va_D A (aw ρ τ w ++ [(q, ae ρ τ cl)])) (hS : va_S A s.heap H1 locs)
    (kk : GB I h mc ms n0 w' pc1 ls (.ref w.length :: stk) w1 c2 s2) : W p l e (rmB h mc ms) s m args below meth c H1 locs c2 s2 (MQ below (qb D ρ0 τ A n0 w') args s mc ms A) (F0 m pc1 lr (.ref q :: stk.map (cv ρ))) := by
  have hx : ∀ k, k < w.length → ρu ρ w.length q k = ρ k := ρu_lt
  have hq : ρu ρ w.length q w.length = q := by simp [ρu]
  have hW : aw ρ τ w ++ [(q, ae ρ τ cl)] = aw (ρu ρ w.length q) τ w1 := by
    rw [← hw1, ← aw_push, aw_ext hx wf1, ae_ext hx wf2, hq]
  have := kk p l e s m args below meth c H1 locs D ρ0 (ρu ρ w.length q) τ A lr hc hi hK (fun k hk => (hx k (Nat.lt_of_lt_of_le hk hn0)).trans (hρ k hk)) hA (by rw [← hW]; exact hP) (by rw [← hW]; exact hD) hS (by rw [lc_ext hx wf4]; exact hl)
  rw [List.map_cons, mp_ext hx wf3] at this
  rw [show cv (ρu ρ w.length q) (.ref w.length) = .ref q from by show Value.ref _ = _; rw [hq]] at this
  exact this
theorem lrow_z : lrow z0 = fun _ => 0 := by
  funext i
  show m64 0 0 = 0
  decide
theorem GB_newa {atype : ArrayType} {n : Int32} (N t L : Nat) (w1 : List BC) (ty : FieldType) (hL : w.length = L) (hn0 : n0 ≤ w.length) (hty : newarray.typeOf atype = ty) (ht : ∀ τ : Nat → ClassId, (sty τ)[t]? = some (τ t, ty)) (hz : ∀ cA : ClassId, vp_cell cA (N, if t = 1 then .inr (.inl (lrow z0)) else .inl z0) = arrV cA N (fun _ => defaultValue ty)) (hra : ∀ (U : State) (cA cB : ClassId), va_RA U cA ty → va_RA U cB ty → cA = cB) (hwd : Cond.arrayClass ty ∈ lw_g) (hn : ¬ n < 0) (hN : n.toNatClampNeg = N) (hbt : N * componentBytes ty ≤ 536870912) (hcl : cells + 1 ≤ mc) (hsl : slots + N ≤ ms) (hw1 : w ++ [.inr (t, N, z0)] = w1) (wf1 : wfw w = true) (wf3 : stk.all (wfv w.length) = true) (wf4 : ls.all (fun q => wfv w.length q.2) = true) (hd : decode I.2.1 pc = .ok (.newarray atype, 2))
    (kk : GB I h mc ms n0 w' (pc + 2) ls (.ref L :: stk) w1 (cells + 1) (slots + N)) : GB I h mc ms n0 w' pc ls (.int n :: stk) w cells slots := by
  subst hL
  intro p l e s m args below meth c H locs D ρ0 ρ τ A lr hc hi hK hρ hA hP hD hS hl
  refine va_newa (ty := ty) (a0 := (N, if t = 1 then .inr (.inl (lrow z0)) else .inl z0)) hc.1 hc.2.1 (by rw [hty]; exact hc.2.2.2.2.2.1 _ hwd) hty hK.1.1 hP hD hS hA hz hn hN hbt hcl hsl hd (fun q cA H1 hK1 hP1 hD1 hS1 => ?_)
  have e1 : cA = τ t := hra s cA (τ t) (hK1.2 3 (cA, ty) rfl).2 (hK.1.1.2 t (τ t, ty) (ht τ)).2
  subst e1
  exact GB_newK hn0 hw1 wf1 rfl wf3 wf4 hc hi hK hρ hA hl hP1 hD1 hS1 kk
theorem GB_new {C : String} {T : u_T} {N ci idx : Nat} {tf : Nat → FieldType} (L : Nat) (fs : List Value) (w1 : List BC) (hL : w.length = L) (hn0 : n0 ≤ w.length) (hcc : clA[ci]? = some (C, T, N)) (hin : ∀ w ∈ u_ws C T N, w ∈ lw_g) (hty : ∀ k, k < N → parseFieldDescriptor (T k).2.2.1 = some (tf k)) (hw2 : Cond.classLink I.1.cls idx C ∈ lw_g ∧ Cond.instantiable C N ∈ lw_g ∧ Cond.initialized C ∈ lw_g) (hfs : ∀ ρ j, j < N → defaultValue (tf j) = vp_V (fs.map (cv ρ)) j) (hcl : cells + 1 ≤ mc) (hsl : slots + N ≤ ms) (hw1 : w ++ [.inl (ci, fs)] = w1) (wf1 : wfw w = true) (wf2 : wfc w.length (.inl (ci, fs)) = true) (wf3 : stk.all (wfv w.length) = true) (wf4 : ls.all (fun q => wfv w.length q.2) = true) (hd : decode I.2.1 pc = .ok (.new idx, 3))
    (kk : GB I h mc ms n0 w' (pc + 3) ls (.ref L :: stk) w1 (cells + 1) (slots + N)) : GB I h mc ms n0 w' pc ls stk w cells slots := by
  subst hL
  intro p l e s m args below meth c H locs D ρ0 ρ τ A lr hc hi hK hρ hA hP hD hS hl
  have ht := hc.2.2.2.2.2.1
  refine va_new (ci := ci) (fs := fs.map (cv ρ)) (C := C) (T := T) (N := N) hc.1 hc.2.1 ht hin tf hty hc.2.2.2.2.1 (ht _ hw2.1) (ht _ hw2.2.1) (ht _ hw2.2.2) hK.1.1 hP hD hS hA hcc (hfs ρ) hcl hsl hd (fun q H1 hP1 hD1 hS1 => ?_)
  exact GB_newK (cl := .inl (ci, fs)) hn0 hw1 wf1 wf2 wf3 wf4 hc hi hK hρ hA hl hP1 hD1 hS1 kk
theorem GB_objInit {idx k : Nat} (hw : Cond.methodLink I.1.cls idx Lib.objectInit ∈ lw_g ∧ Cond.instanceMethod Lib.objectInit ∈ lw_g ∧ Cond.code Lib.objectInit ⟨#[0xb1]⟩ 1 none ∈ lw_g) (hh : 0 < h) (hd : decode I.2.1 pc = .ok (.invokespecial idx, 3)) (kk : GB I h mc ms n0 w' (pc + 3) ls [] w cells slots) : GB I h mc ms n0 w' pc ls [.ref k] w cells slots := by
  intro p l e s m args below meth c H locs D ρ0 ρ τ A lr hc hi hK hρ hA hP hD hS hl
  have ht := hc.2.2.2.2.2.1
  exact W.objInit hc.1 hc.2.1 hc.2.2.2.2.1 (ht _ hw.1) (ht _ hw.2.1) (ht _ hw.2.2) rfl (hl.1.trans hc.2.2.2.1.symm) rfl hd (Nat.succ_le_of_lt hh) (by
    show 2 * 0 + 0 + 12 ≤ 40 * h
    omega) (kk p l e s m args below meth c H locs D ρ0 ρ τ A lr hc hi hK hρ hA hP hD hS hl)
theorem GB_ret (hr : I.2.2.2 = none) (h1 : cells ≤ mc) (h2 : slots ≤ ms) (hww : w = w') (hd : decode I.2.1 pc = .ok (.return_, 1)) : GB I h mc ms n0 w' pc ls [] w cells slots := by
  intro p l e s m args below meth c H locs D ρ0 ρ τ A lr hc hi hK hρ hA hP hD hS hl
  subst hww
  refine W.widen (k := mc) (n := ms) h1 h2 ?_
  exact W.vret hc.1 hc.2.1 (hc.2.2.1.trans hr) (fun t ht hW => ⟨⟨rfl, ρ, hρ, by rw [ht]; exact hP, hD⟩, hS.F ht⟩) hS.2.2 hd hc.2.2.2.2.2.2
def MI0 (J : MI) (n : Nat) : Prop := Cond.instanceMethod J.1 ∈ lw_g ∧ J.1.name = "<init>" ∧ Cond.initialized J.1.cls ∈ lw_g ∧ Cond.code J.1 J.2.1 J.2.2.1 none ∈ lw_g ∧ J.1.cls ≠ "java/lang/invoke/MethodHandle" ∧ J.1.cls ≠ "java/lang/invoke/VarHandle" ∧ (parseMethodDescriptor J.1.desc).map (fun d => d.parameters.length) = some n
theorem rm_b {J : MI} {h h' mc ms mc' ms' : Nat} (hh : h' < h) (hm : J.2.2.1 ≤ 21) : (rmB h' mc' ms').frames + 1 ≤ (rmB h mc ms).frames ∧ 8 + (J.2.2.1 + 11) + (rmB h' mc' ms').locals ≤ (rmB h mc ms).locals := by
  refine ⟨hh, ?_⟩
  show 8 + (J.2.2.1 + 11) + 40 * h' ≤ 40 * h
  omega
theorem pb_blind (D : va_G) (ρ : Nat → Nat) (τ : Nat → ClassId) (av : List Value) (w : List BC) (sz : Nat) : FrameBlind (pb D ρ τ av w sz) := fun a U g mk q => ⟨q.1, q.2.1, q.2.2.1, KB.same (s := U) (U := U.calling g mk a) rfl q.2.2.2.1, q.2.2.2.2⟩
theorem GB_after {p : Program} {l : Launch} {e : Env} {R : Room} {s : State} {m : MethodId} {args : Array Value} {below : List Frame} {meth : Method} {c : Code} {H : Heap} {locs : List Loc} {Q : State → Prop} {D : va_G} {ρ : Nat → Nat} {τ : Nat → ClassId} {A : Nat → Prop} {w1 : List BC} {a : Array Value} {lr : Array Slot} {st0 rest : List Value} {mc' ms' : Nat}
    (hr : va_Run p l e R s m args below meth c H locs cells slots mc' ms' (F0 m pc lr st0) rest (qb D ρ τ (va_A (aw ρ τ w) H.size) w.length w1 a) (va_A (aw ρ τ w) H.size)) (hA : ∀ q, s.heap.size ≤ q → A q) (hD : va_D A (aw ρ τ w)) (hS : va_S A s.heap H locs)
    (kk : ∀ (H1 : Heap) (locs1 : List Loc) (ρ' : Nat → Nat), (∀ k, k < w.length → ρ' k = ρ k) → va_P D clA (aw ρ' τ w1) H1 → va_D A (aw ρ' τ w1) → va_S A s.heap H1 locs1 → W p l e R s m args below meth c H1 locs1 (cells + mc') (slots + ms') Q (F0 m (pc + 3) lr rest)) : W p l e R s m args below meth c H locs cells slots Q (F0 m pc lr st0) := by
  have hF : ∀ q, va_A (aw ρ τ w) H.size q → A q := fun q hq => by
    rcases hq with ⟨k, e', hk⟩ | hq
    · exact hD.2 k (q, e') hk
    · exact hA q (Nat.le_trans hS.1 hq)
  intro T hT X'
  obtain ⟨v, st₀, t, T', L, h0, X', hL, e1, e2, ⟨⟨hv, ρ', hρ', hb, hD'⟩, hz, hk⟩, st⟩ := hr T hT X'
  cases hv
  rw [h0] at hz hk
  obtain ⟨t2, a1, b1⟩ := kk T'.heap (locs ++ L) ρ' hρ' (by rw [e1]; exact hb) (hD'.weaken (fun _ _ _ hq => hF _ hq))
    ⟨Nat.le_trans hS.1 (by rw [e1]; exact hz), fun q h1 h2 => by rw [e1, hk q (Nat.lt_of_lt_of_le h1 hS.1) (fun hq => h2 (hF q hq))]; exact hS.2.1 q h1 h2, fun q hq => by
      rcases List.mem_append.mp hq with h | h
      · exact hS.2.2 q h
      · exact hF _ (hL q h)⟩ T' rfl X'
  exact ⟨t2, st t2 a1, b1⟩
theorem GB_callI {k idx n h' mc' ms' : Nat} {J : MI} {w1 : List BC} (av rest : List Value) (hn0 : n0 ≤ w.length) (hM : Bt J h' mc' ms' (.ref k :: av) w w1) (hh : h' < h) (hm : J.2.2.1 ≤ 21) (hJ : MI0 J n) (hn : av.length = n) (hw : Cond.methodLink I.1.cls idx J.1 ∈ lw_g) (hst : stk = av.reverse ++ .ref k :: rest) (hrm : (rest.map fun v => v.category).sum ≤ 8) (hret : J.2.2.2 = none) (hcl : cells + mc' ≤ mc) (hsl : slots + ms' ≤ ms) (wf3 : rest.all (wfv w.length) = true) (wf4 : ls.all (fun q => wfv w.length q.2) = true) (hd : decode I.2.1 pc = .ok (.invokespecial idx, 3))
    (kk : GB I h mc ms n0 w' (pc + 3) ls rest w1 (cells + mc') (slots + ms')) : GB I h mc ms n0 w' pc ls stk w cells slots := by
  intro p l e s m args below meth c H locs D ρ0 ρ τ A lr hc hi hK hρ hA hP hD hS hl
  obtain ⟨j1, j2, j3, j4, j5⟩ := hJ
  have ht := hc.2.2.2.2.2.1
  have hmw : mw J = Cond.code J.1 J.2.1 J.2.2.1 none :: lw_g := by rw [mw, hret]
  refine GB_after (D := D) (ρ := ρ) (τ := τ) (w1 := w1) (rest := rest.map (cv ρ)) (va_runI (As := av.map (cv ρ)) (rest := rest.map (cv ρ)) (b := ρ k) (nL := I.2.2.1) (n := n) ⟨hc.1, hc.2.1, hc.2.2.2.1, hc.2.2.2.2.1, ht⟩ (hM l D ρ τ H.size)
    ⟨callB_of n ht (mw_good (by rw [hret]; exact j4)) hmw rfl rfl (ht _ j3) (ht _ hw) j5 (rm_b hh hm), j2, ht _ j1⟩
    ⟨pb_blind D ρ τ _ w _, fun U hU hW => ⟨rfl, by rw [hU], by rw [hU]; exact hP, hK.warm hW, hD.weaken (fun _ _ _ _ => trivial)⟩⟩ rfl (by simpa using hn) hl.1 (by rw [hst]; simp [cv]) (lv_room (by rw [cat_sum]; exact hrm)) hd ⟨hcl, hsl⟩) hA hD hS (fun H1 locs1 ρ' hρ' hP1 hD1 hS1 => ?_)
  have := kk p l e s m args below meth c H1 locs1 D ρ0 ρ' τ A lr hc hi hK (fun k hk => (hρ' k (Nat.lt_of_lt_of_le hk hn0)).trans (hρ k hk)) hA hP1 hD1 hS1 (by rw [lc_ext hρ' wf4]; exact hl)
  rw [mp_ext hρ' wf3] at this
  exact this
theorem GB_callIN {k idx n h' mc' ms' : Nat} {J : MI} {w1 : List BC} (av rest : List Value) (hn0 : n0 ≤ w.length) (hM : Bt J h' mc' ms' (.ref k :: av) w w1) (hh : h' < h) (hm : J.2.2.1 ≤ 21) (hJ : MI0 J n) (hn : av.length = n) (hw : ∀ D τ U, KB D τ U → va_Nw (.methodLinkNest I.1.cls idx J.1 "PutOffWicks") U) (hst : stk = av.reverse ++ .ref k :: rest) (hrm : (rest.map fun v => v.category).sum ≤ 8) (hret : J.2.2.2 = none) (hcl : cells + mc' ≤ mc) (hsl : slots + ms' ≤ ms) (wf3 : rest.all (wfv w.length) = true) (wf4 : ls.all (fun q => wfv w.length q.2) = true) (hd : decode I.2.1 pc = .ok (.invokespecial idx, 3))
    (kk : GB I h mc ms n0 w' (pc + 3) ls rest w1 (cells + mc') (slots + ms')) : GB I h mc ms n0 w' pc ls stk w cells slots := by
  intro p l e s m args below meth c H locs D ρ0 ρ τ A lr hc hi hK hρ hA hP hD hS hl
  obtain ⟨j1, j2, j3, j4, j5⟩ := hJ
  have ht := hc.2.2.2.2.2.1
  have hmw : mw J = Cond.code J.1 J.2.1 J.2.2.1 none :: lw_g := by rw [mw, hret]
  refine GB_after (D := D) (ρ := ρ) (τ := τ) (w1 := w1) (rest := rest.map (cv ρ)) (va_runIN (As := av.map (cv ρ)) (rest := rest.map (cv ρ)) (b := ρ k) (nL := I.2.2.1) (n := n) (host := "PutOffWicks") ⟨hc.1, hc.2.1, hc.2.2.2.1, hc.2.2.2.2.1, ht⟩ (hM l D ρ τ H.size)
    ⟨va_cnB n ht (mw_good (by rw [hret]; exact j4)) hmw rfl rfl (hw D τ s hK) (ht _ j3) j5 (rm_b hh hm), j2, ht _ j1⟩
    ⟨pb_blind D ρ τ _ w _, fun U hU hW => ⟨rfl, by rw [hU], by rw [hU]; exact hP, hK.warm hW, hD.weaken (fun _ _ _ _ => trivial)⟩⟩ rfl (by simpa using hn) hl.1 (by rw [hst]; simp [cv]) (lv_room (by rw [cat_sum]; exact hrm)) hd ⟨hcl, hsl⟩) hA hD hS (fun H1 locs1 ρ' hρ' hP1 hD1 hS1 => ?_)
  have := kk p l e s m args below meth c H1 locs1 D ρ0 ρ' τ A lr hc hi hK (fun k hk => (hρ' k (Nat.lt_of_lt_of_le hk hn0)).trans (hρ k hk)) hA hP1 hD1 hS1 (by rw [lc_ext hρ' wf4]; exact hl)
  rw [mp_ext hρ' wf3] at this
  exact this
theorem ra_i (U : State) (cA cB : ClassId) (h1 : va_RA U cA .int) (h2 : va_RA U cB .int) : cA = cB := Option.some.inj ((show U.vm.findClass _ = some cA from h1).symm.trans h2)
theorem ra_l (U : State) (cA cB : ClassId) (h1 : va_RA U cA .long) (h2 : va_RA U cB .long) : cA = cB := Option.some.inj ((show U.vm.findClass _ = some cA from h1).symm.trans h2)
theorem ra_b (U : State) (cA cB : ClassId) (h1 : va_RA U cA .byte) (h2 : va_RA U cB .byte) : cA = cB := Option.some.inj ((show U.vm.findClass _ = some cA from h1).symm.trans h2)
theorem hz_i (N : Nat) (cA : ClassId) : vp_cell cA (N, if (0 : Nat) = 1 then .inr (.inl (lrow z0)) else .inl z0) = arrV cA N (fun _ => defaultValue .int) := rfl
theorem hz_l (N : Nat) (cA : ClassId) : vp_cell cA (N, if (1 : Nat) = 1 then .inr (.inl (lrow z0)) else .inl z0) = arrV cA N (fun _ => defaultValue .long) := by
  rw [if_pos rfl, lrow_z]
  rfl
theorem hz_b (N : Nat) (cA : ClassId) : vp_cell cA (N, if (2 : Nat) = 1 then .inr (.inl (lrow z0)) else .inl z0) = arrV cA N (fun _ => defaultValue .byte) := rfl
end GBR
