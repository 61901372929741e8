/-! THE ABSTRACT STATE: rows of ints by the number of a cell (an object's fields, an array's elements); shapes of cells are fixed -/
abbrev St : Type := Nat → Nat → Int32
def sR (S : St) (k : Nat) (row : Nat → Int32) : St := fun a => if a = k then row else S a
def sF (S : St) (k j : Nat) (v : Int32) : St := sR S k (upd (S k) j v)
def jrem (x y : Int32) : Int32 := x - x / y * y
def jushr (x y : Int32) : Int32 := (x.toUInt32 >>> (y.toUInt32 &&& Int32.toUInt32 31)).toInt32
def jshl (x y : Int32) : Int32 := x <<< (y &&& 31)
def jshr (x y : Int32) : Int32 := x >>> (y &&& 31)
def jmax (x y : Int32) : Int32 := if x < y then y else x
def jmin (x y : Int32) : Int32 := if y < x then y else x
def jabs (x : Int32) : Int32 := if 0 ≤ x then x else 0 - x
def lshl (x : Int64) (y : Int32) : Int64 := x <<< (y.toInt64 &&& 63)
def lushr (x : Int64) (y : Int32) : Int64 := (x.toUInt64 >>> (y.toInt64.toUInt64 &&& Int64.toUInt64 63)).toInt64
def ig (i : Int32) (n : Nat) : Bool := decide (¬ (i < 0 ∨ n ≤ i.toNatClampNeg))
theorem ig_in {i : Int32} {n : Nat} (h : ig i n = true) : vp_in i n := of_decide_eq_true (p := ¬ (i < 0 ∨ n ≤ i.toNatClampNeg)) h
def m64 (a b : Int32) : Int64 := ⟨⟨a.toBitVec ++ b.toBitVec⟩⟩
def h64 (v : Int64) : Int32 := ⟨⟨v.toBitVec.extractLsb' 32 32⟩⟩
def l64 (v : Int64) : Int32 := ⟨⟨v.toBitVec.extractLsb' 0 32⟩⟩
theorem m64_hl (v : Int64) : m64 (h64 v) (l64 v) = v := by
  apply Int64.toBitVec_inj.mp
  show (v.toBitVec.extractLsb' 32 32) ++ (v.toBitVec.extractLsb' 0 32) = v.toBitVec
  apply BitVec.eq_of_getLsbD_eq
  intro i hi
  rw [BitVec.getLsbD_append]
  by_cases h : i < 32
  · simp [h]
  · have : i - 32 < 32 := by omega
    have h2 : 32 + (i - 32) = i := by omega
    simp [h, this, h2]
def cv (ρ : Nat → Nat) (v : Value) : Value := match v with
  | .ref k => .ref (ρ k)
  | v => v
theorem cv_cat (ρ : Nat → Nat) (v : Value) : (cv ρ v).category = v.category := by cases v <;> rfl
abbrev Sh : Type := (Nat × List (Option Nat)) ⊕ (Nat × Nat)
abbrev SY : Type := Nat × (Nat → Sh)
def fv (ks : List (Option Nat)) (row : Nat → Int32) (j : Nat) : Value := match ks[j]? with
  | some (some k) => if k = 1000 then .ref (row j).toNatClampNeg else .ref k
  | some none => .int (row j)
  | none => .null
def lrow (row : Nat → Int32) (i : Nat) : Int64 := m64 (row (2 * i)) (row (2 * i + 1))
def ce (ρ : Nat → Nat) (τ : Nat → ClassId) (sh : Sh) (row : Nat → Int32) : va_E := match sh with
  | .inl o => .inr (o.1, (List.range o.2.length).map fun j => cv ρ (fv o.2 row j))
  | .inr a => .inl (τ a.1, a.2, if a.1 = 1 then .inr (.inl (lrow row)) else .inl row)
def sw (X : SY) (ρ : Nat → Nat) (τ : Nat → ClassId) (S : St) : va_W := (List.range X.1).map fun k => (ρ k, ce ρ τ (X.2 k) (S k))
def sty (τ : Nat → ClassId) : List (ClassId × FieldType) := [(τ 0, .int), (τ 1, .long), (τ 2, .byte)]
def sA (X : SY) (ρ : Nat → Nat) : Nat → Prop := fun q => ∃ k, k < X.1 ∧ q = ρ k
def inj (X : SY) (ρ : Nat → Nat) : Prop := ∀ i j, i < X.1 → j < X.1 → ρ i = ρ j → i = j
theorem sw_at {X : SY} {ρ : Nat → Nat} {τ : Nat → ClassId} {S : St} {k : Nat} (h : k < X.1) : (sw X ρ τ S)[k]? = some (ρ k, ce ρ τ (X.2 k) (S k)) := by
  simp [sw, h]
theorem sw_get {X : SY} {ρ : Nat → Nat} {τ : Nat → ClassId} {S : St} {k : Nat} {q : Nat × va_E} (h : (sw X ρ τ S)[k]? = some q) : k < X.1 ∧ q = (ρ k, ce ρ τ (X.2 k) (S k)) := by
  have hk : k < X.1 := by
    have := (List.getElem?_eq_some_iff.mp h).1
    simpa [sw] using this
  rw [sw_at hk] at h
  exact ⟨hk, (Option.some.inj h).symm⟩
theorem sw_set {X : SY} {ρ : Nat → Nat} {τ : Nat → ClassId} {S : St} {k : Nat} {row : Nat → Int32} {e : va_E} (h : k < X.1) (he : e = ce ρ τ (X.2 k) row) : (sw X ρ τ S).set k (ρ k, e) = sw X ρ τ (sR S k row) := by
  subst he
  apply List.ext_getElem?
  intro j
  by_cases hj : j = k
  · subst hj
    rw [List.getElem?_set_self (by simpa [sw] using h), sw_at h]
    simp [sR]
  · rw [List.getElem?_set_ne (Ne.symm hj)]
    by_cases hl : j < X.1
    · rw [sw_at hl, sw_at hl]
      simp [sR, hj]
    · rw [List.getElem?_eq_none (by simp [sw]; omega), List.getElem?_eq_none (by simp [sw]; omega)]
theorem sw_D {X : SY} {ρ : Nat → Nat} {τ : Nat → ClassId} {S : St} (hi : inj X ρ) : va_D (sA X ρ) (sw X ρ τ S) := by
  refine ⟨fun i j x y h1 h2 hxy => ?_, fun k q h => ?_⟩
  · obtain ⟨a1, rfl⟩ := sw_get h1
    obtain ⟨a2, rfl⟩ := sw_get h2
    exact hi i j a1 a2 hxy
  · obtain ⟨a1, rfl⟩ := sw_get h
    exact ⟨k, a1, rfl⟩
theorem fs_at {ρ : Nat → Nat} {ks : List (Option Nat)} {row : Nat → Int32} {j : Nat} {o : Option Nat} (h : ks[j]? = some o) : ((List.range ks.length).map fun j => cv ρ (fv ks row j))[j]? = some (cv ρ (fv ks row j)) := by
  have := (List.getElem?_eq_some_iff.mp h).1
  simp [this]
theorem fs_set {ρ : Nat → Nat} {ks : List (Option Nat)} {row : Nat → Int32} {j : Nat} {o : Option Nat} {v : Int32} {w : Value} (h : ks[j]? = some o) (hw : w = cv ρ (fv ks (upd row j v) j)) : ((List.range ks.length).map fun j => cv ρ (fv ks row j)).set j w = (List.range ks.length).map fun i => cv ρ (fv ks (upd row j v) i) := by
  have hl := (List.getElem?_eq_some_iff.mp h).1
  apply List.ext_getElem?
  intro i
  by_cases hi : i = j
  · subst hi
    rw [List.getElem?_set_self (by simpa using hl)]
    simp [hl, hw]
  · rw [List.getElem?_set_ne (Ne.symm hi)]
    by_cases hil : i < ks.length
    · simp [hil, fv, upd, hi]
    · simp [hil]
/-! methods -/
def nW : Cond := .methodLinkNest "PutOffWicks$Waits" 40 ⟨"PutOffWicks", "within", "(III)Z"⟩ "PutOffWicks"
def KK (D : va_G) (τ : Nat → ClassId) (U : State) : Prop := va_K D clA (sty τ) U ∧ va_Nw nW U
theorem KK.warm {D : va_G} {τ : Nat → ClassId} {s U : State} (hW : s.WarmedH U.vm) (h : KK D τ s) : KK D τ U := ⟨va_K.moved hW.alike h.1, va_Nw.warmM hW h.2⟩
theorem KK.same {D : va_G} {τ : Nat → ClassId} {s U : State} (hv : s.vm = U.vm) (h : KK D τ s) : KK D τ U := ⟨va_K.moved (hv ▸ Vm.Alike.refl s.vm) h.1, va_Nw.same rfl hv h.2⟩
abbrev MI : Type := MethodName × ByteArray × Nat × Option FieldType
def mw (I : MI) : List Cond := Cond.code I.1 I.2.1 I.2.2.1 I.2.2.2 :: lw_g
def rmH (h : Nat) : Room := { frames := h, cells := 0, slots := 0, locals := 40 * h }
def qc (X : SY) (D : va_G) (ρ : Nat → Nat) (τ : Nat → ClassId) (r : Option Int32) (S : St) : Array Value → State → Outcome → State → Prop := fun _ st oc t => (oc = .returned (r.map Value.int) ∧ va_P D clA (sw X ρ τ S) t.heap) ∧ va_F (sA X ρ) st t
def pcw (X : SY) (D : va_G) (ρ : Nat → Nat) (τ : Nat → ClassId) (av : List Value) (S : St) : Array Value → State → Prop := va_Pc (av.map (cv ρ)) (fun U => va_P D clA (sw X ρ τ S) U.heap ∧ KK D τ U)
/-- a method's contract: with the cells as S says it answers r and leaves them as S' says -/
def Ct (X : SY) (I : MI) (h : Nat) (av : List Value) (S : St) (r : Option Int32) (S' : St) : Prop := ∀ (l : Launch) (D : va_G) (ρ : Nat → Nat) (τ : Nat → ClassId), inj X ρ → Met l I.1 (mw I) (rmH h) (pcw X D ρ τ av S) (qc X D ρ τ r S') 0 0 (sA X ρ)
def gc (p : Program) (s : State) (m : MethodId) (args : Array Value) (meth : Method) (c : Code) (I : MI) : Prop := p.tables.exec = Jvm.exec ∧ c.code = I.2.1 ∧ meth.sig.returnType = I.2.2.2 ∧ c.maxLocals = I.2.2.1 ∧ s.vm.findClass I.1.cls = some m.cls ∧ (∀ w ∈ lw_g, w.before args s = true) ∧ meth.locks = false
def lc (ρ : Nat → Nat) (ls : List (Nat × Value)) : List (Nat × Value) := ls.map fun q => (q.1, cv ρ q.2)
/-- within a method: from here it comes to its end with r and S' -/
def G (X : SY) (I : MI) (h : Nat) (r : Option Int32) (S' : St) (pc : Nat) (ls : List (Nat × Value)) (stk : List Value) (S : St) : Prop := ∀ (p : Program) (l : Launch) (e : Env) (s : State) (m : MethodId) (args : Array Value) (below : List Frame) (meth : Method) (c : Code) (H : Heap) (locs : List Loc) (D : va_G) (ρ : Nat → Nat) (τ : Nat → ClassId) (lr : Array Slot),
  gc p s m args meth c I → inj X ρ → KK D τ s → va_P D clA (sw X ρ τ S) H → va_S (sA X ρ) s.heap H locs → lv_has lr I.2.2.1 (lc ρ ls) → W p l e (rmH h) s m args below meth c H locs 0 0 (MQ below (qc X D ρ τ r S') args s 0 0 (sA X ρ)) (F0 m pc lr (stk.map (cv ρ)))
theorem lc_at {ρ : Nat → Nat} {ls : List (Nat × Value)} {j i : Nat} {v : Value} (h : ls[j]? = some (i, v)) : (lc ρ ls)[j]? = some (i, cv ρ v) := by
  simp [lc, h]
theorem lc_args (ρ : Nat → Nat) : ∀ (vs : List Value) (i : Nat), lc ρ (lv_args i vs) = lv_args i (vs.map (cv ρ))
  | [], _ => rfl
  | v :: vs, i => by
    simp only [lv_args, List.map_cons, cv_cat]
    rw [← lc_args ρ vs]
    rfl
theorem lg_len (ρ : Nat → Nat) : ∀ vs : List Value, (lg_sl (vs.map (cv ρ))).length = (lg_sl vs).length
  | [] => rfl
  | v :: vs => by
    have ih := lg_len ρ vs
    simp only [lg_sl, List.map_cons, List.flatMap_cons, List.length_append, cv_cat] at ih ⊢
    rw [ih]
    by_cases h : v.category = 2 <;> simp [h]
theorem Ct.of {X : SY} {I : MI} {h : Nat} {av : List Value} {S S' : St} {r : Option Int32} (hpl : plainName I.1.cls = true) (hlen : (lg_sl av).length ≤ I.2.2.1) (body : G X I h r S' 0 (lv_args 0 av) [] S) : Ct X I h av S r S' := by
  intro l D ρ τ hi
  refine Met.ofW (cc := I.2.1) (maxL := I.2.2.1) (ret := I.2.2.2) (ws' := lw_g) hpl rfl ?_
  intro p e s m args below meth c s₁ B hml hv
  obtain ⟨rfl, hP, hK⟩ := hv
  have hts := atoms_spec (ws := mw I) B.pre
  have hl := lv_entry (av.map (cv ρ)) (n := I.2.2.1) (by rw [lg_len]; exact hlen)
  rw [lg_entry_eq]
  exact body p l e s m _ below meth c s.heap [] D ρ τ _ ⟨B.exec, B.bytes, B.returns, hml, findClass_of_methodNamed B.named, fun w hw => hts w (List.mem_cons_of_mem _ hw), B.notSynchronized⟩ hi hK hP va_S.rf (by rw [lc_args]; exact hl)
