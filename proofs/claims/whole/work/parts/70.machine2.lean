/-! the reference's machine -/
def agM (M0 S : St) : Prop := ∀ k, k ≠ 18 → S k = M0 k
def MSt (M0 S : St) (d : Nat) (stk : Nat → Int32) : Prop := agM M0 S ∧ ∀ j, j < d → S 18 j = stk j
theorem agM.refl (S : St) : agM S S := fun _ _ => rfl
theorem agM.trans {A B C : St} (h : agM A B) (h' : agM B C) : agM A C := fun k a => by rw [h' k a, h k a]
section MM
variable {M0 S : St} {d : Nat} {stk stk' : Nat → Int32}
theorem agM.set (h : agM M0 S) {j : Nat} {v : Int32} : agM M0 (sF S 18 j v) := fun k a => by rw [sF_rne (by omega)]; exact h k a
theorem MSt.sk (h : MSt M0 S d stk) (e : ∀ j, j < d → stk' j = stk j) : MSt M0 S d stk' := ⟨h.1, fun j hj => by rw [e j hj]; exact h.2 j hj⟩
theorem MSt.push (h : MSt M0 S d stk) (v : Int32) : MSt M0 (sF S 18 d v) (d + 1) (upd stk d v) := ⟨h.1.set, fun j hj => by
  by_cases e : j = d
  · subst e; rw [sF_at, pk_us]
  · rw [sF_ne (Or.inr e), pk_un e]; exact h.2 j (by omega)⟩
theorem m_reck {o : Nat} (h1 : 2 ≤ o) (h2 : o ≤ 9) (x y : Int32) (hz : ¬ ((o = 5 ∨ o = 6) ∧ y = 0)) : f_Mo_reckon S (nI o) x y = some (rkI o x y) := by
  have hh : o = 2 ∨ o = 3 ∨ o = 4 ∨ o = 5 ∨ o = 6 ∨ o = 7 ∨ o = 8 ∨ o = 9 := by omega
  unfold f_Mo_reckon rkI
  rcases hh with e | e | e | e | e | e | e | e
  · subst e; rfl
  · subst e; rfl
  · subst e; rfl
  · have hy : ¬ y = 0 := fun z => hz ⟨Or.inl e, z⟩
    subst e
    simp (decide := true) only [hy, ↓reduceIte, not_false_eq_true]
  · have hy : ¬ y = 0 := fun z => hz ⟨Or.inr e, z⟩
    subst e
    simp (decide := true) only [hy, ↓reduceIte, not_false_eq_true]
  · subst e
    by_cases hy : y ≤ x
    · simp (decide := true) only [hy, ↓reduceIte]
    · simp (decide := true) only [hy, ↓reduceIte]
  · subst e
    by_cases hy : x ≤ y
    · simp (decide := true) only [hy, ↓reduceIte]
    · simp (decide := true) only [hy, ↓reduceIte]
  · subst e
    by_cases hy : x = y
    · simp (decide := true) only [hy, ↓reduceIte]
    · simp (decide := true) only [hy, ↓reduceIte]
def MRes (M0 S : St) (to p q d : Nat) (stk : Nat → Int32) (r : Option Int32) : Prop := ∃ n, n ≤ q - p ∧ ((∃ v S', r = some v ∧ MSt M0 S' (d + 1) (upd stk d v) ∧ ∀ F, f_Mo_reckonsTo_16 (F + n) S (nI to) (nI d) 0 (nI p) = f_Mo_reckonsTo_16 F S' (nI to) (nI (d + 1)) 0 (nI q)) ∨ (∃ S', r = none ∧ agM M0 S' ∧ ∀ F, f_Mo_reckonsTo_16 (F + n) S (nI to) (nI d) 0 (nI p) = some (0, S')))
theorem m16 {to p o v : Nat} (hp : p < to) (hto : to ≤ 260) (ho : o ≤ 14) (hv : v < 1048576) (F : Nat) (hc : S 13 p = nI (1048576 * o + v)) (l3 : Int32) : f_Mo_reckonsTo_16 (F + 1) S (nI to) l3 0 (nI p) = (if nI o = 0 then (
    f_Mo_reckonsTo_63 (f_Mo_reckonsTo_16 F) S (nI to) l3 0 (nI (p + 1)) (nI o) (nI v))
    else (
    if nI o = 1 then (
    f_Mo_reckonsTo_63 (f_Mo_reckonsTo_16 F) S (nI to) l3 0 (nI (p + 1)) (nI o) (nI v))
    else (
    if nI o = 10 then (
    if ig (l3 - 1) 260 then (
    if ig (l3 - 1) 260 then (
    f_Mo_reckonsTo_16 F (sF S 18 (l3 - 1).toNatClampNeg (1 - (S 18 (l3 - 1).toNatClampNeg))) (nI to) l3 0 (nI (p + 1))) else none) else none)
    else (
    if nI o = 11 then (
    f_Mo_reckonsTo_135 (f_Mo_reckonsTo_16 F) S (nI to) l3 0 (nI (p + 1)) (nI o) (nI v))
    else (
    if nI o = 12 then (
    f_Mo_reckonsTo_135 (f_Mo_reckonsTo_16 F) S (nI to) l3 0 (nI (p + 1)) (nI o) (nI v))
    else (
    if nI o = 5 then (
    f_Mo_reckonsTo_192 (f_Mo_reckonsTo_16 F) S (nI to) (l3 - 1) 0 (nI (p + 1)) (nI o))
    else (
    if nI o = 6 then (
    f_Mo_reckonsTo_192 (f_Mo_reckonsTo_16 F) S (nI to) (l3 - 1) 0 (nI (p + 1)) (nI o))
    else (
    f_Mo_reckonsTo_203 (f_Mo_reckonsTo_16 F) S (nI to) (l3 - 1) 0 (nI (p + 1)) (nI o))))))))) := by
  have c1 : (nI p).toNatClampNeg = p := cl
  have d1 : nI (1048576 * o + v) / 1048576 = nI o := by
    rw [show nI (1048576 * o + v) / 1048576 = nI ((1048576 * o + v) / 1048576) from pk_div (d := 1048576) (by omega) (by omega) (by omega)]
    congr 1; omega
  have d2 : jrem (nI (1048576 * o + v)) 1048576 = nI v := by
    rw [show jrem (nI (1048576 * o + v)) 1048576 = nI ((1048576 * o + v) % 1048576) from pk_rem (d := 1048576) (by omega) (by omega) (by omega)]
    congr 1; omega
  rw [f_Mo_reckonsTo_16, if_neg (nle hp), if_pos (gn (by omega) (by omega)), c1, hc, d1, d2]
  simp only [Option.bind_some, nI_1, gn (show p < 260 by omega) (by omega), ↓reduceIte]
  rfl
theorem MRes.leaf {to p : Nat} (hp : p < to) (hto : to ≤ 260) {v : Int32} (h : MSt M0 S d stk) (hd : d < 64) (hc : (∃ a, a < 100000 ∧ S 13 p = nI a ∧ v = nI a) ∨ (∃ i, i < 9 ∧ S 13 p = nI (1048576 + i) ∧ S 19 i = v)) : MRes M0 S to p (p + 1) d stk (some v) := by
  have cd : (nI d).toNatClampNeg = d := cl
  refine ⟨1, by omega, Or.inl ⟨v, _, rfl, h.push v, fun F => ?_⟩⟩
  rcases hc with ⟨a, h1, h2, h3⟩ | ⟨i, h1, h2, h3⟩
  · rw [m16 (o := 0) (v := a) hp hto (by omega) (by omega) F (by rw [h2]; congr 1; omega), if_pos (show nI 0 = 0 from rfl)]
    unfold f_Mo_reckonsTo_63 f_Mo_reckonsTo_85 f_Mo_reckonsTo_230
    rw [if_pos (show nI 0 = 0 from rfl), if_pos (gn (by omega) (by omega)), cd, Option.bind_some, Option.bind_some, nI_1, h3]
  · have ci : (nI i).toNatClampNeg = i := cl
    rw [m16 (o := 1) (v := i) hp hto (by omega) (by omega) F (by rw [h2]), if_neg (by decide), if_pos (show nI 1 = 1 from rfl)]
    unfold f_Mo_reckonsTo_63 f_Mo_reckonsTo_85 f_Mo_reckonsTo_230
    rw [if_neg (by decide), if_pos (gn h1 (by omega)), if_pos (gn (by omega) (by omega)), cd, ci, Option.bind_some, Option.bind_some, nI_1, h3]
theorem MRes.op {to p o : Nat} (hp : p < to) (hto : to ≤ 260) {x y : Int32} (h : MSt M0 S (d + 2) (upd (upd stk d x) (d + 1) y)) (hd : d < 63) (h1 : 2 ≤ o) (h2 : o ≤ 9) (hc : S 13 p = nI (1048576 * o)) : ∃ n, n ≤ 1 ∧ ((∃ v S', (if (o = 5 ∨ o = 6) ∧ y = 0 then none else some (rkI o x y)) = some v ∧ MSt M0 S' (d + 1) (upd stk d v) ∧ ∀ F, f_Mo_reckonsTo_16 (F + n) S (nI to) (nI (d + 2)) 0 (nI p) = f_Mo_reckonsTo_16 F S' (nI to) (nI (d + 1)) 0 (nI (p + 1))) ∨ (∃ S', (if (o = 5 ∨ o = 6) ∧ y = 0 then none else some (rkI o x y)) = none ∧ agM M0 S' ∧ ∀ F, f_Mo_reckonsTo_16 (F + n) S (nI to) (nI (d + 2)) 0 (nI p) = some (0, S'))) := by
  have e1 : nI (d + 2) - 1 = nI (d + 1) := pk_sub (a := d + 2) (b := 1) (by omega)
  have e2 : nI (d + 1) - 1 = nI d := pk_sub (a := d + 1) (b := 1) (by omega)
  have c1 : (nI (d + 1)).toNatClampNeg = d + 1 := cl
  have c2 : (nI d).toNatClampNeg = d := cl
  have vy : S 18 (d + 1) = y := by rw [h.2 (d + 1) (by omega), pk_us]
  have vx : S 18 d = x := by rw [h.2 d (by omega), pk_un (by omega), pk_us]
  have nn : ¬ nI o = 0 ∧ ¬ nI o = 1 ∧ ¬ nI o = 10 ∧ ¬ nI o = 11 ∧ ¬ nI o = 12 := by
    refine ⟨fun z => ?_, fun z => ?_, fun z => ?_, fun z => ?_, fun z => ?_⟩
    · have := nI_inj (b := 0) (by omega) (by omega) z; omega
    · have := nI_inj (b := 1) (by omega) (by omega) z; omega
    · have := nI_inj (b := 10) (by omega) (by omega) z; omega
    · have := nI_inj (b := 11) (by omega) (by omega) z; omega
    · have := nI_inj (b := 12) (by omega) (by omega) z; omega
  obtain ⟨n0, n1, n10, n11, n12⟩ := nn
  have st : ∀ F, f_Mo_reckonsTo_16 (F + 1) S (nI to) (nI (d + 2)) 0 (nI p) = (if nI o = 5 then (
    f_Mo_reckonsTo_192 (f_Mo_reckonsTo_16 F) S (nI to) (nI (d + 1)) 0 (nI (p + 1)) (nI o))
    else (
    if nI o = 6 then (
    f_Mo_reckonsTo_192 (f_Mo_reckonsTo_16 F) S (nI to) (nI (d + 1)) 0 (nI (p + 1)) (nI o))
    else (
    f_Mo_reckonsTo_203 (f_Mo_reckonsTo_16 F) S (nI to) (nI (d + 1)) 0 (nI (p + 1)) (nI o)))) := fun F => by
    rw [m16 (o := o) (v := 0) hp hto (by omega) (by omega) F (by rw [hc]; rfl), if_neg n0, if_neg n1, if_neg n10, if_neg n11, if_neg n12, e1]
  have s203 : ¬ ((o = 5 ∨ o = 6) ∧ y = 0) → ∀ F, f_Mo_reckonsTo_203 (f_Mo_reckonsTo_16 F) S (nI to) (nI (d + 1)) 0 (nI (p + 1)) (nI o) = f_Mo_reckonsTo_16 F (sF S 18 d (rkI o x y)) (nI to) (nI (d + 1)) 0 (nI (p + 1)) := fun hz F => by
    unfold f_Mo_reckonsTo_203 f_Mo_reckonsTo_230
    rw [e2, c1, c2, if_pos (gn (by omega) (by omega)), if_pos (gn (by omega) (by omega)), vx, vy, m_reck h1 h2 x y hz, Option.bind_some, if_pos (gn (by omega) (by omega)), Option.bind_some]
  by_cases hz : (o = 5 ∨ o = 6) ∧ y = 0
  · refine ⟨1, by omega, Or.inr ⟨S, by rw [if_pos hz], h.1, fun F => ?_⟩⟩
    have u : f_Mo_reckonsTo_192 (f_Mo_reckonsTo_16 F) S (nI to) (nI (d + 1)) 0 (nI (p + 1)) (nI o) = some (0, S) := by
      unfold f_Mo_reckonsTo_192
      rw [if_pos (gn (by omega) (by omega)), c1, vy, if_pos hz.2]
    rw [st F, u]
    rcases hz.1 with e | e
    · rw [if_pos (by rw [e]; rfl)]
    · rw [e, if_neg (by decide), if_pos (by decide)]
  · refine ⟨1, by omega, Or.inl ⟨rkI o x y, sF S 18 d (rkI o x y), by rw [if_neg hz], ⟨h.1.set, fun j hj => ?_⟩, fun F => ?_⟩⟩
    · by_cases e : j = d
      · subst e; rw [sF_at, pk_us]
      · rw [sF_ne (Or.inr e), pk_un e, h.2 j (by omega), pk_un (by omega), pk_un e]
    · rw [st F]
      have u : (o = 5 ∨ o = 6) → f_Mo_reckonsTo_192 (f_Mo_reckonsTo_16 F) S (nI to) (nI (d + 1)) 0 (nI (p + 1)) (nI o) = f_Mo_reckonsTo_16 F (sF S 18 d (rkI o x y)) (nI to) (nI (d + 1)) 0 (nI (p + 1)) := fun h56 => by
        unfold f_Mo_reckonsTo_192
        rw [if_pos (gn (by omega) (by omega)), c1, vy, if_neg (fun z => hz ⟨h56, z⟩), s203 hz F]
      by_cases e5 : o = 5
      · rw [if_pos (by rw [e5]; rfl), u (Or.inl e5)]
      · have e5' : ¬ nI o = 5 := fun z => e5 (nI_inj (b := 5) (by omega) (by omega) z)
        rw [if_neg e5']
        by_cases e6 : o = 6
        · rw [if_pos (by rw [e6]; rfl), u (Or.inr e6)]
        · have e6' : ¬ nI o = 6 := fun z => e6 (nI_inj (b := 6) (by omega) (by omega) z)
          rw [if_neg e6', s203 hz F]
theorem MRes.seq {to p m q : Nat} {r : Option Int32} {g : Int32 → Option Int32} (hpm : p ≤ m) (hmq : m ≤ q) (h : MRes M0 S to p m d stk r) (h2 : ∀ v S', r = some v → MSt M0 S' (d + 1) (upd stk d v) → ∃ n, n ≤ q - m ∧ ((∃ u S'', g v = some u ∧ MSt M0 S'' (d + 1) (upd stk d u) ∧ ∀ F, f_Mo_reckonsTo_16 (F + n) S' (nI to) (nI (d + 1)) 0 (nI m) = f_Mo_reckonsTo_16 F S'' (nI to) (nI (d + 1)) 0 (nI q)) ∨ (∃ S'', g v = none ∧ agM M0 S'' ∧ ∀ F, f_Mo_reckonsTo_16 (F + n) S' (nI to) (nI (d + 1)) 0 (nI m) = some (0, S'')))) : MRes M0 S to p q d stk (r.bind g) := by
  obtain ⟨n, hn, ⟨v, S', e1, e2, e3⟩ | ⟨S', e1, e2, e3⟩⟩ := h
  · obtain ⟨n', hn', ⟨u, S'', a1, a2, a3⟩ | ⟨S'', a1, a2, a3⟩⟩ := h2 v S' e1 e2
    · refine ⟨n' + n, by omega, Or.inl ⟨u, S'', by rw [e1, Option.bind_some, a1], a2, fun F => ?_⟩⟩
      rw [← Nat.add_assoc, e3, a3]
    · refine ⟨n' + n, by omega, Or.inr ⟨S'', by rw [e1, Option.bind_some, a1], a2, fun F => ?_⟩⟩
      rw [← Nat.add_assoc, e3, a3]
  · exact ⟨n, by omega, Or.inr ⟨S', by rw [e1]; rfl, e2, e3⟩⟩
variable {st de cd : Nat → Int32} {s : Nat} {fv : Nat → Int32}
theorem mV (hf : ∀ i, i < 9 → M0 19 i = fv i) {to : Nat} (hto : to ≤ 260) (h13 : M0 13 = cd) : ∀ n w e p q, sgV st de cd s n w e p q → ∀ d stk S, MSt M0 S d stk → d + w ≤ 64 → q ≤ to → MRes M0 S to p q d stk (e fv) := by
  intro n
  induction n with
  | zero => intro w e p q h; exact h.elim
  | succ n ih =>
    intro w e p q h d stk S hS hd hq
    have s13 : S 13 = cd := by rw [hS.1 13 (by omega)]; exact h13
    rcases h with ⟨v, h1, h2, h3, h4, h5, h6, h7⟩ | ⟨v, h1, h2, h3, h4, h5, h6, h7⟩ | ⟨o, a, b, m, k, h1, h2, h3, h4, h5, h6, h7, h8, h9⟩
    · rw [h2, h7]
      exact MRes.leaf (by omega) hto hS (by omega) (Or.inl ⟨v, h1, by rw [s13]; exact h6, rfl⟩)
    · rw [h2, h7]
      exact MRes.leaf (by omega) hto hS (by omega) (Or.inr ⟨v, h1, by rw [s13]; exact h6, by rw [hS.1 19 (by omega)]; exact hf v h1⟩)
    · have l1 := sgV_lt _ _ _ _ _ h4
      have l2 := sgV_lt _ _ _ _ _ h5
      have l3 := sgV_w _ _ _ _ _ h5
      rw [h9]
      show MRes M0 S to p q d stk ((a fv).bind fun x => (b fv).bind fun y => if (o = 5 ∨ o = 6) ∧ y = 0 then none else some (rkI o x y))
      refine MRes.seq (m := m) (by omega) (by omega) (ih w a p m h4 d stk S hS hd (by omega)) (fun x S1 _ hS1 => ?_)
      have hb := ih (w - 1) b m k h5 (d + 1) (upd stk d x) S1 hS1 (by omega) (by omega)
      obtain ⟨n', hn', ⟨y, S', e1, e2, e3⟩ | ⟨S', e1, e2, e3⟩⟩ := hb
      · have t13 : S' 13 = cd := by rw [e2.1 13 (by omega)]; exact h13
        obtain ⟨n2, hn2, hr⟩ := MRes.op (p := k) (to := to) (by omega) hto e2 (by omega) h1 (by omega) (by rw [t13]; exact h8)
        refine ⟨n2 + n', by omega, ?_⟩
        rw [e1, Option.bind_some]
        rcases hr with ⟨u, S'', a1, a2, a3⟩ | ⟨S'', a1, a2, a3⟩
        · refine Or.inl ⟨u, S'', a1, a2, fun F => ?_⟩
          rw [← Nat.add_assoc, e3, a3, h6]
        · refine Or.inr ⟨S'', a1, a2, fun F => ?_⟩
          rw [← Nat.add_assoc, e3, a3]
      · refine ⟨n', by omega, Or.inr ⟨S', by rw [e1]; rfl, e2, e3⟩⟩
theorem mC (hf : ∀ i, i < 9 → M0 19 i = fv i) {to : Nat} (hto : to ≤ 260) (h13 : M0 13 = cd) : ∀ n c p q, sgC st de cd s n c p q → ∀ stk S, MSt M0 S 0 stk → q ≤ to → MRes M0 S to p q 0 stk ((c fv).map bI) := by
  intro n
  induction n with
  | zero => intro c p q h; exact h.elim
  | succ n ih =>
    intro c p q h stk S hS hq
    rcases h with ⟨o, a, b, m, k, na, nb, h1, h2, h3, h4, h5, h6, h7, h8⟩ | ⟨a, k, h1, h2, h3, h4, h5⟩ | ⟨t, a, b, m, h1, h2, h3, h4, h5, h6⟩
    · have l1 := sgV_lt _ _ _ _ _ h3
      have l2 := sgV_lt _ _ _ _ _ h4
      have e : (c fv).map bI = (a fv).bind fun x => (b fv).bind fun y => if (o = 5 ∨ o = 6) ∧ y = 0 then none else some (rkI o x y) := by
        rw [h8]
        unfold cmpC
        cases a fv with
        | none => rfl
        | some x =>
          cases b fv with
          | none => rfl
          | some y =>
            simp only [Option.bind_some, Option.map_some]
            rw [if_neg (by omega)]
            congr 1
            unfold bI rkI
            have hh : o = 7 ∨ o = 8 ∨ o = 9 := by omega
            rcases hh with e | e | e <;> subst e
            · by_cases hy : y ≤ x <;> simp [hy]
            · by_cases hy : x ≤ y <;> simp [hy]
            · by_cases hy : x = y <;> simp [hy]
      rw [e]
      refine MRes.seq (m := m) (by omega) (by omega) (mV hf hto h13 na 63 a p m h3 0 stk S hS (by omega) (by omega)) (fun x S1 _ hS1 => ?_)
      have hb := mV hf hto h13 nb 63 b m k h4 1 (upd stk 0 x) S1 hS1 (by omega) (by omega)
      obtain ⟨n', hn', ⟨y, S', e1, e2, e3⟩ | ⟨S', e1, e2, e3⟩⟩ := hb
      · have t13 : S' 13 = cd := by rw [e2.1 13 (by omega)]; exact h13
        obtain ⟨n2, hn2, hr⟩ := MRes.op (d := 0) (p := k) (to := to) (by omega) hto e2 (by omega) (by omega) h2 (by rw [t13]; exact h7)
        refine ⟨n2 + n', by omega, ?_⟩
        rw [e1, Option.bind_some]
        rcases hr with ⟨u, S'', a1, a2, a3⟩ | ⟨S'', a1, a2, a3⟩
        · refine Or.inl ⟨u, S'', a1, a2, fun F => ?_⟩
          rw [← Nat.add_assoc, e3, a3, h5]
        · refine Or.inr ⟨S'', a1, a2, fun F => ?_⟩
          rw [← Nat.add_assoc, e3, a3]
      · refine ⟨n', by omega, Or.inr ⟨S', by rw [e1]; rfl, e2, e3⟩⟩
    · have l1 := sgC_lt _ _ _ _ h1
      have e : (c fv).map bI = ((a fv).map bI).bind fun v => some (1 - v) := by
        rw [h5]
        unfold notC
        cases a fv with
        | none => rfl
        | some x => cases x <;> rfl
      rw [e]
      refine MRes.seq (m := k) (by omega) (by omega) (ih a p k h1 stk S hS (by omega)) (fun v S1 _ hS1 => ?_)
      have t13 : S1 13 = cd := by rw [hS1.1 13 (by omega)]; exact h13
      have v1 : S1 18 0 = v := by rw [hS1.2 0 (by omega), pk_us]
      refine ⟨1, by omega, Or.inl ⟨1 - v, sF S1 18 0 (1 - v), rfl, ⟨hS1.1.set, fun j hj => ?_⟩, fun F => ?_⟩⟩
      · have : j = 0 := by omega
        rw [this, sF_at, pk_us]
      · rw [m16 (o := 10) (v := 0) (by omega) hto (by omega) (by omega) F (by rw [t13]; exact h4), if_neg (by decide), if_neg (by decide), if_pos (show nI 10 = 10 from rfl), h2]
        have e0 : nI (0 + 1) - 1 = 0 := by decide
        have g0 : ig (0 : Int32) 260 = true := by decide
        have c0 : (0 : Int32).toNatClampNeg = 0 := by decide
        rw [e0, if_pos g0, if_pos g0, c0, v1]
    · have l1 := sgC_lt _ _ _ _ h1
      have l2 := sgC_lt _ _ _ _ h2
      have e : (c fv).map bI = ((a fv).map bI).bind fun v => if v = bI t then some (bI t) else (b fv).map bI := by
        rw [h6]
        unfold jmpC
        cases a fv with
        | none => rfl
        | some x => cases x <;> cases t <;> rfl
      rw [e]
      refine MRes.seq (m := m) (by omega) (by omega) (ih a p m h1 stk S hS (by omega)) (fun v S1 hrv hS1 => ?_)
      have t13 : S1 13 m = nI (1048576 * (if t then 12 else 11) + q) := by rw [hS1.1 13 (by omega), h13]; exact h5
      have v1 : S1 18 0 = v := by rw [hS1.2 0 (by omega), pk_us]
      have e0 : nI (0 + 1) - 1 = 0 := by decide
      have g0 : ig (0 : Int32) 260 = true := by decide
      have c0 : (0 : Int32).toNatClampNeg = 0 := by decide
      have body : ∀ F, f_Mo_reckonsTo_16 (F + 1) S1 (nI to) (nI (0 + 1)) 0 (nI m) = if v = bI t then f_Mo_reckonsTo_16 F S1 (nI to) (nI (0 + 1)) 0 (nI q) else f_Mo_reckonsTo_16 F S1 (nI to) (nI 0) 0 (nI (m + 1)) := fun F => by
        rw [m16 (o := if t then 12 else 11) (v := q) (by omega) hto (by split <;> omega) (by omega) F t13]
        unfold f_Mo_reckonsTo_135 f_Mo_reckonsTo_155 f_Mo_reckonsTo_230
        rw [e0, if_pos g0, c0, v1]
        cases t with
        | false =>
          simp (decide := true) only [↓reduceIte, Option.bind_some, z0I]
          rfl
        | true =>
          simp (decide := true) only [↓reduceIte, Option.bind_some, z0I]
          rfl
      by_cases hv : v = bI t
      · refine ⟨1, by omega, Or.inl ⟨bI t, S1, by rw [if_pos hv], by rw [← hv]; exact hS1, fun F => ?_⟩⟩
        rw [body F, if_pos hv]
      · obtain ⟨n', hn', hr⟩ := ih b (m + 1) q h2 stk S1 ⟨hS1.1, fun j hj => by omega⟩ hq
        refine ⟨n' + 1, by omega, ?_⟩
        rw [if_neg hv]
        rcases hr with ⟨u, S'', a1, a2, a3⟩ | ⟨S'', a1, a2, a3⟩
        · refine Or.inl ⟨u, S'', a1, a2, fun F => ?_⟩
          rw [← Nat.add_assoc, body, if_neg hv, a3]
        · refine Or.inr ⟨S'', a1, a2, fun F => ?_⟩
          rw [← Nat.add_assoc, body, if_neg hv, a3]
end MM
/-! the relation of the two laws -/
def RuleG (lt va ho en st de ml mf mh mt cd : Nat → Int32) (r : Nat) : Prop := ∃ L s m1 m2 m3 p1 e c, (L = 100 ∨ L = 98 ∨ L = 120) ∧ lt r = nI L ∧ ml r = nI L ∧ va r = nI p1 ∧ ho r = nI (m2 + s) ∧ en r = nI (m3 + s) ∧ mf r = nI m1 ∧ mh r = nI m2 ∧ mt r = nI m3 ∧ m3 + s ≤ 240 ∧ (∃ nc, sgC st de cd s nc c m2 m3) ∧ ((L ≠ 120 ∧ p1 = m1 + s ∧ ∃ nv, sgV st de cd s nv 64 e m1 m2) ∨ (L = 120 ∧ p1 + 1 = m2 + s ∧ st p1 = 0 ∧ de p1 = 1 ∧ e = fun _ => some 1))
def LawR (Sx Sm : St) : Prop := ∃ n, n ≤ 16 ∧ Sx 25 8 = nI n ∧ Sm 0 16 = nI n ∧ ∀ r, r < n → RuleG (Sx 28) (Sx 29) (Sx 30) (Sx 31) (Sx 26) (Sx 27) (Sm 14) (Sm 15) (Sm 16) (Sm 17) (Sm 13) r
theorem LawR_c : LRc LawR := by
  intro Sx Sm Sx' Sm' hx hm h16 ⟨n, h1, h2, h3, h4⟩
  have x : ∀ k, 25 ≤ k → k ≤ 31 → Sx' k = Sx k := fun k a b => fe (fun j => hx k j a b)
  have m : ∀ k, 13 ≤ k → k ≤ 17 → Sm' k = Sm k := fun k a b => fe (fun j => hm k j a b)
  refine ⟨n, h1, by rw [hx 25 8 (by omega) (by omega)]; exact h2, by rw [h16]; exact h3, fun r hr => ?_⟩
  rw [x 28 (by omega) (by omega), x 29 (by omega) (by omega), x 30 (by omega) (by omega), x 31 (by omega) (by omega), x 26 (by omega) (by omega), x 27 (by omega) (by omega), m 14 (by omega) (by omega), m 15 (by omega) (by omega), m 16 (by omega) (by omega), m 17 (by omega) (by omega), m 13 (by omega) (by omega)]
  exact h4 r hr
theorem LawR_n {Sx Sm : St} (h : LawR Sx Sm) : Sx 25 8 = Sm 0 16 := by
  obtain ⟨n, -, h2, h3, -⟩ := h
  rw [h2, h3]
def vD (r : Option Int32) : Int32 := r.getD 0
section ASK
variable {S0 S : St} {fv : Nat → Int32}
/-- what the class's machine tells at the end -/
theorem x_tell {p q : Nat} {r : Option Int32} {stk : Nat → Int32} (hpq : p ≤ q) (hq : q ≤ 240) (h : ∀ S, XS S0 S 0 stk → XRes S0 S q p 0 q 0 stk r) (hS : agX S0 S) : ∃ S', f_Reckoner_reckon S (nI p) (nI q) = some (vD r, S') ∧ agX S0 S' := by
  obtain ⟨F0, hF0⟩ : ∃ F, FU = F := ⟨_, rfl⟩
  have hF0' : 300 < F0 := by rw [← hF0]; exact FU_gt (by omega)
  have hs : XS S0 (sF (sF S 40 2 0) 40 3 0) 0 stk := ⟨(hS.set (Or.inl ⟨rfl, by omega⟩)).set (Or.inl ⟨rfl, by omega⟩), by rw [sF_ne (by omega), sF_at]; rfl, sF_at, fun j hj => by omega⟩
  obtain ⟨n, hn, hr⟩ := h _ hs
  unfold f_Reckoner_reckon
  rw [Option.bind_some, Option.bind_some, Option.bind_some, hF0]
  obtain ⟨F, rfl⟩ : ∃ z, F0 = z + 1 + n := ⟨F0 - 1 - n, by omega⟩
  rcases hr with ⟨v, S', e1, e2, e3⟩ | ⟨S', e1, e2, e3⟩
  · obtain ⟨S2, a1, a2⟩ := x_pop e2 (by omega)
    refine ⟨S2, ?_, a2.1⟩
    have := e3 (F + 1)
    refine Eq.trans this ?_
    have fin : f_Reckoner_reckon_205 S' = some (v, S2) := by
      unfold f_Reckoner_reckon_205
      have v1 : upd stk 0 v 0 = v := pk_us
      rw [a1, v1, Option.bind_some]
    rw [f_Reckoner_reckon_15, e1]
    show _ = some (v, S2)
    by_cases c : (240 : Int32) ≤ nI (0 + n)
    · rw [if_pos c, fin]
    · rw [if_neg c, if_neg (nI_lt0 (by omega)), if_pos (yle (Nat.le_refl _)), fin]
  · refine ⟨S', ?_, e2⟩
    rw [e1]
    exact e3 (F + 1)
theorem m_tell {p q : Nat} {r : Option Int32} {stk : Nat → Int32} {M0 : St} (hpq : p ≤ q) (hq : q ≤ 240) (h : ∀ S, MSt M0 S 0 stk → MRes M0 S q p q 0 stk r) (hS : agM M0 S) : ∃ S', f_Mo_reckonsTo S (nI p) (nI q) = some (vD r, S') ∧ agM M0 S' := by
  obtain ⟨F0, hF0⟩ : ∃ F, FU = F := ⟨_, rfl⟩
  have hF0' : 300 < F0 := by rw [← hF0]; exact FU_gt (by omega)
  obtain ⟨n, hn, hr⟩ := h S ⟨hS, fun j hj => by omega⟩
  have b0 : (260 : Int32) * (nI p / 260) = 0 := by
    rw [show nI p / 260 = nI (p / 260) from pk_div (d := 260) (by omega) (by omega) (by omega), show p / 260 = 0 by omega]; decide
  unfold f_Mo_reckonsTo
  rw [Option.bind_some, b0, Option.bind_some, hF0]
  obtain ⟨F, rfl⟩ : ∃ z, F0 = z + 1 + n := ⟨F0 - 1 - n, by omega⟩
  rcases hr with ⟨v, S', e1, e2, e3⟩ | ⟨S', e1, e2, e3⟩
  · refine ⟨S', ?_, e2.1⟩
    refine Eq.trans (e3 (F + 1)) ?_
    rw [f_Mo_reckonsTo_16, if_pos (yle (Nat.le_refl _)), if_pos (by decide), show (0 : Int32).toNatClampNeg = 0 by decide, e2.2 0 (by omega), pk_us, e1]
    rfl
  · refine ⟨S', ?_, e2⟩
    rw [e1]
    exact e3 (F + 1)
variable {M0 T : St}
theorem clampI (hi v : Int32) (h0 : 0 ≤ hi) : jmax 0 (jmin hi v) = if 0 ≤ v then (if v ≤ hi then v else hi) else 0 := by
  unfold jmax jmin
  have z : (0 : Int32).toInt = 0 := rfl
  by_cases c1 : v < hi
  · rw [if_pos c1]
    by_cases c2 : 0 < v
    · rw [if_pos c2, if_pos (by rw [fa_lt] at c2; rw [fa_le]; omega), if_pos (by rw [fa_lt] at c1; rw [fa_le]; omega)]
    · rw [if_neg c2]
      by_cases c3 : 0 ≤ v
      · rw [if_pos c3, if_pos (by rw [fa_lt] at c1; rw [fa_le]; omega), fa_eq]
        rw [fa_lt] at c2; rw [fa_le] at c3; omega
      · rw [if_neg c3]
  · rw [if_neg c1, if_pos (show 0 ≤ v by rw [fa_lt] at c1; rw [fa_le] at h0 ⊢; omega)]
    have m : (if 0 < hi then hi else 0) = hi := by
      by_cases c2 : 0 < hi
      · rw [if_pos c2]
      · rw [if_neg c2, fa_eq]
        rw [fa_lt] at c2; rw [fa_le] at h0; omega
    rw [m]
    by_cases c4 : v ≤ hi
    · rw [if_pos c4, fa_eq]
      rw [fa_lt] at c1; rw [fa_le] at c4; omega
    · rw [if_neg c4]
/-- what a rule says: whether it holds, its value -/
theorem rule_tell (hx : XF S0 fv) (hm : ∀ i, i < 9 → M0 19 i = fv i) {r : Nat} (hR : RuleG (S0 28) (S0 29) (S0 30) (S0 31) (S0 26) (S0 27) (M0 14) (M0 15) (M0 16) (M0 17) (M0 13) r) : ∃ (L : Nat) (h : Int32) (v : Int32), (L = 100 ∨ L = 98 ∨ L = 120) ∧ S0 28 r = nI L ∧ M0 14 r = nI L ∧ (h = 0 ∨ h = 1) ∧ (L = 120 → v = 1) ∧ (∀ S, agX S0 S → ∃ S', f_Reckoner_reckon S (S0 30 r) (S0 31 r) = some (h, S') ∧ agX S0 S') ∧ (∀ S, agX S0 S → ∃ S', f_Reckoner_reckon S (S0 29 r) (S0 30 r) = some (v, S') ∧ agX S0 S') ∧ (∀ T, agM M0 T → ∃ T', f_Mo_reckonsTo T (M0 16 r) (M0 17 r) = some (h, T') ∧ agM M0 T') ∧ (L ≠ 120 → ∀ T, agM M0 T → ∃ T', f_Mo_reckonsTo T (M0 15 r) (M0 16 r) = some (v, T') ∧ agM M0 T') := by
  obtain ⟨L, s, m1, m2, m3, p1, e, c, h1, h2, h3, h4, h5, h6, h7, h8, h9, h10, ⟨nc, h11⟩, h12⟩ := hR
  have lc := sgC_lt _ _ _ _ h11
  refine ⟨L, vD ((c fv).map bI), vD (e fv), h1, h2, h3, ?_, ?_, fun S hS => ?_, fun S hS => ?_, fun T hT => ?_, fun hL T hT => ?_⟩
  · cases c fv with
    | none => exact Or.inl rfl
    | some x =>
      cases x with
      | false => exact Or.inl rfl
      | true => exact Or.inr rfl
  · intro z
    rcases h12 with ⟨a, -⟩ | ⟨-, -, -, -, a⟩
    · exact absurd z a
    · rw [a]; rfl
  · rw [h5, h6]
    exact x_tell (by omega) (by omega) (fun S hS => xC hx (by omega) rfl rfl nc c m2 m3 h11 (S0 41) S 0 hS (Nat.le_refl _) (by omega)) hS
  · rw [h4, h5]
    rcases h12 with ⟨-, a2, nv, a3⟩ | ⟨-, a2, a3, a4, a5⟩
    · have lv := sgV_lt _ _ _ _ _ a3
      rw [a2]
      exact x_tell (by omega) (by omega) (fun S hS => xV hx (by omega) rfl rfl nv 64 e m1 m2 a3 0 (S0 41) S 0 hS (by omega) (Nat.le_refl _) (by omega)) hS
    · rw [← a2, a5]
      refine x_tell (stk := S0 41) (by omega) (by omega) (fun S hS => ?_) hS
      exact XRes.leaf (by omega) (by omega) (by omega) hS (by omega) (Or.inl ⟨by rw [hS.1.1 26 (by omega) (by omega)]; exact a3, by rw [hS.1.1 27 (by omega) (by omega)]; exact a4⟩)
  · rw [h8, h9]
    exact m_tell (by omega) (by omega) (fun S hS => mC hm (by omega) rfl nc c m2 m3 h11 (M0 18) S hS (Nat.le_refl _)) hT
  · rw [h7, h8]
    rcases h12 with ⟨-, a2, nv, a3⟩ | ⟨a1, -⟩
    · have lv := sgV_lt _ _ _ _ _ a3
      exact m_tell (by omega) (by omega) (fun S hS => mV hm (by omega) rfl nv 64 e m1 m2 a3 0 (M0 18) S hS (by omega) (Nat.le_refl _)) hT
    · exact absurd a1 hL
theorem ask_law (hx : XF S0 fv) (hm : ∀ i, i < 9 → M0 19 i = fv i) (hL : LawR S0 M0) (hS : agX S0 S) (hT : agM M0 T) {L0 : Nat} (hl : L0 = 98 ∨ L0 = 100) (hi no : Int32) (h0 : 0 ≤ hi) : ∃ v S' T', f_Reckoner_ask S (nI L0) no hi = some (v, S') ∧ f_Mo_byLaw T (nI L0) hi no = some (v, T') ∧ agX S0 S' ∧ agM M0 T' ∧ (v = no ∨ (0 ≤ v ∧ v ≤ hi)) := by
  obtain ⟨n, hn, l1, l2, l3⟩ := hL
  obtain ⟨F0, hF0⟩ : ∃ F, FU = F := ⟨_, rfl⟩
  have hF0' : 300 < F0 := by rw [← hF0]; exact FU_gt (by omega)
  have key : ∀ m r F F' (S T : St), r + m = n → m < F → m < F' → agX S0 S → agM M0 T → ∃ v S' T', f_Reckoner_ask_3 F S (nI L0) no hi (nI r) = some (v, S') ∧ f_Mo_byLaw_3 F' T (nI L0) hi no (nI r) = some (v, T') ∧ agX S0 S' ∧ agM M0 T' ∧ (v = no ∨ (0 ≤ v ∧ v ≤ hi)) := by
    intro m
    induction m with
    | zero =>
      intro r F F' S T hr hF hF' hS hT
      obtain ⟨F, rfl⟩ : ∃ z, F = z + 1 := ⟨F - 1, by omega⟩
      obtain ⟨F', rfl⟩ : ∃ z, F' = z + 1 := ⟨F' - 1, by omega⟩
      refine ⟨no, S, T, ?_, ?_, hS, hT, Or.inl rfl⟩
      · rw [f_Reckoner_ask_3, hS.1 25 (by omega) (by omega), l1, if_pos (yle (by omega))]
      · rw [f_Mo_byLaw_3, hT 0 (by omega), l2, if_pos (yle (by omega))]
    | succ m ih =>
      intro r F F' S T hr hF hF' hS hT
      obtain ⟨F, rfl⟩ : ∃ z, F = z + 1 := ⟨F - 1, by omega⟩
      obtain ⟨F', rfl⟩ : ∃ z, F' = z + 1 := ⟨F' - 1, by omega⟩
      have g16 : ig (nI r) 16 = true := gn (by omega) (by omega)
      have c16 : (nI r).toNatClampNeg = r := cl
      obtain ⟨L, h, v, hLL, q1, q2, q3, q4, q5, q6, q7, q8⟩ := rule_tell hx hm (l3 r (by omega))
      rw [f_Reckoner_ask_3, hS.1 25 (by omega) (by omega), l1, if_neg (nle (by omega)), if_neg (n16 (by omega)), f_Mo_byLaw_3, hT 0 (by omega), l2, if_neg (nle (by omega))]
      simp only [g16, c16, ↓reduceIte]
      rw [hS.1 28 (by omega) (by omega), hS.1 30 (by omega) (by omega), hS.1 31 (by omega) (by omega), q1, hT 14 (by omega), hT 16 (by omega), hT 17 (by omega), q2]
      unfold f_Reckoner_ask_96 f_Mo_byLaw_90
      simp only [Option.bind_some, nI_1]
      by_cases e : nI L = nI L0
      · have eL : L = L0 := nI_inj (by omega) (by omega) e
        rw [if_pos e, if_pos e]
        obtain ⟨S1, a1, a2⟩ := q5 S hS
        obtain ⟨T1, b1, b2⟩ := q7 T hT
        rw [a1, b1, Option.bind_some, Option.bind_some]
        rcases q3 with h0' | h1'
        · simp only [h0', ↓reduceIte, i01]
          exact ih (r + 1) F F' S1 T1 (by omega) (by omega) (by omega) a2 b2
        · simp only [h1', ↓reduceIte, i10]
          rw [a2.1 29 (by omega) (by omega), a2.1 30 (by omega) (by omega), b2 15 (by omega), b2 16 (by omega)]
          obtain ⟨S2, a3, a4⟩ := q6 S1 a2
          obtain ⟨T2, b3, b4⟩ := q8 (by omega) T1 b2
          rw [a3, b3, Option.bind_some, Option.bind_some]
          refine ⟨jmax 0 (jmin hi v), S2, T2, rfl, ?_, a4, b4, ?_⟩
          · rw [clampI hi v h0]
            show (if 0 ≤ v then _ else _) = _
            by_cases c1 : 0 ≤ v
            · rw [if_pos c1, if_pos c1]
              by_cases c2 : v ≤ hi
              · rw [if_pos c2, if_pos c2]
              · rw [if_neg c2, if_neg c2]
            · rw [if_neg c1, if_neg c1]
          · rw [clampI hi v h0]
            refine Or.inr ?_
            split
            · rename_i c1
              split
              · rename_i c2; exact ⟨c1, c2⟩
              · exact ⟨h0, by rw [fa_le]; omega⟩
            · exact ⟨by decide, h0⟩
      · rw [if_neg e, if_neg e]
        exact ih (r + 1) F F' S T (by omega) (by omega) (by omega) hS hT
  unfold f_Reckoner_ask f_Mo_byLaw
  rw [Option.bind_some, Option.bind_some, hF0]
  exact key n 0 F0 F0 S T (by omega) (by omega) (by omega) hS hT
theorem ask_any (hx : XF S0 fv) (hm : ∀ i, i < 9 → M0 19 i = fv i) (hL : LawR S0 M0) (hS : agX S0 S) (hT : agM M0 T) : ∃ v S' T', f_Reckoner_ask S 120 0 1 = some (v, S') ∧ f_Mo_holdsAny T 120 = some (v, T') ∧ agX S0 S' ∧ agM M0 T' ∧ (v = 0 ∨ v = 1) := by
  obtain ⟨n, hn, l1, l2, l3⟩ := hL
  obtain ⟨F0, hF0⟩ : ∃ F, FU = F := ⟨_, rfl⟩
  have hF0' : 300 < F0 := by rw [← hF0]; exact FU_gt (by omega)
  have key : ∀ m r F F' (S T : St), r + m = n → m < F → m < F' → agX S0 S → agM M0 T → ∃ v S' T', f_Reckoner_ask_3 F S (nI 120) 0 1 (nI r) = some (v, S') ∧ f_Mo_holdsAny_2 F' T (nI 120) (nI r) = some (v, T') ∧ agX S0 S' ∧ agM M0 T' ∧ (v = 0 ∨ v = 1) := by
    intro m
    induction m with
    | zero =>
      intro r F F' S T hr hF hF' hS hT
      obtain ⟨F, rfl⟩ : ∃ z, F = z + 1 := ⟨F - 1, by omega⟩
      obtain ⟨F', rfl⟩ : ∃ z, F' = z + 1 := ⟨F' - 1, by omega⟩
      refine ⟨0, S, T, ?_, ?_, hS, hT, Or.inl rfl⟩
      · rw [f_Reckoner_ask_3, hS.1 25 (by omega) (by omega), l1, if_pos (yle (by omega))]
      · rw [f_Mo_holdsAny_2, hT 0 (by omega), l2, if_pos (yle (by omega))]
    | succ m ih =>
      intro r F F' S T hr hF hF' hS hT
      obtain ⟨F, rfl⟩ : ∃ z, F = z + 1 := ⟨F - 1, by omega⟩
      obtain ⟨F', rfl⟩ : ∃ z, F' = z + 1 := ⟨F' - 1, by omega⟩
      have g16 : ig (nI r) 16 = true := gn (by omega) (by omega)
      have c16 : (nI r).toNatClampNeg = r := cl
      obtain ⟨L, h, v, hLL, q1, q2, q3, q4, q5, q6, q7, q8⟩ := rule_tell hx hm (l3 r (by omega))
      rw [f_Reckoner_ask_3, hS.1 25 (by omega) (by omega), l1, if_neg (nle (by omega)), if_neg (n16 (by omega)), f_Mo_holdsAny_2, hT 0 (by omega), l2, if_neg (nle (by omega))]
      simp only [g16, c16, ↓reduceIte]
      rw [hS.1 28 (by omega) (by omega), hS.1 30 (by omega) (by omega), hS.1 31 (by omega) (by omega), q1, hT 14 (by omega), hT 16 (by omega), hT 17 (by omega), q2]
      unfold f_Reckoner_ask_96 f_Mo_holdsAny_42
      simp only [Option.bind_some, nI_1]
      by_cases e : nI L = nI 120
      · have eL : L = 120 := nI_inj (by omega) (by omega) e
        rw [if_pos e, if_pos e]
        obtain ⟨S1, a1, a2⟩ := q5 S hS
        obtain ⟨T1, b1, b2⟩ := q7 T hT
        rw [a1, b1, Option.bind_some, Option.bind_some]
        rcases q3 with h0' | h1'
        · simp only [h0', ↓reduceIte, i01]
          exact ih (r + 1) F F' S1 T1 (by omega) (by omega) (by omega) a2 b2
        · simp only [h1', ↓reduceIte, i10]
          rw [a2.1 29 (by omega) (by omega), a2.1 30 (by omega) (by omega)]
          obtain ⟨S2, a3, a4⟩ := q6 S1 a2
          rw [a3, Option.bind_some, q4 eL]
          exact ⟨1, S2, T1, rfl, rfl, a4, b2, Or.inr rfl⟩
      · rw [if_neg e, if_neg e]
        exact ih (r + 1) F F' S T (by omega) (by omega) (by omega) hS hT
  unfold f_Reckoner_ask f_Mo_holdsAny
  rw [Option.bind_some, Option.bind_some, hF0]
  exact key n 0 F0 F0 S T (by omega) (by omega) (by omega) hS hT
end ASK
