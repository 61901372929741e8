/-! THE LAW'S MACHINES: both come to what the text means -/
abbrev SV := (Nat → Int32) → Option Int32
abbrev SC := (Nat → Int32) → Option Bool
def rkI (o : Nat) (x y : Int32) : Int32 := if o = 2 then x + y else if o = 3 then x - y else if o = 4 then x * y else if o = 5 then x / y else if o = 6 then jrem x y else if o = 7 then (if y ≤ x then 0 else 1) else if o = 8 then (if x ≤ y then 0 else 1) else if x = y then 1 else 0
def opV (o : Nat) (a b : SV) : SV := fun f => (a f).bind fun x => (b f).bind fun y => if (o = 5 ∨ o = 6) ∧ y = 0 then none else some (rkI o x y)
def cmpC (o : Nat) (a b : SV) : SC := fun f => (a f).bind fun x => (b f).bind fun y => some (decide (rkI o x y = 1))
def notC (a : SC) : SC := fun f => (a f).map fun x => !x
def jmpC (t : Bool) (a b : SC) : SC := fun f => (a f).bind fun x => if x = t then some t else b f
def bI (b : Bool) : Int32 := if b then 1 else 0
def chr (o : Nat) : Nat := if o = 2 then 43 else if o = 3 then 45 else if o = 4 then 42 else if o = 5 then 47 else if o = 6 then 37 else if o = 7 then 60 else if o = 8 then 62 else 61
def fch (i : Nat) : Nat := if i = 0 then 107 else if i = 1 then 112 else if i = 2 then 110 else if i = 3 then 108 else if i = 4 then 105 else if i = 5 then 109 else if i = 6 then 111 else if i = 7 then 116 else 119
def sgV (st de cd : Nat → Int32) (s : Nat) : Nat → Nat → SV → Nat → Nat → Prop
  | 0, _, _, _, _ => False
  | n + 1, w, e, p, q => (∃ v, v < 100000 ∧ q = p + 1 ∧ 1 ≤ w ∧ st (p + s) = 0 ∧ de (p + s) = nI v ∧ cd p = nI v ∧ e = fun _ => some (nI v)) ∨ (∃ i, i < 9 ∧ q = p + 1 ∧ 1 ≤ w ∧ st (p + s) = 1 ∧ de (p + s) = nI (fch i) ∧ cd p = nI (1048576 + i) ∧ e = fun f => some (f i)) ∨ (∃ o a b m k, 2 ≤ o ∧ o ≤ 6 ∧ 1 ≤ w ∧ sgV st de cd s n w a p m ∧ sgV st de cd s n (w - 1) b m k ∧ q = k + 1 ∧ st (k + s) = nI (chr o) ∧ cd k = nI (1048576 * o) ∧ e = opV o a b)
def sgC (st de cd : Nat → Int32) (s : Nat) : Nat → SC → Nat → Nat → Prop
  | 0, _, _, _ => False
  | n + 1, c, p, q => (∃ o a b m k na nb, 7 ≤ o ∧ o ≤ 9 ∧ sgV st de cd s na 63 a p m ∧ sgV st de cd s nb 63 b m k ∧ q = k + 1 ∧ st (k + s) = nI (chr o) ∧ cd k = nI (1048576 * o) ∧ c = cmpC o a b) ∨ (∃ a k, sgC st de cd s n a p k ∧ q = k + 1 ∧ st (k + s) = 2 ∧ cd k = nI (1048576 * 10) ∧ c = notC a) ∨ (∃ (t : Bool) (a b : SC) (m : Nat), sgC st de cd s n a p m ∧ sgC st de cd s n b (m + 1) q ∧ st (m + s) = (if t then 3 else 4) ∧ de (m + s) = nI (q + s) ∧ cd m = nI (1048576 * (if t then 12 else 11) + q) ∧ c = jmpC t a b)
section SG
variable {st de cd st' de' cd' : Nat → Int32} {s : Nat}
theorem sgV_lt : ∀ n w e p q, sgV st de cd s n w e p q → p < q
  | 0, _, _, _, _, h => h.elim
  | n + 1, w, e, p, q, h => by
    rcases h with ⟨v, -, h, -⟩ | ⟨v, -, h, -⟩ | ⟨o, a, b, m, k, -, -, -, h1, h2, h, -⟩
    · omega
    · omega
    · have := sgV_lt n w a p m h1
      have := sgV_lt n _ b m k h2
      omega
theorem sgV_w : ∀ n w e p q, sgV st de cd s n w e p q → 1 ≤ w
  | 0, _, _, _, _, h => h.elim
  | n + 1, w, e, p, q, h => by
    rcases h with ⟨v, -, -, h, -⟩ | ⟨v, -, -, h, -⟩ | ⟨o, a, b, m, k, -, -, h, -⟩ <;> exact h
theorem sgC_lt : ∀ n c p q, sgC st de cd s n c p q → p < q
  | 0, _, _, _, h => h.elim
  | n + 1, c, p, q, h => by
    rcases h with ⟨o, a, b, m, k, na, nb, -, -, h1, h2, h, -⟩ | ⟨a, k, h1, h, -⟩ | ⟨t, a, b, m, h1, h2, -⟩
    · have := sgV_lt _ _ _ _ _ h1
      have := sgV_lt _ _ _ _ _ h2
      omega
    · have := sgC_lt n a p k h1
      omega
    · have := sgC_lt n a p m h1
      have := sgC_lt n b _ q h2
      omega
theorem sgV_congr : ∀ n w e p q, (∀ i, p ≤ i → i < q → st' (i + s) = st (i + s) ∧ de' (i + s) = de (i + s) ∧ cd' i = cd i) → sgV st de cd s n w e p q → sgV st' de' cd' s n w e p q
  | 0, _, _, _, _, _, h => h.elim
  | n + 1, w, e, p, q, hc, h => by
    rcases h with ⟨v, h1, h2, h3, h4, h5, h6, h7⟩ | ⟨v, h1, h2, h3, h4, h5, h6, h7⟩ | ⟨o, a, b, m, k, h1, h2, h3, h4, h5, h6, h7, h8, h9⟩
    · obtain ⟨c1, c2, c3⟩ := hc p (Nat.le_refl _) (by omega)
      exact Or.inl ⟨v, h1, h2, h3, by rw [c1]; exact h4, by rw [c2]; exact h5, by rw [c3]; exact h6, h7⟩
    · obtain ⟨c1, c2, c3⟩ := hc p (Nat.le_refl _) (by omega)
      exact Or.inr (Or.inl ⟨v, h1, h2, h3, by rw [c1]; exact h4, by rw [c2]; exact h5, by rw [c3]; exact h6, h7⟩)
    · have l1 := sgV_lt _ _ _ _ _ h4
      have l2 := sgV_lt _ _ _ _ _ h5
      obtain ⟨c1, c2, c3⟩ := hc k (by omega) (by omega)
      exact Or.inr (Or.inr ⟨o, a, b, m, k, h1, h2, h3, sgV_congr n w a p m (fun i a b => hc i (by omega) (by omega)) h4, sgV_congr n _ b m k (fun i a b => hc i (by omega) (by omega)) h5, h6, by rw [c1]; exact h7, by rw [c3]; exact h8, h9⟩)
theorem sgC_congr : ∀ n c p q, (∀ i, p ≤ i → i < q → st' (i + s) = st (i + s) ∧ de' (i + s) = de (i + s) ∧ cd' i = cd i) → sgC st de cd s n c p q → sgC st' de' cd' s n c p q
  | 0, _, _, _, _, h => h.elim
  | n + 1, c, p, q, hc, h => by
    rcases h with ⟨o, a, b, m, k, na, nb, h1, h2, h3, h4, h5, h6, h7, h8⟩ | ⟨a, k, h1, h2, h3, h4, h5⟩ | ⟨t, a, b, m, h1, h2, h3, h4, h5, h6⟩
    · have l1 := sgV_lt _ _ _ _ _ h3
      have l2 := sgV_lt _ _ _ _ _ h4
      obtain ⟨c1, c2, c3⟩ := hc k (by omega) (by omega)
      exact Or.inl ⟨o, a, b, m, k, na, nb, h1, h2, sgV_congr _ _ a p m (fun i a b => hc i (by omega) (by omega)) h3, sgV_congr _ _ b m k (fun i a b => hc i (by omega) (by omega)) h4, h5, by rw [c1]; exact h6, by rw [c3]; exact h7, h8⟩
    · have l1 := sgC_lt _ _ _ _ h1
      obtain ⟨c1, c2, c3⟩ := hc k (by omega) (by omega)
      exact Or.inr (Or.inl ⟨a, k, sgC_congr n a p k (fun i a b => hc i (by omega) (by omega)) h1, h2, by rw [c1]; exact h3, by rw [c3]; exact h4, h5⟩)
    · have l1 := sgC_lt _ _ _ _ h1
      have l2 := sgC_lt _ _ _ _ h2
      obtain ⟨c1, c2, c3⟩ := hc m (by omega) (by omega)
      exact Or.inr (Or.inr ⟨t, a, b, m, sgC_congr n a p m (fun i a b => hc i (by omega) (by omega)) h1, sgC_congr n b _ q (fun i a b => hc i (by omega) (by omega)) h2, by rw [c1]; exact h3, by rw [c2]; exact h4, by rw [c3]; exact h5, h6⟩)
theorem sgV_mono : ∀ n w e p q, sgV st de cd s n w e p q → ∀ n' w', n ≤ n' → w ≤ w' → sgV st de cd s n' w' e p q
  | 0, _, _, _, _, h, _, _, _, _ => h.elim
  | n + 1, w, e, p, q, h, n', w', hn, hw => by
    obtain ⟨n', rfl⟩ : ∃ z, n' = z + 1 := ⟨n' - 1, by omega⟩
    rcases h with ⟨v, h1, h2, h3, h4⟩ | ⟨v, h1, h2, h3, h4⟩ | ⟨o, a, b, m, k, h1, h2, h3, h4, h5, h6⟩
    · exact Or.inl ⟨v, h1, h2, by omega, h4⟩
    · exact Or.inr (Or.inl ⟨v, h1, h2, by omega, h4⟩)
    · exact Or.inr (Or.inr ⟨o, a, b, m, k, h1, h2, by omega, sgV_mono n w a p m h4 n' w' (by omega) hw, sgV_mono n _ b m k h5 n' _ (by omega) (by omega), h6⟩)
theorem sgC_mono : ∀ n c p q, sgC st de cd s n c p q → ∀ n', n ≤ n' → sgC st de cd s n' c p q
  | 0, _, _, _, h, _, _ => h.elim
  | n + 1, c, p, q, h, n', hn => by
    obtain ⟨n', rfl⟩ : ∃ z, n' = z + 1 := ⟨n' - 1, by omega⟩
    rcases h with h | ⟨a, k, h1, h2⟩ | ⟨t, a, b, m, h1, h2, h3⟩
    · exact Or.inl h
    · exact Or.inr (Or.inl ⟨a, k, sgC_mono n a p k h1 n' (by omega), h2⟩)
    · exact Or.inr (Or.inr ⟨t, a, b, m, sgC_mono n a p m h1 n' (by omega), sgC_mono n b _ q h2 n' (by omega), h3⟩)
end SG
/-! the class's machine -/
def agX (S0 S : St) : Prop := (∀ k, k ≠ 40 → k ≠ 41 → S k = S0 k) ∧ S 40 4 = S0 40 4 ∧ S 40 5 = S0 40 5 ∧ S 40 6 = S0 40 6
def XS (S0 S : St) (d : Nat) (stk : Nat → Int32) : Prop := agX S0 S ∧ S 40 2 = nI d ∧ S 40 3 = 0 ∧ ∀ j, j < d → S 41 j = stk j
theorem agX.refl (S : St) : agX S S := ⟨fun _ _ _ => rfl, rfl, rfl, rfl⟩
theorem agX.trans {A B C : St} (h : agX A B) (h' : agX B C) : agX A C := ⟨fun k a b => by rw [h'.1 k a b, h.1 k a b], by rw [h'.2.1, h.2.1], by rw [h'.2.2.1, h.2.2.1], by rw [h'.2.2.2, h.2.2.2]⟩
section XM
variable {S0 S : St} {d : Nat} {stk stk' : Nat → Int32}
theorem agX.set (h : agX S0 S) {r j : Nat} {v : Int32} (hr : (r = 40 ∧ j ≤ 3) ∨ r = 41) : agX S0 (sF S r j v) := by
  obtain ⟨h1, h2, h3, h4⟩ := h
  refine ⟨fun k a b => by rw [sF_rne (by omega)]; exact h1 k a b, ?_, ?_, ?_⟩
  · rw [sF_ne (by omega)]; exact h2
  · rw [sF_ne (by omega)]; exact h3
  · rw [sF_ne (by omega)]; exact h4
theorem XS.sk (h : XS S0 S d stk) (e : ∀ j, j < d → stk' j = stk j) : XS S0 S d stk' := ⟨h.1, h.2.1, h.2.2.1, fun j hj => by rw [e j hj]; exact h.2.2.2 j hj⟩
theorem x_push (h : XS S0 S d stk) (hd : d < 64) (v : Int32) : ∃ S', f_Reckoner_push S v = some S' ∧ XS S0 S' (d + 1) (upd stk d v) := by
  obtain ⟨h1, h2, h3, h4⟩ := h
  have c1 : (nI d).toNatClampNeg = d := cl
  refine ⟨sF (sF S 41 d v) 40 2 (nI (d + 1)), ?_, (h1.set (Or.inr rfl)).set (Or.inl ⟨rfl, by omega⟩), sF_at, ?_, fun j hj => ?_⟩
  · unfold f_Reckoner_push
    rw [h2, if_neg (show ¬ (64 : Int32) ≤ nI d from nle (b := 64) hd), if_pos (gn hd (by omega)), c1, Option.bind_some, sF_ne (by omega), h2, Option.bind_some, nI_1]
  · rw [sF_ne (by omega), sF_ne (by omega)]; exact h3
  · rw [sF_ne (by omega)]
    by_cases e : j = d
    · subst e; rw [sF_at, pk_us]
    · rw [sF_ne (Or.inr e), pk_un e]; exact h4 j (by omega)
theorem x_pop (h : XS S0 S (d + 1) stk) (hd : d < 64) : ∃ S', f_Reckoner_pop S = some (stk d, S') ∧ XS S0 S' d stk := by
  obtain ⟨h1, h2, h3, h4⟩ := h
  have c1 : (nI d).toNatClampNeg = d := cl
  have e1 : nI (d + 1) - 1 = nI d := pk_sub (a := d + 1) (b := 1) (by omega)
  refine ⟨sF S 40 2 (nI d), ?_, h1.set (Or.inl ⟨rfl, by omega⟩), sF_at, ?_, fun j hj => ?_⟩
  · unfold f_Reckoner_pop
    rw [h2, if_pos (show 0 < nI (d + 1) from ylt (a := 0) (by omega)), Option.bind_some, e1, sF_at, if_pos (gn hd (by omega)), c1, sF_ne (by omega), h4 d (by omega)]
  · rw [sF_ne (by omega)]; exact h3
  · rw [sF_ne (by omega)]; exact h4 j (by omega)
theorem x_join {o : Nat} (h1 : 2 ≤ o) (h2 : o ≤ 9) (x y : Int32) : f_Reckoner_joined S (nI (chr o)) x y = if (o = 5 ∨ o = 6) ∧ y = 0 then some (0, sF S 40 3 1) else some (rkI o x y, S) := by
  have hh : o = 2 ∨ o = 3 ∨ o = 4 ∨ o = 5 ∨ o = 6 ∨ o = 7 ∨ o = 8 ∨ o = 9 := by omega
  unfold f_Reckoner_joined f_Reckoner_joined_12 f_Reckoner_joined_23 rkI
  rcases hh with e | e | e | e | e | e | e | e
  · subst e; rfl
  · subst e; rfl
  · subst e; rfl
  · subst e
    by_cases hy : y = 0
    · simp (decide := true) only [hy, ↓reduceIte, Option.bind_some, true_and, true_or]
    · simp (decide := true) only [hy, ↓reduceIte, Option.bind_some, and_false, not_false_eq_true]
  · subst e
    by_cases hy : y = 0
    · simp (decide := true) only [hy, ↓reduceIte, Option.bind_some, true_and, or_true]
    · simp (decide := true) only [hy, ↓reduceIte, Option.bind_some, and_false, not_false_eq_true]
  · subst e
    by_cases hy : y ≤ x
    · simp (decide := true) only [hy, ↓reduceIte, false_and, or_self]
    · simp (decide := true) only [hy, ↓reduceIte, false_and, or_self]
  · subst e
    by_cases hy : x ≤ y
    · simp (decide := true) only [hy, ↓reduceIte, false_and, or_self]
    · simp (decide := true) only [hy, ↓reduceIte, false_and, or_self]
  · subst e
    by_cases hy : x = y
    · simp (decide := true) only [hy, ↓reduceIte, false_and, or_self]
    · simp (decide := true) only [hy, ↓reduceIte, false_and, or_self]
def XRes (S0 S : St) (to p i q d : Nat) (stk : Nat → Int32) (r : Option Int32) : Prop := ∃ n, n ≤ q - p ∧ ((∃ v S', r = some v ∧ XS S0 S' (d + 1) (upd stk d v) ∧ ∀ F, f_Reckoner_reckon_15 (F + n) S (nI to) (nI p) (nI i) = f_Reckoner_reckon_15 F S' (nI to) (nI q) (nI (i + n))) ∨ (∃ S', r = none ∧ agX S0 S' ∧ ∀ F, f_Reckoner_reckon_15 (F + n) S (nI to) (nI p) (nI i) = some (0, S')))
theorem x15 {to p i : Nat} (hp : p < to) (hto : to ≤ 240) (hi : i < 240) (F : Nat) {l5 l6 : Int32} (h5 : S 26 p = l5) (h6 : S 27 p = l6) : f_Reckoner_reckon_15 (F + 1) S (nI to) (nI p) (nI i) = (if l5 = 0 then (
    (f_Reckoner_push S l6).bind fun w_72 =>
    f_Reckoner_reckon_190 (f_Reckoner_reckon_15 F) w_72 (nI to) (nI (p + 1)) (nI i))
    else (
    if l5 = 1 then (
    (f_Reckoner_fact S l6).bind fun v_88 =>
    (f_Reckoner_push S v_88).bind fun w_91 =>
    f_Reckoner_reckon_190 (f_Reckoner_reckon_15 F) w_91 (nI to) (nI (p + 1)) (nI i))
    else (
    (f_Reckoner_pop S).bind fun w_98 =>
    if l5 = 2 then (
    if w_98.1 = 0 then (
    f_Reckoner_reckon_120 (f_Reckoner_reckon_15 F) w_98.2 (nI to) (nI (p + 1)) (nI i) (1 : Int32))
    else (
    f_Reckoner_reckon_120 (f_Reckoner_reckon_15 F) w_98.2 (nI to) (nI (p + 1)) (nI i) (0 : Int32)))
    else (
    if l5 = 3 then (
    f_Reckoner_reckon_157 (f_Reckoner_reckon_15 F) w_98.2 (nI to) (nI (p + 1)) (nI i) l5 l6 w_98.1)
    else (
    if l5 = 4 then (
    f_Reckoner_reckon_157 (f_Reckoner_reckon_15 F) w_98.2 (nI to) (nI (p + 1)) (nI i) l5 l6 w_98.1)
    else (
    (f_Reckoner_pop w_98.2).bind fun w_143 =>
    (f_Reckoner_joined w_143.2 l5 w_143.1 w_98.1).bind fun w_148 =>
    (f_Reckoner_push w_148.2 w_148.1).bind fun w_151 =>
    f_Reckoner_reckon_190 (f_Reckoner_reckon_15 F) w_151 (nI to) (nI (p + 1)) (nI i))))))) := by
  have c1 : (nI p).toNatClampNeg = p := cl
  rw [f_Reckoner_reckon_15, if_neg (show ¬ (240 : Int32) ≤ nI i from nle (b := 240) hi), if_neg (nI_lt0 (by omega)), if_neg (nle hp), if_neg (show ¬ (240 : Int32) ≤ nI p from nle (b := 240) (by omega)), if_pos (gn (by omega) (by omega)), c1, h5, h6]
  simp only [Option.bind_some, nI_1, gn (show p < 240 by omega) (by omega), ↓reduceIte]
theorem x190 (h : XS S0 S d stk) {k : St → Int32 → Int32 → Int32 → Option (Int32 × St)} {a b : Int32} {i : Nat} : f_Reckoner_reckon_190 k S a b (nI i) = k S a b (nI (i + 1)) := by
  unfold f_Reckoner_reckon_190
  rw [if_pos h.2.2.1, Option.bind_some, nI_1]
theorem XRes.leaf {to p i : Nat} (hp : p < to) (hto : to ≤ 240) (hi : i < 240) {v : Int32} (h : XS S0 S d stk) (hd : d < 64) (hc : (S 26 p = 0 ∧ S 27 p = v) ∨ (S 26 p = 1 ∧ f_Reckoner_fact S (S 27 p) = some v)) : XRes S0 S to p i (p + 1) d stk (some v) := by
  obtain ⟨S', e1, e2⟩ := x_push h hd v
  refine ⟨1, by omega, Or.inl ⟨v, S', rfl, e2, fun F => ?_⟩⟩
  rcases hc with ⟨h1, h2⟩ | ⟨h1, h2⟩
  · rw [x15 hp hto hi F h1 h2, if_pos rfl, e1, Option.bind_some, x190 e2]
  · rw [x15 hp hto hi F h1 rfl, if_neg (by decide), if_pos rfl, h2, Option.bind_some, e1, Option.bind_some, x190 e2]
theorem chr_n {o : Nat} (h1 : 2 ≤ o) (h2 : o ≤ 9) : ¬ nI (chr o) = 0 ∧ ¬ nI (chr o) = 1 ∧ ¬ nI (chr o) = 2 ∧ ¬ nI (chr o) = 3 ∧ ¬ nI (chr o) = 4 := by
  have hh : o = 2 ∨ o = 3 ∨ o = 4 ∨ o = 5 ∨ o = 6 ∨ o = 7 ∨ o = 8 ∨ o = 9 := by omega
  rcases hh with e | e | e | e | e | e | e | e <;> subst e <;> decide
/-- an operation on the two on top -/
theorem XRes.op {to p i o : Nat} (hp : p < to) (hto : to ≤ 240) (hi : i < 240) {x y : Int32} (h : XS S0 S (d + 2) (upd (upd stk d x) (d + 1) y)) (hd : d < 63) (h1 : 2 ≤ o) (h2 : o ≤ 9) (hc : S 26 p = nI (chr o)) : XRes S0 S to p i (p + 1) d stk (if (o = 5 ∨ o = 6) ∧ y = 0 then none else some (rkI o x y)) := by
  obtain ⟨S1, e1, e2⟩ := x_pop h (by omega)
  obtain ⟨S2, e3, e4⟩ := x_pop e2 (by omega)
  obtain ⟨n0, n1, n2, n3, n4⟩ := chr_n h1 h2
  have v1 : upd (upd stk d x) (d + 1) y (d + 1) = y := pk_us
  have v2 : upd (upd stk d x) (d + 1) y d = x := by rw [pk_un (by omega), pk_us]
  rw [v1] at e1
  rw [v2] at e3
  have st : ∀ j, j < d → stk j = upd (upd stk d x) (d + 1) y j := fun j hj => by rw [pk_un (by omega), pk_un (by omega)]
  have e4' := e4.sk st
  by_cases hz : (o = 5 ∨ o = 6) ∧ y = 0
  · rw [if_pos hz]
    obtain ⟨S3, e5⟩ : ∃ S3, f_Reckoner_push (sF S2 40 3 1) 0 = some S3 ∧ agX S0 S3 ∧ S3 40 3 = 1 := by
      have c1 : (nI d).toNatClampNeg = d := cl
      refine ⟨sF (sF (sF S2 40 3 1) 41 d 0) 40 2 (nI (d + 1)), ?_, ((e4.1.set (Or.inl ⟨rfl, by omega⟩)).set (Or.inr rfl)).set (Or.inl ⟨rfl, by omega⟩), ?_⟩
      · unfold f_Reckoner_push
        have q : sF S2 40 3 1 40 2 = nI d := by rw [sF_ne (by omega)]; exact e4.2.1
        rw [q, if_neg (show ¬ (64 : Int32) ≤ nI d from nle (b := 64) (by omega)), if_pos (gn (by omega) (by omega)), c1, Option.bind_some, sF_ne (by omega), q, Option.bind_some, nI_1]
      · rw [sF_ne (by omega), sF_ne (by omega), sF_at]
    refine ⟨1, by omega, Or.inr ⟨S3, rfl, e5.2.1, fun F => ?_⟩⟩
    rw [x15 hp hto hi F hc rfl, if_neg n0, if_neg n1, e1, Option.bind_some, if_neg n2, if_neg n3, if_neg n4, e3, Option.bind_some, x_join h1 h2, if_pos hz, Option.bind_some, e5.1, Option.bind_some]
    unfold f_Reckoner_reckon_190
    rw [e5.2.2, if_neg i10]
  · rw [if_neg hz]
    obtain ⟨S3, e5, e6⟩ := x_push e4' (by omega) (rkI o x y)
    refine ⟨1, by omega, Or.inl ⟨_, S3, rfl, e6, fun F => ?_⟩⟩
    rw [x15 hp hto hi F hc rfl, if_neg n0, if_neg n1, e1, Option.bind_some, if_neg n2, if_neg n3, if_neg n4, e3, Option.bind_some, x_join h1 h2, if_neg hz, Option.bind_some, e5, Option.bind_some, x190 e6]
/-- one behind the other -/
theorem XRes.seq {to p i m q : Nat} {r : Option Int32} {g : Int32 → Option Int32} (hpm : p ≤ m) (hmq : m ≤ q) (h : XRes S0 S to p i m d stk r) (h2 : ∀ v S' i', r = some v → XS S0 S' (d + 1) (upd stk d v) → i' ≤ i + (m - p) → ∃ n, n ≤ q - m ∧ ((∃ u S'', g v = some u ∧ XS S0 S'' (d + 1) (upd stk d u) ∧ ∀ F, f_Reckoner_reckon_15 (F + n) S' (nI to) (nI m) (nI i') = f_Reckoner_reckon_15 F S'' (nI to) (nI q) (nI (i' + n))) ∨ (∃ S'', g v = none ∧ agX S0 S'' ∧ ∀ F, f_Reckoner_reckon_15 (F + n) S' (nI to) (nI m) (nI i') = some (0, S'')))) : XRes S0 S to p i q d stk (r.bind g) := by
  obtain ⟨n, hn, ⟨v, S', e1, e2, e3⟩ | ⟨S', e1, e2, e3⟩⟩ := h
  · obtain ⟨n', hn', ⟨u, S'', a1, a2, a3⟩ | ⟨S'', a1, a2, a3⟩⟩ := h2 v S' (i + n) e1 e2 (by omega)
    · refine ⟨n' + n, by omega, Or.inl ⟨u, S'', by rw [e1, Option.bind_some, a1], a2, fun F => ?_⟩⟩
      rw [← Nat.add_assoc, e3, a3, show i + n + n' = i + (n' + n) by omega]
    · refine ⟨n' + n, by omega, Or.inr ⟨S'', by rw [e1, Option.bind_some, a1], a2, fun F => ?_⟩⟩
      rw [← Nat.add_assoc, e3, a3]
  · exact ⟨n, by omega, Or.inr ⟨S', by rw [e1]; rfl, e2, e3⟩⟩
variable {st de cd : Nat → Int32} {s : Nat} {fv : Nat → Int32}
def XF (S0 : St) (fv : Nat → Int32) : Prop := ∀ S, agX S0 S → ∀ i, i < 9 → f_Reckoner_fact S (nI (fch i)) = some (fv i)
theorem xV (hf : XF S0 fv) {to : Nat} (hto : to ≤ 240) (h26 : S0 26 = st) (h27 : S0 27 = de) : ∀ n w e p q, sgV st de cd s n w e p q → ∀ d stk S i, XS S0 S d stk → d + w ≤ 64 → q + s ≤ to → i ≤ p + s → XRes S0 S to (p + s) i (q + s) d stk (e fv) := by
  intro n
  induction n with
  | zero => intro w e p q h; exact h.elim
  | succ n ih =>
    intro w e p q h d stk S i hS hd hq hi
    have s26 : S 26 = st := by rw [hS.1.1 26 (by omega) (by omega)]; exact h26
    have s27 : S 27 = de := by rw [hS.1.1 27 (by omega) (by omega)]; exact h27
    rcases h with ⟨v, h1, h2, h3, h4, h5, h6, h7⟩ | ⟨v, h1, h2, h3, h4, h5, h6, h7⟩ | ⟨o, a, b, m, k, h1, h2, h3, h4, h5, h6, h7, h8, h9⟩
    · rw [h2, h7, show p + 1 + s = p + s + 1 by omega]
      exact XRes.leaf (by omega) hto (by omega) hS (by omega) (Or.inl ⟨by rw [s26]; exact h4, by rw [s27]; exact h5⟩)
    · rw [h2, h7, show p + 1 + s = p + s + 1 by omega]
      exact XRes.leaf (by omega) hto (by omega) hS (by omega) (Or.inr ⟨by rw [s26]; exact h4, by rw [s27, h5]; exact hf S hS.1 v h1⟩)
    · have l1 := sgV_lt _ _ _ _ _ h4
      have l2 := sgV_lt _ _ _ _ _ h5
      have l3 := sgV_w _ _ _ _ _ h5
      rw [h9]
      show XRes S0 S to (p + s) i (q + s) d stk ((a fv).bind fun x => (b fv).bind fun y => if (o = 5 ∨ o = 6) ∧ y = 0 then none else some (rkI o x y))
      refine XRes.seq (m := m + s) (by omega) (by omega) (ih w a p m h4 d stk S i hS hd (by omega) hi) (fun x S1 i1 _ hS1 hi1 => ?_)
      have hb := ih (w - 1) b m k h5 (d + 1) (upd stk d x) S1 i1 hS1 (by omega) (by omega) (by omega)
      obtain ⟨n', hn', ⟨y, S', e1, e2, e3⟩ | ⟨S', e1, e2, e3⟩⟩ := hb
      · have t26 : S' 26 = st := by rw [e2.1.1 26 (by omega) (by omega)]; exact h26
        obtain ⟨n2, hn2, hr⟩ := XRes.op (i := i1 + n') (p := k + s) (to := to) (by omega) hto (by omega) e2 (by omega) h1 (by omega) (by rw [t26]; exact h7)
        refine ⟨n2 + n', by omega, ?_⟩
        rw [e1, Option.bind_some]
        rcases hr with ⟨u, S'', a1, a2, a3⟩ | ⟨S'', a1, a2, a3⟩
        · refine Or.inl ⟨u, S'', a1, a2, fun F => ?_⟩
          rw [← Nat.add_assoc, e3, a3, h6, show k + 1 + s = k + s + 1 by omega, show i1 + n' + n2 = i1 + (n2 + n') by omega]
        · refine Or.inr ⟨S'', a1, a2, fun F => ?_⟩
          rw [← Nat.add_assoc, e3, a3]
      · refine ⟨n', by omega, Or.inr ⟨S', by rw [e1]; rfl, e2, e3⟩⟩
theorem xC (hf : XF S0 fv) {to : Nat} (hto : to ≤ 240) (h26 : S0 26 = st) (h27 : S0 27 = de) : ∀ n c p q, sgC st de cd s n c p q → ∀ stk S i, XS S0 S 0 stk → q + s ≤ to → i ≤ p + s → XRes S0 S to (p + s) i (q + s) 0 stk ((c fv).map bI) := by
  intro n
  induction n with
  | zero => intro c p q h; exact h.elim
  | succ n ih =>
    intro c p q h stk S i hS hq hi
    rcases h with ⟨o, a, b, m, k, na, nb, h1, h2, h3, h4, h5, h6, h7, h8⟩ | ⟨a, k, h1, h2, h3, h4, h5⟩ | ⟨t, a, b, m, h1, h2, h3, h4, h5, h6⟩
    · have l1 := sgV_lt _ _ _ _ _ h3
      have l2 := sgV_lt _ _ _ _ _ h4
      have e : (c fv).map bI = (a fv).bind fun x => (b fv).bind fun y => if (o = 5 ∨ o = 6) ∧ y = 0 then none else some (rkI o x y) := by
        rw [h8]
        unfold cmpC
        cases a fv with
        | none => rfl
        | some x =>
          cases b fv with
          | none => rfl
          | some y =>
            simp only [Option.bind_some, Option.map_some]
            rw [if_neg (by omega)]
            congr 1
            unfold bI rkI
            have hh : o = 7 ∨ o = 8 ∨ o = 9 := by omega
            rcases hh with e | e | e <;> subst e
            · by_cases hy : y ≤ x <;> simp [hy]
            · by_cases hy : x ≤ y <;> simp [hy]
            · by_cases hy : x = y <;> simp [hy]
      rw [e]
      refine XRes.seq (m := m + s) (by omega) (by omega) (xV hf hto h26 h27 na 63 a p m h3 0 stk S i hS (by omega) (by omega) hi) (fun x S1 i1 _ hS1 hi1 => ?_)
      have hb := xV hf hto h26 h27 nb 63 b m k h4 1 (upd stk 0 x) S1 i1 hS1 (by omega) (by omega) (by omega)
      obtain ⟨n', hn', ⟨y, S', e1, e2, e3⟩ | ⟨S', e1, e2, e3⟩⟩ := hb
      · have t26 : S' 26 = st := by rw [e2.1.1 26 (by omega) (by omega)]; exact h26
        obtain ⟨n2, hn2, hr⟩ := XRes.op (d := 0) (i := i1 + n') (p := k + s) (to := to) (by omega) hto (by omega) e2 (by omega) (by omega) h2 (by rw [t26]; exact h6)
        refine ⟨n2 + n', by omega, ?_⟩
        rw [e1, Option.bind_some]
        rcases hr with ⟨u, S'', a1, a2, a3⟩ | ⟨S'', a1, a2, a3⟩
        · refine Or.inl ⟨u, S'', a1, a2, fun F => ?_⟩
          rw [← Nat.add_assoc, e3, a3, h5, show k + 1 + s = k + s + 1 by omega, show i1 + n' + n2 = i1 + (n2 + n') by omega]
        · refine Or.inr ⟨S'', a1, a2, fun F => ?_⟩
          rw [← Nat.add_assoc, e3, a3]
      · refine ⟨n', by omega, Or.inr ⟨S', by rw [e1]; rfl, e2, e3⟩⟩
    · have l1 := sgC_lt _ _ _ _ h1
      have e : (c fv).map bI = ((a fv).map bI).bind fun v => some (if v = 0 then 1 else 0) := by
        rw [h5]
        unfold notC
        cases a fv with
        | none => rfl
        | some x => cases x <;> rfl
      rw [e]
      refine XRes.seq (m := k + s) (by omega) (by omega) (ih a p k h1 stk S i hS (by omega) hi) (fun v S1 i1 _ hS1 hi1 => ?_)
      have t26 : S1 26 (k + s) = 2 := by rw [hS1.1.1 26 (by omega) (by omega), h26]; exact h3
      obtain ⟨S2, e1, e2⟩ := x_pop hS1 (by omega)
      have v1 : upd stk 0 v 0 = v := pk_us
      rw [v1] at e1
      obtain ⟨S3, e3, e4⟩ := x_push e2 (by omega) (if v = 0 then 1 else 0)
      refine ⟨1, by omega, Or.inl ⟨_, S3, rfl, e4.sk (fun j hj => by
        have : j = 0 := by omega
        rw [this, pk_us, pk_us]), fun F => ?_⟩⟩
      rw [x15 (by omega) hto (by omega) F t26 rfl, if_neg (by decide), if_neg (by decide), e1, Option.bind_some, if_pos rfl]
      unfold f_Reckoner_reckon_120
      rw [h2, show k + 1 + s = k + s + 1 by omega]
      by_cases hv : v = 0
      · rw [if_pos hv] at e3
        rw [if_pos hv, e3, Option.bind_some, x190 e4]
      · rw [if_neg hv] at e3
        rw [if_neg hv, e3, Option.bind_some, x190 e4]
    · have l1 := sgC_lt _ _ _ _ h1
      have l2 := sgC_lt _ _ _ _ h2
      have e : (c fv).map bI = ((a fv).map bI).bind fun v => if v = bI t then some (bI t) else (b fv).map bI := by
        rw [h6]
        unfold jmpC
        cases a fv with
        | none => rfl
        | some x => cases x <;> cases t <;> rfl
      rw [e]
      refine XRes.seq (m := m + s) (by omega) (by omega) (ih a p m h1 stk S i hS (by omega) hi) (fun v S1 i1 hrv hS1 hi1 => ?_)
      have t26 : S1 26 (m + s) = if t then 3 else 4 := by rw [hS1.1.1 26 (by omega) (by omega), h26]; exact h3
      have t27 : S1 27 (m + s) = nI (q + s) := by rw [hS1.1.1 27 (by omega) (by omega), h27]; exact h4
      obtain ⟨S2, e1, e2⟩ := x_pop hS1 (by omega)
      have v1 : upd stk 0 v 0 = v := pk_us
      rw [v1] at e1
      obtain ⟨S3, e3, e4⟩ := x_push e2 (by omega) v
      have body : ∀ F, f_Reckoner_reckon_15 (F + 1) S1 (nI to) (nI (m + s)) (nI i1) = f_Reckoner_reckon_157 (f_Reckoner_reckon_15 F) S2 (nI to) (nI (m + s + 1)) (nI i1) (if t then 3 else 4) (nI (q + s)) v := fun F => by
        rw [x15 (by omega) hto (by omega) F t26 t27]
        cases t with
        | false => simp (decide := true) only [↓reduceIte, e1, Option.bind_some]
        | true => simp (decide := true) only [↓reduceIte, e1, Option.bind_some]
      unfold f_Reckoner_reckon_157 f_Reckoner_reckon_167 f_Reckoner_reckon_178 at body
      have jump : v = bI t → ∃ n, n ≤ q + s - (m + s) ∧ ((∃ u S'', (if v = bI t then some (bI t) else (b fv).map bI) = some u ∧ XS S0 S'' 1 (upd stk 0 u) ∧ ∀ F, f_Reckoner_reckon_15 (F + n) S1 (nI to) (nI (m + s)) (nI i1) = f_Reckoner_reckon_15 F S'' (nI to) (nI (q + s)) (nI (i1 + n))) ∨ (∃ S'', (if v = bI t then some (bI t) else (b fv).map bI) = none ∧ agX S0 S'' ∧ ∀ F, f_Reckoner_reckon_15 (F + n) S1 (nI to) (nI (m + s)) (nI i1) = some (0, S''))) := fun hv => by
        refine ⟨1, by omega, Or.inl ⟨bI t, S3, by rw [if_pos hv], e4.sk (fun j hj => by
          have : j = 0 := by omega
          rw [this, pk_us, pk_us, hv]), fun F => ?_⟩⟩
        rw [body F]
        have hx := x190 (i := i1) (a := nI to) (b := nI (q + s)) (k := f_Reckoner_reckon_15 F) e4
        cases t with
        | false =>
          have hv' : v = 0 := hv
          simp (decide := true) only [hv', ↓reduceIte] at e3 ⊢
          rw [e3, Option.bind_some, hx]
        | true =>
          have hv' : v = 1 := hv
          simp (decide := true) only [hv', ↓reduceIte] at e3 ⊢
          rw [e3, Option.bind_some, hx]
      by_cases hv : v = bI t
      · exact jump hv
      · have v01 : v = 0 ∨ v = 1 := by
          cases ha : a fv with
          | none => rw [ha] at hrv; cases hrv
          | some x =>
            rw [ha] at hrv
            cases x with
            | false => exact Or.inl (Option.some.inj hrv).symm
            | true => exact Or.inr (Option.some.inj hrv).symm
        have hstep : ∀ F, f_Reckoner_reckon_15 (F + 1) S1 (nI to) (nI (m + s)) (nI i1) = f_Reckoner_reckon_15 F S2 (nI to) (nI (m + s + 1)) (nI (i1 + 1)) := fun F => by
          rw [body F]
          have hx := x190 (i := i1) (a := nI to) (b := nI (m + s + 1)) (k := f_Reckoner_reckon_15 F) e2
          cases t with
          | false =>
            have hv' : ¬ v = 0 := hv
            simp (decide := true) only [hv', ↓reduceIte]
            exact hx
          | true =>
            have v0 : v = 0 := v01.resolve_right hv
            simp (decide := true) only [v0, ↓reduceIte]
            exact hx
        obtain ⟨n', hn', hr⟩ := ih b (m + 1) q h2 stk S2 (i1 + 1) (e2.sk (fun j hj => by omega)) hq (by omega)
        rw [show m + 1 + s = m + s + 1 by omega] at hr hn'
        refine ⟨n' + 1, by omega, ?_⟩
        rw [if_neg hv]
        rcases hr with ⟨u, S'', a1, a2, a3⟩ | ⟨S'', a1, a2, a3⟩
        · refine Or.inl ⟨u, S'', a1, a2, fun F => ?_⟩
          rw [← Nat.add_assoc, hstep, a3, show i1 + 1 + n' = i1 + (n' + 1) by omega]
        · refine Or.inr ⟨S'', a1, a2, fun F => ?_⟩
          rw [← Nat.add_assoc, hstep, a3]
end XM
