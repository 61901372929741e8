/-! VALUES of a law -/
theorem mop {k : Nat} : (1048576 : Int32) * nI k + 0 = nI (1048576 * k) := by
  rw [show (1048576 : Int32) * nI k = nI (1048576 * k) from pk_mul 1048576 k]; exact nI_add _ 0
theorem m_top {T : St} {w k a : Nat} (h : T 0 14 = nI (w + 1)) (hw : w < 260) (hk : k ≤ 14) (ha : a < 1048576) (h8 : T 8 w = nI (1048576 * k + a)) : f_Mo_waitTop T = some (nI k) := by
  unfold f_Mo_waitTop
  have c1 : (nI w).toNatClampNeg = w := cl
  have e1 : nI (w + 1) - 1 = nI w := pk_sub (a := w + 1) (b := 1) (by omega)
  rw [h, if_neg (nI_ne0 (by omega) (by omega)), e1, if_pos (gn (by omega) (by omega)), c1, h8]
  rw [show nI (1048576 * k + a) / 1048576 = nI ((1048576 * k + a) / 1048576) from pk_div (d := 1048576) (by omega) (by omega) (by omega), show (1048576 * k + a) / 1048576 = k by omega]
theorem m_top0 {T : St} (h : T 0 14 = nI 0) : f_Mo_waitTop T = some (-1) := by
  unfold f_Mo_waitTop
  rw [h, if_pos (show nI 0 = 0 from rfl)]
def NT (T : St) (w : Nat) : Prop := w = 0 ∨ ∃ k a, 7 ≤ k ∧ k ≤ 14 ∧ a < 1048576 ∧ T 8 (w - 1) = nI (1048576 * k + a)
theorem nI_k {a : Nat} (c : Nat) (ha : a < 2 ^ 31) (hc : c < 2 ^ 31) (h : a ≠ c) : ¬ nI a = nI c := fun z => h (nI_inj ha hc z)
theorem cl_stop {T : St} {w F : Nat} {l : Int32} (h : T 0 14 = nI w) (hw : w ≤ 259) (hN : NT T w) : f_Mo_closesSums_0 (F + 1) T l = some T := by
  have e17 : ∀ v : Int32, f_Mo_waitTop T = some v → ¬ v = 2 → ¬ v = 3 → f_Mo_closesSums_17 (f_Mo_closesSums_0 F) T l = some T := fun v hv h2 h3 => by
    unfold f_Mo_closesSums_17
    by_cases c : l = 0
    · rw [if_pos c]
    · rw [if_neg c, hv, Option.bind_some, if_neg h2, Option.bind_some, if_neg h3]
  rw [f_Mo_closesSums_0]
  rcases hN with e | ⟨k, a, h1, h2, h3, h4⟩
  · subst e
    rw [m_top0 h, Option.bind_some, if_pos (by decide), e17 (-1) (m_top0 h) (by decide) (by decide)]
  · by_cases w0 : w = 0
    · subst w0
      rw [m_top0 h, Option.bind_some, if_pos (by decide), e17 (-1) (m_top0 h) (by decide) (by decide)]
    · obtain ⟨w, rfl⟩ : ∃ v, w = v + 1 := ⟨w - 1, by omega⟩
      have ht := m_top h (by omega) h2 h3 h4
      rw [ht, Option.bind_some, if_neg (show ¬ nI k < 4 from nlt' (a := k) (b := 4) (by omega)), Option.bind_some, if_neg (show ¬ nI k ≤ 6 from nle (b := k) (a := 6) (by omega)), e17 _ ht (nI_k 2 (by omega) (by omega) (by omega)) (nI_k 3 (by omega) (by omega) (by omega))]
def popM (T : St) (z k w : Nat) : St := sF (ntM T z (nI (1048576 * k))) 0 14 (nI w)
theorem cl_pop {T : St} {w z k F : Nat} {l : Int32} (h : T 0 14 = nI (w + 1)) (hw : w < 260) (h8 : T 8 w = nI (1048576 * k)) (h13 : T 0 13 = nI z) (hz : z < 260) (hk : (4 ≤ k ∧ k ≤ 6) ∨ (2 ≤ k ∧ k ≤ 3 ∧ ¬ l = 0)) : f_Mo_closesSums_0 (F + 1) T l = f_Mo_closesSums_0 F (popM T z k w) l := by
  have ht : f_Mo_waitTop T = some (nI k) := m_top (a := 0) h hw (by omega) (by omega) h8
  have e37 : f_Mo_closesSums_37 (f_Mo_closesSums_0 F) T l = f_Mo_closesSums_0 F (popM T z k w) l := by
    unfold f_Mo_closesSums_37 popM
    have e14 : ntM T z (nI (1048576 * k)) 0 14 = nI (w + 1) := by unfold ntM; rw [sF_ne (by omega), sF_ne (by omega)]; exact h
    rw [ht, Option.bind_some, m_notes h13 hz, Option.bind_some, mop, Option.bind_some, e14, show nI (w + 1) - 1 = nI w from pk_sub (a := w + 1) (b := 1) (by omega)]
  rw [f_Mo_closesSums_0, ht, Option.bind_some]
  rcases hk with ⟨k1, k2⟩ | ⟨k1, k2, k3⟩
  · rw [if_neg (show ¬ nI k < 4 from nlt' (a := k) (b := 4) (by omega)), Option.bind_some, if_pos (show nI k ≤ 6 from yle (b := 6) (by omega)), e37]
  · rw [if_pos (show nI k < 4 from ylt (b := 4) (by omega))]
    unfold f_Mo_closesSums_17
    rw [if_neg k3, ht, Option.bind_some]
    by_cases c : k = 2
    · rw [if_pos (by rw [c]; rfl), e37]
    · rw [if_neg (show ¬ nI k = 2 from nI_k 2 (by omega) (by omega) c), Option.bind_some, if_pos (show nI k = 3 by rw [show k = 3 by omega]; rfl), e37]
theorem cl_keep {T : St} {w k F : Nat} (h : T 0 14 = nI (w + 1)) (hw : w < 260) (h8 : T 8 w = nI (1048576 * k)) (hk : 2 ≤ k ∧ k ≤ 3) : f_Mo_closesSums_0 (F + 1) T 0 = some T := by
  have ht : f_Mo_waitTop T = some (nI k) := m_top (a := 0) h hw (by omega) (by omega) h8
  rw [f_Mo_closesSums_0, ht, Option.bind_some, if_pos (show nI k < 4 from ylt (b := 4) (by omega))]
  unfold f_Mo_closesSums_17
  rw [if_pos rfl]
/-! the places of both -/
def LST (n : Nat) (b : Nat → Nat) (S T : St) (p s z w o : Nat) : Prop := XD S n b p ∧ MD T n b p ∧ S 32 7 = nI (z + s) ∧ T 0 13 = nI z ∧ T 0 14 = nI w ∧ T 0 12 = nI o ∧ w ≤ p ∧ z + s ≤ p
def belo (S T S' T' : St) (s z w : Nat) : Prop := (∀ i, i < z + s → S' 33 i = S 33 i ∧ S' 34 i = S 34 i) ∧ (∀ i, i < z → T' 7 i = T 7 i) ∧ (∀ i, i < w → T' 8 i = T 8 i) ∧ frX S S' ∧ frM T T'
theorem belo.refl (S T : St) (s z w : Nat) : belo S T S T s z w := ⟨fun _ _ => ⟨rfl, rfl⟩, fun _ _ => rfl, fun _ _ => rfl, frX.refl S, frM.refl T⟩
theorem belo.trans {S T S1 T1 S2 T2 : St} {s z w z1 w1 : Nat} (h : belo S T S1 T1 s z w) (h' : belo S1 T1 S2 T2 s z1 w1) (hz : z ≤ z1) (hw : w ≤ w1) : belo S T S2 T2 s z w := by
  obtain ⟨a1, a2, a3, a4, a5⟩ := h
  obtain ⟨b1, b2, b3, b4, b5⟩ := h'
  exact ⟨fun i hi => ⟨(b1 i (by omega)).1.trans (a1 i hi).1, (b1 i (by omega)).2.trans (a1 i hi).2⟩, fun i hi => (b2 i (by omega)).trans (a2 i hi), fun i hi => (b3 i (by omega)).trans (a3 i hi), a4.trans b4, a5.trans b5⟩
theorem belo.le {S T S1 T1 : St} {s z w z1 w1 : Nat} (h : belo S T S1 T1 s z1 w1) (hz : z ≤ z1) (hw : w ≤ w1) : belo S T S1 T1 s z w := (belo.refl S T s z w).trans h hz hw
theorem belo.gV {S T S1 T1 : St} {s z w n d : Nat} {e : SV} {p q : Nat} (h : belo S T S1 T1 s z w) (hq : q ≤ z) (hs : sgV (S 33) (S 34) (T 7) s n d e p q) : sgV (S1 33) (S1 34) (T1 7) s n d e p q := sgV_congr n d e p q (fun i _ hi => ⟨(h.1 (i + s) (by omega)).1, (h.1 (i + s) (by omega)).2, h.2.1 i (by omega)⟩) hs
theorem belo.gC {S T S1 T1 : St} {s z w n : Nat} {e : SC} {p q : Nat} (h : belo S T S1 T1 s z w) (hq : q ≤ z) (hs : sgC (S 33) (S 34) (T 7) s n e p q) : sgC (S1 33) (S1 34) (T1 7) s n e p q := sgC_congr n e p q (fun i _ hi => ⟨(h.1 (i + s) (by omega)).1, (h.1 (i + s) (by omega)).2, h.2.1 i (by omega)⟩) hs
def STK (T : St) (B w : Nat) : Prop := ∀ i, B ≤ i → i < w → ∃ k, ((2 ≤ k ∧ k ≤ 6) ∨ k = 14) ∧ T 8 i = nI (1048576 * k)
theorem STK.cong {T T' : St} {B w : Nat} (h : STK T B w) (e : ∀ i, i < w → T' 8 i = T 8 i) : STK T' B w := fun i h1 h2 => by rw [e i h2]; exact h i h1 h2
theorem NT.cong {T T' : St} {w : Nat} (h : NT T w) (e : ∀ i, i < w → T' 8 i = T 8 i) : NT T' w := by
  by_cases w0 : w = 0
  · exact Or.inl w0
  · rcases h with h | ⟨k, a, h1, h2, h3, h4⟩
    · exact Or.inl h
    · exact Or.inr ⟨k, a, h1, h2, h3, by rw [e (w - 1) (by omega)]; exact h4⟩
theorem m_hasO {T : St} {B w : Nat} (h : T 0 14 = nI w) (hw : w ≤ 250) (hB : B ≤ w) (hS : STK T B w) : (f_Mo_hasOpenSum T (nI B) = some 1 ∧ ∃ i, B ≤ i ∧ i < w ∧ T 8 i = nI (1048576 * 14)) ∨ (f_Mo_hasOpenSum T (nI B) = some 0 ∧ ∀ i, B ≤ i → i < w → ¬ T 8 i = nI (1048576 * 14)) := by
  obtain ⟨F0, hF0⟩ : ∃ F, FU = F := ⟨_, rfl⟩
  have hF0' : 300 < F0 := by rw [← hF0]; exact FU_gt (by omega)
  have key : ∀ m i F, i + m = w → m < F → B ≤ i → (∀ j, B ≤ j → j < i → ¬ T 8 j = nI (1048576 * 14)) → (f_Mo_hasOpenSum_2 F T (nI i) = some 1 ∧ ∃ i, B ≤ i ∧ i < w ∧ T 8 i = nI (1048576 * 14)) ∨ (f_Mo_hasOpenSum_2 F T (nI i) = some 0 ∧ ∀ i, B ≤ i → i < w → ¬ T 8 i = nI (1048576 * 14)) := by
    intro m
    induction m with
    | zero =>
      intro i F hi hF hBi hno
      obtain ⟨F, rfl⟩ : ∃ z, F = z + 1 := ⟨F - 1, by omega⟩
      rw [f_Mo_hasOpenSum_2, h, if_pos (yle (by omega))]
      exact Or.inr ⟨rfl, fun j h1 h2 => hno j h1 (by omega)⟩
    | succ m ih =>
      intro i F hi hF hBi hno
      obtain ⟨F, rfl⟩ : ∃ z, F = z + 1 := ⟨F - 1, by omega⟩
      obtain ⟨k, hk, ek⟩ := hS i hBi (by omega)
      have c1 : (nI i).toNatClampNeg = i := cl
      have dv : nI (1048576 * k) / 1048576 = nI k := by
        rw [show nI (1048576 * k) / 1048576 = nI (1048576 * k / 1048576) from pk_div (d := 1048576) (by omega) (by omega) (by omega), show 1048576 * k / 1048576 = k by omega]
      rw [f_Mo_hasOpenSum_2, h, if_neg (nle (by omega)), if_pos (gn (by omega) (by omega)), c1, ek, dv]
      by_cases e : k = 14
      · rw [if_pos (show nI k = 14 by rw [e]; rfl)]
        exact Or.inl ⟨rfl, i, hBi, by omega, by rw [ek, e]⟩
      · rw [if_neg (show ¬ nI k = 14 from nI_k 14 (by omega) (by omega) e), Option.bind_some, nI_1]
        exact ih (i + 1) F (by omega) (by omega) (by omega) (fun j h1 h2 => by
          by_cases q : j = i
          · rw [q, ek]; exact nI_k _ (by omega) (by omega) (by omega)
          · exact hno j h1 (by omega))
  unfold f_Mo_hasOpenSum
  rw [hF0]
  exact key (w - B) B F0 (by omega) (by omega) (by omega) (fun j h1 h2 => by omega)
theorem m_has1 {T : St} {B w : Nat} (h : T 0 14 = nI w) (hw : w ≤ 250) (hB : B ≤ w) (hS : STK T B w) {i : Nat} (h1 : B ≤ i) (h2 : i < w) (h3 : T 8 i = nI (1048576 * 14)) : f_Mo_hasOpenSum T (nI B) = some 1 := by
  rcases m_hasO h hw hB hS with ⟨e, -⟩ | ⟨-, e⟩
  · exact e
  · exact absurd h3 (e i h1 h2)
theorem m_has0 {T : St} {B w : Nat} (h : T 0 14 = nI w) (hw : w ≤ 250) (hB : B ≤ w) (hS : STK T B w) (hno : ∀ i, B ≤ i → i < w → ¬ T 8 i = nI (1048576 * 14)) : f_Mo_hasOpenSum T (nI B) = some 0 := by
  rcases m_hasO h hw hB hS with ⟨-, i, h1, h2, h3⟩ | ⟨e, -⟩
  · exact absurd h3 (hno i h1 h2)
  · exact e
/-! signs -/
theorem m_sum {T : St} {op : Nat} (h1 : 2 ≤ op) (h2 : op ≤ 6) : f_Mo_sumSign T (nI (chr op)) = some (nI op) := by
  have hh : op = 2 ∨ op = 3 ∨ op = 4 ∨ op = 5 ∨ op = 6 := by omega
  rcases hh with e | e | e | e | e <;> subst e <;> rfl
theorem m_sum0 {T : St} {x : Int32} (h : ∀ op, 2 ≤ op → op ≤ 6 → ¬ x = nI (chr op)) : f_Mo_sumSign T x = some (-1) := by
  unfold f_Mo_sumSign
  rw [if_neg (show ¬ x = 43 from h 2 (by omega) (by omega)), if_neg (show ¬ x = 45 from h 3 (by omega) (by omega)), if_neg (show ¬ x = 42 from h 4 (by omega) (by omega)), if_neg (show ¬ x = 47 from h 5 (by omega) (by omega)), if_neg (show ¬ x = 37 from h 6 (by omega) (by omega))]
theorem facts_of (S T : St) (x : Int32) : (∃ i, i < 9 ∧ x = nI (fch i) ∧ f_Law_isFact S x = some 1 ∧ f_Mo_factOf T x = some (nI i)) ∨ (f_Law_isFact S x = some 0 ∧ f_Mo_factOf T x = some (-1)) := by
  unfold f_Law_isFact f_Mo_factOf
  by_cases c1 : x = 105
  · exact Or.inl ⟨4, by omega, by rw [c1]; rfl, by rw [if_pos c1], by rw [if_pos c1]; rfl⟩
  by_cases c2 : x = 107
  · exact Or.inl ⟨0, by omega, by rw [c2]; rfl, by rw [if_neg c1, if_pos c2], by rw [if_neg c1, if_pos c2]; rfl⟩
  by_cases c3 : x = 108
  · exact Or.inl ⟨3, by omega, by rw [c3]; rfl, by rw [if_neg c1, if_neg c2, if_pos c3], by rw [if_neg c1, if_neg c2, if_pos c3]; rfl⟩
  by_cases c4 : x = 109
  · exact Or.inl ⟨5, by omega, by rw [c4]; rfl, by rw [if_neg c1, if_neg c2, if_neg c3, if_pos c4], by rw [if_neg c1, if_neg c2, if_neg c3, if_pos c4]; rfl⟩
  by_cases c5 : x = 110
  · exact Or.inl ⟨2, by omega, by rw [c5]; rfl, by rw [if_neg c1, if_neg c2, if_neg c3, if_neg c4, if_pos c5], by rw [if_neg c1, if_neg c2, if_neg c3, if_neg c4, if_pos c5]; rfl⟩
  by_cases c6 : x = 111
  · exact Or.inl ⟨6, by omega, by rw [c6]; rfl, by rw [if_neg c1, if_neg c2, if_neg c3, if_neg c4, if_neg c5, if_pos c6], by rw [if_neg c1, if_neg c2, if_neg c3, if_neg c4, if_neg c5, if_pos c6]; rfl⟩
  by_cases c7 : x = 112
  · exact Or.inl ⟨1, by omega, by rw [c7]; rfl, by rw [if_neg c1, if_neg c2, if_neg c3, if_neg c4, if_neg c5, if_neg c6, if_pos c7], by rw [if_neg c1, if_neg c2, if_neg c3, if_neg c4, if_neg c5, if_neg c6, if_pos c7]; rfl⟩
  by_cases c8 : x = 116
  · exact Or.inl ⟨7, by omega, by rw [c8]; rfl, by rw [if_neg c1, if_neg c2, if_neg c3, if_neg c4, if_neg c5, if_neg c6, if_neg c7, if_pos c8], by rw [if_neg c1, if_neg c2, if_neg c3, if_neg c4, if_neg c5, if_neg c6, if_neg c7, if_pos c8]; rfl⟩
  by_cases c9 : x = 119
  · exact Or.inl ⟨8, by omega, by rw [c9]; rfl, by rw [if_neg c1, if_neg c2, if_neg c3, if_neg c4, if_neg c5, if_neg c6, if_neg c7, if_neg c8, if_pos c9], by rw [if_neg c1, if_neg c2, if_neg c3, if_neg c4, if_neg c5, if_neg c6, if_neg c7, if_neg c8, if_pos c9]; rfl⟩
  · exact Or.inr ⟨by rw [if_neg c1, if_neg c2, if_neg c3, if_neg c4, if_neg c5, if_neg c6, if_neg c7, if_neg c8, if_neg c9], by rw [if_neg c1, if_neg c2, if_neg c3, if_neg c4, if_neg c5, if_neg c6, if_neg c7, if_neg c8, if_neg c9]⟩
theorem num_amt : ∀ F (T : St) (p : Int32), f_Mo_readsNumber_10 F T p = f_Mo_readsAmount_27 F T 5 p
  | 0, _, _ => rfl
  | F + 1, T, p => by
    rw [f_Mo_readsNumber_10, f_Mo_readsAmount_27]
    simp only [num_amt F]
theorem m_number {T : St} {n p : Nat} {b : Nat → Nat} (hM : MD T n b p) (hp : p ≤ n) (hn : n ≤ 240) (hd : dg (sg b n p) = true) : f_Mo_readsNumber T = f_Mo_readsAmount T 5 := by
  unfold f_Mo_readsNumber f_Mo_readsAmount
  rw [Option.bind_some, Option.bind_some, Option.bind_some, m_dig hM hp hn, Option.bind_some, hd, ib1', Option.bind_some, num_amt]
/-! a value's first factor, and what follows -/
def ML (F1 F2 : Nat) (T : St) (B : Nat) : Option (Int32 × St) := (f_Mo_readsFactor_0 F1 T).bind fun w => if w.1 = 0 then some (0, w.2) else f_Mo_readsSum_14 F2 w.2 (nI B)
def PF (n : Nat) (b : Nat → Nat) (rf : St → Int32 → Option St) (o : Nat) : Prop := ∀ S T p s z w g F1 F2 B, LST n b S T p s z w o → z + s + g ≤ p → 8 ≤ F1 + o → n < F2 + p + 1 → B ≤ w → STK T B w → (∃ q z' S' T' e nv F2', p < q ∧ z < z' ∧ z' + s + g ≤ q ∧ LST n b S' T' q s z' w o ∧ belo S T S' T' s z w ∧ sgV (S' 33) (S' 34) (T' 7) s nv (13 - 2 * o) e z z' ∧ rf S (nI o) = some S' ∧ ML F1 F2 T B = f_Mo_readsSum_14 F2' T' (nI B) ∧ n < F2' + q) ∨ (∃ f S' T', rf S (nI o) = some S' ∧ FM f S' ∧ frX S S' ∧ ML F1 F2 T B = some (0, T') ∧ T' 0 10 = f)
section LSS
variable {n : Nat} {b : Nat → Nat} {S T : St} {p s z w o : Nat}
theorem LST.x (h : LST n b S T p s z w o) : XD S n b p := h.1
theorem LST.m (h : LST n b S T p s z w o) : MD T n b p := h.2.1
theorem LST.hp (h : LST n b S T p s z w o) : p ≤ n := h.1.2.2.2.1
theorem LST.hn (h : LST n b S T p s z w o) : n ≤ 240 := h.1.2.2.2.2
theorem LST.here (h : LST n b S T p s z w o) : f_Mo_here T = some (sg b n p) := h.m.here h.hp h.hn
theorem LST.fm (h : LST n b S T p s z w o) {f : Int32} (hf : ¬ f = 0) : FM f (sF S 3 2 f) := ⟨hf, sF_at, z + s, by have := h.hp; have := h.hn; have := h.2.2.2.2.2.2.2; omega, by rw [sF_ne (by omega)]; exact h.2.2.1⟩
/-- one step is written by both -/
theorem LST.add (h : LST n b S T p s z w o) (hz : z + s + 1 ≤ p) (x y v : Int32) : LST n b (adX S (z + s) x y) (ntM T z v) p s (z + 1) w o ∧ belo S T (adX S (z + s) x y) (ntM T z v) s z w ∧ adX S (z + s) x y 33 (z + s) = x ∧ adX S (z + s) x y 34 (z + s) = y ∧ ntM T z v 7 z = v := by
  obtain ⟨h1, h2, h3, h4, h5, h6, h7, h8⟩ := h
  unfold adX ntM
  refine ⟨⟨((h1.set (by omega)).set (by omega)).set (by omega), (h2.set (by omega)).set (by omega), by rw [sF_at]; congr 1; omega, sF_at, by rw [sF_ne (by omega), sF_ne (by omega)]; exact h5, by rw [sF_ne (by omega), sF_ne (by omega)]; exact h6, h7, by omega⟩, ⟨fun i hi => ⟨?_, ?_⟩, fun i hi => ?_, fun i hi => ?_, ?_, ?_⟩, ?_, ?_, ?_⟩
  · rw [sF_ne (by omega), sF_ne (by omega), sF_ne (by omega)]
  · rw [sF_ne (by omega), sF_ne (by omega), sF_ne (by omega)]
  · rw [sF_ne (by omega), sF_ne (by omega)]
  · rw [sF_ne (by omega), sF_ne (by omega)]
  · exact (((frX.refl S).set (by omega)).set (by omega)).set (by omega)
  · exact ((frM.refl T).set (by omega)).set (by omega)
  · rw [sF_ne (by omega), sF_ne (by omega), sF_at]
  · rw [sF_ne (by omega), sF_at]
  · rw [sF_ne (by omega), sF_at]
theorem LST.on (h : LST n b S T p s z w o) (hp : p < n) : LST n b (sF S 3 1 (nI (p + 1))) (sF T 0 8 (nI (p + 1))) (p + 1) s z w o ∧ belo S T (sF S 3 1 (nI (p + 1))) (sF T 0 8 (nI (p + 1))) s z w := by
  obtain ⟨h1, h2, h3, h4, h5, h6, h7, h8⟩ := h
  refine ⟨⟨h1.on hp, h2.on, by rw [sF_ne (by omega)]; exact h3, by rw [sF_ne (by omega)]; exact h4, by rw [sF_ne (by omega)]; exact h5, by rw [sF_ne (by omega)]; exact h6, by omega, by omega⟩, ⟨fun i hi => ⟨sF_ne (by omega), sF_ne (by omega)⟩, fun i hi => sF_ne (by omega), fun i hi => sF_ne (by omega), (frX.refl S).set (by omega), (frM.refl T).set (by omega)⟩⟩
end LSS
