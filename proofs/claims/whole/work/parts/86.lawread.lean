def frL (S S' : St) : Prop := ∀ r j, ¬ ((r = 3 ∧ (j = 1 ∨ j = 2)) ∨ (r = 32 ∧ (j = 7 ∨ j = 8)) ∨ (33 ≤ r ∧ r ≤ 38)) → S' r j = S r j
theorem frL.refl (S : St) : frL S S := fun _ _ _ => rfl
theorem frL.trans {A B C : St} (h : frL A B) (h' : frL B C) : frL A C := fun r j z => (h' r j z).trans (h r j z)
theorem frL.set {S S' : St} (h : frL S S') {r j : Nat} {v : Int32} (hr : (r = 3 ∧ (j = 1 ∨ j = 2)) ∨ (r = 32 ∧ (j = 7 ∨ j = 8)) ∨ (33 ≤ r ∧ r ≤ 38)) : frL S (sF S' r j v) := fun k i z => by rw [sF_ne (by omega)]; exact h k i z
theorem frX.l {S S' : St} (h : frX S S') : frL S S' := fun r j z => h r j (by omega)
def RL (S T : St) (z s r : Nat) : Prop := ∀ r', r' < r → RuleB (S 35) (S 36) (S 37) (S 38) (S 33) (S 34) (T 9) (T 10) (T 11) (T 12) (T 7) z (z + s) r'
section RU
variable {n : Nat} {b : Nat → Nat} {S T : St} {p s z r : Nat}
def RuO (n : Nat) (b : Nat → Nat) (X : Option (Int32 × St)) (K : St → Int32 → Int32 → Option (Int32 × St)) (C : Option (Int32 × St)) (S : St) (p r : Nat) : Prop := (∃ q z' s' S' T', p < q ∧ r < 16 ∧ X = f_Law_read_200 K S' (nI r) ∧ C = some (1, T') ∧ XD S' n b q ∧ MD T' n b q ∧ S' 32 7 = nI (z' + s') ∧ T' 0 13 = nI z' ∧ T' 0 15 = nI (r + 1) ∧ z' + s' ≤ q ∧ S' 32 8 = nI (r + 1) ∧ RL S' T' z' s' (r + 1) ∧ frL S S') ∨ (∃ f S' T', X = f_Law_read_200 K S' (nI r) ∧ ¬ f = 0 ∧ S' 3 2 = f ∧ frL S S' ∧ C = some (0, T') ∧ T' 0 10 = f)
theorem fm_150 {f : Int32} {S : St} (h : FM f S) (hr : r < 16) (K : St → Int32 → Int32 → Option (Int32 × St)) : ∃ S', f_Law_read_150 K S (nI r) = f_Law_read_200 K S' (nI r) ∧ S' 3 2 = f ∧ frL S S' := by
  obtain ⟨h0, h1, zz, hzz, h2⟩ := h
  have c1 : (nI r).toNatClampNeg = r := cl
  have g1 : ig (nI r) 16 = true := gn (by omega) (by omega)
  have fm1 : FM f (sF S 37 r (S 32 7)) := ⟨h0, by rw [sF_ne (by omega)]; exact h1, zz, hzz, by rw [sF_ne (by omega)]; exact h2⟩
  obtain ⟨S2, a1, a2, a3⟩ := fm_cond (fm_FRT 9 (by omega)) f _ 1 fm1
  refine ⟨sF (sF S2 38 r (S2 32 7)) 32 8 (nI (r + 1)), ?_, by rw [sF_ne (by omega), sF_ne (by omega)]; exact a2.2.1, ((((frL.refl S).set (by omega)).trans a3.l).set (by omega)).set (by omega)⟩
  unfold f_Law_read_150
  rw [if_pos g1, c1, Option.bind_some, fm_needs fm1, Option.bind_some, show F_Law_readCondition (sF S 37 r (S 32 7)) 1 = some S2 from a1, Option.bind_some, fm_needs a2, Option.bind_some, if_pos g1, Option.bind_some, nI_1, Option.bind_some]
theorem rd_110 {K : St → Int32 → Int32 → Option (Int32 × St)} {q z2 s2 w o : Nat} {S2 T2 : St} (hr : r < 16) (h : LST n b S2 T2 q s2 z2 w o) (h15 : T2 0 15 = nI r) : (∃ q' z' S' T' c nc, q < q' ∧ z2 < z' ∧ z' + s2 ≤ q' ∧ f_Law_read_150 K S2 (nI r) = f_Law_read_200 K (sF (sF S' 38 r (nI (z' + s2))) 32 8 (nI (r + 1))) (nI r) ∧ f_Mo_readsRule_110 T2 = some (1, sF (sF T' 12 r (nI z')) 0 15 (nI (r + 1))) ∧ LST n b S' T' q' s2 z' 0 0 ∧ belo (sF S2 37 r (nI (z2 + s2))) (sF T2 11 r (nI z2)) S' T' s2 z2 0 ∧ sgC (S' 33) (S' 34) (T' 7) s2 nc c z2 z') ∨ (∃ f S' T', f_Law_read_150 K S2 (nI r) = f_Law_read_200 K S' (nI r) ∧ ¬ f = 0 ∧ S' 3 2 = f ∧ frL S2 S' ∧ f_Mo_readsRule_110 T2 = some (0, T') ∧ T' 0 10 = f) := by
  have c1 : (nI r).toNatClampNeg = r := cl
  have g1 : ig (nI r) 16 = true := gn (by omega) (by omega)
  obtain ⟨h1, h2, h3, h4, h5, h6, h7, h8⟩ := h
  have h' : LST n b (sF S2 37 r (nI (z2 + s2))) (sF T2 11 r (nI z2)) q s2 z2 w o := ⟨h1.set (by omega), h2.set (by omega), by rw [sF_ne (by omega)]; exact h3, by rw [sF_ne (by omega)]; exact h4, by rw [sF_ne (by omega)]; exact h5, by rw [sF_ne (by omega)]; exact h6, h7, h8⟩
  unfold f_Law_read_150 f_Mo_readsRule_110
  rw [if_pos g1, c1, h3, Option.bind_some, h15, if_pos g1, c1, h4, Option.bind_some]
  rcases rd_cond h' with ⟨q', z', S', T', c, nc, r1, r2, r3, r4, r5, r6, r7, r8⟩ | ⟨f, S', T', r1, r2, r3, r4, r5⟩
  · have e15 : T' 0 15 = nI r := (r7.2.2.2.2 0 15 (by omega)).trans (by rw [sF_ne (by omega)]; exact h15)
    refine Or.inl ⟨q', z', S', T', c, nc, r1, r2, r3, ?_, ?_, r6, r7, r8⟩
    · rw [← Option.bind_assoc] at r4
      have : (((f_Reading_needs (sF S2 37 r (nI (z2 + s2))) 40).bind fun w_166 => F_Law_readCondition w_166 1).bind fun w_171 => f_Reading_needs w_171 41) = some S' := r4
      cases e1 : f_Reading_needs (sF S2 37 r (nI (z2 + s2))) 40 with
      | none => rw [e1] at this; cases this
      | some A =>
        rw [e1, Option.bind_some] at this
        cases e2 : F_Law_readCondition A 1 with
        | none => rw [e2] at this; cases this
        | some A2 =>
          rw [e2, Option.bind_some] at this
          rw [Option.bind_some, e2, Option.bind_some, this, Option.bind_some, if_pos g1, r6.2.2.1, Option.bind_some, nI_1, Option.bind_some]
    · have e15' : ((1 : Int32), T').snd 0 15 = nI r := e15
      have e13 : ((1 : Int32), T').snd 0 13 = nI z' := r6.2.2.2.1
      have e15'' : ∀ v, sF T' 12 r v 0 15 = nI r := fun v => by rw [sF_ne (by omega)]; exact e15
      rw [r5, Option.bind_some, if_neg i10, e15', if_pos g1, c1, e13, Option.bind_some, e15'', nI_1, Option.bind_some]
  · refine Or.inr ⟨f, sF (sF S' 38 r (S' 32 7)) 32 8 (nI (r + 1)), T', ?_, r2.1, by rw [sF_ne (by omega), sF_ne (by omega)]; exact r2.2.1, ((((frL.refl S2).set (by omega)).trans r3.l).set (by omega)).set (by omega), ?_, r5⟩
    · rw [← Option.bind_assoc] at r1
      have : (((f_Reading_needs (sF S2 37 r (nI (z2 + s2))) 40).bind fun w_166 => F_Law_readCondition w_166 1).bind fun w_171 => f_Reading_needs w_171 41) = some S' := r1
      cases e1 : f_Reading_needs (sF S2 37 r (nI (z2 + s2))) 40 with
      | none => rw [e1] at this; cases this
      | some A =>
        rw [e1, Option.bind_some] at this
        cases e2 : F_Law_readCondition A 1 with
        | none => rw [e2] at this; cases this
        | some A2 =>
          rw [e2, Option.bind_some] at this
          rw [Option.bind_some, e2, Option.bind_some, this, Option.bind_some, if_pos g1, Option.bind_some, nI_1, Option.bind_some]
    · rw [r4, Option.bind_some, if_pos rfl]
theorem rd_75 {K : St → Int32 → Int32 → Option (Int32 × St)} {L : Nat} (hL : L = 100 ∨ L = 98 ∨ L = 120) (hr : r ≤ 16) (hX : XD S n b p) (hM : MD T n b p) (h7 : S 32 7 = nI (z + s)) (h13 : T 0 13 = nI z) (h15 : T 0 15 = nI r) (hz : z + s ≤ p) (hsg : sg b n p = nI L) (hR : RL S T z s r) : RuO n b (f_Law_read_75 K S (nI r) (nI L)) K (f_Mo_readsRule_33 T (nI L)) S p r := by
  have hp := hX.2.2.2.1
  have hn := hX.2.2.2.2
  have pn : p < n := sg_lt (c := L) (by omega) hsg
  by_cases r16 : r = 16
  · have f0 : ¬ (-1000) * nI 4 - nI p = 0 := fl_ne (by omega) (by omega) (by omega)
    refine Or.inr ⟨(-1000) * nI 4 - nI p, sF S 3 2 ((-1000) * nI 4 - nI p), sF T 0 10 ((-1000) * nI 4 - nI p), ?_, f0, sF_at, (frL.refl S).set (by omega), ?_, sF_at⟩
    · unfold f_Law_read_75
      rw [if_neg (show ¬ nI r < 16 from nlt' (a := r) (b := 16) (by omega)), x_fail hX.2.2.1, Option.bind_some, hX.2.1]
      rfl
    · unfold f_Mo_readsRule_33
      rw [h15, if_pos (show nI r = 16 by rw [r16]; rfl), m_wrong, Option.bind_some, if_pos (Or.inl rfl), hM.2.2]
      rfl
  · have hr' : r < 16 := by omega
    have c1 : (nI r).toNatClampNeg = r := cl
    have g1 : ig (nI r) 16 = true := gn (by omega) (by omega)
    obtain ⟨S1, hS1⟩ : ∃ S1, sF (sF (sF S 3 1 (nI (p + 1))) 35 r (nI L)) 36 r (nI (z + s)) = S1 := ⟨_, rfl⟩
    obtain ⟨T1, hT1⟩ : ∃ T1, sF (sF (sF (sF (sF T 9 r (nI L)) 0 8 (nI (p + 1))) 10 r (nI z)) 0 12 0) 0 14 0 = T1 := ⟨_, rfl⟩
    have h1 : LST n b S1 T1 (p + 1) s z 0 0 := by
      rw [← hS1, ← hT1]
      refine ⟨((hX.on pn).set (by omega)).set (by omega), ((((hM.set (by omega)).on).set (by omega)).set (by omega)).set (by omega), ?_, ?_, sF_at, by rw [sF_ne (by omega), sF_at]; rfl, by omega, by omega⟩
      · rw [sF_ne (by omega), sF_ne (by omega), sF_ne (by omega)]; exact h7
      · rw [sF_ne (by omega), sF_ne (by omega), sF_ne (by omega), sF_ne (by omega), sF_ne (by omega)]; exact h13
    have S1r : ∀ k j, k = 33 ∨ k = 34 ∨ k = 37 ∨ k = 38 → S1 k j = S k j := fun k j h => by rw [← hS1, sF_ne (by omega), sF_ne (by omega), sF_ne (by omega)]
    have S35 : ∀ j, S1 35 j = if j = r then nI L else S 35 j := fun j => by
      rw [← hS1, sF_ne (by omega)]
      by_cases e : j = r
      · rw [e, if_pos rfl, sF_at]
      · rw [if_neg e, sF_ne (Or.inr e), sF_ne (by omega)]
    have S36 : ∀ j, S1 36 j = if j = r then nI (z + s) else S 36 j := fun j => by
      rw [← hS1]
      by_cases e : j = r
      · rw [e, if_pos rfl, sF_at]
      · rw [if_neg e, sF_ne (Or.inr e), sF_ne (by omega), sF_ne (by omega)]
    have T1r : ∀ k j, k = 7 ∨ k = 11 ∨ k = 12 ∨ (k = 0 ∧ j = 15) → T1 k j = T k j := fun k j h => by rw [← hT1, sF_ne (by omega), sF_ne (by omega), sF_ne (by omega), sF_ne (by omega), sF_ne (by omega)]
    have T9 : ∀ j, T1 9 j = if j = r then nI L else T 9 j := fun j => by
      rw [← hT1, sF_ne (by omega), sF_ne (by omega), sF_ne (by omega), sF_ne (by omega)]
      by_cases e : j = r
      · rw [e, if_pos rfl, sF_at]
      · rw [if_neg e, sF_ne (Or.inr e)]
    have T10 : ∀ j, T1 10 j = if j = r then nI z else T 10 j := fun j => by
      rw [← hT1, sF_ne (by omega), sF_ne (by omega)]
      by_cases e : j = r
      · rw [e, if_pos rfl, sF_at]
      · rw [if_neg e, sF_ne (Or.inr e), sF_ne (by omega), sF_ne (by omega)]
    have frS1 : frL S S1 := by rw [← hS1]; exact (((frL.refl S).set (by omega)).set (by omega)).set (by omega)
    have eX : f_Law_read_75 K S (nI r) (nI L) = if nI L = 120 then (f_Law_add S1 0 1).bind fun w_138 => f_Law_read_150 K w_138.2 (nI r) else (F_Law_readValue S1 0).bind fun w_147 => f_Law_read_150 K w_147 (nI r) := by
      have e7 : sF (sF S 3 1 (nI (p + 1))) 35 r (nI L) 32 7 = nI (z + s) := by rw [sF_ne (by omega), sF_ne (by omega)]; exact h7
      unfold f_Law_read_75
      rw [if_pos (show nI r < 16 from ylt (b := 16) hr'), hX.2.1, nI_1, Option.bind_some, if_pos g1, c1, Option.bind_some, if_pos g1, e7, Option.bind_some, hS1]
    have eM : f_Mo_readsRule_33 T (nI L) = if nI L = 120 then f_Mo_readsRule_110 T1 else (f_Mo_readsSum T1).bind fun w_102 => if w_102.1 = 0 then some (0, w_102.2) else f_Mo_readsRule_110 w_102.2 := by
      have e8 : ∀ v, sF T 9 r v 0 8 = nI p := fun v => by rw [sF_ne (by omega)]; exact hM.2.2
      have e15 : ∀ v u, sF (sF T 9 r v) 0 8 u 0 15 = nI r := fun v u => by rw [sF_ne (by omega), sF_ne (by omega)]; exact h15
      have e13 : ∀ v u, sF (sF T 9 r v) 0 8 u 0 13 = nI z := fun v u => by rw [sF_ne (by omega), sF_ne (by omega)]; exact h13
      unfold f_Mo_readsRule_33
      rw [h15, if_neg (show ¬ nI r = 16 from nI_k 16 (by omega) (by omega) r16), if_pos g1, c1, Option.bind_some, e8, nI_1, Option.bind_some, e15, if_pos g1, c1, e13, Option.bind_some, Option.bind_some, Option.bind_some, hT1]
    -- behind the value
    have tail : ∀ (q z2 s2 w2 o2 p1 : Nat) (e : SV) (S2 T2 : St), p < q → z ≤ z2 → s ≤ s2 → LST n b S2 T2 q s2 z2 w2 o2 → frX S1 S2 → frM T1 T2 → (∀ i, i < z + s → S2 33 i = S 33 i ∧ S2 34 i = S 34 i) → (∀ i, i < z → T2 7 i = T 7 i) → p1 = z + s → ((L ≠ 120 ∧ p1 = z + s2 ∧ ∃ nv, sgV (S2 33) (S2 34) (T2 7) s2 nv 64 e z z2) ∨ (L = 120 ∧ p1 + 1 = z2 + s2 ∧ S2 33 p1 = 0 ∧ S2 34 p1 = 1 ∧ e = fun _ => some 1)) → f_Law_read_75 K S (nI r) (nI L) = f_Law_read_150 K S2 (nI r) → f_Mo_readsRule_33 T (nI L) = f_Mo_readsRule_110 T2 → RuO n b (f_Law_read_75 K S (nI r) (nI L)) K (f_Mo_readsRule_33 T (nI L)) S p r := fun q z2 s2 w2 o2 p1 e S2 T2 u1 u2 u3 u4 u5 u6 u7 u8 u9 u10 u11 u12 => by
      have e15 : T2 0 15 = nI r := (u6 0 15 (by omega)).trans ((T1r 0 15 (by omega)).trans h15)
      rw [u11, u12]
      rcases rd_110 (K := K) hr' u4 e15 with ⟨q', z', S', T', c, nc, r1, r2, r3, r4, r5, r6, r7, r8⟩ | ⟨f, S', T', r1, r2, r3, r4, r5, r6⟩
      · obtain ⟨S5, hS5⟩ : ∃ S5, sF (sF S' 38 r (nI (z' + s2))) 32 8 (nI (r + 1)) = S5 := ⟨_, rfl⟩
        obtain ⟨T5, hT5⟩ : ∃ T5, sF (sF T' 12 r (nI z')) 0 15 (nI (r + 1)) = T5 := ⟨_, rfl⟩
        rw [hS5] at r4
        rw [hT5] at r5
        obtain ⟨b1, b2, b3, b4, b5⟩ := r7
        have x33 : ∀ k, k = 33 ∨ k = 34 → S5 k = S' k := fun k hk => fe (fun j => by rw [← hS5, sF_ne (by omega), sF_ne (by omega)])
        have m7 : T5 7 = T' 7 := fe (fun j => by rw [← hT5, sF_ne (by omega), sF_ne (by omega)])
        have x35 : ∀ k j, k = 35 ∨ k = 36 → S5 k j = S1 k j := fun k j hk => by rw [← hS5, sF_ne (by omega), sF_ne (by omega), b4 k j (by omega), sF_ne (by omega), u5 k j (by omega)]
        have x37 : ∀ j, S5 37 j = if j = r then nI (z2 + s2) else S 37 j := fun j => by
          rw [← hS5, sF_ne (by omega), sF_ne (by omega), b4 37 j (by omega)]
          by_cases e : j = r
          · rw [e, if_pos rfl, sF_at]
          · rw [if_neg e, sF_ne (Or.inr e), u5 37 j (by omega), S1r 37 j (by omega)]
        have x38 : ∀ j, S5 38 j = if j = r then nI (z' + s2) else S 38 j := fun j => by
          rw [← hS5, sF_ne (by omega)]
          by_cases e : j = r
          · rw [e, if_pos rfl, sF_at]
          · rw [if_neg e, sF_ne (Or.inr e), b4 38 j (by omega), sF_ne (by omega), u5 38 j (by omega), S1r 38 j (by omega)]
        have y9 : ∀ k j, k = 9 ∨ k = 10 → T5 k j = T1 k j := fun k j hk => by rw [← hT5, sF_ne (by omega), sF_ne (by omega), b5 k j (by omega), sF_ne (by omega), u6 k j (by omega)]
        have y11 : ∀ j, T5 11 j = if j = r then nI z2 else T 11 j := fun j => by
          rw [← hT5, sF_ne (by omega), sF_ne (by omega), b5 11 j (by omega)]
          by_cases e : j = r
          · rw [e, if_pos rfl, sF_at]
          · rw [if_neg e, sF_ne (Or.inr e), u6 11 j (by omega), T1r 11 j (by omega)]
        have y12 : ∀ j, T5 12 j = if j = r then nI z' else T 12 j := fun j => by
          rw [← hT5, sF_ne (by omega)]
          by_cases e : j = r
          · rw [e, if_pos rfl, sF_at]
          · rw [if_neg e, sF_ne (Or.inr e), b5 12 j (by omega), sF_ne (by omega), u6 12 j (by omega), T1r 12 j (by omega)]
        refine Or.inl ⟨q', z', s2, S5, T5, by omega, hr', r4, r5, ?_, ?_, ?_, ?_, by rw [← hT5]; exact sF_at, r3, by rw [← hS5]; exact sF_at, fun r' hr2 => ?_, ?_⟩
        · rw [← hS5]; exact (r6.x.set (by omega)).set (by omega)
        · rw [← hT5]; exact (r6.m.set (by omega)).set (by omega)
        · rw [← hS5, sF_ne (by omega), sF_ne (by omega)]; exact r6.2.2.1
        · rw [← hT5, sF_ne (by omega), sF_ne (by omega)]; exact r6.2.2.2.1
        · by_cases er : r' = r
          · subst er
            refine ⟨L, s2, z, z2, z', p1, e, c, hL, ?_, ?_, ?_, ?_, ?_, ?_, ?_, ?_, Nat.le_refl _, Nat.le_refl _, ⟨nc, by rw [x33 33 (by omega), x33 34 (by omega), m7]; exact r8⟩, ?_⟩
            · rw [x35 35 r' (by omega), S35, if_pos rfl]
            · rw [y9 9 r' (by omega), T9, if_pos rfl]
            · rw [x35 36 r' (by omega), S36, if_pos rfl, u9]
            · rw [x37, if_pos rfl]
            · rw [x38, if_pos rfl]
            · rw [y9 10 r' (by omega), T10, if_pos rfl]
            · rw [y11, if_pos rfl]
            · rw [y12, if_pos rfl]
            · rw [x33 33 (by omega), x33 34 (by omega), m7]
              have k33 : ∀ i, i < z2 + s2 → S' 33 i = S2 33 i ∧ S' 34 i = S2 34 i := fun i hi => ⟨(b1 i hi).1.trans (sF_ne (by omega)), (b1 i hi).2.trans (sF_ne (by omega))⟩
              have k7 : ∀ i, i < z2 → T' 7 i = T2 7 i := fun i hi => (b2 i hi).trans (sF_ne (by omega))
              rcases u10 with ⟨v1, v2, nv, v3⟩ | ⟨v1, v2, v3, v4, v5⟩
              · exact Or.inl ⟨v1, v2, nv, sgV_congr _ _ _ _ _ (fun i h1 h2 => ⟨(k33 (i + s2) (by omega)).1, (k33 (i + s2) (by omega)).2, k7 i (by omega)⟩) v3⟩
              · exact Or.inr ⟨v1, v2, by rw [(k33 p1 (by omega)).1]; exact v3, by rw [(k33 p1 (by omega)).2]; exact v4, v5⟩
          · refine (hR r' (by omega)).cong ?_ ?_ ?_ ?_ ?_ ?_ ?_ ?_ (fun i hi => ?_) (fun i hi => ?_) (by omega) (by omega)
            · rw [x35 35 r' (by omega), S35, if_neg er]
            · rw [x35 36 r' (by omega), S36, if_neg er]
            · rw [x37, if_neg er]
            · rw [x38, if_neg er]
            · rw [y9 9 r' (by omega), T9, if_neg er]
            · rw [y9 10 r' (by omega), T10, if_neg er]
            · rw [y11, if_neg er]
            · rw [y12, if_neg er]
            · rw [x33 33 (by omega), x33 34 (by omega)]
              exact ⟨(b1 i (by omega)).1.trans ((sF_ne (by omega)).trans (u7 i hi).1), (b1 i (by omega)).2.trans ((sF_ne (by omega)).trans (u7 i hi).2)⟩
            · rw [m7]
              exact (b2 i (by omega)).trans ((sF_ne (by omega)).trans (u8 i hi))
        · rw [← hS5]
          exact ((((frS1.trans u5.l).set (by omega)).trans b4.l).set (by omega)).set (by omega)
      · exact Or.inr ⟨f, S', T', r1, r2, r3, (frS1.trans u5.l).trans r4, r5, r6⟩
    by_cases x120 : L = 120
    · have e120 : nI L = 120 := by rw [x120]; rfl
      obtain ⟨l1, l2, l3, l4, l5⟩ := h1.add (by omega) 0 1 0
      have lst : LST n b (adX S1 (z + s) 0 1) T1 (p + 1) (s + 1) z 0 0 := by
        obtain ⟨h1', h2', h3', h4', h5', h6', h7', h8'⟩ := h1
        exact ⟨l1.x, h2', by rw [l1.2.2.1]; congr 1; omega, h4', h5', h6', h7', by omega⟩
      refine tail (p + 1) z (s + 1) 0 0 (z + s) (fun _ => some 1) (adX S1 (z + s) 0 1) T1 (by omega) (Nat.le_refl _) (by omega) lst (adX_fr _ _ _ _) (frM.refl T1) (fun i hi => ?_) (fun i hi => T1r 7 i (by omega)) rfl (Or.inr ⟨x120, by omega, l3, l4, rfl⟩) ?_ ?_
      · rw [(l2.1 i hi).1, (l2.1 i hi).2]; exact ⟨S1r 33 i (by omega), S1r 34 i (by omega)⟩
      · rw [eX, if_pos e120, x_add h1.2.2.1 (by omega), Option.bind_some]
      · rw [eM, if_pos e120]
    · have e120 : ¬ nI L = 120 := nI_k 120 (by omega) (by omega) x120
      rcases rd_sum (o := 0) (g := 0) (by omega) h1 (by omega) (Or.inl rfl) with ⟨q, z2, S2, T2, e, nv, t1, t2, t3, t4, t5, t6, t7, t8⟩ | ⟨f, S2, T2, t1, t2, t3, t4, t5⟩
      · refine tail q z2 s 0 0 (z + s) e S2 T2 (by omega) (by omega) (Nat.le_refl _) t6 t7.2.2.2.1 t7.2.2.2.2 (fun i hi => ?_) (fun i hi => (t7.2.1 i hi).trans (T1r 7 i (by omega))) rfl (Or.inl ⟨x120, rfl, nv, sgV_mono _ _ _ _ _ t8 _ _ (Nat.le_refl _) (by omega)⟩) ?_ ?_
        · exact ⟨(t7.1 i hi).1.trans (S1r 33 i (by omega)), (t7.1 i hi).2.trans (S1r 34 i (by omega))⟩
        · rw [eX, if_neg e120, show F_Law_readValue S1 0 = some S2 from t4, Option.bind_some]
        · rw [eM, if_neg e120, t5, Option.bind_some, if_neg i10]
      · obtain ⟨S3, g1', g2', g3'⟩ := fm_150 t2 hr' K
        refine Or.inr ⟨f, S3, T2, ?_, t2.1, g2', (frS1.trans t3.l).trans g3', ?_, t5⟩
        · rw [eX, if_neg e120, show F_Law_readValue S1 0 = some S2 from t1, Option.bind_some, g1']
        · rw [eM, if_neg e120, t4, Option.bind_some, if_pos rfl]
theorem rd_rule {F : Nat} (hr : r ≤ 16) (hX : XD S n b p) (hM : MD T n b p) (h7 : S 32 7 = nI (z + s)) (h13 : T 0 13 = nI z) (h15 : T 0 15 = nI r) (hz : z + s ≤ p) (hR : RL S T z s r) : RuO n b (f_Law_read_21 (F + 1) S 1 (nI r)) (f_Law_read_21 F) (f_Mo_readsRule T) S p r := by
  have hp := hX.2.2.2.1
  have hn := hX.2.2.2.2
  rw [f_Law_read_21, if_neg (show ¬ (16 : Int32) < nI r from nlt' (a := 16) (b := r) (by omega)), if_neg i10, hX.sign, Option.bind_some]
  unfold f_Mo_readsRule
  rw [hM.here hp hn, Option.bind_some]
  by_cases c1 : sg b n p = 100
  · rw [if_pos c1, if_pos c1, c1]
    exact rd_75 (L := 100) (by omega) hr hX hM h7 h13 h15 hz c1 hR
  by_cases c2 : sg b n p = 98
  · rw [if_neg c1, if_neg c1, if_pos c2, if_pos c2, c2]
    exact rd_75 (L := 98) (by omega) hr hX hM h7 h13 h15 hz c2 hR
  by_cases c3 : sg b n p = 120
  · rw [if_neg c1, if_neg c1, if_neg c2, if_neg c2, if_pos c3, if_pos c3, c3]
    exact rd_75 (L := 120) (by omega) hr hX hM h7 h13 h15 hz c3 hR
  · have f0 : ¬ (-1000) * nI 1 - nI p = 0 := fl_ne (by omega) (by omega) (by omega)
    refine Or.inr ⟨(-1000) * nI 1 - nI p, sF S 3 2 ((-1000) * nI 1 - nI p), sF T 0 10 ((-1000) * nI 1 - nI p), ?_, f0, sF_at, (frL.refl S).set (by omega), ?_, sF_at⟩
    · rw [if_neg c1, if_neg c2, if_neg c3, x_fail hX.2.2.1, Option.bind_some, hX.2.1]; rfl
    · rw [if_neg c1, if_neg c2, if_neg c3, m_wrong, Option.bind_some, if_pos (Or.inl rfl), hM.2.2]; rfl
end RU
