/-! LAW -/
section LA
variable {n : Nat} {b : Nat → Nat}
theorem p66 (K : St → Int32 → Option (Int32 × St)) (S : St) : f_Mo_law_66 K S = K S 0 := rfl
theorem p67 (K : St → Int32 → Option (Int32 × St)) (S : St) (x : Int32) : f_Mo_law_67 K S x = K S x := rfl
theorem x200 {K : St → Int32 → Int32 → Option (Int32 × St)} {S S' : St} {r : Nat} {v : Int32} (h : f_Reading_goesOn S = some (v, S')) : f_Law_read_200 K S (nI r) = K S' v (nI (r + 1)) := by
  unfold f_Law_read_200
  rw [h, Option.bind_some, Option.bind_some, Option.bind_some, nI_1]
def frQ (T T' : St) : Prop := ∀ k j, ¬ ((k = 0 ∧ (j = 8 ∨ j = 10 ∨ j = 11 ∨ j = 12 ∨ j = 13 ∨ j = 14 ∨ j = 15)) ∨ k = 7 ∨ k = 8 ∨ k = 9 ∨ k = 10 ∨ k = 11 ∨ k = 12) → T' k j = T k j
theorem rd_law : ∀ d r p z s F F' (S T : St), r + d = 16 → d + 1 < F → d + 2 < F' → XD S n b p → MD T n b p → S 32 7 = nI (z + s) → T 0 13 = nI z → T 0 15 = nI r → z + s ≤ p → RL S T z s r → (∃ r' z' s' S' T', 1 ≤ r' ∧ r' ≤ 16 ∧ f_Law_read_21 F S 1 (nI r) = some (0, S') ∧ ((f_Mo_readsRule T).bind fun w => f_Mo_law_31 F' w.2 w.1) = f_Mo_law_71 T' 1 ∧ S' 32 8 = nI r' ∧ T' 0 15 = nI r' ∧ T' 0 13 = nI z' ∧ z' + s' ≤ 240 ∧ RL S' T' z' s' r' ∧ frL S S' ∧ frQ T T') ∨ (∃ f S' T', f_Law_read_21 F S 1 (nI r) = some (f, S') ∧ ((f_Mo_readsRule T).bind fun w => f_Mo_law_31 F' w.2 w.1) = f_Mo_law_71 T' 0 ∧ ¬ f = 0 ∧ T' 0 10 = f ∧ frL S S' ∧ frQ T T') := by
  intro d
  induction d with
  | zero =>
    intro r p z s F F' S T hr hF hF' hX hM h7 h13 h15 hz hR
    obtain ⟨F, rfl⟩ : ∃ v, F = v + 1 + 1 := ⟨F - 2, by omega⟩
    obtain ⟨F', rfl⟩ : ∃ v, F' = v + 1 := ⟨F' - 1, by omega⟩
    rcases rd_rule (F := F + 1) (by omega) hX hM h7 h13 h15 hz hR with ⟨q, z', s', S', T', e1, e2, -⟩ | ⟨f, S', T', e1, f0, f1, f2, e2, f3⟩
    · omega
    · refine Or.inr ⟨f, S', T', ?_, ?_, f0, f3, f2, fun k j h => w_Mo_readsRule e2 h⟩
      · rw [e1, x200 (x_goes0 (by rw [f1]; exact f0)), f_Law_read_21, if_pos (show (16 : Int32) < nI (r + 1) from ylt (a := 16) (by omega)), f1]
      · rw [e2, Option.bind_some]
        show f_Mo_law_31 _ T' 0 = _
        rw [f_Mo_law_31, if_pos rfl]
  | succ d ih =>
    intro r p z s F F' S T hr hF hF' hX hM h7 h13 h15 hz hR
    obtain ⟨F, rfl⟩ : ∃ v, F = v + 1 + 1 := ⟨F - 2, by omega⟩
    obtain ⟨F', rfl⟩ : ∃ v, F' = v + 1 + 1 := ⟨F' - 2, by omega⟩
    have n17 : ¬ (16 : Int32) < nI (r + 1) := nlt' (a := 16) (b := r + 1) (by omega)
    rcases rd_rule (F := F + 1) (by omega) hX hM h7 h13 h15 hz hR with ⟨q, z', s', S', T', a1, a2, e1, e2, hX', hM', a3, a4, a5, a6, a7, a8, a9⟩ | ⟨f, S', T', e1, f0, f1, f2, e2, f3⟩
    · have hq := hX'.2.2.2.1
      have hn := hX'.2.2.2.2
      by_cases c : q < n
      · have nle' : ¬ nI n ≤ nI q := nle c
        by_cases dd : sg b n q = 59
        · have hx2 : XD (sF S' 3 1 (nI (q + 1))) n b (q + 1) := hX'.on c
          have hm2 : MD (sF T' 0 8 (nI (q + 1))) n b (q + 1) := hM'.on
          have hR2 : RL (sF S' 3 1 (nI (q + 1))) (sF T' 0 8 (nI (q + 1))) z' s' (r + 1) := fun r' hr' => by
            have := a8 r' hr'
            rw [sF_rne (by omega), sF_rne (by omega), sF_rne (by omega), sF_rne (by omega), sF_rne (by omega), sF_rne (by omega), sF_rne (by omega), sF_rne (by omega), sF_rne (by omega), sF_rne (by omega), sF_rne (by omega)]
            exact this
          have eX : f_Law_read_21 (F + 1 + 1) S 1 (nI r) = f_Law_read_21 (F + 1) (sF S' 3 1 (nI (q + 1))) 1 (nI (r + 1)) := by
            rw [e1, x200 (v := 1) (S' := sF S' 3 1 (nI (q + 1))) (by rw [x_goes hX', if_pos c, if_pos dd])]
          have eM : ((f_Mo_readsRule T).bind fun w => f_Mo_law_31 (F' + 1 + 1) w.2 w.1) = ((f_Mo_readsRule (sF T' 0 8 (nI (q + 1)))).bind fun w => f_Mo_law_31 (F' + 1) w.2 (if w.1 = 0 then 0 else 1)) := by
            have tk : f_Mo_takes T' 59 = some (1, sF T' 0 8 (nI (q + 1))) := by
              unfold f_Mo_takes
              rw [hM'.here hq hn, Option.bind_some, if_pos dd, Option.bind_some, hM'.2.2, nI_1]
            rw [e2, Option.bind_some]
            show f_Mo_law_31 (F' + 1 + 1) T' 1 = _
            rw [f_Mo_law_31, if_neg i10, hM'.2.1, hM'.2.2, if_neg nle', tk, Option.bind_some, if_neg i10]
            congr 1
            funext w
            by_cases w0 : w.1 = 0
            · rw [if_pos w0, if_pos w0, p66]
            · rw [if_neg w0, if_neg w0, p67]
          have ih1 := ih (r + 1) (q + 1) z' s' (F + 1) (F' + 1) _ _ (by omega) (by omega) (by omega) hx2 hm2 (by rw [sF_ne (by omega)]; exact a3) (by rw [sF_ne (by omega)]; exact a4) (by rw [sF_ne (by omega)]; exact a5) (by omega) hR2
          have w01 : ∀ v T2, f_Mo_readsRule (sF T' 0 8 (nI (q + 1))) = some (v, T2) → (v = 0 ∨ v = 1) := fun v T2 hv => by
            rcases rd_rule (F := F + 1) (by omega) hx2 hm2 (z := z') (s := s') (by rw [sF_ne (by omega)]; exact a3) (by rw [sF_ne (by omega)]; exact a4) (by rw [sF_ne (by omega)]; exact a5) (by omega) hR2 with ⟨_, _, _, _, _, _, _, _, zz, _⟩ | ⟨_, _, _, _, _, _, _, zz, _⟩
            · rw [hv] at zz; exact Or.inr (congrArg Prod.fst (Option.some.inj zz))
            · rw [hv] at zz; exact Or.inl (congrArg Prod.fst (Option.some.inj zz))
          have eM2 : ((f_Mo_readsRule (sF T' 0 8 (nI (q + 1)))).bind fun w => f_Mo_law_31 (F' + 1) w.2 (if w.1 = 0 then 0 else 1)) = ((f_Mo_readsRule (sF T' 0 8 (nI (q + 1)))).bind fun w => f_Mo_law_31 (F' + 1) w.2 w.1) := by
            cases hr : f_Mo_readsRule (sF T' 0 8 (nI (q + 1))) with
            | none => rfl
            | some w =>
              obtain ⟨v, T2⟩ := w
              rw [Option.bind_some, Option.bind_some]
              rcases w01 v T2 hr with e | e
              · rw [e, if_pos rfl]
              · rw [e, if_neg i10]
          rw [eX, eM, eM2]
          have fq : frQ T (sF T' 0 8 (nI (q + 1))) := fun k j h => by
            rw [sF_ne (by omega)]; exact w_Mo_readsRule e2 h
          have fl : frL S (sF S' 3 1 (nI (q + 1))) := a9.set (by omega)
          rcases ih1 with ⟨r', z2, s2, S3, T3, u1, u2, u3, u4, u5, u6, u7, u8, u9, u10, u11⟩ | ⟨f, S3, T3, u1, u2, u3, u4, u5, u6⟩
          · exact Or.inl ⟨r', z2, s2, S3, T3, u1, u2, u3, u4, u5, u6, u7, u8, u9, fl.trans u10, fun k j h => (u11 k j h).trans (fq k j h)⟩
          · exact Or.inr ⟨f, S3, T3, u1, u2, u3, u4, fl.trans u5, fun k j h => (u6 k j h).trans (fq k j h)⟩
        · refine Or.inr ⟨(-1000) * nI 1 - nI q, sF S' 3 2 ((-1000) * nI 1 - nI q), sF T' 0 10 ((-1000) * nI 1 - nI q), ?_, ?_, fl_ne (by omega) (by omega) (by omega), sF_at, a9.set (by omega), fun k j h => by rw [sF_ne (by omega)]; exact w_Mo_readsRule e2 h⟩
          · rw [e1, x200 (v := 0) (S' := sF S' 3 2 ((-1000) * nI 1 - nI q)) (by rw [x_goes hX', if_pos c, if_neg dd]), f_Law_read_21, if_neg n17, if_pos rfl, sF_at]
          · have tk : f_Mo_takes T' 59 = some (0, sF T' 0 10 ((-1000) * nI 1 - nI q)) := by
              unfold f_Mo_takes
              rw [hM'.here hq hn, Option.bind_some, if_neg dd, m_wrong, Option.bind_some, if_pos (Or.inl rfl), hM'.2.2]; rfl
            rw [e2, Option.bind_some]
            show f_Mo_law_31 (F' + 1 + 1) T' 1 = _
            rw [f_Mo_law_31, if_neg i10, hM'.2.1, hM'.2.2, if_neg nle', tk, Option.bind_some, if_pos rfl, p66, f_Mo_law_31, if_pos rfl]
      · refine Or.inl ⟨r + 1, z', s', S', T', by omega, by omega, ?_, ?_, a7, a5, a4, by omega, a8, a9, fun k j h => w_Mo_readsRule e2 h⟩
        · rw [e1, x200 (v := 0) (S' := S') (by rw [x_goes hX', if_neg c]), f_Law_read_21, if_neg n17, if_pos rfl, hX'.2.2.1]
        · rw [e2, Option.bind_some]
          show f_Mo_law_31 (F' + 1 + 1) T' 1 = _
          rw [f_Mo_law_31, if_neg i10, hM'.2.1, hM'.2.2, if_pos (yle (by omega))]
    · refine Or.inr ⟨f, S', T', ?_, ?_, f0, f3, f2, fun k j h => w_Mo_readsRule e2 h⟩
      · rw [e1, x200 (x_goes0 (by rw [f1]; exact f0)), f_Law_read_21, if_neg n17, if_pos rfl, f1]
      · rw [e2, Option.bind_some]
        show f_Mo_law_31 _ T' 0 = _
        rw [f_Mo_law_31, if_pos rfl]
theorem lc_spec {S : St} : ∃ S', f_Law_copyFrom S = some S' ∧ (∀ j, j < 240 → S' 26 j = S 33 j ∧ S' 27 j = S 34 j) ∧ (∀ j, j < 16 → S' 28 j = S 35 j ∧ S' 29 j = S 36 j ∧ S' 30 j = S 37 j ∧ S' 31 j = S 38 j) ∧ S' 25 8 = S 32 8 := by
  have e240 : (240 : Int32).toNatClampNeg = 240 := by decide
  have e16 : (16 : Int32).toNatClampNeg = 16 := by decide
  have e0 : (0 : Int32).toNatClampNeg = 0 := by decide
  obtain ⟨S', hS'⟩ : ∃ S', f_Law_copyFrom S = some S' := ⟨_, rfl⟩
  refine ⟨S', hS', ?_, ?_, ?_⟩
  · unfold f_Law_copyFrom at hS'
    simp only [Option.bind_some, Option.some.injEq, e240, e16, e0] at hS'
    subst hS'
    intro j hj
    simp [sF, sR, sC, upd, va_cpy, hj]
  · unfold f_Law_copyFrom at hS'
    simp only [Option.bind_some, Option.some.injEq, e240, e16, e0] at hS'
    subst hS'
    intro j hj
    simp [sF, sR, sC, upd, va_cpy, hj]
  · unfold f_Law_copyFrom at hS'
    simp only [Option.bind_some, Option.some.injEq, e240, e16, e0] at hS'
    subst hS'
    simp [sF, sR, sC, upd, va_cpy]
theorem m_123 {r : Nat} (hr : r ≤ 16) : ∀ d i F (T : St), i + d = r → d < F → T 0 15 = nI r → ∃ T', f_Mo_law_123 F T (nI i) = some (nI r, T') ∧ (∀ j, j < i → T' 14 j = T 14 j ∧ T' 15 j = T 15 j ∧ T' 16 j = T 16 j ∧ T' 17 j = T 17 j) ∧ (∀ j, i ≤ j → j < r → T' 14 j = T 9 j ∧ T' 15 j = T 10 j ∧ T' 16 j = T 11 j ∧ T' 17 j = T 12 j) ∧ (∀ k j, k < 14 ∨ 17 < k → T' k j = T k j) := by
  intro d
  induction d with
  | zero =>
    intro i F T hi hF h15
    obtain ⟨F, rfl⟩ : ∃ v, F = v + 1 := ⟨F - 1, by omega⟩
    refine ⟨T, ?_, fun _ _ => ⟨rfl, rfl, rfl, rfl⟩, fun j h1 h2 => by omega, fun _ _ _ => rfl⟩
    rw [f_Mo_law_123, h15, if_pos (yle (by omega))]
  | succ d ih =>
    intro i F T hi hF h15
    obtain ⟨F, rfl⟩ : ∃ v, F = v + 1 := ⟨F - 1, by omega⟩
    have g1 : ig (nI i) 16 = true := gn (by omega) (by omega)
    have c1 : (nI i).toNatClampNeg = i := cl
    have n1 : ¬ (10 = 14) := by decide
    have n2 : ¬ (11 = 14) := by decide
    have n3 : ¬ (11 = 15) := by decide
    have n4 : ¬ (12 = 14) := by decide
    have n5 : ¬ (12 = 15) := by decide
    have n6 : ¬ (12 = 16) := by decide
    obtain ⟨T1, hT1⟩ : ∃ T1, sF (sF (sF (sF T 14 i (T 9 i)) 15 i (T 10 i)) 16 i (T 11 i)) 17 i (T 12 i) = T1 := ⟨_, rfl⟩
    have eM : f_Mo_law_123 (F + 1) T (nI i) = f_Mo_law_123 F T1 (nI (i + 1)) := by
      rw [f_Mo_law_123, h15, if_neg (nle (by omega))]
      simp only [g1, c1, ↓reduceIte, Option.bind_some, nI_1, sF_rne n1, sF_rne n2, sF_rne n3, sF_rne n4, sF_rne n5, sF_rne n6, hT1]
    have r1 : ∀ k j, k < 14 ∨ 17 < k → T1 k j = T k j := fun k j h => by rw [← hT1, sF_ne (by omega), sF_ne (by omega), sF_ne (by omega), sF_ne (by omega)]
    obtain ⟨T2, e1, e2, e3, e4⟩ := ih (i + 1) F T1 (by omega) (by omega) (by rw [r1 0 15 (by omega)]; exact h15)
    refine ⟨T2, eM.trans e1, fun j hj => ?_, fun j h1 h2 => ?_, fun k j hk => (e4 k j hk).trans (r1 k j hk)⟩
    · obtain ⟨a1, a2, a3, a4⟩ := e2 j (by omega)
      rw [a1, a2, a3, a4, ← hT1]
      refine ⟨?_, ?_, ?_, ?_⟩
      · rw [sF_ne (by omega), sF_ne (by omega), sF_ne (by omega), sF_ne (by omega)]
      · rw [sF_ne (by omega), sF_ne (by omega), sF_ne (by omega), sF_ne (by omega)]
      · rw [sF_ne (by omega), sF_ne (by omega), sF_ne (by omega), sF_ne (by omega)]
      · rw [sF_ne (by omega), sF_ne (by omega), sF_ne (by omega), sF_ne (by omega)]
    · by_cases e : j = i
      · subst e
        obtain ⟨a1, a2, a3, a4⟩ := e2 j (by omega)
        rw [a1, a2, a3, a4, ← hT1]
        refine ⟨?_, ?_, ?_, ?_⟩
        · rw [sF_ne (by omega), sF_ne (by omega), sF_ne (by omega), sF_at]
        · rw [sF_ne (by omega), sF_ne (by omega), sF_at]
        · rw [sF_ne (by omega), sF_at]
        · rw [sF_at]
      · have := e3 j (by omega) h2
        rw [r1 9 j (by omega), r1 10 j (by omega), r1 11 j (by omega), r1 12 j (by omega)] at this
        exact this
theorem m_95 {r z : Nat} (hz : z ≤ 240) {w : Option (Int32 × St) → Prop} {F0 : Nat} (hF0 : FU = F0) : ∀ d i F (T : St), i + d = z → d < F → T 0 13 = nI z → (∀ T', (∀ j, j < i → T' 13 j = T 13 j) → (∀ j, i ≤ j → j < z → T' 13 j = T 7 j) → (∀ k j, k ≠ 13 → T' k j = T k j) → w (f_Mo_law_123 F0 T' 0)) → w (f_Mo_law_95 F T (nI i)) := by
  intro d
  induction d with
  | zero =>
    intro i F T hi hF h13 hw
    obtain ⟨F, rfl⟩ : ∃ v, F = v + 1 := ⟨F - 1, by omega⟩
    rw [f_Mo_law_95, h13, if_pos (yle (by omega)), Option.bind_some, hF0]
    exact hw T (fun _ _ => rfl) (fun j h1 h2 => by omega) (fun _ _ _ => rfl)
  | succ d ih =>
    intro i F T hi hF h13 hw
    obtain ⟨F, rfl⟩ : ∃ v, F = v + 1 := ⟨F - 1, by omega⟩
    have g1 : ig (nI i) 260 = true := gn (by omega) (by omega)
    have c1 : (nI i).toNatClampNeg = i := cl
    rw [f_Mo_law_95, h13, if_neg (nle (by omega)), if_pos g1, if_pos g1, c1, Option.bind_some, Option.bind_some, nI_1]
    refine ih (i + 1) F _ (by omega) (by omega) (by rw [sF_ne (by omega)]; exact h13) (fun T' a1 a2 a3 => hw T' (fun j hj => ?_) (fun j h1 h2 => ?_) (fun k j hk => ?_))
    · rw [a1 j (by omega), sF_ne (by omega)]
    · by_cases e : j = i
      · subst e; rw [a1 j (by omega), sF_at]
      · rw [a2 j (by omega) h2, sF_ne (by omega)]
    · rw [a3 k j hk, sF_ne (by omega)]
/-- only the law has changed -/
theorem Core.law {LR : St → St → Prop} {Sx Sm Sx' Sm' : St} (h : Core LR Sx Sm) (hx : ∀ k j, RX k j → ¬ (25 ≤ k ∧ k ≤ 31) → Sx' k j = Sx k j) (hm : ∀ k j, RM k j → ¬ ((13 ≤ k ∧ k ≤ 17) ∨ (k = 0 ∧ j = 16)) → Sm' k j = Sm k j) (hl : LR Sx' Sm') : Core LR Sx' Sm' := by
  have h' : Core (fun _ _ => True) Sx Sm := ⟨h.1, h.2.1, h.2.2.1, trivial⟩
  obtain ⟨⟨t, ht, h1, ⟨h2, h3⟩, h4, h5, h6⟩, ⟨k1, k2⟩, ⟨d1, d2, d3⟩, -⟩ := h'
  have m1 : Sm' 1 = Sm 1 := fe (fun j => hm 1 j (by unfold RM; omega) (by omega))
  have m3 : Sm' 3 = Sm 3 := fe (fun j => hm 3 j (by unfold RM; omega) (by omega))
  have m4 : Sm' 4 = Sm 4 := fe (fun j => hm 4 j (by unfold RM; omega) (by omega))
  have m5 : Sm' 5 = Sm 5 := fe (fun j => hm 5 j (by unfold RM; omega) (by omega))
  have x4 : ∀ k, 4 ≤ k → k ≤ 9 → Sx' k = Sx k := fun k a b => fe (fun j => hx k j (by unfold RX; omega) (by omega))
  have x12 : Sx' 12 = Sx 12 := fe (fun j => hx 12 j (by unfold RX; omega) (by omega))
  have x13 : Sx' 13 = Sx 13 := fe (fun j => hx 13 j (by unfold RX; omega) (by omega))
  have x24 : Sx' 24 = Sx 24 := fe (fun j => hx 24 j (by unfold RX; omega) (by omega))
  refine ⟨⟨t, ht, ?_, ⟨?_, ?_⟩, ?_, ?_, ?_⟩, ⟨?_, ?_⟩, ⟨?_, ?_, ?_⟩, hl⟩
  · rw [hm 0 5 (by unfold RM; omega) (by omega)]; exact h1
  · rw [x4 4 (by omega) (by omega)]; exact h2
  · intro k hk
    rw [x4 5 (by omega) (by omega), x4 6 (by omega) (by omega), m4, m5]; exact h3 k hk
  · rw [m4, m5]; exact h4
  · rw [m1]; exact h5.congr (fun j => by rw [x4 7 (by omega) (by omega)]) (fun j => by rw [x4 8 (by omega) (by omega)]) (fun j _ => by rw [x4 4 (by omega) (by omega)]) (fun _ => rfl)
  · rw [m1]; exact h6
  · rw [hx 0 13 (by unfold RX; omega) (by omega), hm 0 53 (by unfold RM; omega) (by omega)]; exact k1
  · rw [hm 0 53 (by unfold RM; omega) (by omega), hm 0 54 (by unfold RM; omega) (by omega), m3]
    rcases k2 with k2 | ⟨k2, t', a1, a2, a3, a4, a5⟩
    · exact Or.inl k2
    · exact Or.inr ⟨k2, t', a1, a2, by rw [x4 9 (by omega) (by omega)]; exact a3, a4.congr (fun j => by rw [x12]) (fun j => by rw [x13]) (fun j _ => by rw [x4 9 (by omega) (by omega)]) (fun _ => rfl), a5⟩
  · rw [hx 20 5 (by unfold RX; omega) (by omega)]; exact d1
  · rw [hx 20 7 (by unfold RX; omega) (by omega)]; exact d2
  · intro k hk; rw [x24]; exact d3 k hk
theorem st_law (a : Int32) : STEP (RelL LawR) m_W_law m_Mo_law 142 9 [a] := by
  intro Sx Sm hR
  obtain ⟨F, hF⟩ : ∃ F, FU = F := ⟨_, rfl⟩
  have hF' : 300 < F := by rw [← hF]; exact FU_gt (by omega)
  have no : f_W_law Sx a = some (-1, Sx) → f_Mo_law Sm a = some (-1, Sm) → ∃ r Sx' Sm', Ct SX m_W_law 142 (.ref 0 :: [a].map Value.int) Sx (some r) Sx' ∧ Ct SM m_Mo_law 9 (.ref 0 :: [a].map Value.int) Sm (some r) Sm' ∧ RelL LawR Sx' Sm' := fun e1 e2 => ⟨-1, Sx, Sm, t_W_law e1, t_Mo_law e2, hR⟩
  by_cases hc : a < 1 ∨ (240 : Int32) < a
  · exact no (by unfold f_W_law; rw [wi_n hc]; rfl) (by unfold f_Mo_law; rw [in_n hc]; rfl)
  have n1 : ¬ a < 1 := fun z => hc (Or.inl z)
  have n2 : ¬ (240 : Int32) < a := fun z => hc (Or.inr z)
  obtain ⟨n, q1, q2, rfl⟩ := rngN (a := 1) (b := 240) (by omega) n1 n2
  rcases tk hR.1 n (by omega) with ⟨b, t1, t2, t3, t4⟩ | ⟨t1, t2⟩
  · obtain ⟨S0, hS0⟩ : ∃ S0, sF (sF (sF (sF (tX Sx n) 3 1 0) 3 2 0) 32 7 0) 32 8 0 = S0 := ⟨_, rfl⟩
    obtain ⟨T0, hT0⟩ : ∃ T0, sF (sF (sF (sF Sm 0 8 0) 0 9 (nI n)) 0 13 0) 0 15 0 = T0 := ⟨_, rfl⟩
    have hX : XD S0 n b 0 := by
      rw [← hS0]
      refine ⟨⟨?_, t3.2.1, fun i hi => ?_⟩, ?_, ?_, by omega, by omega⟩
      · rw [sF_ne (by omega), sF_ne (by omega), sF_ne (by omega), sF_ne (by omega)]; exact t3.1
      · rw [sF_ne (by omega), sF_ne (by omega), sF_ne (by omega), sF_ne (by omega)]; exact t3.2.2 i hi
      · rw [sF_ne (by omega), sF_ne (by omega), sF_ne (by omega), sF_at]; rfl
      · rw [sF_ne (by omega), sF_ne (by omega), sF_at]
    have hM : MD T0 n b 0 := by
      rw [← hT0]
      refine ⟨⟨t4.1, fun i hi => ?_⟩, ?_, ?_⟩
      · have := t4.2 i hi
        unfold tM at this
        rw [sF_ne (by omega)] at this
        rw [sF_ne (by omega), sF_ne (by omega), sF_ne (by omega), sF_ne (by omega)]; exact this
      · rw [sF_ne (by omega), sF_ne (by omega), sF_at]
      · rw [sF_ne (by omega), sF_ne (by omega), sF_ne (by omega), sF_at]; rfl
    have eX0 : f_Law_read (tX Sx n) = f_Law_read_21 F S0 1 0 := by
      unfold f_Law_read f_Reading_begin
      rw [Option.bind_some, Option.bind_some, Option.bind_some, Option.bind_some, Option.bind_some, Option.bind_some, Option.bind_some, hF, hS0]
    have eM0 : f_Mo_law Sm (nI n) = ((f_Mo_readsRule T0).bind fun w => f_Mo_law_31 F w.2 w.1) := by
      unfold f_Mo_law f_Mo_beginsText
      rw [in_y n1 n2, Option.bind_some, if_neg i10, if_pos t2, Option.bind_some, Option.bind_some, Option.bind_some, Option.bind_some, Option.bind_some, hF, hT0]
      rfl
    have eX1 : f_W_law Sx (nI n) = ((f_Law_read_21 F S0 1 0).bind fun w_28 => if w_28.1 = 0 then (f_Law_copyFrom w_28.2).bind fun w_46 => some ((w_46 25 8), w_46) else some (w_28.1, w_28.2)) := by
      unfold f_W_law
      rw [wi_y n1 n2, Option.bind_some, if_neg i10, t1, Option.bind_some, if_neg i10, eX0]
      rfl
    have fS0 : ∀ r j, ¬ ((r = 1 ∧ (j = 1 ∨ j = 2)) ∨ (r = 3 ∧ (j = 1 ∨ j = 2)) ∨ (r = 32 ∧ (j = 7 ∨ j = 8))) → S0 r j = Sx r j := fun r j h => by
      rw [← hS0, sF_ne (by omega), sF_ne (by omega), sF_ne (by omega), sF_ne (by omega)]
      unfold tX
      rw [sF_ne (by omega), sF_ne (by omega)]
    have s12 : S0 1 2 = 0 := by
      rw [← hS0, sF_ne (by omega), sF_ne (by omega), sF_ne (by omega), sF_ne (by omega)]
      unfold tX; exact sF_at
    have fT0 : ∀ k j, ¬ (k = 0 ∧ (j = 8 ∨ j = 9 ∨ j = 13 ∨ j = 15)) → T0 k j = Sm k j := fun k j h => by
      rw [← hT0, sF_ne (by omega), sF_ne (by omega), sF_ne (by omega), sF_ne (by omega)]
    rcases rd_law 16 0 0 0 0 F F S0 T0 (by omega) (by omega) (by omega) hX hM (by rw [← hS0, sF_ne (by omega), sF_at]; rfl) (by rw [← hT0, sF_ne (by omega), sF_at]; rfl) (by rw [← hT0, sF_at]; rfl) (by omega) (fun r' h => by omega) with ⟨r, z, s, S1, T1, k1, k2, e1, e2, u1, u2, u3, u4, u5, u6, u7⟩ | ⟨f, S1, T1, e1, e2, f0, f1, u6, u7⟩
    · have e1' : f_Law_read_21 F S0 1 0 = some (0, S1) := e1
      obtain ⟨S2, c1, c2, c3, c4⟩ := lc_spec (S := S1)
      have hxF : f_W_law Sx (nI n) = some (nI r, S2) := by
        rw [eX1, e1', Option.bind_some, if_pos rfl]
        show ((f_Law_copyFrom S1).bind fun w_46 => some ((w_46 25 8), w_46)) = _
        rw [c1, Option.bind_some, c4, u1]
      obtain ⟨T3, m1, m2, m3⟩ : ∃ T3, f_Mo_law Sm (nI n) = some (nI r, T3) ∧ (T3 0 16 = nI r ∧ T3 0 7 = 0 ∧ (∀ j, j < z → T3 13 j = T1 7 j) ∧ ∀ j, j < r → T3 14 j = T1 9 j ∧ T3 15 j = T1 10 j ∧ T3 16 j = T1 11 j ∧ T3 17 j = T1 12 j) ∧ ∀ k j, ¬ (13 ≤ k ∧ k ≤ 17) → ¬ (k = 0 ∧ (j = 7 ∨ j = 16)) → T3 k j = T1 k j := by
        rw [eM0, e2]
        unfold f_Mo_law_71
        have e15 : sF T1 0 7 0 0 15 = nI r := by rw [sF_ne (by omega)]; exact u2
        rw [Option.bind_some, if_neg i10, e15, Option.bind_some, Option.bind_some, hF]
        refine m_95 (r := r) (z := z) (by omega) (w := fun X => ∃ T3, X = some (nI r, T3) ∧ (T3 0 16 = nI r ∧ T3 0 7 = 0 ∧ (∀ j, j < z → T3 13 j = T1 7 j) ∧ ∀ j, j < r → T3 14 j = T1 9 j ∧ T3 15 j = T1 10 j ∧ T3 16 j = T1 11 j ∧ T3 17 j = T1 12 j) ∧ ∀ k j, ¬ (13 ≤ k ∧ k ≤ 17) → ¬ (k = 0 ∧ (j = 7 ∨ j = 16)) → T3 k j = T1 k j) hF z 0 F (sF (sF T1 0 7 0) 0 16 (nI r)) (by omega) (by omega) (by rw [sF_ne (by omega), sF_ne (by omega)]; exact u3) (fun T' a1 a2 a3 => ?_)
        have b15 : T' 0 15 = nI r := by rw [a3 0 15 (by omega), sF_ne (by omega)]; exact e15
        obtain ⟨T3, g1, g2, g3, g4⟩ := m_123 k2 r 0 F T' (by omega) (by omega) b15
        refine ⟨T3, g1, ⟨?_, ?_, fun j hj => ?_, fun j hj => ?_⟩, fun k j h1 h2 => ?_⟩
        · rw [g4 0 16 (by omega), a3 0 16 (by omega), sF_at]
        · rw [g4 0 7 (by omega), a3 0 7 (by omega), sF_ne (by omega), sF_at]
        · rw [g4 13 j (by omega), a2 j (by omega) hj, sF_ne (by omega), sF_ne (by omega)]
        · obtain ⟨h1, h2, h3, h4⟩ := g3 j (by omega) hj
          rw [h1, h2, h3, h4, a3 9 j (by omega), a3 10 j (by omega), a3 11 j (by omega), a3 12 j (by omega), sF_ne (by omega), sF_ne (by omega), sF_ne (by omega), sF_ne (by omega), sF_ne (by omega), sF_ne (by omega), sF_ne (by omega), sF_ne (by omega)]
          exact ⟨rfl, rfl, rfl, rfl⟩
        · rw [g4 k j (by omega), a3 k j (by omega), sF_ne (by omega), sF_ne (by omega)]
      have hlaw : LawR S2 T3 := by
        refine ⟨r, k2, by rw [c4]; exact u1, m2.1, fun r' hr' => ?_⟩
        obtain ⟨v1, v2, v3, v4⟩ := c3 r' (by omega)
        obtain ⟨v5, v6, v7, v8⟩ := m2.2.2.2 r' hr'
        exact ((u5 r' hr').cong v1 v2 v3 v4 v5 v6 v7 v8 (fun i hi => c2 i (by omega)) (fun i hi => m2.2.2.1 i hi) (Nat.le_refl _) (Nat.le_refl _)).g (by omega)
      have fS2 : ∀ k j, RX k j → ¬ (25 ≤ k ∧ k ≤ 31) → S2 k j = Sx k j := fun k j hk hn => by
        unfold RX at hk
        rw [w_Law_copyFrom c1 (by omega), u6 k j (by omega), fS0 k j (by omega)]
      refine ⟨nI r, S2, T3, t_W_law hxF, t_Mo_law m1, ⟨0, by omega, ?_, ?_, fun i hi => by omega⟩, Core.law hR.2 fS2 (fun k j hk hn => ?_) hlaw⟩
      · rw [w_Law_copyFrom c1 (by omega), u6 1 2 (by omega), s12]; rfl
      · rw [m2.2.1]; rfl
      · unfold RM at hk
        rw [m3 k j (by omega) (by omega), u7 k j (by omega), fT0 k j (by omega)]
    · have hxF : f_W_law Sx (nI n) = some (f, S1) := by
        rw [eX1, show f_Law_read_21 F S0 1 0 = some (f, S1) from e1, Option.bind_some, if_neg f0]
      have hmF : f_Mo_law Sm (nI n) = some (f, sF T1 0 7 0) := by
        rw [eM0, e2]
        unfold f_Mo_law_71
        rw [Option.bind_some, if_pos rfl, sF_ne (by omega), f1]
      refine ⟨f, S1, sF T1 0 7 0, t_W_law hxF, t_Mo_law hmF, hR.taken LawR_c (fun k j hk => ?_) (fun k j hk => ?_) ?_ sF_at⟩
      · unfold RX at hk
        rw [u6 k j (by omega), fS0 k j (by omega)]
      · unfold RM at hk
        rw [sF_ne (by omega), u7 k j (by omega), fT0 k j (by omega)]
      · rw [u6 1 2 (by omega), s12]
  · refine no ?_ ?_
    · unfold f_W_law
      rw [wi_y n1 n2, Option.bind_some, if_neg i10, t1, Option.bind_some, if_pos rfl]
    · unfold f_Mo_law
      rw [in_y n1 n2, Option.bind_some, if_neg i10, if_neg t2]
end LA
