section TF
variable {st t : Nat} {S T : St}
theorem tw_left (h : TWR st S T t 0) (h8 : st ≤ 8) : ∃ v S' T', f_Twist_turnsLeft S = some (v, S') ∧ f_Mo_shortened T = some (v, T') ∧ (∀ r j, r ≠ 44 → S' r j = S r j) ∧ (∀ r j, r ≠ 32 → T' r j = T r j) := by
  obtain ⟨F0, hF0⟩ : ∃ F, FU = F := ⟨_, rfl⟩
  have hF0' : 300 < F0 := by rw [← hF0]; exact FU_gt (by omega)
  have t64 := h.2.2.1
  have key' : ∀ m i F F' k (S1 T1 : St), i + m = t → m < F → m < F' → k ≤ i → (∀ r j, r ≠ 44 → S1 r j = S r j) → (∀ r j, r ≠ 32 → T1 r j = T r j) → (∀ j, j < k → tcR st (S1 44 j) (T1 32 j)) → ∃ v S' T', f_Twist_turnsLeft_4 F S1 (nI k) (nI i) = some (v, S') ∧ f_Mo_shortened_4 F' T1 (nI k) (nI i) = some (v, T') ∧ (∀ r j, r ≠ 44 → S' r j = S r j) ∧ (∀ r j, r ≠ 32 → T' r j = T r j) := by
    intro m
    induction m with
    | zero =>
      intro i F F' k S1 T1 hi hF hF' hk hx hm hr
      obtain ⟨F, rfl⟩ : ∃ v, F = v + 1 := ⟨F - 1, by omega⟩
      obtain ⟨F', rfl⟩ : ∃ v, F' = v + 1 := ⟨F' - 1, by omega⟩
      exact ⟨nI k, S1, T1, by rw [f_Twist_turnsLeft_4, hx 42 8 (by omega), h.1, if_pos (yle (by omega))], by rw [f_Mo_shortened_4, hm 0 45 (by omega), h.2.1, if_pos (yle (by omega))], hx, hm⟩
    | succ m ih =>
      intro i F F' k S1 T1 hi hF hF' hk hx hm hr
      obtain ⟨F, rfl⟩ : ∃ v, F = v + 1 := ⟨F - 1, by omega⟩
      obtain ⟨F', rfl⟩ : ∃ v, F' = v + 1 := ⟨F' - 1, by omega⟩
      have c1 : (nI i).toNatClampNeg = i := cl
      have ck : (nI k).toNatClampNeg = k := cl
      have gi : ig (nI i) 64 = true := gn (by omega) (by omega)
      have gk : ig (nI k) 64 = true := gn (by omega) (by omega)
      have x43 : S1 43 i = S 43 i := hx 43 i (by omega)
      have y26 : T1 26 i = T 26 i := hm 26 i (by omega)
      have tci := h.2.2.2.2.2.2.1 i (by omega)
      -- it is laid on top
      obtain ⟨v, S2, T2, g1, g2, g3, g4⟩ := ih (i + 1) F F' (k + 1) (sF S1 44 k (S 43 i)) (sF T1 32 k (T 26 i)) (by omega) (by omega) (by omega) (by omega) (fun r j hr' => by rw [sF_ne (Or.inl hr')]; exact hx r j hr') (fun r j hr' => by rw [sF_ne (Or.inl hr')]; exact hm r j hr') (fun j hj => by
        by_cases e : j = k
        · rw [e, sF_at, sF_at]; exact tci
        · rw [sF_ne (Or.inr e), sF_ne (Or.inr e)]; exact hr j (by omega))
      have pX : f_Twist_turnsLeft_46 (f_Twist_turnsLeft_4 F) S1 (nI k) (nI i) = some (v, S2) := by
        unfold f_Twist_turnsLeft_46 f_Twist_turnsLeft_61
        rw [if_pos gi, if_pos gk, c1, ck, x43, Option.bind_some, nI_1, Option.bind_some, nI_1, Option.bind_some]
        exact g1
      have pM : f_Mo_shortened_44 (f_Mo_shortened_4 F') T1 (nI k) (nI i) 0 = some (v, T2) := by
        unfold f_Mo_shortened_44 f_Mo_shortened_61 f_Mo_shortened_74
        rw [if_pos rfl, if_pos gi, if_pos gk, c1, ck, y26, Option.bind_some, if_pos rfl, nI_1, nI_1, Option.bind_some]
        exact g2
      rw [f_Twist_turnsLeft_4, hx 42 8 (by omega), h.1, if_neg (nle (by omega)), if_neg (show ¬ (64 : Int32) ≤ nI i from nle (b := 64) (by omega)), f_Mo_shortened_4, hm 0 45 (by omega), h.2.1, if_neg (nle (by omega))]
      unfold f_Mo_shortened_43
      rw [pX, pM]
      by_cases k0 : k = 0
      · have kl : nI k ≤ 0 := by rw [k0]; decide
        rw [if_pos kl, if_pos kl]
        exact ⟨v, S2, T2, rfl, rfl, g3, g4⟩
      · have kl : ¬ nI k ≤ 0 := nle (a := 0) (by omega)
        have sk : nI k - 1 = nI (k - 1) := pk_sub (b := 1) (by omega)
        have ck1 : (nI (k - 1)).toNatClampNeg = k - 1 := cl
        have gk1 : ig (nI (k - 1)) 64 = true := gn (by omega) (by omega)
        have un := tc_undo (hr (k - 1) (by omega)) tci h8
        rw [if_neg kl, if_neg kl, sk, if_pos gk1, if_pos gk1, if_pos gi, if_pos gi, ck1, c1, x43, y26, m_size, Option.bind_some, Option.bind_some]
        by_cases c : S1 44 (k - 1) = -(S 43 i)
        · rw [if_pos c, if_pos (un.mp c)]
          obtain ⟨v, S3, T3, u1, u2, u3, u4⟩ := ih (i + 1) F F' (k - 1) S1 T1 (by omega) (by omega) (by omega) (by omega) hx hm (fun j hj => hr j (by omega))
          refine ⟨v, S3, T3, ?_, ?_, u3, u4⟩
          · unfold f_Twist_turnsLeft_61
            have em : nI k + (-1) = nI (k - 1) := by rw [← Int32.sub_eq_add_neg]; exact sk
            rw [em, Option.bind_some, nI_1]
            exact u1
          · unfold f_Mo_shortened_44 f_Mo_shortened_61 f_Mo_shortened_74
            rw [if_neg i10, if_neg i10, sk, nI_1, Option.bind_some]
            exact u2
        · rw [if_neg c, if_neg (fun z => c (un.mpr z))]
          exact ⟨v, S2, T2, rfl, rfl, g3, g4⟩
  unfold f_Twist_turnsLeft f_Mo_shortened
  rw [Option.bind_some, Option.bind_some, Option.bind_some, Option.bind_some, hF0]
  exact key' t 0 F0 F0 0 S T (by omega) (by omega) (by omega) (by omega) (fun _ _ _ => rfl) (fun _ _ _ => rfl) (fun j hj => by omega)
/-! where strands come out -/
def mv (c a : Nat) : Nat := if a = c then a + 1 else if a = c + 1 then a - 1 else a
def tP (c : Nat → Nat) : Nat → Nat → Nat
  | 0, a => a
  | i + 1, a => mv (c i) (tP c i a)
theorem mv_lt {c a n : Nat} (hc : c + 2 ≤ n) (ha : a < n) : mv c a < n := by
  unfold mv
  by_cases h1 : a = c
  · rw [if_pos h1]; omega
  · rw [if_neg h1]
    by_cases h2 : a = c + 1
    · rw [if_pos h2]; omega
    · rw [if_neg h2]; exact ha
theorem mv_inj {c a d : Nat} (h : mv c a = mv c d) : a = d := by
  unfold mv at h
  by_cases h1 : a = c <;> by_cases h2 : d = c <;> by_cases h3 : a = c + 1 <;> by_cases h4 : d = c + 1 <;> simp only [h1, h2, h3, h4, ↓reduceIte] at h <;> first | omega | (split at h <;> (try split at h) <;> omega)
def CD (st t : Nat) (S T : St) (c : Nat → Nat) : Prop := ∀ i, i < t → c i + 2 ≤ st ∧ ((S 43 i = nI (c i + 1) ∧ T 26 i = nI (c i)) ∨ (S 43 i = -(nI (c i + 1)) ∧ T 26 i = nI (8 + c i)))
theorem TWR.cd (h : TWR st S T t 0) : ∃ c, CD st t S T c := by
  have hc : ∀ i, ∃ c, i < t → c + 2 ≤ st ∧ ((S 43 i = nI (c + 1) ∧ T 26 i = nI c) ∨ (S 43 i = -(nI (c + 1)) ∧ T 26 i = nI (8 + c))) := fun i => by
    by_cases hi : i < t
    · obtain ⟨c, q⟩ := h.2.2.2.2.2.2.1 i hi
      exact ⟨c, fun _ => q⟩
    · exact ⟨0, fun z => absurd z hi⟩
  exact ⟨fun i => Classical.choose (hc i), fun i hi => Classical.choose_spec (hc i) hi⟩
theorem tP_lt {c : Nat → Nat} (hc : CD st t S T c) : ∀ i, i ≤ t → ∀ a, a < st → tP c i a < st
  | 0, _, a, ha => ha
  | i + 1, hi, a, ha => mv_lt (hc i (by omega)).1 (tP_lt hc i (by omega) a ha)
theorem tP_inj {c : Nat → Nat} : ∀ i a d, tP c i a = tP c i d → a = d
  | 0, _, _, h => h
  | i + 1, a, d, h => tP_inj i a d (mv_inj h)
theorem x_out (h : TWR st S T t 0) (h8 : st ≤ 8) {c : Nat → Nat} (hc : CD st t S T c) {a : Nat} (ha : a < st) {S1 : St} (hS : ∀ r j, r ≠ 48 → S1 r j = S r j) : f_Twist_comesOut S1 (nI a) = some (nI (tP c t a)) := by
  obtain ⟨F0, hF0⟩ : ∃ F, FU = F := ⟨_, rfl⟩
  have hF0' : 300 < F0 := by rw [← hF0]; exact FU_gt (by omega)
  have t64 := h.2.2.1
  have key' : ∀ m i F, i + m = t → m < F → f_Twist_comesOut_4 F S1 (nI (tP c i a)) (nI i) = some (nI (tP c t a)) := by
    intro m
    induction m with
    | zero =>
      intro i F hi hF
      obtain ⟨F, rfl⟩ : ∃ v, F = v + 1 := ⟨F - 1, by omega⟩
      have : i = t := by omega
      subst this
      rw [f_Twist_comesOut_4, hS 42 8 (by omega), h.1, if_pos (yle (Nat.le_refl _))]
    | succ m ih =>
      intro i F hi hF
      obtain ⟨F, rfl⟩ : ∃ v, F = v + 1 := ⟨F - 1, by omega⟩
      have c1 : (nI i).toNatClampNeg = i := cl
      obtain ⟨q1, q2⟩ := hc i (by omega)
      have pl := tP_lt hc i (by omega) a ha
      have ja : jabs (S 43 i) - 1 = nI (c i) := by
        have e1 : nI (c i + 1) - 1 = nI (c i) := pk_sub (a := c i + 1) (b := 1) (by omega)
        rcases q2 with ⟨e, -⟩ | ⟨e, -⟩
        · rw [e]; unfold jabs; rw [if_pos (show 0 ≤ nI (c i + 1) from yle (a := 0) (by omega)), e1]
        · rw [e]; unfold jabs
          rw [if_neg (fun z => by
            rw [fa_le, fb_negI (by rw [nI_toInt (by omega)]; omega), nI_toInt (by omega)] at z
            have : (0 : Int32).toInt = 0 := rfl
            omega), Int32.zero_sub, Int32.neg_neg, e1]
      have ih1 := ih (i + 1) F (by omega) (by omega)
      rw [tP] at ih1
      obtain ⟨x, hx⟩ : ∃ x, tP c i a = x := ⟨_, rfl⟩
      rw [hx] at ih1 pl ⊢
      unfold mv at ih1
      rw [f_Twist_comesOut_4, hS 42 8 (by omega), h.1, if_neg (nle (by omega)), if_neg (show ¬ (64 : Int32) ≤ nI i from nle (b := 64) (by omega)), if_pos (gn (by omega) (by omega)), c1, hS 43 i (by omega), ja, Option.bind_some]
      unfold f_Twist_comesOut_54
      rw [show nI i + 1 = nI (i + 1) from nI_add i 1, show nI (c i) + 1 = nI (c i + 1) from nI_add (c i) 1, Option.bind_some]
      by_cases d1 : x = c i
      · rw [if_pos d1] at ih1
        rw [if_pos (show nI x = nI (c i) by rw [d1]), show nI x + 1 = nI (x + 1) from nI_add x 1, Option.bind_some]
        exact ih1
      · rw [if_neg d1] at ih1
        rw [if_neg (nI_k _ (by omega) (by omega) d1)]
        by_cases d2 : x = c i + 1
        · have em : nI x + (-1) = nI (x - 1) := by rw [← Int32.sub_eq_add_neg]; exact pk_sub (b := 1) (by omega)
          rw [if_pos d2] at ih1
          rw [if_pos (show nI x = nI (c i + 1) by rw [d2]), em, Option.bind_some]
          exact ih1
        · rw [if_neg d2] at ih1
          rw [if_neg (nI_k _ (by omega) (by omega) d2)]
          exact ih1
  unfold f_Twist_comesOut
  rw [Option.bind_some, hF0]
  exact key' t 0 F0 (by omega) (by omega)
/-- the reference's strands -/
def ST30 (T : St) (st : Nat) (c : Nat → Nat) (i : Nat) (R : Nat → Nat) : Prop := (∀ k, k < st → T 30 k = nI (R k) ∧ R k < st) ∧ (∀ k m, k < st → m < st → R k = R m → k = m) ∧ ∀ a, a < st → R (tP c i a) = a
theorem m_turns (h : TWR st S T t 0) (h8 : st ≤ 8) {c : Nat → Nat} (hc : CD st t S T c) : ∃ T' R, f_Mo_turnsAll T (nI st) = some T' ∧ (∀ r j, r ≠ 30 → T' r j = T r j) ∧ ST30 T' st c t R := by
  obtain ⟨F0, hF0⟩ : ∃ F, FU = F := ⟨_, rfl⟩
  have hF0' : 300 < F0 := by rw [← hF0]; exact FU_gt (by omega)
  have t64 := h.2.2.1
  have k22 : ∀ m i F (T1 : St) (R : Nat → Nat), i + m = t → m < F → (∀ r j, r ≠ 30 → T1 r j = T r j) → ST30 T1 st c i R → ∃ T' R', f_Mo_turnsAll_22 F T1 (nI i) = some T' ∧ (∀ r j, r ≠ 30 → T' r j = T r j) ∧ ST30 T' st c t R' := by
    intro m
    induction m with
    | zero =>
      intro i F T1 R hi hF hm hR
      obtain ⟨F, rfl⟩ : ∃ v, F = v + 1 := ⟨F - 1, by omega⟩
      have : i = t := by omega
      subst this
      exact ⟨T1, R, by rw [f_Mo_turnsAll_22, hm 0 45 (by omega), h.2.1, if_pos (yle (Nat.le_refl _))], hm, hR⟩
    | succ m ih =>
      intro i F T1 R hi hF hm hR
      obtain ⟨F, rfl⟩ : ∃ v, F = v + 1 := ⟨F - 1, by omega⟩
      have c1 : (nI i).toNatClampNeg = i := cl
      obtain ⟨q1, q2⟩ := hc i (by omega)
      have cc : (nI (c i)).toNatClampNeg = c i := cl
      have cc1 : (nI (c i + 1)).toNatClampNeg = c i + 1 := cl
      have jr8 : jrem (T 26 i) 8 = nI (c i) := by
        rcases q2 with ⟨-, e⟩ | ⟨-, e⟩
        · rw [e, show jrem (nI (c i)) 8 = nI (c i % 8) from pk_rem (d := 8) (by omega) (by omega) (by omega)]; congr 1; omega
        · rw [e, show jrem (nI (8 + c i)) 8 = nI ((8 + c i) % 8) from pk_rem (d := 8) (by omega) (by omega) (by omega)]; congr 1; omega
      obtain ⟨h1, h2, h3⟩ := hR
      obtain ⟨T2, hT2⟩ : ∃ T2, sF (sF T1 30 (c i) (T1 30 (c i + 1))) 30 (c i + 1) (T1 30 (c i)) = T2 := ⟨_, rfl⟩
      have hR2 : ST30 T2 st c (i + 1) (fun k => R (mv (c i) k)) := by
        refine ⟨fun k hk => ⟨?_, (h1 _ (mv_lt q1 hk)).2⟩, fun k m hk hm' e => mv_inj (h2 _ _ (mv_lt q1 hk) (mv_lt q1 hm') e), fun a ha => ?_⟩
        · rw [← hT2]
          show _ = nI (R (mv (c i) k))
          unfold mv
          by_cases d1 : k = c i
          · rw [if_pos d1, d1, sF_ne (by omega), sF_at]; exact (h1 _ (by omega)).1
          · rw [if_neg d1]
            by_cases d2 : k = c i + 1
            · rw [if_pos d2, d2, sF_at, show c i + 1 - 1 = c i by omega]; exact (h1 _ (by omega)).1
            · rw [if_neg d2, sF_ne (Or.inr d2), sF_ne (Or.inr d1)]; exact (h1 k hk).1
        · show R (mv (c i) (tP c (i + 1) a)) = a
          rw [tP]
          have : mv (c i) (mv (c i) (tP c i a)) = tP c i a := by
            obtain ⟨x, hx⟩ : ∃ x, tP c i a = x := ⟨_, rfl⟩
            rw [hx]
            unfold mv
            by_cases d1 : x = c i
            · rw [if_pos d1, if_neg (by omega), if_pos (by omega)]; omega
            · by_cases d2 : x = c i + 1
              · rw [if_neg d1, if_pos d2, if_pos (by omega)]; omega
              · rw [if_neg d1, if_neg d2, if_neg d1, if_neg d2]
          rw [this]; exact h3 a ha
      obtain ⟨T', R', e1, e2, e3⟩ := ih (i + 1) F T2 (fun k => R (mv (c i) k)) (by omega) (by omega) (fun r j hr => by rw [← hT2, sF_ne (Or.inl hr), sF_ne (Or.inl hr)]; exact hm r j hr) hR2
      refine ⟨T', R', ?_, e2, e3⟩
      rw [f_Mo_turnsAll_22, hm 0 45 (by omega), h.2.1, if_neg (nle (by omega)), if_pos (gn (by omega) (by omega)), c1, hm 26 i (by omega), jr8, Option.bind_some, if_pos (gn (by omega) (by omega)), cc, Option.bind_some, show nI (c i) + 1 = nI (c i + 1) from nI_add (c i) 1, if_pos (gn (by omega) (by omega)), cc1, if_pos (gn (by omega) (by omega)), Option.bind_some, if_pos (gn (by omega) (by omega)), Option.bind_some, nI_1, hT2, Option.bind_some]
      exact e1
  have k2 : ∀ m i F (T1 : St), i + m = st → m < F → (∀ r j, r ≠ 30 → T1 r j = T r j) → (∀ k, k < i → T1 30 k = nI k) → ∃ T' R', f_Mo_turnsAll_2 F T1 (nI st) (nI i) = some T' ∧ (∀ r j, r ≠ 30 → T' r j = T r j) ∧ ST30 T' st c t R' := by
    intro m
    induction m with
    | zero =>
      intro i F T1 hi hF hm hk
      obtain ⟨F, rfl⟩ : ∃ v, F = v + 1 := ⟨F - 1, by omega⟩
      have : i = st := by omega
      subst this
      rw [f_Mo_turnsAll_2, if_pos (yle (Nat.le_refl _)), Option.bind_some, hF0]
      exact k22 t 0 F0 T1 (fun k => k) (by omega) (by omega) hm ⟨fun k hk' => ⟨hk k hk', hk'⟩, fun k m _ _ e => e, fun a ha => rfl⟩
    | succ m ih =>
      intro i F T1 hi hF hm hk
      obtain ⟨F, rfl⟩ : ∃ v, F = v + 1 := ⟨F - 1, by omega⟩
      have c1 : (nI i).toNatClampNeg = i := cl
      rw [f_Mo_turnsAll_2, if_neg (nle (by omega)), if_pos (gn (by omega) (by omega)), c1, Option.bind_some, nI_1, Option.bind_some]
      refine ih (i + 1) F _ (by omega) (by omega) (fun r j hr => by rw [sF_ne (Or.inl hr)]; exact hm r j hr) (fun k hk' => ?_)
      by_cases e : k = i
      · rw [e, sF_at]
      · rw [sF_ne (Or.inr e)]; exact hk k (by omega)
  unfold f_Mo_turnsAll
  rw [Option.bind_some, hF0]
  exact k2 st 0 F0 T (by omega) (by omega) (fun _ _ _ => rfl) (fun k hk => by omega)
theorem m_out (h8 : st ≤ 8) {c R : Nat → Nat} {i : Nat} (hR : ST30 T st c i R) {a : Nat} (ha : a < st) (hp : tP c i a < st) : f_Mo_comesOut T (nI a) = some (nI (tP c i a)) := by
  obtain ⟨F0, hF0⟩ : ∃ F, FU = F := ⟨_, rfl⟩
  have hF0' : 300 < F0 := by rw [← hF0]; exact FU_gt (by omega)
  obtain ⟨h1, h2, h3⟩ := hR
  have key' : ∀ m k F, k + m = tP c i a → m < F → f_Mo_comesOut_2 F T (nI a) (nI k) = some (nI (tP c i a)) := by
    intro m
    induction m with
    | zero =>
      intro k F hk hF
      obtain ⟨F, rfl⟩ : ∃ v, F = v + 1 := ⟨F - 1, by omega⟩
      have : k = tP c i a := by omega
      subst this
      have c1 : (nI (tP c i a)).toNatClampNeg = tP c i a := cl
      rw [f_Mo_comesOut_2, if_pos (gn (by omega) (by omega)), c1, (h1 _ hp).1, h3 a ha, if_pos rfl]
    | succ m ih =>
      intro k F hk hF
      obtain ⟨F, rfl⟩ : ∃ v, F = v + 1 := ⟨F - 1, by omega⟩
      have c1 : (nI k).toNatClampNeg = k := cl
      have ne : ¬ nI (R k) = nI a := fun z => by
        have rk := (h1 k (by omega)).2
        have e := nI_inj (by omega) (by omega) z
        have := h2 k (tP c i a) (by omega) hp (by rw [e, h3 a ha])
        omega
      rw [f_Mo_comesOut_2, if_pos (gn (by omega) (by omega)), c1, (h1 k (by omega)).1, if_neg ne, nI_1, Option.bind_some]
      exact ih (k + 1) F (by omega) (by omega)
  unfold f_Mo_comesOut
  rw [Option.bind_some, hF0]
  exact key' (tP c i a) 0 F0 (by omega) (by omega)
end TF
