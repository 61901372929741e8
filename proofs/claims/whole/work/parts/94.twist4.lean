section TW
variable {n st : Nat} {b : Nat → Nat}
theorem tw_C {l3 : Int32} (hst : 2 ≤ st) (hst8 : st ≤ 8) (hn : n ≤ 80) {p : Nat} (ihC : ∀ p', p < p' → p' ≤ n → kC n b st l3 p') (hO : kO n b st l3 p) : kC n b st l3 p := by
  intro S T t g i F F1 F2 hX hM hW ht hgj hi hF hF1 hF2
  have hp := hX.2.2.2.1
  have hn240 := hX.2.2.2.2
  obtain ⟨F1, rfl⟩ : ∃ v, F1 = v + 1 := ⟨F1 - 1, by omega⟩
  obtain ⟨F2, rfl⟩ : ∃ v, F2 = v + 1 := ⟨F2 - 1, by omega⟩
  obtain ⟨W1, W2, W3, W4, W5, W6, W7, W8⟩ := hW
  have h4 := hM.here hp hn240
  by_cases cl1 : sg b n p = 41 ∧ 0 < g
  · obtain ⟨c41, g0⟩ := cl1
    have pn : p < n := sg_lt (c := 41) (by omega) c41
    obtain ⟨F, rfl⟩ : ∃ v, F = v + 1 := ⟨F - 1, by omega⟩
    obtain ⟨pl, tm, tj, w1, w2, w3, w4, w5, w6, w7, w8, w9, w10⟩ := W8 (g - 1) (by omega)
    obtain ⟨tj', u1, u2⟩ := hgj (g - 1) (by omega)
    have tjt : tj < t := by
      rw [w5] at u2
      have := nI_inj (by omega) (by omega) u2
      omega
    have c1 : (nI (g - 1)).toNatClampNeg = g - 1 := cl
    have gg : ig (nI (g - 1)) 2 = true := gn (by omega) (by omega)
    have s1 : nI g - 1 = nI (g - 1) := pk_sub (b := 1) (by omega)
    obtain ⟨S2, hS2⟩ : ∃ S2, sF (sF S 42 7 (nI (g - 1))) 3 1 (nI (p + 1)) = S2 := ⟨_, rfl⟩
    obtain ⟨T2, hT2⟩ : ∃ T2, sF (sF T 0 8 (nI (p + 1))) 0 46 (nI (g - 1)) = T2 := ⟨_, rfl⟩
    have rS : ∀ r j, ¬ (r = 42 ∧ j = 7) → ¬ (r = 3 ∧ j = 1) → S2 r j = S r j := fun r j h1 h2 => by rw [← hS2, sF_ne (by omega), sF_ne (by omega)]
    have rT : ∀ r j, ¬ (r = 0 ∧ (j = 8 ∨ j = 46)) → T2 r j = T r j := fun r j h1 => by rw [← hT2, sF_ne (by omega), sF_ne (by omega)]
    have hX2 : XD S2 n b (p + 1) := by rw [← hS2]; exact (hX.set (k := 42) (by omega)).on pn
    have hM2 : MD T2 n b (p + 1) := by rw [← hT2]; exact hM.on.set (by omega)
    have hW2 : TWR st S2 T2 t (g - 1) := by
      refine ⟨by rw [rS 42 8 (by omega) (by omega)]; exact W1, by rw [rT 0 45 (by omega)]; exact W2, W3, by rw [← hS2, sF_ne (by omega), sF_at], by rw [← hT2, sF_at], by omega, fun j hj => by rw [rS 43 j (by omega) (by omega), rT 26 j (by omega)]; exact W7 j hj, fun j hj => ?_⟩
      rw [rS 45 j (by omega) (by omega), rS 46 j (by omega) (by omega), rS 47 j (by omega) (by omega), rT 27 j (by omega), rT 28 j (by omega), rT 29 j (by omega)]
      exact W8 j (by omega)
    have p1 : nI p + 1 = nI (p + 1) := nI_add p 1
    have e46 : ∀ v, sF T 0 8 v 0 46 - 1 = nI (g - 1) := fun v => by rw [sF_ne (by omega), W5, s1]
    have eM : f_Mo_readsTurn_270 (F1 + 1) T = (f_Mo_repeats T2 (nI tj) (nI tm) (nI pl)).bind fun w_334 => if w_334.1 = 0 then some (0, w_334.2) else f_Mo_readsTurn_270 F1 w_334.2 := by
      rw [f_Mo_readsTurn_270, h4, Option.bind_some, if_pos c41, W5, if_neg (show ¬ nI g ≤ 0 from nle (a := 0) (by omega)), hM.2.2, p1, Option.bind_some, e46, Option.bind_some, hT2, hW2.2.2.2.2.1, if_pos gg, if_pos gg, if_pos gg, c1, rT 28 (g - 1) (by omega), rT 29 (g - 1) (by omega), rT 27 (g - 1) (by omega), w6, w4, w2]
    have k42 : sF S 42 7 (nI (g - 1)) 3 1 = nI p := by rw [sF_ne (by omega)]; exact hX.2.1
    have ec : f_Twist_closeGroup S = f_Twist_repeat S2 (nI tj) (nI tm) (nI pl) := by
      have ne : ¬ nI tj = nI t := nI_k t (by omega) (by omega) (by omega)
      unfold f_Twist_closeGroup
      rw [W4, s1, Option.bind_some, if_neg (nI_lt0 (by omega)), if_neg (show ¬ (2 : Int32) ≤ nI (g - 1) from nle (b := 2) (by omega)), if_pos gg, c1, w5, W1, if_neg ne, Option.bind_some, k42, p1, Option.bind_some, hS2, if_pos gg, if_pos gg, if_pos gg, rS 47 (g - 1) (by omega) (by omega), rS 46 (g - 1) (by omega) (by omega), rS 45 (g - 1) (by omega) (by omega), w5, w3, w1]
      cases f_Twist_repeat S2 (nI tj) (nI tm) (nI pl) with
      | none => rfl
      | some x => rfl
    have n97 : ¬ lt7 97 (sg b n p) := fun z => by rw [c41] at z; exact z.1 (by decide)
    have n65 : ¬ lt7 65 (sg b n p) := fun z => by rw [c41] at z; exact z.1 (by decide)
    have eX : f_Twist_read_19 (F + 1) S (nI st) (nI i) = (f_Twist_repeat S2 (nI tj) (nI tm) (nI pl)).bind fun w_188 => f_Twist_read_19 F w_188 (nI st) (nI (i + 1)) := by
      have et : f_Twist_readTimes S = some (1, S) := by
        unfold f_Twist_readTimes
        rw [hX.sign, Option.bind_some, if_pos (show sg b n p < 50 by rw [c41]; decide)]
      have i1 : nI i + 1 = nI (i + 1) := nI_add i 1
      rw [f_Twist_read_19, if_neg (show ¬ (80 : Int32) ≤ nI i from nle (b := 80) (by omega)), x_ends hX, if_pos pn, Option.bind_some, if_pos rfl, Option.bind_some, et, Option.bind_some, Option.bind_some, hX.sign, Option.bind_some, x_noletter hX n97 n65]
      unfold f_Twist_read_95
      rw [if_pos rfl, if_pos rfl, if_neg (show ¬ sg b n p = 40 by rw [c41]; decide), if_pos c41, if_pos rfl, W4, if_neg (show ¬ nI g ≤ 0 from nle (a := 0) (by omega)), ec]
      unfold f_Twist_read_209
      simp only [Option.bind_some, i1]
    unfold CC
    rw [eX, eM]
    rcases rd_repeat hX2 hM2 hW2 (fr := tj) tjt w8 w9 w7 with ⟨t', S3, T3, r1, r2, r3, r4, r5, r6⟩ | ⟨f, S3, T3, r2, r3, f0, f1, f2, f3⟩
    · rw [r2, Option.bind_some, r3, Option.bind_some, if_neg i10]
      refine ihC (p + 1) (by omega) (by omega) S3 T3 t' (g - 1) (i + 1) F F1 (F2 + 1) r4 r5 r6 (by omega) (fun j hj => ?_) (by omega) (by omega) (by omega) (by omega)
      obtain ⟨tk, v1, v2⟩ := hgj j (by omega)
      refine ⟨tk, by omega, ?_⟩
      rw [w_Twist_repeat r2 (by omega), rS 47 j (by omega) (by omega)]
      exact v2
    · rw [r2, Option.bind_some, r3, Option.bind_some, if_pos rfl, Option.bind_some]
      obtain ⟨F, rfl⟩ : ∃ v, F = v + 1 := ⟨F - 1, by omega⟩
      exact tw_fault f0 f1 f3 _ _ rfl rfl
  · have e270 : f_Mo_readsTurn_270 (F1 + 1) T = some (1, T) := by
      rw [f_Mo_readsTurn_270, h4, Option.bind_some]
      by_cases c41 : sg b n p = 41
      · have g0 : g = 0 := Classical.byContradiction fun z => cl1 ⟨c41, by omega⟩
        rw [if_pos c41, W5, g0, if_pos (show nI 0 ≤ 0 by decide)]
      · rw [if_neg c41]
    have e74 : CC (F1 + 1) (F2 + 1) T (nI st) l3 = f_Mo_twist_74 (F2 + 1) T (nI st) l3 1 := by
      unfold CC
      rw [e270, Option.bind_some]
    have h41 : sg b n p = 41 → g = 0 ∨ S 47 (g - 1) = nI t := fun z => Or.inl (Classical.byContradiction fun y => cl1 ⟨z, by omega⟩)
    have hFU : 500 < FU := FU_gt (by omega)
    rw [e74, f_Mo_twist_74, if_neg i10, hM.2.2, hM.2.1]
    by_cases pn : p < n
    · rw [if_pos (ylt pn), tw97]
      exact hO S T t g i F FU F2 hX hM ⟨W1, W2, W3, W4, W5, W6, W7, W8⟩ (Or.inl pn) h41 hi hF (by omega) (by omega)
    · rw [if_neg (nlt' (by omega)), W5]
      by_cases g0 : g = 0
      · rw [if_pos (show nI g ≤ 0 by rw [g0]; decide)]
        obtain ⟨F, rfl⟩ : ∃ v, F = v + 1 := ⟨F - 1, by omega⟩
        rw [x_end hX W4 W6 pn, if_pos g0]
        rw [g0] at W4 W5 W8
        exact Or.inl ⟨t, S, T, ht, rfl, rfl, ⟨W1, W2, W3, W4, W5, by omega, W7, fun j hj => by omega⟩⟩
      · rw [if_neg (show ¬ nI g ≤ 0 from nle (a := 0) (by omega)), tw97]
        exact hO S T t g i F FU F2 hX hM ⟨W1, W2, W3, W4, W5, W6, W7, W8⟩ (Or.inr (by omega)) h41 hi hF (by omega) (by omega)
theorem tw_all {l3 : Int32} (hst : 2 ≤ st) (hst8 : st ≤ 8) (hn : n ≤ 80) : ∀ m p, p + m = n → kO n b st l3 p ∧ kC n b st l3 p := by
  intro m
  induction m using Nat.strongRecOn with
  | _ m ih =>
    intro p hp
    have hO : kO n b st l3 p := tw_O hst hst8 hn (fun p' h1 h2 => (ih (n - p') (by omega) p' (by omega)).1) (fun p' h1 h2 => (ih (n - p') (by omega) p' (by omega)).2)
    exact ⟨hO, tw_C hst hst8 hn (fun p' h1 h2 => (ih (n - p') (by omega) p' (by omega)).2) hO⟩
end TW
/-! what is told of a twist -/
section TF
variable {st t : Nat} {S T : St}
def gTO (T : St) (k : Nat) (a : Int32) : Int32 := if (8 : Int32) ≤ T 26 k then a + (-1) else a + 1
theorem tc_sign {x y : Int32} (h : tcR st x y) (h8 : st ≤ 8) : x ≤ 0 ↔ (8 : Int32) ≤ y := by
  obtain ⟨c, hc, ⟨e1, e2⟩ | ⟨e1, e2⟩⟩ := h
  · rw [e1, e2]
    exact ⟨fun z => absurd z (nle (a := 0) (by omega)), fun z => absurd z (nle (b := 8) (by omega))⟩
  · rw [e1, e2]
    refine ⟨fun _ => yle (a := 8) (by omega), fun _ => ?_⟩
    rw [fa_le, fb_negI (by rw [nI_toInt (by omega)]; omega), nI_toInt (by omega)]
    show _ ≤ (0 : Int)
    omega
theorem tw_overs (h : TWR st S T t 0) (h8 : st ≤ 8) : ∃ v, f_Twist_oversLessUnders S = some v ∧ f_Mo_overs T = some v := by
  obtain ⟨F0, hF0⟩ : ∃ F, FU = F := ⟨_, rfl⟩
  have hF0' : 300 < F0 := by rw [← hF0]; exact FU_gt (by omega)
  have t64 := h.2.2.1
  have key' : ∀ m i F F' (a : Int32), i + m = t → m < F → m < F' → ∃ v, f_Twist_oversLessUnders_4 F S a (nI i) = some v ∧ f_Mo_overs_4 F' T a (nI i) = some v := by
    intro m
    induction m with
    | zero =>
      intro i F F' a hi hF hF'
      obtain ⟨F, rfl⟩ : ∃ v, F = v + 1 := ⟨F - 1, by omega⟩
      obtain ⟨F', rfl⟩ : ∃ v, F' = v + 1 := ⟨F' - 1, by omega⟩
      exact ⟨a, by rw [f_Twist_oversLessUnders_4, h.1, if_pos (yle (by omega))], by rw [f_Mo_overs_4, h.2.1, if_pos (yle (by omega))]⟩
    | succ m ih =>
      intro i F F' a hi hF hF'
      obtain ⟨F, rfl⟩ : ∃ v, F = v + 1 := ⟨F - 1, by omega⟩
      obtain ⟨F', rfl⟩ : ∃ v, F' = v + 1 := ⟨F' - 1, by omega⟩
      have c1 : (nI i).toNatClampNeg = i := cl
      have hs := tc_sign (h.2.2.2.2.2.2.1 i (by omega)) h8
      obtain ⟨v, v1, v2⟩ := ih (i + 1) F F' (if (8 : Int32) ≤ T 26 i then a + (-1) else a + 1) (by omega) (by omega) (by omega)
      refine ⟨v, ?_, ?_⟩
      · rw [f_Twist_oversLessUnders_4, h.1, if_neg (nle (by omega)), if_neg (show ¬ (64 : Int32) ≤ nI i from nle (b := 64) (by omega)), if_pos (gn (by omega) (by omega)), c1, ← v1]
        unfold f_Twist_oversLessUnders_33
        rw [Option.bind_some, Option.bind_some, nI_1, Option.bind_some, Option.bind_some]
        by_cases c : (8 : Int32) ≤ T 26 i
        · rw [if_pos (hs.mpr c), if_pos c]
        · rw [if_neg (fun z => c (hs.mp z)), if_neg c]
      · rw [f_Mo_overs_4, h.2.1, if_neg (nle (by omega)), if_pos (gn (by omega) (by omega)), c1, ← v2]
        unfold f_Mo_overs_29
        rw [Option.bind_some, Option.bind_some, nI_1, Option.bind_some, Option.bind_some]
        by_cases c : (8 : Int32) ≤ T 26 i
        · rw [if_pos c, if_pos c]
        · rw [if_neg c, if_neg c]
  unfold f_Twist_oversLessUnders f_Mo_overs
  rw [Option.bind_some, Option.bind_some, Option.bind_some, Option.bind_some, hF0]
  exact key' t 0 F0 F0 0 (by omega) (by omega) (by omega)
theorem tc_undo {x y x' y' : Int32} (h : tcR st x y) (h' : tcR st x' y') (h8 : st ≤ 8) : (x = -x') ↔ jabs (y - y') = 8 := by
  obtain ⟨c, hc, e⟩ := h
  obtain ⟨c', hc', e'⟩ := h'
  have all : ∀ c : Nat, c < 7 → ∀ c' : Nat, c' < 7 → ((nI (c + 1) = -(nI (c' + 1))) ↔ jabs (nI c - nI c') = 8) ∧ ((nI (c + 1) = -(-(nI (c' + 1)))) ↔ jabs (nI c - nI (8 + c')) = 8) ∧ ((-(nI (c + 1)) = -(nI (c' + 1))) ↔ jabs (nI (8 + c) - nI c') = 8) ∧ ((-(nI (c + 1)) = -(-(nI (c' + 1)))) ↔ jabs (nI (8 + c) - nI (8 + c')) = 8) := by decide +kernel
  obtain ⟨a1, a2, a3, a4⟩ := all c (by omega) c' (by omega)
  rcases e with ⟨e1, e2⟩ | ⟨e1, e2⟩ <;> rcases e' with ⟨e3, e4⟩ | ⟨e3, e4⟩ <;> rw [e1, e2, e3, e4]
  · exact a1
  · exact a2
  · exact a3
  · exact a4
end TF
