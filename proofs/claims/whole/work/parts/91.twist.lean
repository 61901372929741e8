/-! TWIST: its text -/
def tcR (st : Nat) (x y : Int32) : Prop := ∃ c, c + 2 ≤ st ∧ ((x = nI (c + 1) ∧ y = nI c) ∨ (x = -(nI (c + 1)) ∧ y = nI (8 + c)))
def TWR (st : Nat) (S T : St) (t g : Nat) : Prop := S 42 8 = nI t ∧ T 0 45 = nI t ∧ t ≤ 64 ∧ S 42 7 = nI g ∧ T 0 46 = nI g ∧ g ≤ 2 ∧ (∀ i, i < t → tcR st (S 43 i) (T 26 i)) ∧ ∀ j, j < g → ∃ pl tm tj, S 45 j = nI pl ∧ T 27 j = nI pl ∧ S 46 j = nI tm ∧ T 29 j = nI tm ∧ S 47 j = nI tj ∧ T 28 j = nI tj ∧ pl ≤ 80 ∧ 1 ≤ tm ∧ tm ≤ 9 ∧ tj ≤ t
section TW
variable {n p st t g : Nat} {b : Nat → Nat} {S T : St}
theorem TWR.cong {S' T' : St} (h : TWR st S T t g) (hx : ∀ r j, (r = 42 ∧ (j = 7 ∨ j = 8)) ∨ r = 43 ∨ r = 45 ∨ r = 46 ∨ r = 47 → S' r j = S r j) (hm : ∀ r j, (r = 0 ∧ (j = 45 ∨ j = 46)) ∨ (26 ≤ r ∧ r ≤ 29) → T' r j = T r j) : TWR st S' T' t g := by
  obtain ⟨h1, h2, h3, h4, h5, h6, h7, h8⟩ := h
  refine ⟨by rw [hx 42 8 (by omega)]; exact h1, by rw [hm 0 45 (by omega)]; exact h2, h3, by rw [hx 42 7 (by omega)]; exact h4, by rw [hm 0 46 (by omega)]; exact h5, h6, fun i hi => by rw [hx 43 i (by omega), hm 26 i (by omega)]; exact h7 i hi, fun j hj => ?_⟩
  rw [hx 45 j (by omega), hx 46 j (by omega), hx 47 j (by omega), hm 27 j (by omega), hm 28 j (by omega), hm 29 j (by omega)]
  exact h8 j hj
theorem rd_times (hX : XD S n b p) (hM : MD T n b p) : ∃ q tm S1 T1, f_Twist_readTimes S = some (nI tm, S1) ∧ f_Mo_readsTimes T = some T1 ∧ XD S1 n b q ∧ MD T1 n b q ∧ (q = p ∨ (q = p + 1 ∧ p < n ∧ ¬ sg b n p = 41)) ∧ 1 ≤ tm ∧ tm ≤ 9 ∧ T1 0 47 = nI p ∧ T1 0 48 = nI tm ∧ (∀ r j, ¬ (r = 3 ∧ j = 1) → S1 r j = S r j) ∧ (∀ r j, ¬ (r = 0 ∧ (j = 8 ∨ j = 47 ∨ j = 48)) → T1 r j = T r j) := by
  have hp := hX.2.2.2.1
  have hn := hX.2.2.2.2
  obtain ⟨T0, hT0⟩ : ∃ T0, sF (sF T 0 47 (nI p)) 0 48 1 = T0 := ⟨_, rfl⟩
  have hM0 : MD T0 n b p := by rw [← hT0]; exact (hM.set (by omega)).set (by omega)
  by_cases c : sg b n p < 50 ∨ (57 : Int32) < sg b n p
  · refine ⟨p, 1, S, T0, ?_, ?_, hX, hM0, Or.inl rfl, by omega, by omega, by rw [← hT0, sF_ne (by omega), sF_at], by rw [← hT0, sF_at]; rfl, fun _ _ _ => rfl, fun r j h => by rw [← hT0, sF_ne (by omega), sF_ne (by omega)]⟩
    · unfold f_Twist_readTimes
      rw [hX.sign, Option.bind_some]
      rcases c with c | c
      · rw [if_pos c]; rfl
      · by_cases c2 : sg b n p < 50
        · rw [if_pos c2]; rfl
        · rw [if_neg c2, if_neg ((fa_of_lt c).2.1)]; rfl
    · unfold f_Mo_readsTimes
      rw [hM.2.2, Option.bind_some, Option.bind_some, hT0, hM0.here hp hn, Option.bind_some, in_n c, Option.bind_some, if_pos rfl]
  · have c1 : ¬ sg b n p < 50 := fun z => c (Or.inl z)
    have c2 : ¬ (57 : Int32) < sg b n p := fun z => c (Or.inr z)
    obtain ⟨m, a1, a2, a3⟩ := rngN (x := sg b n p) (a := 50) (b := 57) (by omega) c1 c2
    have pn : p < n := sg_lt (c := m) (by omega) a3
    have e48 : nI m - 48 = nI (m - 48) := pk_sub (b := 48) (by omega)
    have t8 : ∀ v, sF T0 0 48 v 0 8 = nI p := fun v => by rw [sF_ne (by omega)]; exact hM0.2.2
    refine ⟨p + 1, m - 48, sF S 3 1 (nI (p + 1)), sF (sF T0 0 48 (nI (m - 48))) 0 8 (nI (p + 1)), ?_, ?_, hX.on pn, (hM0.set (by omega)).on, Or.inr ⟨rfl, pn, fun z => ?_⟩, by omega, by omega, by rw [sF_ne (by omega), sF_ne (by omega), ← hT0, sF_ne (by omega), sF_at], by rw [sF_ne (by omega), sF_at], fun r j h => sF_ne (by omega), fun r j h => by rw [sF_ne (by omega), sF_ne (by omega), ← hT0, sF_ne (by omega), sF_ne (by omega)]⟩
    · unfold f_Twist_readTimes
      rw [hX.sign, Option.bind_some, if_neg c1, if_pos (fa_of_nlt c2), hX.2.1, nI_1, Option.bind_some, a3, e48]
    · unfold f_Mo_readsTimes
      rw [hM.2.2, Option.bind_some, Option.bind_some, hT0, hM0.here hp hn, Option.bind_some, in_y c1 c2, Option.bind_some, if_neg i10, Option.bind_some, a3, e48, Option.bind_some, t8, nI_1, Option.bind_some]
    · rw [z] at a3
      have := nI_inj (a := 41) (b := m) (by omega) (by omega) a3
      omega
/-- so many times in all -/
theorem rd_repeat (hX : XD S n b p) (hM : MD T n b p) (hW : TWR st S T t g) {fr tm pl : Nat} (hfr : fr < t) (h1 : 1 ≤ tm) (h9 : tm ≤ 9) (hpl : pl ≤ 80) : (∃ t' S' T', t ≤ t' ∧ f_Twist_repeat S (nI fr) (nI tm) (nI pl) = some S' ∧ f_Mo_repeats T (nI fr) (nI tm) (nI pl) = some (1, T') ∧ XD S' n b p ∧ MD T' n b p ∧ TWR st S' T' t' g) ∨ (∃ f S' T', f_Twist_repeat S (nI fr) (nI tm) (nI pl) = some S' ∧ f_Mo_repeats T (nI fr) (nI tm) (nI pl) = some (0, T') ∧ ¬ f = 0 ∧ S' 3 2 = f ∧ S' 42 7 = nI g ∧ T' 0 10 = f) := by
  obtain ⟨F0, hF0⟩ : ∃ F, FU = F := ⟨_, rfl⟩
  have hF0' : 300 < F0 := by rw [← hF0]; exact FU_gt (by omega)
  have t64 := hW.2.2.1
  have e1 : nI t - nI fr = nI (t - fr) := pk_sub (by omega)
  obtain ⟨row, hrow⟩ : ∃ row, t - fr = row := ⟨_, rfl⟩
  have rm : row * tm ≤ 64 * 9 := Nat.mul_le_mul (by omega) h9
  have r1 : row ≤ row * tm := Nat.le_mul_of_pos_right _ h1
  have e2 : nI row * nI tm = nI (row * tm) := pk_mul row tm
  have e3 : nI fr + nI (row * tm) = nI (fr + row * tm) := nI_add _ _
  unfold f_Twist_repeat f_Reading_failed f_Mo_repeats
  rw [if_pos hX.2.2.1, Option.bind_some, if_pos rfl, hW.1, e1, hrow, Option.bind_some, e2, e3, Option.bind_some, hW.2.1, e1, hrow, Option.bind_some, Option.bind_some, e2, e3]
  obtain ⟨all, hall⟩ : ∃ all, row * tm = all := ⟨_, rfl⟩
  rw [hall] at rm r1 e2 e3
  rw [hall]
  by_cases c : fr + all ≤ 64
  · rw [if_pos (show nI (fr + all) ≤ 64 from yle (b := 64) c), if_pos (show nI (fr + all) ≤ 64 from yle (b := 64) c), hF0]
    have key' : ∀ d k F F' (S1 T1 : St), k + d = all → row ≤ k → d < F → d < F' → (∀ r j, ¬ r = 43 → S1 r j = S r j) → (∀ r j, ¬ r = 26 → T1 r j = T r j) → (∀ i, i < fr + k → tcR st (S1 43 i) (T1 26 i)) → ∃ S' T', f_Twist_repeat_51 F S1 (nI row) (nI (fr + all)) (nI (fr + k)) = some S' ∧ f_Mo_repeats_31 F' T1 (nI fr) (nI tm) (nI row) (nI k) = some (1, T') ∧ XD S' n b p ∧ MD T' n b p ∧ TWR st S' T' (fr + all) g := by
      intro d
      induction d with
      | zero =>
        intro k F F' S1 T1 hk hrk hF hF' hx hm ht
        obtain ⟨F, rfl⟩ : ∃ v, F = v + 1 := ⟨F - 1, by omega⟩
        obtain ⟨F', rfl⟩ : ∃ v, F' = v + 1 := ⟨F' - 1, by omega⟩
        have ka : k = all := by omega
        subst ka
        refine ⟨sF S1 42 8 (nI (fr + k)), sF T1 0 45 (nI (fr + k)), ?_, ?_, ?_, ?_, sF_at, sF_at, c, ?_, ?_, hW.2.2.2.2.2.1, fun i hi => ?_, fun j hj => ?_⟩
        · rw [f_Twist_repeat_51, if_pos (yle (Nat.le_refl _)), Option.bind_some]
        · rw [f_Mo_repeats_31, e2, if_pos (yle (Nat.le_refl _)), e3, Option.bind_some]
        · exact (hX.cong (hx 1 1 (by omega)) (fe (fun j => hx 2 j (by omega))) (hx 3 1 (by omega)) (hx 3 2 (by omega))).set (by omega)
        · exact (hM.cong (fe (fun j => hm 6 j (by omega))) (hm 0 8 (by omega)) (hm 0 9 (by omega))).set (by omega)
        · rw [sF_ne (by omega), hx 42 7 (by omega)]; exact hW.2.2.2.1
        · rw [sF_ne (by omega), hm 0 46 (by omega)]; exact hW.2.2.2.2.1
        · rw [sF_ne (by omega), sF_ne (by omega)]; exact ht i hi
        · obtain ⟨pl', tm', tj, w1, w2, w3, w4, w5, w6, w7, w8, w9, w10⟩ := hW.2.2.2.2.2.2.2 j hj
          exact ⟨pl', tm', tj, by rw [sF_ne (by omega), hx 45 j (by omega)]; exact w1, by rw [sF_ne (by omega), hm 27 j (by omega)]; exact w2, by rw [sF_ne (by omega), hx 46 j (by omega)]; exact w3, by rw [sF_ne (by omega), hm 29 j (by omega)]; exact w4, by rw [sF_ne (by omega), hx 47 j (by omega)]; exact w5, by rw [sF_ne (by omega), hm 28 j (by omega)]; exact w6, w7, w8, w9, by omega⟩
      | succ d ih =>
        intro k F F' S1 T1 hk hrk hF hF' hx hm ht
        obtain ⟨F, rfl⟩ : ∃ v, F = v + 1 := ⟨F - 1, by omega⟩
        obtain ⟨F', rfl⟩ : ∃ v, F' = v + 1 := ⟨F' - 1, by omega⟩
        have c1 : (nI (fr + k)).toNatClampNeg = fr + k := cl
        have c2 : (nI (fr + k - row)).toNatClampNeg = fr + k - row := cl
        have s1 : nI (fr + k) - nI row = nI (fr + k - row) := pk_sub (by omega)
        obtain ⟨S', T', g1, g2, g3⟩ := ih (k + 1) F F' (sF S1 43 (fr + k) (S1 43 (fr + k - row))) (sF T1 26 (fr + k) (T1 26 (fr + k - row))) (by omega) (by omega) (by omega) (by omega) (fun r j h => by rw [sF_ne (by omega)]; exact hx r j h) (fun r j h => by rw [sF_ne (by omega)]; exact hm r j h) (fun i hi => by
          by_cases e : i = fr + k
          · rw [e, sF_at, sF_at]; exact ht _ (by omega)
          · rw [sF_ne (by omega), sF_ne (by omega)]; exact ht i (by omega))
        refine ⟨S', T', ?_, ?_, g3⟩
        · rw [f_Twist_repeat_51, if_neg (nle (by omega)), if_neg (nlt' (by omega)), s1, if_neg (show ¬ (64 : Int32) ≤ nI (fr + k - row) from nle (b := 64) (by omega)), if_pos (gn (by omega) (by omega)), if_pos (gn (by omega) (by omega)), c1, c2, Option.bind_some]
          unfold f_Twist_repeat_92
          rw [Option.bind_some, nI_1]
          exact g1
        · rw [f_Mo_repeats_31, e2, if_neg (nle (by omega)), nI_add, s1, if_pos (gn (by omega) (by omega)), if_pos (gn (by omega) (by omega)), c1, c2, Option.bind_some, nI_1, Option.bind_some]
          exact g2
    obtain ⟨S', T', g1, g2, g3, g4, g5⟩ := key' (all - row) row F0 F0 S T (by omega) (Nat.le_refl _) (by omega) (by omega) (fun _ _ _ => rfl) (fun _ _ _ => rfl) (fun i hi => hW.2.2.2.2.2.2.1 i (by omega))
    rw [show fr + row = t by omega] at g1
    exact Or.inl ⟨fr + all, S', T', by omega, g1, g2, g3, g4, g5⟩
  · have f0 : ¬ (-1000) * nI 6 - nI pl = 0 := fl_ne (by omega) (by omega) (by omega)
    refine Or.inr ⟨(-1000) * nI 6 - nI pl, sF S 3 2 ((-1000) * nI 6 - nI pl), sF T 0 10 ((-1000) * nI 6 - nI pl), ?_, ?_, f0, sF_at, by rw [sF_ne (by omega)]; exact hW.2.2.2.1, sF_at⟩
    · rw [if_neg (show ¬ nI (fr + all) ≤ 64 from nle (a := 64) (by omega)), x_fail hX.2.2.1, Option.bind_some]; rfl
    · rw [if_neg (show ¬ nI (fr + all) ≤ 64 from nle (a := 64) (by omega)), m_wrong, Option.bind_some, if_pos (Or.inl rfl)]; rfl
/-! the two loops -/
def CO (F1 F2 : Nat) (T : St) (l1 l3 : Int32) : Option (Int32 × St) := ((f_Mo_readsTimes T).bind fun w => f_Mo_readsTurn_4 F1 w l1).bind fun w => f_Mo_twist_74 F2 w.2 l1 l3 w.1
def CC (F1 F2 : Nat) (T : St) (l1 l3 : Int32) : Option (Int32 × St) := (f_Mo_readsTurn_270 F1 T).bind fun w => f_Mo_twist_74 F2 w.2 l1 l3 w.1
theorem tw97 (F : Nat) (T : St) (l1 l3 : Int32) : f_Mo_twist_97 (f_Mo_twist_74 F) T l1 l3 = CO FU F T l1 l3 := by
  unfold f_Mo_twist_97 CO f_Mo_readsTurn
  congr 1
def TWo (n : Nat) (b : Nat → Nat) (st : Nat) (X C : Option (Int32 × St)) (l3 : Int32) : Prop := (∃ t S' T', 1 ≤ t ∧ X = some (0, S') ∧ C = f_Mo_twist_107 T' (nI st) l3 1 ∧ TWR st S' T' t 0) ∨ (∃ f S' T', X = some (f, S') ∧ C = f_Mo_twist_107 T' (nI st) l3 0 ∧ ¬ f = 0 ∧ T' 0 10 = f)
/-- behind a fault both end -/
theorem tw_fault {f : Int32} {F F2 i : Nat} {l3 : Int32} (h0 : ¬ f = 0) (h1 : S 3 2 = f) (h2 : T 0 10 = f) (X C : Option (Int32 × St)) (hX : X = f_Twist_read_19 (F + 1) S (nI st) (nI i)) (hC : C = f_Mo_twist_74 (F2 + 1) T (nI st) l3 0) : TWo n b st X C l3 := by
  refine Or.inr ⟨f, S, T, ?_, ?_, h0, h2⟩
  · have n0 : ¬ S 3 2 = 0 := by rw [h1]; exact h0
    have e215 : f_Twist_read_215 S = some (f, S) := by
      unfold f_Twist_read_215
      by_cases c : S 42 7 ≤ 0
      · rw [if_pos c, h1]
      · rw [if_neg c, x_fail0 n0, Option.bind_some, h1]
    rw [hX, f_Twist_read_19, e215]
    by_cases c : (80 : Int32) ≤ nI i
    · rw [if_pos c]
    · rw [if_neg c]
      unfold f_Twist_ends f_Reading_failed
      rw [if_neg n0, Option.bind_some, if_neg i10, Option.bind_some, if_neg i10]
  · rw [hC, f_Mo_twist_74, if_pos rfl]
end TW
