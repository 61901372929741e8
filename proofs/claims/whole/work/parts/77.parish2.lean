section PAR
variable {n p k : Nat} {b : Nat → Nat}
theorem x_goes {S : St} (hX : XD S n b p) : f_Reading_goesOn S = if p < n then (if sg b n p = 59 then some (1, sF S 3 1 (nI (p + 1))) else some (0, sF S 3 2 ((-1000) * nI 1 - nI p))) else some (0, S) := by
  have hn := hX.2.2.2.2
  have hp := hX.2.2.2.1
  unfold f_Reading_goesOn f_Reading_needs
  rw [if_pos hX.2.2.1, hX.sgn, Option.bind_some]
  by_cases c : p < n
  · rw [if_pos c, if_neg (show ¬ sg b n p = -1 by rw [sg_y c]; exact nI_m1 (by have := (hX.1.2.2 p c).2; omega)), Option.bind_some]
    by_cases d : sg b n p = 59
    · have h32 : sF S 3 1 (nI (p + 1)) 3 2 = 0 := by rw [sF_ne (by omega)]; exact hX.2.2.1
      rw [if_pos d, if_pos d, if_pos hX.2.2.1, Option.bind_some, Option.bind_some, hX.2.1, nI_1, if_pos h32]
    · have f0 : ¬ (-1000) * nI 1 - nI p = 0 := fl_ne (by omega) (by omega) (by omega)
      have e : f_Reading_fail S 1 (S 3 1) = some (sF S 3 2 ((-1000) * nI 1 - nI p)) := by rw [x_fail hX.2.2.1, hX.2.1]; rfl
      rw [if_neg d, if_neg d, e, Option.bind_some, Option.bind_some, sF_at, if_neg f0]
  · rw [if_neg c, sg_n c, if_pos rfl]
theorem x_goes0 {S : St} (h : ¬ S 3 2 = 0) : f_Reading_goesOn S = some (0, S) := by
  unfold f_Reading_goesOn
  rw [if_neg h]
theorem p71 (K : St → Int32 → Option (Int32 × St)) (S : St) : f_Mo_parish_71 K S = K S 0 := rfl
theorem p72 (K : St → Int32 → Option (Int32 × St)) (S : St) (x : Int32) : f_Mo_parish_72 K S x = K S x := rfl
theorem rd_parish : ∀ d k p F F' (S T : St), k + d = 24 → d + 1 < F → d + 2 < F' → XD S n b p → MD T n b p → PD S T k → (∃ k' S' T', 1 ≤ k' ∧ k' ≤ 24 ∧ f_ParishReader_read_27 F S 1 (nI k) = some (0, S') ∧ ((f_Mo_readsThing T).bind fun w => f_Mo_parish_36 F' w.2 w.1) = f_Mo_parish_76 T' 1 ∧ PD S' T' k' ∧ ∀ r j, ¬ ((r = 0 ∧ (j = 8 ∨ j = 10 ∨ j = 11 ∨ j = 34)) ∨ r = 20 ∨ r = 21 ∨ r = 22 ∨ r = 23) → T' r j = T r j) ∨ (∃ f S' T', f_ParishReader_read_27 F S 1 (nI k) = some (f, S') ∧ ((f_Mo_readsThing T).bind fun w => f_Mo_parish_36 F' w.2 w.1) = f_Mo_parish_76 T' 0 ∧ ¬ f = 0 ∧ T' 0 10 = f ∧ ∀ r j, ¬ ((r = 0 ∧ (j = 8 ∨ j = 10 ∨ j = 11 ∨ j = 34)) ∨ r = 20 ∨ r = 21 ∨ r = 22 ∨ r = 23) → T' r j = T r j) := by
  intro d
  induction d with
  | zero =>
    intro k p F F' S T hk hF hF' hX hM hP
    obtain ⟨F, rfl⟩ : ∃ z, F = z + 1 + 1 := ⟨F - 2, by omega⟩
    obtain ⟨F', rfl⟩ : ∃ z, F' = z + 1 := ⟨F' - 1, by omega⟩
    rcases rd_line (by omega) hX hM hP with ⟨q, S', T', h1, h2, -⟩ | ⟨f, S', T', e1, e2, f0, f1, f2⟩
    · omega
    · refine Or.inr ⟨f, S', T', ?_, ?_, f0, f2, fun r j h => w_Mo_readsThing e2 h⟩
      · rw [f_ParishReader_read_27, if_neg (show ¬ (24 : Int32) < nI k from nlt' (a := 24) (b := k) (by omega)), if_neg i10, e1, Option.bind_some, x_goes0 (by rw [f1]; exact f0), Option.bind_some, Option.bind_some, Option.bind_some, nI_1]
        show f_ParishReader_read_27 (F + 1) S' 0 (nI (k + 1)) = _
        rw [f_ParishReader_read_27, if_pos (show (24 : Int32) < nI (k + 1) from ylt (a := 24) (by omega)), f1]
      · rw [e2, Option.bind_some]
        show f_Mo_parish_36 _ T' 0 = _
        rw [f_Mo_parish_36, if_pos rfl]
  | succ d ih =>
    intro k p F F' S T hk hF hF' hX hM hP
    obtain ⟨F, rfl⟩ : ∃ z, F = z + 1 + 1 := ⟨F - 2, by omega⟩
    obtain ⟨F', rfl⟩ : ∃ z, F' = z + 1 + 1 := ⟨F' - 2, by omega⟩
    have n24' : ¬ (24 : Int32) < nI k := nlt' (a := 24) (b := k) (by omega)
    have n25 : ¬ (24 : Int32) < nI (k + 1) := nlt' (a := 24) (b := k + 1) (by omega)
    rcases rd_line (by omega) hX hM hP with ⟨q, S', T', h1, h2, e1, e2, hX', hM', hP'⟩ | ⟨f, S', T', e1, e2, f0, f1, f2⟩
    · have hq := hX'.2.2.2.1
      have hn := hX'.2.2.2.2
      by_cases c : q < n
      · have nle' : ¬ nI n ≤ nI q := nle c
        by_cases dd : sg b n q = 59
        · -- another one
          have hx2 : XD (sF S' 3 1 (nI (q + 1))) n b (q + 1) := hX'.on c
          have hm2 : MD (sF T' 0 8 (nI (q + 1))) n b (q + 1) := hM'.on
          have hp2 : PD (sF S' 3 1 (nI (q + 1))) (sF T' 0 8 (nI (q + 1))) (k + 1) := hP'.cong (fun r j h => sF_ne (by omega)) (fun r j h => sF_ne (by omega))
          have eX : f_ParishReader_read_27 (F + 1 + 1) S 1 (nI k) = f_ParishReader_read_27 (F + 1) (sF S' 3 1 (nI (q + 1))) 1 (nI (k + 1)) := by
            rw [f_ParishReader_read_27, if_neg n24', if_neg i10, e1, Option.bind_some, x_goes hX', if_pos c, if_pos dd, Option.bind_some, Option.bind_some, Option.bind_some, nI_1]
          have eM : ((f_Mo_readsThing T).bind fun w => f_Mo_parish_36 (F' + 1 + 1) w.2 w.1) = ((f_Mo_readsThing (sF T' 0 8 (nI (q + 1)))).bind fun w => f_Mo_parish_36 (F' + 1) w.2 (if w.1 = 0 then 0 else 1)) := by
            have tk : f_Mo_takes T' 59 = some (1, sF T' 0 8 (nI (q + 1))) := by
              unfold f_Mo_takes
              rw [hM'.here hq hn, Option.bind_some, if_pos dd, Option.bind_some, hM'.2.2, nI_1]
            rw [e2, Option.bind_some]
            show f_Mo_parish_36 (F' + 1 + 1) T' 1 = _
            rw [f_Mo_parish_36, if_neg i10, hM'.2.1, hM'.2.2, if_neg nle', tk, Option.bind_some, if_neg i10]
            congr 1
            funext w
            by_cases w0 : w.1 = 0
            · rw [if_pos w0, if_pos w0, p71]
            · rw [if_neg w0, if_neg w0, p72]
          have ih1 := ih (k + 1) (q + 1) (F + 1) (F' + 1) _ _ (by omega) (by omega) (by omega) hx2 hm2 hp2
          rw [eX, eM]
          have w01 : ∀ v T2, f_Mo_readsThing (sF T' 0 8 (nI (q + 1))) = some (v, T2) → (v = 0 ∨ v = 1) := fun v T2 hv => by
            rcases rd_line (by omega) hx2 hm2 hp2 with ⟨_, _, _, _, _, _, z, _⟩ | ⟨_, _, _, _, z, _⟩
            · rw [hv] at z; exact Or.inr (congrArg Prod.fst (Option.some.inj z))
            · rw [hv] at z; exact Or.inl (congrArg Prod.fst (Option.some.inj z))
          have eM2 : ((f_Mo_readsThing (sF T' 0 8 (nI (q + 1)))).bind fun w => f_Mo_parish_36 (F' + 1) w.2 (if w.1 = 0 then 0 else 1)) = ((f_Mo_readsThing (sF T' 0 8 (nI (q + 1)))).bind fun w => f_Mo_parish_36 (F' + 1) w.2 w.1) := by
            cases hr : f_Mo_readsThing (sF T' 0 8 (nI (q + 1))) with
            | none => rfl
            | some w =>
              obtain ⟨v, T2⟩ := w
              rw [Option.bind_some, Option.bind_some]
              rcases w01 v T2 hr with e | e
              · rw [e, if_pos rfl]
              · rw [e, if_neg i10]
          rw [eM2]
          have fr : ∀ r j, ¬ ((r = 0 ∧ (j = 8 ∨ j = 10 ∨ j = 11 ∨ j = 34)) ∨ r = 20 ∨ r = 21 ∨ r = 22 ∨ r = 23) → sF T' 0 8 (nI (q + 1)) r j = T r j := fun r j h => by
            rw [sF_ne (by omega)]; exact w_Mo_readsThing e2 h
          rcases ih1 with ⟨k', S3, T3, u1, u2, u3, u4, u5, u6⟩ | ⟨f, S3, T3, u1, u2, u3, u4, u5⟩
          · exact Or.inl ⟨k', S3, T3, u1, u2, u3, u4, u5, fun r j h => (u6 r j h).trans (fr r j h)⟩
          · exact Or.inr ⟨f, S3, T3, u1, u2, u3, u4, fun r j h => (u5 r j h).trans (fr r j h)⟩
        · refine Or.inr ⟨(-1000) * nI 1 - nI q, sF S' 3 2 ((-1000) * nI 1 - nI q), sF T' 0 10 ((-1000) * nI 1 - nI q), ?_, ?_, fl_ne (by omega) (by omega) (by omega), sF_at, fun r j h => by rw [sF_ne (by omega)]; exact w_Mo_readsThing e2 h⟩
          · rw [f_ParishReader_read_27, if_neg n24', if_neg i10, e1, Option.bind_some, x_goes hX', if_pos c, if_neg dd, Option.bind_some, Option.bind_some, Option.bind_some, nI_1]
            show f_ParishReader_read_27 (F + 1) (sF S' 3 2 ((-1000) * nI 1 - nI q)) 0 (nI (k + 1)) = _
            rw [f_ParishReader_read_27, if_neg n25, if_pos rfl, sF_at]
          · have tk : f_Mo_takes T' 59 = some (0, sF T' 0 10 ((-1000) * nI 1 - nI q)) := by
              unfold f_Mo_takes
              rw [hM'.here hq hn, Option.bind_some, if_neg dd, m_wrong, Option.bind_some, if_pos (Or.inl rfl), hM'.2.2]; rfl
            rw [e2, Option.bind_some]
            show f_Mo_parish_36 (F' + 1 + 1) T' 1 = _
            rw [f_Mo_parish_36, if_neg i10, hM'.2.1, hM'.2.2, if_neg nle', tk, Option.bind_some, if_pos rfl]
            rw [p71, f_Mo_parish_36, if_pos rfl]
      · refine Or.inl ⟨k + 1, S', T', by omega, by omega, ?_, ?_, hP', fun r j h => w_Mo_readsThing e2 h⟩
        · rw [f_ParishReader_read_27, if_neg n24', if_neg i10, e1, Option.bind_some, x_goes hX', if_neg c, Option.bind_some, Option.bind_some, Option.bind_some, nI_1]
          show f_ParishReader_read_27 (F + 1) S' 0 (nI (k + 1)) = _
          rw [f_ParishReader_read_27, if_neg n25, if_pos rfl, hX'.2.2.1]
        · rw [e2, Option.bind_some]
          show f_Mo_parish_36 (F' + 1 + 1) T' 1 = _
          rw [f_Mo_parish_36, if_neg i10, hM'.2.1, hM'.2.2, if_pos (yle (by omega))]
    · refine Or.inr ⟨f, S', T', ?_, ?_, f0, f2, fun r j h => w_Mo_readsThing e2 h⟩
      · rw [f_ParishReader_read_27, if_neg n24', if_neg i10, e1, Option.bind_some, x_goes0 (by rw [f1]; exact f0), Option.bind_some, Option.bind_some, Option.bind_some, nI_1]
        show f_ParishReader_read_27 (F + 1) S' 0 (nI (k + 1)) = _
        rw [f_ParishReader_read_27, if_neg n25, if_pos rfl, f1]
      · rw [e2, Option.bind_some]
        show f_Mo_parish_36 _ T' 0 = _
        rw [f_Mo_parish_36, if_pos rfl]
/-- the reference takes its draft over -/
theorem m_over {t : Nat} (ht : t ≤ 24) : ∀ d i F (T : St), i + d = t → d < F → T 0 5 = nI t → ∃ T', f_Mo_parish_108 F T (nI i) = some (nI t, T') ∧ (∀ j, j < i ∨ t ≤ j → T' 4 j = T 4 j ∧ T' 5 j = T 5 j) ∧ (∀ j, i ≤ j → j < t → T' 4 j = T 20 j ∧ T' 5 j = T 23 j ∧ T' 1 j = T 21 j ∧ T' 1 (24 + j) = T 22 j ∧ T' 1 (48 + j) = 0 ∧ T' 1 (72 + j) = 0) ∧ (∀ j, j < i → T' 1 j = T 1 j ∧ T' 1 (24 + j) = T 1 (24 + j) ∧ T' 1 (48 + j) = T 1 (48 + j) ∧ T' 1 (72 + j) = T 1 (72 + j)) ∧ (∀ j, 96 ≤ j → T' 1 j = T 1 j) ∧ (∀ r j, r ≠ 1 → r ≠ 4 → r ≠ 5 → T' r j = T r j) := by
  intro d
  induction d with
  | zero =>
    intro i F T hi hF h5
    obtain ⟨F, rfl⟩ : ∃ z, F = z + 1 := ⟨F - 1, by omega⟩
    refine ⟨T, ?_, fun _ _ => ⟨rfl, rfl⟩, fun j h1 h2 => by omega, fun _ _ => ⟨rfl, rfl, rfl, rfl⟩, fun _ _ => rfl, fun _ _ _ _ _ => rfl⟩
    rw [f_Mo_parish_108, h5, if_pos (yle (by omega))]
  | succ d ih =>
    intro i F T hi hF h5
    obtain ⟨F, rfl⟩ : ∃ z, F = z + 1 := ⟨F - 1, by omega⟩
    have g1 : ig (nI i) 24 = true := gn (by omega) (by omega)
    have g2 : ig (nI (24 + i)) 99 = true := gn (by omega) (by omega)
    have g3 : ig (nI (48 + i)) 99 = true := gn (by omega) (by omega)
    have g4 : ig (nI (72 + i)) 99 = true := gn (by omega) (by omega)
    have g5 : ig (nI i) 99 = true := gn (by omega) (by omega)
    have c1 : (nI i).toNatClampNeg = i := cl
    have c2 : (nI (24 + i)).toNatClampNeg = 24 + i := cl
    have c3 : (nI (48 + i)).toNatClampNeg = 48 + i := cl
    have c4 : (nI (72 + i)).toNatClampNeg = 72 + i := cl
    have n23 : ¬ (23 = 4) := by decide
    have n21 : ¬ (21 = 4) := by decide
    have n215 : ¬ (21 = 5) := by decide
    have n22 : ¬ (22 = 4) := by decide
    have n225 : ¬ (22 = 5) := by decide
    have n221 : ¬ (22 = 1) := by decide
    obtain ⟨T1, hT1⟩ : ∃ T1, sF (sF (sF (sF (sF (sF T 4 i (T 20 i)) 5 i (T 23 i)) 1 i (T 21 i)) 1 (24 + i) (T 22 i)) 1 (48 + i) 0) 1 (72 + i) 0 = T1 := ⟨_, rfl⟩
    have eM : f_Mo_parish_108 (F + 1) T (nI i) = f_Mo_parish_108 F T1 (nI (i + 1)) := by
      rw [f_Mo_parish_108, h5, if_neg (nle (by omega))]
      simp only [g1, g2, g3, g4, g5, c1, c2, c3, c4, a24, a48, a72, z0I, ↓reduceIte, Option.bind_some, nI_1, sF_rne n23, sF_rne n21, sF_rne n215, sF_rne n22, sF_rne n225, sF_rne n221, hT1]
    have r1 : ∀ r j, r ≠ 1 → r ≠ 4 → r ≠ 5 → T1 r j = T r j := fun r j h1 h2 h3 => by rw [← hT1, sF_rne h1, sF_rne h1, sF_rne h1, sF_rne h1, sF_rne h3, sF_rne h2]
    obtain ⟨T2, e1, e2, e3, e4, e5, e6⟩ := ih (i + 1) F T1 (by omega) (by omega) (by rw [r1 0 5 (by omega) (by omega) (by omega)]; exact h5)
    have p4 : ∀ j, T1 4 j = if j = i then T 20 i else T 4 j := fun j => by
      rw [← hT1, sF_ne (by omega), sF_ne (by omega), sF_ne (by omega), sF_ne (by omega), sF_ne (by omega)]
      by_cases e : j = i
      · rw [e, if_pos rfl, sF_at]
      · rw [if_neg e, sF_ne (Or.inr e)]
    have p5 : ∀ j, T1 5 j = if j = i then T 23 i else T 5 j := fun j => by
      rw [← hT1, sF_ne (by omega), sF_ne (by omega), sF_ne (by omega), sF_ne (by omega)]
      by_cases e : j = i
      · rw [e, if_pos rfl, sF_at]
      · rw [if_neg e, sF_ne (Or.inr e), sF_ne (by omega)]
    have p1 : ∀ j, j ≠ i → j ≠ 24 + i → j ≠ 48 + i → j ≠ 72 + i → T1 1 j = T 1 j := fun j a b c d => by
      rw [← hT1, sF_ne (Or.inr d), sF_ne (Or.inr c), sF_ne (Or.inr b), sF_ne (Or.inr a), sF_ne (by omega), sF_ne (by omega)]
    refine ⟨T2, eM.trans e1, fun j hj => ?_, fun j h1 h2 => ?_, fun j hj => ?_, fun j hj => ?_, fun r j h1 h2 h3 => (e6 r j h1 h2 h3).trans (r1 r j h1 h2 h3)⟩
    · obtain ⟨a1, a2⟩ := e2 j (by omega)
      rw [a1, a2, p4, p5, if_neg (by omega), if_neg (by omega)]
      exact ⟨rfl, rfl⟩
    · by_cases e : j = i
      · subst e
        obtain ⟨a1, a2⟩ := e2 j (by omega)
        obtain ⟨b1, b2, b3, b4⟩ := e4 j (by omega)
        rw [a1, a2, b1, b2, b3, b4, p4, p5, if_pos rfl, if_pos rfl]
        refine ⟨rfl, rfl, ?_, ?_, ?_, ?_⟩
        · rw [← hT1, sF_ne (by omega), sF_ne (by omega), sF_ne (by omega), sF_at]
        · rw [← hT1, sF_ne (by omega), sF_ne (by omega), sF_at]
        · rw [← hT1, sF_ne (by omega), sF_at]
        · rw [← hT1, sF_at]
      · have := e3 j (by omega) h2
        rw [r1 20 j (by omega) (by omega) (by omega), r1 21 j (by omega) (by omega) (by omega), r1 22 j (by omega) (by omega) (by omega), r1 23 j (by omega) (by omega) (by omega)] at this
        exact this
    · obtain ⟨b1, b2, b3, b4⟩ := e4 j (by omega)
      rw [b1, b2, b3, b4, p1 j (by omega) (by omega) (by omega) (by omega), p1 (24 + j) (by omega) (by omega) (by omega) (by omega), p1 (48 + j) (by omega) (by omega) (by omega) (by omega), p1 (72 + j) (by omega) (by omega) (by omega) (by omega)]
      exact ⟨rfl, rfl, rfl, rfl⟩
    · rw [e5 j hj, p1 j (by omega) (by omega) (by omega) (by omega)]
theorem isP20 : isP 20 := Or.inr (Or.inr (Or.inr rfl))
theorem st_parish {LR : St → St → Prop} (hL : LRc LR) (a : Int32) : STEP (RelL LR) m_W_parish m_Mo_parish 6 5 [a] := by
  intro Sx Sm hR
  obtain ⟨F, hF⟩ : ∃ F, FU = F := ⟨_, rfl⟩
  have hF' : 300 < F := by rw [← hF]; exact FU_gt (by omega)
  have no : f_W_parish Sx a = some (-1, Sx) → f_Mo_parish Sm a = some (-1, Sm) → ∃ r Sx' Sm', Ct SX m_W_parish 6 (.ref 0 :: [a].map Value.int) Sx (some r) Sx' ∧ Ct SM m_Mo_parish 5 (.ref 0 :: [a].map Value.int) Sm (some r) Sm' ∧ RelL LR Sx' Sm' := fun e1 e2 => ⟨-1, Sx, Sm, t_W_parish e1, t_Mo_parish e2, hR⟩
  by_cases hc : a < 1 ∨ (200 : Int32) < a
  · exact no (by unfold f_W_parish; rw [wi_n hc]; rfl) (by unfold f_Mo_parish; rw [in_n hc]; rfl)
  have n1 : ¬ a < 1 := fun z => hc (Or.inl z)
  have n2 : ¬ (200 : Int32) < a := fun z => hc (Or.inr z)
  obtain ⟨n, q1, q2, rfl⟩ := rngN (a := 1) (b := 200) (by omega) n1 n2
  rcases tk hR.1 n (by omega) with ⟨b, t1, t2, t3, t4⟩ | ⟨t1, t2⟩
  · -- the start
    obtain ⟨S0, hS0⟩ : ∃ S0, sF (sF (sF (sF (tX Sx n) 3 1 0) 3 2 0) 20 4 0) 20 6 0 = S0 := ⟨_, rfl⟩
    obtain ⟨T0, hT0⟩ : ∃ T0, sF (sF (sF (sF (sF Sm 0 8 0) 0 9 (nI n)) 0 13 0) 0 15 0) 0 34 0 = T0 := ⟨_, rfl⟩
    have hX : XD S0 n b 0 := by
      rw [← hS0]
      refine ⟨⟨?_, t3.2.1, fun i hi => ?_⟩, ?_, ?_, by omega, by omega⟩
      · rw [sF_ne (by omega), sF_ne (by omega), sF_ne (by omega), sF_ne (by omega)]; exact t3.1
      · rw [sF_ne (by omega), sF_ne (by omega), sF_ne (by omega), sF_ne (by omega)]; exact t3.2.2 i hi
      · rw [sF_ne (by omega), sF_ne (by omega), sF_ne (by omega), sF_at]; rfl
      · rw [sF_ne (by omega), sF_ne (by omega), sF_at]
    have hM : MD T0 n b 0 := by
      rw [← hT0]
      refine ⟨⟨t4.1, fun i hi => ?_⟩, ?_, ?_⟩
      · have := t4.2 i hi
        unfold tM at this
        rw [sF_ne (by omega)] at this
        rw [sF_ne (by omega), sF_ne (by omega), sF_ne (by omega), sF_ne (by omega), sF_ne (by omega)]; exact this
      · rw [sF_ne (by omega), sF_ne (by omega), sF_ne (by omega), sF_at]
      · rw [sF_ne (by omega), sF_ne (by omega), sF_ne (by omega), sF_ne (by omega), sF_at]; rfl
    have hP : PD S0 T0 0 := ⟨by rw [← hS0, sF_at]; rfl, by rw [← hT0, sF_at]; rfl, fun j hj => by omega, fun j hj => by rw [← hS0, sF_ne (by omega), sF_at]; exact b_0 j⟩
    have eX0 : f_ParishReader_read (tX Sx n) = f_ParishReader_read_27 F S0 1 0 := by
      unfold f_ParishReader_read f_Reading_begin
      rw [Option.bind_some, Option.bind_some, Option.bind_some, Option.bind_some, Option.bind_some, Option.bind_some, Option.bind_some, hF, hS0]
    have eM0 : f_Mo_parish Sm (nI n) = ((f_Mo_readsThing T0).bind fun w => f_Mo_parish_36 F w.2 w.1) := by
      unfold f_Mo_parish f_Mo_beginsText
      rw [in_y n1 n2, Option.bind_some, if_neg i10, if_pos t2, Option.bind_some, Option.bind_some, Option.bind_some, Option.bind_some, Option.bind_some, Option.bind_some, hF, hT0]
      rfl
    have eX1 : f_W_parish Sx (nI n) = ((f_ParishReader_read_27 F S0 1 0).bind fun w_28 => if w_28.1 = 0 then (f_Parish_beginAs w_28.2 4 20).bind fun w_49 => some ((w_49 4 6), w_49) else some (w_28.1, w_28.2)) := by
      unfold f_W_parish
      rw [wi_y n1 n2, Option.bind_some, if_neg i10, t1, Option.bind_some, if_neg i10, eX0]
      rfl
    rcases rd_parish 24 0 0 F F S0 T0 (by omega) (by omega) (by omega) hX hM hP with ⟨t, S1, T1, k1, k2, e1, e2, hP1, fT⟩ | ⟨f, S1, T1, e1, e2, f0, f1, fT⟩
    · -- all is well read
      have e1' : f_ParishReader_read_27 F S0 1 0 = some (0, S1) := e1
      have rS : ∀ r j, ¬ ((r = 1 ∧ (j = 1 ∨ j = 2)) ∨ (r = 3 ∧ (j = 1 ∨ j = 2)) ∨ (r = 20 ∧ (j = 4 ∨ j = 6)) ∨ r = 21 ∨ r = 22 ∨ r = 23) → S1 r j = Sx r j := fun r j h => by
        have := w_ParishReader_read (S := tX Sx n) (w := (0, S1)) (eX0.trans e1') (kr := r) (jr := j) (by omega)
        refine this.trans ?_
        unfold tX
        rw [sF_ne (by omega), sF_ne (by omega)]
      obtain ⟨S2, a1, a2, ⟨a3, a4, a5, a6, a7, a8⟩, a9⟩ := cf_spec (S := S1) isP4 isP20 (by omega)
      have hxF : f_W_parish Sx (nI n) = some (nI t, sF (sF S2 4 8 (S1 4 8)) 4 9 (S1 4 9)) := by
        rw [eX1, e1', Option.bind_some, if_pos rfl]
        unfold f_Parish_beginAs
        rw [Option.bind_some, Option.bind_some, a1, Option.bind_some, Option.bind_some, Option.bind_some, Option.bind_some, sF_ne (by omega), sF_ne (by omega), a5, hP1.1]
      obtain ⟨T2, hT2⟩ : ∃ T2, sF (sF (sF T1 0 7 0) 0 5 (nI t)) 1 96 0 = T2 := ⟨_, rfl⟩
      obtain ⟨T3, b1, b2, b3, b4, b5, b6⟩ := m_over k2 t 0 F T2 (by omega) (by omega) (by rw [← hT2, sF_ne (by omega), sF_at])
      have T1j : ∀ j, T1 1 j = Sm 1 j := fun j => (fT 1 j (by omega)).trans (by rw [← hT0, sF_ne (by omega), sF_ne (by omega), sF_ne (by omega), sF_ne (by omega), sF_ne (by omega)])
      have hmF : f_Mo_parish Sm (nI n) = some (nI t, T3) := by
        rw [eM0, e2]
        unfold f_Mo_parish_76
        rw [Option.bind_some, if_neg i10, sF_ne (by omega), hP1.2.1, Option.bind_some, if_pos g96, e96, Option.bind_some, Option.bind_some, hF, hT2]
        exact b1
      have rT : ∀ r j, r ≠ 0 → r ≠ 1 → T2 r j = T1 r j := fun r j h1 h2 => by rw [← hT2, sF_ne (Or.inl (by omega)), sF_ne (Or.inl (by omega)), sF_ne (Or.inl (by omega))]
      obtain ⟨t', hq⟩ := hR.2.1.qr
      obtain ⟨day, hday, eday⟩ := hq.rr.2.1
      obtain ⟨x, hx, ex⟩ := hq.rr.2.2
      have s48 : S1 4 8 = nI day := by rw [rS 4 8 (by omega), hq.pr.2.2.2.2.1]; exact eday
      have s49 : S1 4 9 = nI x := by rw [rS 4 9 (by omega), hq.pr.2.2.2.2.2]; exact ex
      obtain ⟨d1, d2, d3⟩ := hR.2.2.2.1
      have rM1 : ∀ j, 97 ≤ j → T3 1 j = Sm 1 j := fun j hj => by
        rw [b5 j (by omega), ← hT2, sF_ne (Or.inr (by omega)), sF_ne (by omega), sF_ne (by omega)]
        exact T1j j
      have hx2 : ∀ r j, r ≠ 4 → sF (sF S2 4 8 (S1 4 8)) 4 9 (S1 4 9) r j = S2 r j := fun r j h => by rw [sF_ne (Or.inl h), sF_ne (Or.inl h)]
      have hN : NowR (sF (sF S2 4 8 (S1 4 8)) 4 9 (S1 4 9)) T3 := by
        refine ⟨t, k2, ?_, ⟨?_, fun k hk => ?_⟩, fun k hk => ?_, ⟨fun k hk => ?_, fun k hk => ?_, fun k hk => ?_, ?_, ?_, ?_⟩, fun k hk => ?_, ?_, ?_⟩
        · rw [b6 0 5 (by omega) (by omega) (by omega), ← hT2, sF_ne (by omega), sF_at]
        · rw [sF_ne (by omega), sF_ne (by omega), a5]; exact hP1.1
        · obtain ⟨c1, c2, -⟩ := a2 k (by omega)
          obtain ⟨m1, m2, -⟩ := b3 k (by omega) hk
          obtain ⟨o1, o2, o3, -⟩ := hP1.2.2.1 k hk
          rw [hx2 _ _ (by omega), hx2 _ _ (by omega), c1, c2, m1, m2, rT 20 k (by omega) (by omega), rT 23 k (by omega) (by omega)]
          exact ⟨o1, o3⟩
        · obtain ⟨m1, m2, -⟩ := b3 k (by omega) hk
          obtain ⟨-, o2, -, o4, -⟩ := hP1.2.2.1 k hk
          rw [m1, m2, rT 20 k (by omega) (by omega), rT 23 k (by omega) (by omega)]
          exact ⟨o2, o4⟩
        · obtain ⟨-, -, c1, c2⟩ := a2 k (by omega)
          obtain ⟨-, -, m1, m2, m3, m4⟩ := b3 k (by omega) hk
          obtain ⟨-, -, -, -, o5, -⟩ := hP1.2.2.1 k hk
          rw [hx2 _ _ (by omega), hx2 _ _ (by omega), c1, c2, m1, m3, rT 21 k (by omega) (by omega), o5, rS 24 k (by omega), d3 k (by omega)]
          exact ⟨rfl, rfl⟩
        · obtain ⟨-, -, m1, m2, m3, m4⟩ := b3 k (by omega) hk
          obtain ⟨-, -, -, -, -, -, o7, -⟩ := hP1.2.2.1 k hk
          rw [sF_ne (by omega), sF_ne (by omega), sF_ne (by omega), sF_ne (by omega), a3, a4, rS 20 5 (by omega), d1, m2, m4, rT 22 k (by omega) (by omega)]
          exact ⟨o7, by rw [b_0]; rfl⟩
        · rw [sF_ne (by omega), sF_ne (by omega), sF_ne (by omega), sF_ne (by omega), a3, a4, rS 20 5 (by omega), d1]
          exact ⟨hP1.2.2.2 k hk, b_0 k⟩
        · rw [sF_ne (by omega), sF_ne (by omega), a6, rS 20 7 (by omega), d2, b5 96 (by omega), ← hT2, sF_at]
        · rw [sF_ne (by omega), sF_at, s48, rM1 97 (by omega), eday]
        · rw [sF_at, s49, rM1 98 (by omega), ex]
        · obtain ⟨-, -, m1, m2, m3, m4⟩ := b3 k (by omega) hk
          obtain ⟨-, -, -, -, -, o6, -, o8⟩ := hP1.2.2.1 k hk
          rw [m1, m2, m3, m4, rT 21 k (by omega) (by omega), rT 22 k (by omega) (by omega)]
          exact ⟨o6, o8, ⟨0, by omega, rfl⟩, Or.inl rfl⟩
        · rw [rM1 97 (by omega)]; exact ⟨day, hday, eday⟩
        · rw [rM1 98 (by omega)]; exact ⟨x, hx, ex⟩
      refine ⟨nI t, sF (sF S2 4 8 (S1 4 8)) 4 9 (S1 4 9), T3, t_W_parish hxF, t_Mo_parish hmF, ⟨0, by omega, ?_, ?_, fun i hi => by omega⟩, Core.now hL hR.2 hN (fun k j hk hn => ?_) (fun k j hk hn => ?_)⟩
      · rw [hx2 1 2 (by omega), a9 1 2 (by omega)]
        refine (w_ParishReader_read (S := tX Sx n) (w := (0, S1)) (eX0.trans e1') (by omega)).trans ?_
        unfold tX; rw [sF_at]; rfl
      · rw [b6 0 7 (by omega) (by omega) (by omega), ← hT2, sF_ne (by omega), sF_ne (by omega), sF_at]; rfl
      · unfold RX at hk
        exact w_W_parish hxF (by omega)
      · unfold RM at hk
        exact w_Mo_parish hmF (by omega)
    · have hxF : f_W_parish Sx (nI n) = some (f, S1) := by
        rw [eX1, show f_ParishReader_read_27 F S0 1 0 = some (f, S1) from e1, Option.bind_some, if_neg f0]
      have hmF : f_Mo_parish Sm (nI n) = some (f, sF T1 0 7 0) := by
        rw [eM0, e2]
        unfold f_Mo_parish_76
        rw [Option.bind_some, if_pos rfl, sF_ne (by omega), f1]
      refine ⟨f, S1, sF T1 0 7 0, t_W_parish hxF, t_Mo_parish hmF, hR.taken hL (fun k j hk => ?_) (fun k j hk => ?_) ?_ sF_at⟩
      · unfold RX at hk
        exact (w_ParishReader_read (S := tX Sx n) (w := (f, S1)) (eX0.trans e1) (by omega)).trans (by unfold tX; rw [sF_ne (by omega), sF_ne (by omega)])
      · unfold RM at hk
        rw [sF_ne (by omega), fT k j (by omega), ← hT0, sF_ne (by omega), sF_ne (by omega), sF_ne (by omega), sF_ne (by omega), sF_ne (by omega)]
      · exact (w_ParishReader_read (S := tX Sx n) (w := (f, S1)) (eX0.trans e1) (by omega)).trans (by unfold tX; rw [sF_at])
  · refine no ?_ ?_
    · unfold f_W_parish
      rw [wi_y n1 n2, Option.bind_some, if_neg i10, t1, Option.bind_some, if_pos rfl]
    · unfold f_Mo_parish
      rw [in_y n1 n2, Option.bind_some, if_neg i10, if_neg t2]
end PAR
