section DAYS
variable {P t : Nat}
/-- one day of the class, tried -/
theorem q_pass1 (hP : isP P) {Sx Sm : St} (h : DQ Sx Sm P t) {d : Nat} (e : Sm 1 97 = nI d) (hd : d < 9999) : ∃ v Sx' Sm', f_Almanac_pass Sx P 1 = some (v, Sx') ∧ f_Mo_dayGoes Sm = some Sm' ∧ DQ Sx' Sm' P t := by
  obtain ⟨F, hF⟩ : ∃ F, FU = F := ⟨_, rfl⟩
  have hF' : 300 < F := by rw [← hF]; exact FU_gt (by omega)
  have e8 : Sx P 8 = nI d := by rw [h.1.pr.2.2.2.2.1]; exact e
  obtain ⟨X1, M1, a1, a2, a3, a4⟩ := q_day hP h hd e8
  obtain ⟨F1, hF1⟩ : ∃ z, F = z + 1 + 1 := ⟨F - 2, by omega⟩
  have k1 : f_Almanac_pass_11 P F Sx (nI 1) (nI (dnN (Sm 1) t)) (nI 0) = some (nI (dnN (M1 1) t) - nI (dnN (Sm 1) t), X1) := by
    rw [hF1, f_Almanac_pass_11, if_neg (nle (by omega)), e8, if_neg (show ¬ (9999 : Int32) ≤ nI d from nle (b := 9999) hd), Option.bind_some]
    refine (a1 _ _ _ _).trans ?_
    rw [f_Almanac_pass_11, if_pos (yle (by omega)), q_84 a3]
  refine ⟨nI (dnN (M1 1) t) - nI (dnN (Sm 1) t), X1, M1, ?_, a2, a3⟩
  unfold f_Almanac_pass
  rw [h.1.1.many, Option.bind_some, Option.bind_some, hF]
  exact k1
theorem q_pass0 {Sx Sm : St} (h : DQ Sx Sm P t) {d : Nat} (e : Sm 1 97 = nI d) (hd : d = 9999) : ∃ v, f_Almanac_pass Sx P 1 = some (v, Sx) := by
  obtain ⟨F, hF⟩ : ∃ F, FU = F := ⟨_, rfl⟩
  have hF' : 300 < F := by rw [← hF]; exact FU_gt (by omega)
  have e8 : Sx P 8 = nI d := by rw [h.1.pr.2.2.2.2.1]; exact e
  obtain ⟨F1, hF1⟩ : ∃ z, F = z + 1 := ⟨F - 1, by omega⟩
  have k1 : f_Almanac_pass_11 P F Sx (nI 1) (nI (dnN (Sm 1) t)) (nI 0) = some (nI (dnN (Sm 1) t) - nI (dnN (Sm 1) t), Sx) := by
    rw [hF1, f_Almanac_pass_11, if_neg (nle (by omega)), e8, if_pos (show (9999 : Int32) ≤ nI d from yle (a := 9999) (by omega)), q_84 h]
  refine ⟨nI (dnN (Sm 1) t) - nI (dnN (Sm 1) t), ?_⟩
  unfold f_Almanac_pass
  rw [h.1.1.many, Option.bind_some, Option.bind_some, hF]
  exact k1
theorem bw_end {k n : Nat} {Sx Sm : St} (h : DQ Sx Sm 14 t) (hk : k < t) (hn : n ≤ 100) (e : Sm 1 97 = nI 9999) (hz : Sm 1 (72 + k) = 0) : ∀ m i F, i + m = n → m < F → f_W_byWhen_36 F Sx (nI k) (nI n) (nI i) = some (-2, Sx) := by
  obtain ⟨v, hv⟩ := q_pass0 h e rfl
  intro m
  induction m with
  | zero =>
    intro i F hi hF
    obtain ⟨F, rfl⟩ : ∃ z, F = z + 1 := ⟨F - 1, by omega⟩
    rw [f_W_byWhen_36, if_pos (yle (by omega))]
    unfold f_W_byWhen_71
    rw [h.1.1.done hk, hz, Option.bind_some, if_pos rfl]
  | succ m ih =>
    intro i F hi hF
    obtain ⟨F, rfl⟩ : ∃ z, F = z + 1 := ⟨F - 1, by omega⟩
    rw [f_W_byWhen_36, if_neg (nle (by omega)), h.1.1.done hk, hz, Option.bind_some, if_pos rfl, hv, Option.bind_some, Option.bind_some, nI_1]
    exact ih (i + 1) F (by omega) (by omega)
theorem bw_loop {k n : Nat} (hk : k < t) (hn : n ≤ 100) : ∀ m i F F' (Sx Sm : St), i + m = n → m < F → m < F' → DQ Sx Sm 14 t → ∃ r Sx' Sm', f_W_byWhen_36 F Sx (nI k) (nI n) (nI i) = some (r, Sx') ∧ f_Mo_byWhen_33 F' Sm (nI k) (nI n) (nI i) = some (r, cpR Sm' 2 1 99) ∧ Sm' 2 = Sm 2 := by
  have g4 : ∀ t : Nat, t ≤ 24 → k < t → ig (nI (72 + k)) 99 = true := fun t h1 h2 => gn (by omega) (by omega)
  intro m
  induction m with
  | zero =>
    intro i F F' Sx Sm hi hF hF' h
    obtain ⟨F, rfl⟩ : ∃ z, F = z + 1 := ⟨F - 1, by omega⟩
    obtain ⟨F', rfl⟩ : ∃ z, F' = z + 1 := ⟨F' - 1, by omega⟩
    have g := g4 t h.1.1.1 hk
    have ht := h.1.1.1
    have c4 : (nI (72 + k)).toNatClampNeg = 72 + k := cl
    rw [f_W_byWhen_36, if_pos (yle (by omega)), f_Mo_byWhen_33, a72, if_pos g, c4, if_pos (yle (by omega))]
    unfold f_W_byWhen_71 f_Mo_byWhen_74 f_Mo_byWhen_92
    rw [h.1.1.done hk, Option.bind_some, a72, if_pos g, c4, m_copies (by omega), Option.bind_some]
    rcases h.1.1.dn hk with e | e
    · simp only [e, ↓reduceIte, i01]
      exact ⟨-2, Sx, Sm, rfl, rfl, rfl⟩
    · simp only [e, ↓reduceIte, i10]
      exact ⟨nI i, Sx, Sm, rfl, rfl, rfl⟩
  | succ m ih =>
    intro i F F' Sx Sm hi hF hF' h
    obtain ⟨F, rfl⟩ : ∃ z, F = z + 1 := ⟨F - 1, by omega⟩
    obtain ⟨F', rfl⟩ : ∃ z, F' = z + 1 := ⟨F' - 1, by omega⟩
    have g := g4 t h.1.1.1 hk
    have ht := h.1.1.1
    have c4 : (nI (72 + k)).toNatClampNeg = 72 + k := cl
    have fin : ∀ l3 : Int32, f_Mo_byWhen_74 Sm (nI k) l3 = some (if Sm 1 (72 + k) = 1 then l3 else -2, cpR Sm 2 1 99) := fun l3 => by
      unfold f_Mo_byWhen_74 f_Mo_byWhen_92
      rw [a72, if_pos g, c4, m_copies (by omega), Option.bind_some, if_neg i10, Option.bind_some, if_pos rfl]
      by_cases c : Sm 1 (72 + k) = 1
      · rw [if_pos c, if_pos c]
      · rw [if_neg c, if_neg c]
    rcases h.1.1.dn hk with e | e
    · obtain ⟨d, d1, d2, d3⟩ := h.day
      by_cases c : d < 9999
      · obtain ⟨v, X1, M1, a1, a2, a3⟩ := q_pass1 isP14 h d2 c
        obtain ⟨r, X2, M2, b1, b2, b3⟩ := ih (i + 1) F F' X1 M1 (by omega) (by omega) (by omega) a3
        refine ⟨r, X2, M2, ?_, ?_, b3.trans (fe (fun j => w_Mo_dayGoes a2 (by omega)))⟩
        · rw [f_W_byWhen_36, if_neg (nle (by omega)), h.1.1.done hk, e, Option.bind_some, if_pos rfl, a1, Option.bind_some, Option.bind_some, nI_1, b1]
        · rw [f_Mo_byWhen_33, a72, if_pos g, c4, e, if_pos rfl, if_neg (nle (by omega)), if_pos g97, e97, d2, if_neg (show ¬ (9999 : Int32) ≤ nI d from nle (b := 9999) c), a2, Option.bind_some, Option.bind_some, nI_1, b2]
      · have d9 : d = 9999 := by omega
        subst d9
        refine ⟨-2, Sx, Sm, bw_end h hk hn d2 e (m + 1) i (F + 1) hi hF, ?_, rfl⟩
        rw [f_Mo_byWhen_33, a72, if_pos g, c4, e, if_pos rfl, if_neg (nle (by omega)), if_pos g97, e97, d2, if_pos (show (9999 : Int32) ≤ nI 9999 by decide), fin, e, if_neg i01]
    · refine ⟨nI i, Sx, Sm, ?_, ?_, rfl⟩
      · rw [f_W_byWhen_36, if_neg (nle (by omega)), h.1.1.done hk, e, Option.bind_some, if_neg i10]
        unfold f_W_byWhen_71
        rw [h.1.1.done hk, e, Option.bind_some, if_neg i10]
      · rw [f_Mo_byWhen_33, a72, if_pos g, c4, e, if_neg i10, fin, e, if_pos rfl]
theorem st_byWhen (a b : Int32) : STEP (RelL LawR) m_W_byWhen m_Mo_byWhen 8 8 [a, b] := by
  intro Sx Sm hR
  obtain ⟨F, hF⟩ : ∃ F, FU = F := ⟨_, rfl⟩
  have hF' : 300 < F := by rw [← hF]; exact FU_gt (by omega)
  obtain ⟨t, hq⟩ := hR.2.1.qr
  have ht := hq.1.1
  have no : f_W_byWhen Sx a b = some (-1, Sx) → f_Mo_byWhen Sm a b = some (-1, Sm) → ∃ r Sx' Sm', Ct SX m_W_byWhen 8 (.ref 0 :: [a, b].map Value.int) Sx (some r) Sx' ∧ Ct SM m_Mo_byWhen 8 (.ref 0 :: [a, b].map Value.int) Sm (some r) Sm' ∧ RelL LawR Sx' Sm' := fun e1 e2 => ⟨-1, Sx, Sm, t_W_byWhen e1, t_Mo_byWhen e2, hR⟩
  rcases ix3 a ht with hx | ⟨k, hk, rfl⟩
  · exact no (by unfold f_W_byWhen; rw [has_n hq.1.things hx]; rfl) (by unfold f_Mo_byWhen; rw [isT_n hq.2.1 ht hx]; rfl)
  by_cases hc : b < 1 ∨ (100 : Int32) < b
  · exact no (by unfold f_W_byWhen; rw [has_y hq.1.things ht hk, wi_n hc]; rfl) (by unfold f_Mo_byWhen; rw [isT_y hq.2.1 ht hk, in_n hc]; rfl)
  have n1 : ¬ b < 1 := fun z => hc (Or.inl z)
  have n2 : ¬ (100 : Int32) < b := fun z => hc (Or.inr z)
  obtain ⟨n, q1, q2, rfl⟩ := rngN (a := 1) (b := 100) (by omega) n1 n2
  obtain ⟨X1, a1, a2, a3⟩ := trial_start ⟨hq, hR.2.2.2.2⟩
  obtain ⟨r, X2, M2, b1, b2, b3⟩ := bw_loop hk q2 n 0 F F X1 (cpR Sm 1 2 99) (by omega) (by omega) (by omega) a3
  have h1 : f_W_byWhen Sx (nI k) (nI n) = some (r, X2) := by
    unfold f_W_byWhen
    rw [has_y hq.1.things ht hk, Option.bind_some, if_neg i10, wi_y n1 n2, Option.bind_some, if_neg i10, a1, Option.bind_some, Option.bind_some, hF]
    exact b1
  have h2 : f_Mo_byWhen Sm (nI k) (nI n) = some (r, cpR M2 2 1 99) := by
    unfold f_Mo_byWhen
    rw [isT_y hq.2.1 ht hk, Option.bind_some, if_neg i10, in_y n1 n2, Option.bind_some, if_neg i10, a2, Option.bind_some, Option.bind_some, hF]
    exact b2
  exact ⟨r, X2, cpR M2 2 1 99, t_W_byWhen h1, t_Mo_byWhen h2, hR.trial (fun kr jr h => w_W_byWhen h1 h) (fun kr jr h => w_Mo_byWhen h2 h) (cp_back b3)⟩
theorem dk_end {n : Nat} {Sx Sm : St} (h : DQ Sx Sm 14 t) (hn : n ≤ 100) (e : Sm 1 97 = nI 9999) (hz : ¬ Sx 14 4 = 0) : ∀ m i F, i + m = n → m < F → f_W_dark_25 F Sx (nI n) (nI i) = some (-2, Sx) := by
  obtain ⟨v, hv⟩ := q_pass0 h e rfl
  intro m
  induction m with
  | zero =>
    intro i F hi hF
    obtain ⟨F, rfl⟩ : ∃ z, F = z + 1 := ⟨F - 1, by omega⟩
    rw [f_W_dark_25, if_pos (yle (by omega))]
    unfold f_W_dark_59
    rw [if_neg hz]
  | succ m ih =>
    intro i F hi hF
    obtain ⟨F, rfl⟩ : ∃ z, F = z + 1 := ⟨F - 1, by omega⟩
    rw [f_W_dark_25, if_neg (nle (by omega)), if_neg hz, hv, Option.bind_some, Option.bind_some, nI_1]
    exact ih (i + 1) F (by omega) (by omega)
theorem dk_loop {n : Nat} (hn : n ≤ 100) : ∀ m i F F' (Sx Sm : St), i + m = n → m < F → m < F' → DQ Sx Sm 14 t → ∃ r Sx' Sm', f_W_dark_25 F Sx (nI n) (nI i) = some (r, Sx') ∧ f_Mo_dark_25 F' Sm (nI n) (nI i) = some (r, cpR Sm' 2 1 99) ∧ Sm' 2 = Sm 2 := by
  have sO : ∀ Sx Sm : St, DQ Sx Sm 14 t → f_Mo_setOf Sm 24 = some (Sx 14 4) := fun Sx Sm h => by
    rw [show f_Mo_setOf Sm 24 = some (foldN (gSet (Sm 1) 24) t 0 0) from m_setOf h.1.2 (row := 24) (by omega), h.1.1.bits4]
  have fin : ∀ Sx Sm : St, DQ Sx Sm 14 t → ∀ l : Int32, f_Mo_dark_63 Sm l = some (if Sx 14 4 = 0 then l else -2, cpR Sm 2 1 99) := fun Sx Sm h l => by
    unfold f_Mo_dark_63 f_Mo_dark_77
    rw [sO Sx Sm h, Option.bind_some, m_copies (by omega), Option.bind_some, if_neg i10, Option.bind_some, if_pos rfl]
    by_cases c : Sx 14 4 = 0
    · rw [if_pos c, if_pos c]
    · rw [if_neg c, if_neg c]
  intro m
  induction m with
  | zero =>
    intro i F F' Sx Sm hi hF hF' h
    obtain ⟨F, rfl⟩ : ∃ z, F = z + 1 := ⟨F - 1, by omega⟩
    obtain ⟨F', rfl⟩ : ∃ z, F' = z + 1 := ⟨F' - 1, by omega⟩
    refine ⟨if Sx 14 4 = 0 then nI i else -2, Sx, Sm, ?_, ?_, rfl⟩
    · rw [f_W_dark_25, if_pos (yle (by omega))]
      unfold f_W_dark_59
      by_cases c : Sx 14 4 = 0
      · rw [if_pos c, if_pos c]
      · rw [if_neg c, if_neg c]
    · rw [f_Mo_dark_25, sO Sx Sm h, Option.bind_some, if_pos (yle (by omega)), fin Sx Sm h, ite_self]
  | succ m ih =>
    intro i F F' Sx Sm hi hF hF' h
    obtain ⟨F, rfl⟩ : ∃ z, F = z + 1 := ⟨F - 1, by omega⟩
    obtain ⟨F', rfl⟩ : ∃ z, F' = z + 1 := ⟨F' - 1, by omega⟩
    by_cases c0 : Sx 14 4 = 0
    · refine ⟨nI i, Sx, Sm, ?_, ?_, rfl⟩
      · rw [f_W_dark_25, if_neg (nle (by omega)), if_pos c0]
        unfold f_W_dark_59
        rw [if_pos c0]
      · rw [f_Mo_dark_25, sO Sx Sm h, Option.bind_some, if_pos c0, fin Sx Sm h, if_pos c0]
    · obtain ⟨d, d1, d2, d3⟩ := h.day
      by_cases c : d < 9999
      · obtain ⟨v, X1, M1, a1, a2, a3⟩ := q_pass1 isP14 h d2 c
        obtain ⟨r, X2, M2, b1, b2, b3⟩ := ih (i + 1) F F' X1 M1 (by omega) (by omega) (by omega) a3
        refine ⟨r, X2, M2, ?_, ?_, b3.trans (fe (fun j => w_Mo_dayGoes a2 (by omega)))⟩
        · rw [f_W_dark_25, if_neg (nle (by omega)), if_neg c0, a1, Option.bind_some, Option.bind_some, nI_1, b1]
        · rw [f_Mo_dark_25, sO Sx Sm h, Option.bind_some, if_neg c0, if_neg (nle (by omega)), if_pos g97, e97, d2, if_neg (show ¬ (9999 : Int32) ≤ nI d from nle (b := 9999) c), a2, Option.bind_some, Option.bind_some, nI_1, b2]
      · have d9 : d = 9999 := by omega
        subst d9
        refine ⟨-2, Sx, Sm, dk_end h hn d2 c0 (m + 1) i (F + 1) hi hF, ?_, rfl⟩
        rw [f_Mo_dark_25, sO Sx Sm h, Option.bind_some, if_neg c0, if_neg (nle (by omega)), if_pos g97, e97, d2, if_pos (show (9999 : Int32) ≤ nI 9999 by decide), fin Sx Sm h, if_neg c0]
theorem st_dark (a : Int32) : STEP (RelL LawR) m_W_dark m_Mo_dark 8 8 [a] := by
  intro Sx Sm hR
  obtain ⟨F, hF⟩ : ∃ F, FU = F := ⟨_, rfl⟩
  have hF' : 300 < F := by rw [← hF]; exact FU_gt (by omega)
  obtain ⟨t, hq⟩ := hR.2.1.qr
  by_cases hc : a < 1 ∨ (100 : Int32) < a
  · refine ⟨-1, Sx, Sm, t_W_dark (w := (-1, Sx)) ?_, t_Mo_dark (w := (-1, Sm)) ?_, hR⟩
    · unfold f_W_dark; rw [wi_n hc]; rfl
    · unfold f_Mo_dark; rw [in_n hc]; rfl
  have n1 : ¬ a < 1 := fun z => hc (Or.inl z)
  have n2 : ¬ (100 : Int32) < a := fun z => hc (Or.inr z)
  obtain ⟨n, q1, q2, rfl⟩ := rngN (a := 1) (b := 100) (by omega) n1 n2
  obtain ⟨X1, a1, a2, a3⟩ := trial_start ⟨hq, hR.2.2.2.2⟩
  obtain ⟨r, X2, M2, b1, b2, b3⟩ := dk_loop q2 n 0 F F X1 (cpR Sm 1 2 99) (by omega) (by omega) (by omega) a3
  have h1 : f_W_dark Sx (nI n) = some (r, X2) := by
    unfold f_W_dark
    rw [wi_y n1 n2, Option.bind_some, if_neg i10, a1, Option.bind_some, Option.bind_some, hF]
    exact b1
  have h2 : f_Mo_dark Sm (nI n) = some (r, cpR M2 2 1 99) := by
    unfold f_Mo_dark
    rw [in_y n1 n2, Option.bind_some, if_neg i10, a2, Option.bind_some, Option.bind_some, hF]
    exact b2
  exact ⟨r, X2, cpR M2 2 1 99, t_W_dark h1, t_Mo_dark h2, hR.trial (fun kr jr h => w_W_dark h1 h) (fun kr jr h => w_Mo_dark h2 h) (cp_back b3)⟩
end DAYS
