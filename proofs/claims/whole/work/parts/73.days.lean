/-! DAYS -/
def DQ (Sx Sm : St) (P t : Nat) : Prop := QR Sx Sm P t ∧ LawR Sx Sm
section DAYS
variable {P t : Nat}
theorem DQ.day {Sx Sm : St} (h : DQ Sx Sm P t) : ∃ d, d ≤ 9999 ∧ Sm 1 97 = nI d ∧ Sx P 8 = nI d := by
  obtain ⟨d, hd, e⟩ := h.1.rr.2.1
  exact ⟨d, hd, e, by rw [h.1.pr.2.2.2.2.1]; exact e⟩
theorem q_day30 (hP : isP P) : ∀ m j F F' (Sx Sm : St), j + m = t → m < F → m < F' → DQ Sx Sm P t → ∃ Sx' Sm', (∀ K l2 l3 l4, f_Almanac_pass_30 P K F Sx l2 l3 l4 (nI j) = f_Almanac_pass_68 P K Sx' l2 l3 l4) ∧ f_Mo_dayGoes_2 F' Sm (nI j) = some (sF Sm' 1 97 (Sm' 1 97 + 1)) ∧ DQ Sx' Sm' P t ∧ Jn Sm' t = Jn Sm t ∧ Sx' P 8 = Sx P 8 := by
  have hP20 : P ≤ 20 := by unfold isP at hP; omega
  intro m
  induction m with
  | zero =>
    intro j F F' Sx Sm hj hF hF' h
    obtain ⟨F, rfl⟩ : ∃ z, F = z + 1 := ⟨F - 1, by omega⟩
    obtain ⟨F', rfl⟩ : ∃ z, F' = z + 1 := ⟨F' - 1, by omega⟩
    have ht := h.1.1.1
    refine ⟨Sx, Sm, fun K l2 l3 l4 => ?_, ?_, h, rfl, rfl⟩
    · rw [f_Almanac_pass_30, h.1.1.things, if_pos (yle (by omega))]
    · rw [f_Mo_dayGoes_2, h.1.2.1, if_pos (yle (by omega)), if_pos g97, if_pos g97, e97, Option.bind_some]
  | succ m ih =>
    intro j F F' Sx Sm hj hF hF' h
    obtain ⟨F, rfl⟩ : ∃ z, F = z + 1 := ⟨F - 1, by omega⟩
    obtain ⟨F', rfl⟩ : ∃ z, F' = z + 1 := ⟨F' - 1, by omega⟩
    have ht := h.1.1.1
    have hjt : j < t := by omega
    have sX : ∀ K l2 l3 l4, f_Almanac_pass_30 P K (F + 1) Sx l2 l3 l4 (nI j) = if Sm 1 (72 + j) = 0 then (f_Almanac_passOver Sx P (nI j)).bind fun w => f_Almanac_pass_30 P K F w l2 l3 l4 (nI (j + 1)) else f_Almanac_pass_30 P K F Sx l2 l3 l4 (nI (j + 1)) := fun K l2 l3 l4 => by
      rw [f_Almanac_pass_30, h.1.1.things, if_neg (nle hjt), if_neg (n24 (by omega)), h.1.1.done hjt, Option.bind_some]
      unfold f_Almanac_pass_62
      simp only [Option.bind_some, nI_1]
    have sM : f_Mo_dayGoes_2 (F' + 1) Sm (nI j) = if Sm 1 (72 + j) = 0 then (f_Mo_goesOn Sm (nI j)).bind fun w => f_Mo_dayGoes_2 F' w (nI (j + 1)) else f_Mo_dayGoes_2 F' Sm (nI (j + 1)) := by
      rw [f_Mo_dayGoes_2, h.1.2.1, if_neg (nle hjt), h.1.2.left hjt, Option.bind_some]
      unfold f_Mo_dayGoes_23
      by_cases c : Sm 1 (72 + j) = 0
      · rw [if_pos c, if_pos c, if_neg i10]
        simp only [Option.bind_some, nI_1]
      · rw [if_neg c, if_neg c, if_pos rfl, Option.bind_some, nI_1]
    by_cases c : Sm 1 (72 + j) = 0
    · obtain ⟨X1, M1, a1, a2, a3, a4⟩ := q_one hP h.1 h.2 hjt c
      have L1 : LawR X1 M1 := LawR_c _ _ _ _ (fun i k h1 h2 => w_Almanac_passOver a1 (by omega)) (fun i k h1 h2 => w_Mo_goesOn a2 (by omega)) (w_Mo_goesOn a2 (by omega)) h.2
      obtain ⟨X2, M2, b1, b2, b3, b4, b5⟩ := ih (j + 1) F F' X1 M1 (by omega) (by omega) (by omega) ⟨a3, L1⟩
      refine ⟨X2, M2, fun K l2 l3 l4 => ?_, ?_, b3, b4.trans a4, b5.trans (w_Almanac_passOver a1 (by omega))⟩
      · rw [sX, if_pos c, a1, Option.bind_some, b1]
      · rw [sM, if_pos c, a2, Option.bind_some, b2]
    · obtain ⟨X2, M2, b1, b2, b3, b4, b5⟩ := ih (j + 1) F F' Sx Sm (by omega) (by omega) (by omega) h
      refine ⟨X2, M2, fun K l2 l3 l4 => ?_, ?_, b3, b4, b5⟩
      · rw [sX, if_neg c, b1]
      · rw [sM, if_neg c, b2]
theorem q_day (hP : isP P) {Sx Sm : St} (h : DQ Sx Sm P t) {d : Nat} (hd : d < 9999) (e : Sx P 8 = nI d) : ∃ Sx' Sm', (∀ K l2 l3 i, f_Almanac_pass_30 P K FU Sx l2 l3 (nI i) 0 = K Sx' l2 l3 (nI (i + 1))) ∧ f_Mo_dayGoes Sm = some Sm' ∧ DQ Sx' Sm' P t ∧ Jn Sm' t = Jn Sm t := by
  have hP20 : P ≤ 20 := by unfold isP at hP; omega
  have ht := h.1.1.1
  obtain ⟨F, hF⟩ : ∃ F, FU = F := ⟨_, rfl⟩
  have hF' : 300 < F := by rw [← hF]; exact FU_gt (by omega)
  obtain ⟨X1, M1, a1, a2, a3, a4, a5⟩ := q_day30 hP t 0 F F Sx Sm (by omega) (by omega) (by omega) h
  have e1 : X1 P 8 = nI d := by rw [a5]; exact e
  have e2 : M1 1 97 = nI d := by rw [← a3.1.pr.2.2.2.2.1]; exact e1
  refine ⟨sF X1 P 8 (nI (d + 1)), sF M1 1 97 (nI (d + 1)), fun K l2 l3 i => ?_, ?_, ⟨a3.1.put (Or.inl ⟨rfl, by omega⟩) (a3.1.pr.day ht _) (a3.1.rr.day ht ⟨d + 1, by omega, rfl⟩), ?_⟩, ?_⟩
  · rw [hF]
    refine (a1 K l2 l3 (nI i)).trans ?_
    unfold f_Almanac_pass_68
    rw [e1, nI_1, Option.bind_some, nI_1, Option.bind_some]
  · unfold f_Mo_dayGoes
    rw [Option.bind_some, hF]
    refine a2.trans ?_
    rw [e2, nI_1]
  · exact LawR_c _ _ _ _ (fun i k h1 h2 => sF_ne (by omega)) (fun i k h1 h2 => sF_ne (by omega)) (sF_ne (by omega)) a3.2
  · rw [← a4]
    exact Jn_same (sF_ne (by omega)) (fun i hi => sF_ne (by omega))
theorem q_84 {Sx Sm : St} (h : DQ Sx Sm P t) (l3 : Int32) : f_Almanac_pass_84 P Sx l3 = some (nI (dnN (Sm 1) t) - l3, Sx) := by
  unfold f_Almanac_pass_84
  rw [h.1.1.many, Option.bind_some]
  rfl
theorem q_days (hP : isP P) {n : Nat} (hn : n ≤ 100) (l3 : Int32) : ∀ m i F F' (Sx Sm : St), i + m = n → m < F → m < F' → DQ Sx Sm P t → ∃ Sx' Sm', f_Almanac_pass_11 P F Sx (nI n) l3 (nI i) = some (nI (dnN (Sm' 1) t) - l3, Sx') ∧ f_Mo_daysGo_7 F' Sm (nI n) (nI i) = some Sm' ∧ DQ Sx' Sm' P t ∧ Jn Sm' t = Jn Sm t := by
  intro m
  induction m with
  | zero =>
    intro i F F' Sx Sm hi hF hF' h
    obtain ⟨F, rfl⟩ : ∃ z, F = z + 1 := ⟨F - 1, by omega⟩
    obtain ⟨F', rfl⟩ : ∃ z, F' = z + 1 := ⟨F' - 1, by omega⟩
    refine ⟨Sx, Sm, ?_, ?_, h, rfl⟩
    · rw [f_Almanac_pass_11, if_pos (yle (by omega)), q_84 h]
    · rw [f_Mo_daysGo_7, if_pos (yle (by omega))]
  | succ m ih =>
    intro i F F' Sx Sm hi hF hF' h
    obtain ⟨F, rfl⟩ : ∃ z, F = z + 1 := ⟨F - 1, by omega⟩
    obtain ⟨F', rfl⟩ : ∃ z, F' = z + 1 := ⟨F' - 1, by omega⟩
    obtain ⟨d, d1, d2, d3⟩ := h.day
    rw [f_Almanac_pass_11, if_neg (nle (by omega)), d3, f_Mo_daysGo_7, if_neg (nle (by omega)), if_pos g97, e97, d2]
    by_cases c : d < 9999
    · rw [if_neg (show ¬ (9999 : Int32) ≤ nI d from nle (b := 9999) c), if_neg (show ¬ (9999 : Int32) ≤ nI d from nle (b := 9999) c), Option.bind_some]
      obtain ⟨X1, M1, a1, a2, a3, a4⟩ := q_day hP h c d3
      obtain ⟨X2, M2, b1, b2, b3, b4⟩ := ih (i + 1) F F' X1 M1 (by omega) (by omega) (by omega) a3
      refine ⟨X2, M2, (a1 _ _ _ _).trans b1, ?_, b3, b4.trans a4⟩
      rw [a2, Option.bind_some, Option.bind_some, nI_1, b2]
    · have y : (9999 : Int32) ≤ nI d := yle (a := 9999) (by omega)
      rw [if_pos y, if_pos y]
      exact ⟨Sx, Sm, q_84 h l3, rfl, h, rfl⟩
theorem q_pass (hP : isP P) {n : Nat} (hn : n ≤ 100) {Sx Sm : St} (h : DQ Sx Sm P t) : ∃ v Sx' Sm', f_Almanac_pass Sx P (nI n) = some (v, Sx') ∧ f_Mo_daysGo Sm (nI n) = some Sm' ∧ Sm' 0 35 = v ∧ DQ Sx' Sm' P t := by
  obtain ⟨F, hF⟩ : ∃ F, FU = F := ⟨_, rfl⟩
  have hF' : 300 < F := by rw [← hF]; exact FU_gt (by omega)
  have h0 : DQ Sx (sF Sm 0 35 0) P t := ⟨h.1.m (Or.inl ⟨rfl, by omega⟩), LawR_c _ _ _ _ (fun _ _ _ _ => rfl) (fun i k h1 h2 => sF_ne (by omega)) (sF_ne (by omega)) h.2⟩
  obtain ⟨X1, M1, a1, a2, a3, a4⟩ := q_days hP hn (nI (dnN (Sm 1) t)) n 0 F F Sx (sF Sm 0 35 0) (by omega) (by omega) (by omega) h0
  refine ⟨nI (dnN (M1 1) t) - nI (dnN (Sm 1) t), X1, M1, ?_, ?_, ?_, a3⟩
  · unfold f_Almanac_pass
    rw [h.1.1.many, Option.bind_some, Option.bind_some, hF]
    exact a1
  · unfold f_Mo_daysGo
    rw [Option.bind_some, Option.bind_some, hF]
    exact a2
  · unfold Jn at a4
    rw [sF_at, sF_rne (by omega)] at a4
    have := congrArg (fun x => x + nI (dnN (M1 1) t)) a4
    simp only [Int32.sub_add_cancel] at this
    rw [this]
    apply Int32.toBitVec_inj.mp
    simp only [Int32.toBitVec_sub, Int32.toBitVec_add]
    show 0#32 - _ + _ = _ - _
    bv_omega
theorem NowR.of {Sx Sm : St} (h : QR Sx Sm 4 t) : NowR Sx Sm := ⟨t, h.1.1, h.2.1, h.1.2.1, h.1.2.2.1, h.1.2.2.2.1, h.1.2.2.2.2⟩
theorem NowR.qr {Sx Sm : St} (h : NowR Sx Sm) : ∃ t, QR Sx Sm 4 t := by
  obtain ⟨t, a, b⟩ := h.np
  exact ⟨t, a, b⟩
theorem isP4 : isP 4 := Or.inl rfl
theorem isP14 : isP 14 := Or.inr (Or.inr (Or.inl rfl))
theorem st_days (a : Int32) : STEP (RelL LawR) m_W_days m_Mo_days 8 9 [a] := by
  intro Sx Sm hR
  by_cases hc : a < 1 ∨ (100 : Int32) < a
  · refine ⟨-1, Sx, Sm, t_W_days (w := (-1, Sx)) ?_, t_Mo_days (w := (-1, Sm)) ?_, hR⟩
    · unfold f_W_days; rw [wi_n hc]; rfl
    · unfold f_Mo_days; rw [in_n hc]; rfl
  have n1 : ¬ a < 1 := fun z => hc (Or.inl z)
  have n2 : ¬ (100 : Int32) < a := fun z => hc (Or.inr z)
  obtain ⟨n, q1, q2, rfl⟩ := rngN (a := 1) (b := 100) (by omega) n1 n2
  obtain ⟨t, hq⟩ := hR.2.1.qr
  obtain ⟨v, X1, M1, a1, a2, a3, a4⟩ := q_pass isP4 q2 ⟨hq, hR.2.2.2.2⟩
  have h1 : f_W_days Sx (nI n) = some (v, X1) := by
    unfold f_W_days
    rw [wi_y n1 n2, Option.bind_some, if_neg i10, a1, Option.bind_some]
  have h2 : f_Mo_days Sm (nI n) = some (v, M1) := by
    unfold f_Mo_days
    rw [in_y n1 n2, Option.bind_some, if_neg i10, a2, Option.bind_some, a3]
  refine ⟨v, X1, M1, t_W_days h1, t_Mo_days h2, ?_, Core.now LawR_c hR.2 (NowR.of a4.1) (fun k j hk hn => ?_) (fun k j hk hn => ?_)⟩
  · obtain ⟨n', p1, p2, p3, p4⟩ := hR.1
    refine ⟨n', p1, ?_, ?_, fun i hi => ?_⟩
    · rw [show X1 1 2 = Sx 1 2 from w_W_days h1 (by omega)]; exact p2
    · rw [show M1 0 7 = Sm 0 7 from w_Mo_days h2 (by omega)]; exact p3
    · rw [show X1 2 i = Sx 2 i from w_W_days h1 (by omega), show M1 6 i = Sm 6 i from w_Mo_days h2 (by omega)]; exact p4 i hi
  · unfold RX at hk
    exact w_W_days h1 (by omega)
  · unfold RM at hk
    exact w_Mo_days h2 (by omega)
/-! TRIED, BYWHEN, DARK -/
theorem trial_start {Sx Sm : St} (h : DQ Sx Sm 4 t) : ∃ Sx', f_Parish_copyFrom Sx 14 4 = some Sx' ∧ f_Mo_copies Sm 1 2 = some (cpR Sm 1 2 99) ∧ DQ Sx' (cpR Sm 1 2 99) 14 t := by
  obtain ⟨S', a1, a2, ⟨a3, a4, a5, a6, a7, a8⟩, a9⟩ := cf_spec (S := Sx) isP14 isP4 (by omega)
  have rM : ∀ k, k ≠ 2 → cpR Sm 1 2 99 k = Sm k := fun k hk => by unfold cpR sR; rw [if_neg hk]
  refine ⟨S', a1, m_copies (by omega), ⟨⟨?_, ?_⟩, ?_⟩⟩
  · rw [rM 1 (by omega), rM 4 (by omega), rM 5 (by omega)]
    obtain ⟨ht, ⟨q2, q3⟩, q4, ⟨p1, p2, p3, p4, p5, p6⟩, q6⟩ := h.1.1
    refine ⟨ht, ⟨by rw [a5]; exact q2, fun k hk => ?_⟩, q4, ⟨fun k hk => ?_, fun k hk => ?_, fun k hk => ?_, ?_, ?_, ?_⟩, q6⟩
    · obtain ⟨b1, b2, -⟩ := a2 k (by omega)
      rw [b1, b2]; exact q3 k hk
    · obtain ⟨-, -, b1, b2⟩ := a2 k (by omega)
      rw [b1, b2]; exact p1 k hk
    · rw [a3, a4]; exact p2 k hk
    · rw [a3, a4]; exact p3 k hk
    · rw [a6]; exact p4
    · rw [a7]; exact p5
    · rw [a8]; exact p6
  · exact ⟨by rw [rM 0 (by omega)]; exact h.1.2.1, h.1.2.2⟩
  · exact LawR_c _ _ _ _ (fun i k h1 h2 => a9 i k (by omega)) (fun i k h1 h2 => by rw [rM i (by omega)]) (by rw [rM 0 (by omega)]) h.2
theorem RelL.trial {Sx Sm Sx' Sm' : St} (hR : RelL LawR Sx Sm) (hx : ∀ kr jr, ¬ ((kr = 14 ∧ (jr = 4 ∨ jr = 5 ∨ jr = 6 ∨ jr = 7 ∨ jr = 8 ∨ jr = 9)) ∨ kr = 15 ∨ kr = 16 ∨ kr = 17 ∨ kr = 18 ∨ (kr = 40 ∧ (jr = 2 ∨ jr = 3 ∨ jr = 4 ∨ jr = 5 ∨ jr = 6)) ∨ kr = 41) → Sx' kr jr = Sx kr jr) (hm : ∀ kr jr, ¬ ((kr = 0 ∧ (jr = 35)) ∨ kr = 1 ∨ kr = 2 ∨ kr = 18 ∨ kr = 19) → Sm' kr jr = Sm kr jr) (h1 : ∀ j, j < 99 → Sm' 1 j = Sm 1 j) : RelL LawR Sx' Sm' := by
  obtain ⟨t, hq⟩ := hR.2.1.qr
  refine ⟨?_, Core.now LawR_c hR.2 (NowR.of (t := t) ⟨?_, ?_⟩) (fun k j hk hn => ?_) (fun k j hk hn => ?_)⟩
  · obtain ⟨n', p1, p2, p3, p4⟩ := hR.1
    refine ⟨n', p1, ?_, ?_, fun i hi => ?_⟩
    · rw [hx 1 2 (by omega)]; exact p2
    · rw [hm 0 7 (by omega)]; exact p3
    · rw [hx 2 i (by omega), hm 6 i (by omega)]; exact p4 i hi
  · have e4 : Sm' 4 = Sm 4 := fe (fun j => hm 4 j (by omega))
    have e5 : Sm' 5 = Sm 5 := fe (fun j => hm 5 j (by omega))
    rw [e4, e5]
    exact hq.1.cong (fun k a b => fe (fun j => hx k j (by omega))) h1
  · exact ⟨by rw [hm 0 5 (by omega)]; exact hq.2.1, hq.2.2⟩
  · unfold RX at hk
    exact hx k j (by omega)
  · unfold RM at hk
    exact hm k j (by omega)
theorem cp_back {Sm M1 : St} (h : M1 2 = cpR Sm 1 2 99 2) : ∀ j, j < 99 → cpR M1 2 1 99 1 j = Sm 1 j := fun j hj => by
  have e : cpR Sm 1 2 99 2 j = Sm 1 j := by
    show (if j < 99 then Sm 1 j else Sm 2 j) = _
    rw [if_pos hj]
  have e2 : cpR M1 2 1 99 1 j = M1 2 j := by
    show (if j < 99 then M1 2 j else M1 1 j) = _
    rw [if_pos hj]
  rw [e2, h, e]
theorem st_tried (a b : Int32) : STEP (RelL LawR) m_W_tried m_Mo_tried 8 9 [a, b] := by
  intro Sx Sm hR
  obtain ⟨t, hq⟩ := hR.2.1.qr
  have ht := hq.1.1
  have hv : ∀ x : Int32, ∃ v : Int32, (v = 0 ∨ v = 1) ∧ f_Parish_has Sx 4 x = some v ∧ f_Mo_isThing Sm x = some v ∧ (v = 1 → ∃ k, k < t ∧ x = nI k) := fun x => by
    rcases ix3 x ht with hx | ⟨k, hk, rfl⟩
    · exact ⟨0, Or.inl rfl, has_n hq.1.things hx, isT_n hq.2.1 ht hx, fun z => absurd z i01⟩
    · exact ⟨1, Or.inr rfl, has_y hq.1.things ht hk, isT_y hq.2.1 ht hk, fun _ => ⟨k, hk, rfl⟩⟩
  have hw : ∀ x lo hi : Int32, ∃ v : Int32, (v = 0 ∨ v = 1) ∧ f_W_within Sx x lo hi = some v ∧ f_Mo_in Sm x lo hi = some v ∧ (v = 1 → ¬ x < lo ∧ ¬ hi < x) := fun x lo hi => by
    by_cases c : x < lo ∨ hi < x
    · exact ⟨0, Or.inl rfl, wi_n c, in_n c, fun z => absurd z i01⟩
    · have c1 : ¬ x < lo := fun z => c (Or.inl z)
      have c2 : ¬ hi < x := fun z => c (Or.inr z)
      exact ⟨1, Or.inr rfl, wi_y c1 c2, in_y c1 c2, fun _ => ⟨c1, c2⟩⟩
  obtain ⟨vA, A1, A2, A3, A4⟩ := hw b 0 3
  obtain ⟨vL, L1, L2, L3, L4⟩ := hv (b - 10)
  obtain ⟨vD, D1, D2, D3, D4⟩ := hv (b - 40)
  obtain ⟨vN, N1, N2, N3, N4⟩ := hw a 1 100
  have no : f_W_tried Sx a b = some (-1, Sx) → f_Mo_tried Sm a b = some (-1, Sm) → ∃ r Sx' Sm', Ct SX m_W_tried 8 (.ref 0 :: [a, b].map Value.int) Sx (some r) Sx' ∧ Ct SM m_Mo_tried 9 (.ref 0 :: [a, b].map Value.int) Sm (some r) Sm' ∧ RelL LawR Sx' Sm' := fun e1 e2 => ⟨-1, Sx, Sm, t_W_tried e1, t_Mo_tried e2, hR⟩
  have eX : f_W_tried Sx a b = if vN = 0 then some (-1, Sx) else if vA = 0 then (if vL = 0 then (if vD = 0 then some (-1, Sx) else f_W_tried_59 Sx a b vL vD) else f_W_tried_59 Sx a b vL vD) else f_W_tried_59 Sx a b vL vD := by
    unfold f_W_tried
    rw [A2, Option.bind_some, L2, Option.bind_some, D2, Option.bind_some, N2, Option.bind_some]
  have eM : f_Mo_tried Sm a b = if vN = 0 then some (-1, Sm) else if vA = 0 then (if vL = 0 then (if vD = 0 then some (-1, Sm) else f_Mo_tried_43 Sm a b) else f_Mo_tried_43 Sm a b) else f_Mo_tried_43 Sm a b := by
    unfold f_Mo_tried
    rw [A3, Option.bind_some, L3, Option.bind_some, D3, Option.bind_some, N3, Option.bind_some]
  by_cases cN : vN = 0
  · exact no (by rw [eX, if_pos cN]) (by rw [eM, if_pos cN])
  rw [if_neg cN] at eX eM
  by_cases cg : vA = 0 ∧ vL = 0 ∧ vD = 0
  · exact no (by rw [eX, if_pos cg.1, if_pos cg.2.1, if_pos cg.2.2]) (by rw [eM, if_pos cg.1, if_pos cg.2.1, if_pos cg.2.2])
  have eX' : f_W_tried Sx a b = f_W_tried_59 Sx a b vL vD := by
    rw [eX]
    by_cases c1 : vA = 0
    · by_cases c2 : vL = 0
      · rw [if_pos c1, if_pos c2, if_neg (fun z => cg ⟨c1, c2, z⟩)]
      · rw [if_pos c1, if_neg c2]
    · rw [if_neg c1]
  have eM' : f_Mo_tried Sm a b = f_Mo_tried_43 Sm a b := by
    rw [eM]
    by_cases c1 : vA = 0
    · by_cases c2 : vL = 0
      · rw [if_pos c1, if_pos c2, if_neg (fun z => cg ⟨c1, c2, z⟩)]
      · rw [if_pos c1, if_neg c2]
    · rw [if_neg c1]
  obtain ⟨n1, n2⟩ := N4 (N1.resolve_left cN)
  obtain ⟨n, q1, q2, rfl⟩ := rngN (a := 1) (b := 100) (by omega) n1 n2
  obtain ⟨X1, a1, a2, a3⟩ := trial_start ⟨hq, hR.2.2.2.2⟩
  obtain ⟨v, X2, M2, b1, b2, b3, b4⟩ := q_pass isP14 q2 a3
  have m22 : M2 2 = cpR Sm 1 2 99 2 := fe (fun j => w_Mo_daysGo b2 (by omega))
  -- what is told
  have key : ∃ w, f_W_tried_59 Sx (nI n) b vL vD = some (w, X2) ∧ f_Mo_tried_43 Sm (nI n) b = some (w, cpR M2 2 1 99) := by
    unfold f_W_tried_59 f_Mo_tried_43 f_Mo_tried_163 f_Mo_tried_164
    rw [a1, Option.bind_some, b1, Option.bind_some, Option.bind_some, a2, Option.bind_some, b2, Option.bind_some]
    simp only [m_copies (show 2 ≠ 1 by omega), m_setOf b4.1.2 (show 24 + 24 ≤ 99 by omega), m_setOf b4.1.2 (show 72 + 24 ≤ 99 by omega), Option.bind_some]
    rw [show f_Mo_setOf M2 24 = some (foldN (gSet (M2 1) 24) t 0 0) from m_setOf b4.1.2 (row := 24) (by omega), show f_Mo_setOf M2 72 = some (foldN (gSet (M2 1) 72) t 0 0) from m_setOf b4.1.2 (row := 72) (by omega), b4.1.1.bits4, b4.1.1.bits5, if_pos g96, e96, b3]
    simp only [Option.bind_some]
    rcases L1 with l | l
    · rcases D1 with d | d
      · -- of all
        have vA1 : vA = 1 := A1.resolve_left (fun z => cg ⟨z, l, d⟩)
        obtain ⟨c1, c2⟩ := A4 vA1
        obtain ⟨i, -, i2, rfl⟩ := rngN (a := 0) (b := 3) (by omega) c1 c2
        have hh : i = 0 ∨ i = 1 ∨ i = 2 ∨ i = 3 := by omega
        rw [if_pos l, if_pos d]
        rcases hh with e | e | e | e <;> subst e
        · exact ⟨v, rfl, rfl⟩
        · refine ⟨X2 14 7, rfl, ?_⟩
          rw [b4.1.pr.2.2.2.1]; rfl
        · exact ⟨X2 14 4, rfl, rfl⟩
        · exact ⟨X2 14 5, rfl, rfl⟩
      · obtain ⟨k, hk, ek⟩ := D4 d
        have eb : b = nI (k + 40) := by
          have := congrArg (fun x => x + 40) ek
          simp only [Int32.sub_add_cancel] at this
          rw [this]; exact nI_add k 40
        have g1 : ig (nI k) 24 = true := gn (by omega) (by omega)
        have c1 : (nI k).toNatClampNeg = k := cl
        have g3 : ig (nI (48 + k)) 99 = true := gn (by omega) (by omega)
        have c3 : (nI (48 + k)).toNatClampNeg = 48 + k := cl
        have ix : (48 : Int32) + b - 40 = nI (48 + k) := by
          rw [eb, show (48 : Int32) + nI (k + 40) = nI (48 + (k + 40)) from nI_add 48 _]
          rw [show nI (48 + (k + 40)) - 40 = nI (48 + (k + 40) - 40) from pk_sub (b := 40) (by omega)]
          congr 1
        have n0 : ∀ c : Nat, c < 4 → ¬ b = nI c := fun c hc z => by
          rw [eb] at z
          have := nI_inj (by omega) (by omega) z
          omega
        have d0 : ¬ vD = 0 := by rw [d]; exact i10
        refine ⟨X2 18 k, ?_, ?_⟩
        · rw [if_pos l, if_neg d0, ek, if_pos g1, c1]
        · rw [if_neg (show ¬ b = 0 from n0 0 (by omega)), if_neg (show ¬ b = 1 from n0 1 (by omega)), if_neg (show ¬ b = 2 from n0 2 (by omega)), if_neg (show ¬ b = 3 from n0 3 (by omega)), if_pos (show (40 : Int32) ≤ b by rw [eb]; exact yle (a := 40) (by omega)), ix, if_pos g3, c3, b4.1.1.off hk]
    · obtain ⟨k, hk, ek⟩ := L4 l
      have eb : b = nI (k + 10) := by
        have := congrArg (fun x => x + 10) ek
        simp only [Int32.sub_add_cancel] at this
        rw [this]; exact nI_add k 10
      have g1 : ig (nI k) 24 = true := gn (by omega) (by omega)
      have c1 : (nI k).toNatClampNeg = k := cl
      have g5 : ig (nI k) 99 = true := gn (by omega) (by omega)
      have ix : (0 : Int32) + b - 10 = nI k := by rw [z0I]; exact ek
      have n0 : ∀ c : Nat, c < 4 → ¬ b = nI c := fun c hc z => by
        rw [eb] at z
        have := nI_inj (by omega) (by omega) z
        omega
      have l0 : ¬ vL = 0 := by rw [l]; exact i10
      refine ⟨X2 17 k, ?_, ?_⟩
      · rw [if_neg l0, ek, if_pos g1, c1]
      · rw [if_neg (show ¬ b = 0 from n0 0 (by omega)), if_neg (show ¬ b = 1 from n0 1 (by omega)), if_neg (show ¬ b = 2 from n0 2 (by omega)), if_neg (show ¬ b = 3 from n0 3 (by omega)), if_neg (show ¬ (40 : Int32) ≤ b by rw [eb]; exact nle (b := 40) (by omega)), ix, if_pos g5, c1, b4.1.1.len hk]
  obtain ⟨w, k1, k2⟩ := key
  rw [k1] at eX'
  rw [k2] at eM'
  exact ⟨w, X2, cpR M2 2 1 99, t_W_tried eX', t_Mo_tried eM', hR.trial (fun kr jr h => w_W_tried eX' h) (fun kr jr h => w_Mo_tried eM' h) (cp_back m22)⟩
end DAYS
