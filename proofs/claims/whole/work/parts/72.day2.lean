section DAY
variable {Sx Sm : St} {P t : Nat}
theorem q_light (h : QR Sx Sm P t) {k : Nat} (hk : k < t) {v : Int32} (hv : v = 0 ∨ v = 1) (A B : St → Option St) : ∃ Sx' Sm', (if v ≤ 0 then A Sx else if ig (nI k) 24 then (if (Sx (P + 3) (nI k).toNatClampNeg) ≤ 0 then A Sx else (f_Parish_putLight Sx P (nI k) (1 : Int32)).bind fun w => A w) else none) = A Sx' ∧ (if v = 0 then B Sm else if ig (0 + nI k) 99 then (if (Sm 1 (0 + nI k).toNatClampNeg) ≤ 0 then B Sm else if ig (24 + nI k) 99 then (some (sF Sm 1 (24 + nI k).toNatClampNeg 1)).bind fun S => B S else none) else none) = B Sm' ∧ QR Sx' Sm' P t ∧ Sm' 0 35 = Sm 0 35 ∧ ∀ i, i < t → Sm' 1 (72 + i) = Sm 1 (72 + i) := by
  have ht := h.1.1
  have g1 : ig (nI k) 24 = true := gn (by omega) (by omega)
  have g2 : ig (nI (24 + k)) 99 = true := gn (by omega) (by omega)
  have g5 : ig (nI k) 99 = true := gn (by omega) (by omega)
  have c1 : (nI k).toNatClampNeg = k := cl
  have c2 : (nI (24 + k)).toNatClampNeg = 24 + k := cl
  rcases hv with e | e
  · exact ⟨Sx, Sm, by rw [e, if_pos (by decide)], by rw [e, if_pos rfl], h, rfl, fun _ _ => rfl⟩
  · rw [e, if_neg (by decide), if_neg i10, if_pos g1, z0I, if_pos g5, c1, h.1.len hk, a24, if_pos g2, c2]
    by_cases c : Sm 1 k ≤ 0
    · exact ⟨Sx, Sm, by rw [if_pos c], by rw [if_pos c], h, rfl, fun _ _ => rfl⟩
    · refine ⟨sF Sx P 4 (Sx P 4 ||| jshl 1 (nI k)), sF Sm 1 (24 + k) 1, by rw [if_neg c, pl1]; rfl, by rw [if_neg c]; rfl, h.put (Or.inl ⟨rfl, by omega⟩) (h.pr.lit ht hk (Or.inr rfl) (fun i hi => bt_on (by omega) hi)) (h.rr.lit ht hk (Or.inr rfl)), sF_ne (by omega), fun i hi => sF_ne (by omega)⟩
theorem jm0 {a b : Nat} (ha : a < 2 ^ 30) (hb : b < 2 ^ 30) : jmax 0 (nI a - nI b) = nI (a - b) := by
  unfold jmax
  have z : (0 : Int32).toInt = 0 := rfl
  have e1 : (nI a - nI b).toInt = (a : Int) - b := by rw [pk_sub_toInt ha hb]
  by_cases c : b < a
  · rw [if_pos (by rw [fa_lt, e1, z]; omega)]
    exact pk_sub (by omega)
  · rw [if_neg (by rw [fa_lt, e1, z]; omega), show a - b = 0 by omega]; rfl
theorem q_burn (h : QR Sx Sm P t) {k b : Nat} (hk : k < t) (hb : b ≤ 99) (A B : St → Option St) : ∃ Sx' Sm', ((f_Parish_isLit Sx P (nI k)).bind fun v => if v = 0 then A Sx else (f_Parish_burn Sx P (nI k) (nI b)).bind fun w => A w) = A Sx' ∧ (if ig (24 + nI k) 99 then (if (Sm 1 (24 + nI k).toNatClampNeg) = 1 then (f_Mo_burns Sm (nI k) (nI b)).bind fun w => B w else B Sm) else none) = B Sm' ∧ QR Sx' Sm' P t ∧ Sm' 0 35 = Sm 0 35 ∧ ∀ i, i < t → Sm' 1 (72 + i) = Sm 1 (72 + i) := by
  have ht := h.1.1
  have g1 : ig (nI k) 24 = true := gn (by omega) (by omega)
  have g2 : ig (nI (24 + k)) 99 = true := gn (by omega) (by omega)
  have g5 : ig (nI k) 99 = true := gn (by omega) (by omega)
  have c1 : (nI k).toNatClampNeg = k := cl
  have c2 : (nI (24 + k)).toNatClampNeg = 24 + k := cl
  rw [h.1.lit hk, Option.bind_some, a24, if_pos g2, c2]
  rcases h.1.lt hk with e | e
  · rw [e, if_pos rfl, if_neg i01]
    exact ⟨Sx, Sm, rfl, rfl, h, rfl, fun _ _ => rfl⟩
  · rw [e, if_neg i10, if_pos rfl]
    obtain ⟨⟨a, ha, ea⟩, -⟩ := h.rr.1 k hk
    have q1 := h.put (r := P + 3) (j := k) (i := k) (v := nI (a - b)) (u := nI (a - b)) (Or.inr (Or.inl rfl)) (h.pr.len ht hk _) (h.rr.len ht hk ⟨a - b, by omega, rfl⟩)
    unfold f_Parish_burn f_Mo_burns
    rw [if_pos g1, if_pos g1, z0I, if_pos g5, c1, h.1.len hk, ea, m_max, jm0 (by omega) (by omega), Option.bind_some, if_pos g1, sF_at, Option.bind_some, if_pos g5, Option.bind_some, if_pos g5, sF_at, a24, c2]
    by_cases z : nI (a - b) = 0
    · rw [if_pos z, if_pos z, pl0, if_pos g2]
      exact ⟨_, _, rfl, rfl, q1.put (Or.inl ⟨rfl, by omega⟩) (q1.pr.lit ht hk (Or.inl rfl) (fun i hi => by rw [bt_off (by omega) hi]; rfl)) (q1.rr.lit ht hk (Or.inl rfl)), by rw [sF_ne (by omega), sF_ne (by omega)], fun i hi => by rw [sF_ne (by omega), sF_ne (by omega)]⟩
    · rw [if_neg z, if_neg z]
      exact ⟨_, _, rfl, rfl, q1, by rw [sF_ne (by omega)], fun i hi => by rw [sF_ne (by omega)]⟩
theorem q_off (h : QR Sx Sm P t) {k : Nat} (hk : k < t) : ∃ Sx' Sm', f_Parish_putItOff Sx P (nI k) = some Sx' ∧ f_Mo_isPutOff Sm (nI k) = some Sm' ∧ QR Sx' Sm' P t ∧ Jn Sm' t = Jn Sm t := by
  have ht := h.1.1
  have g1 : ig (nI k) 24 = true := gn (by omega) (by omega)
  have g2 : ig (nI (24 + k)) 99 = true := gn (by omega) (by omega)
  have g3 : ig (nI (48 + k)) 99 = true := gn (by omega) (by omega)
  have g5 : ig (nI k) 99 = true := gn (by omega) (by omega)
  have c1 : (nI k).toNatClampNeg = k := cl
  have c2 : (nI (24 + k)).toNatClampNeg = 24 + k := cl
  have c3 : (nI (48 + k)).toNatClampNeg = 48 + k := cl
  obtain ⟨⟨a, ha, ea⟩, -, ⟨b, hb, eb⟩, -⟩ := h.rr.1 k hk
  have j1 : jmin 9999 (nI b + 1) = nI (min 9999 (b + 1)) := by rw [nI_1]; exact jmin_n (a := 9999) (by omega) (by omega)
  have j2 : jmin 999 (nI a + 1) = nI (min 999 (a + 1)) := by rw [nI_1]; exact jmin_n (a := 999) (by omega) (by omega)
  have q1 := h.put (r := P + 4) (j := k) (i := 48 + k) (v := nI (min 9999 (b + 1))) (u := nI (min 9999 (b + 1))) (Or.inr (Or.inr rfl)) (h.pr.off ht hk _) (h.rr.off ht hk ⟨_, by omega, rfl⟩)
  unfold f_Parish_putItOff f_Mo_isPutOff
  rw [if_pos g1, if_pos g1, c1, h.1.off hk, eb, j1, a48, if_pos g3, c3, eb, m_min, j1]
  simp only [Option.bind_some, g3, ↓reduceIte]
  rw [q1.1.lit hk]
  simp only [Option.bind_some, a24, g2, c2, ↓reduceIte]
  by_cases z : sF Sm 1 (48 + k) (nI (min 9999 (b + 1))) 1 (24 + k) = 0
  · have l1 : sF Sm 1 (48 + k) (nI (min 9999 (b + 1))) 1 k = nI a := by rw [sF_ne (by omega)]; exact ea
    rw [if_pos z, if_pos z, if_pos g1, if_pos g1, q1.1.len hk, z0I, if_pos g5, c1, l1, m_min, j2, Option.bind_some, if_pos g5]
    refine ⟨_, _, rfl, rfl, q1.put (Or.inr (Or.inl rfl)) (q1.pr.len ht hk _) (q1.rr.len ht hk ⟨_, by omega, rfl⟩), ?_⟩
    exact Jn_same (by rw [sF_ne (by omega), sF_ne (by omega)]) (fun i hi => by rw [sF_ne (by omega), sF_ne (by omega)])
  · rw [if_neg z, if_neg z]
    exact ⟨_, _, rfl, rfl, q1, Jn_same (by rw [sF_ne (by omega)]) (fun i hi => by rw [sF_ne (by omega)])⟩
theorem q_fin (h : QR Sx Sm P t) {k : Nat} (hk : k < t) (hl : Sm 1 (72 + k) = 0) : ∃ Sx' Sm', f_Parish_finish Sx P (nI k) = some Sx' ∧ f_Mo_isDone Sm (nI k) = some Sm' ∧ QR Sx' Sm' P t ∧ Jn Sm' t = Jn Sm t := by
  have ht := h.1.1
  have g1 : ig (nI k) 24 = true := gn (by omega) (by omega)
  have g2 : ig (nI (24 + k)) 99 = true := gn (by omega) (by omega)
  have g4 : ig (nI (72 + k)) 99 = true := gn (by omega) (by omega)
  have c1 : (nI k).toNatClampNeg = k := cl
  have c2 : (nI (24 + k)).toNatClampNeg = 24 + k := cl
  have c4 : (nI (72 + k)).toNatClampNeg = 72 + k := cl
  have q1 := (h.put (r := P) (j := 5) (i := 72 + k) (v := Sx P 5 ||| jshl 1 (nI k)) (u := 1) (Or.inl ⟨rfl, by omega⟩) (h.pr.dne ht hk (fun i hi => bt_on (by omega) hi)) (h.rr.dne ht hk)).m (r := 0) (i := 35) (v := Sm 0 35 + 1) (Or.inl ⟨rfl, by omega⟩)
  obtain ⟨X1, hX1⟩ : ∃ X1, sF Sx P 5 (Sx P 5 ||| jshl 1 (nI k)) = X1 := ⟨_, rfl⟩
  obtain ⟨M1, hM1⟩ : ∃ M1, sF (sF Sm 1 (72 + k) 1) 0 35 (Sm 0 35 + 1) = M1 := ⟨_, rfl⟩
  rw [hX1, hM1] at q1
  have jj : Jn M1 t = Jn Sm t := by
    unfold Jn dnN
    have e35 : M1 0 35 = Sm 0 35 + 1 := by rw [← hM1, sF_at]
    have e1 : M1 1 = upd (Sm 1) (72 + k) 1 := by rw [← hM1, sF_rne (by omega), sF_row]
    have cc := fb_ct_upd (fun k => !(lf (Sm 1) k)) true hk
    have b0 : (!(lf (Sm 1) k)) = false := by unfold lf; rw [decide_eq_true hl]; rfl
    rw [b0] at cc
    simp only [Bool.false_eq_true, ↓reduceIte, Nat.add_zero] at cc
    have cg : fb_ct (fun i => !(lf (upd (Sm 1) (72 + k) 1) i)) t = fb_ct (fun i => if i = k then true else !(lf (Sm 1) i)) t := fb_ct_cong (fun i hi => by
      unfold lf
      by_cases e : i = k
      · subst e; rw [us_, if_pos rfl]; rfl
      · rw [un_ (by omega), if_neg e])
    rw [e35, e1, cg, cc, ← nI_add]
    apply Int32.toBitVec_inj.mp
    simp only [Int32.toBitVec_sub, Int32.toBitVec_add]
    show _ + 1#32 - (_ + 1#32) = _
    bv_omega
  unfold f_Parish_finish f_Mo_isDone f_Mo_isDone_49
  have s35 : sF Sm 1 (72 + k) 1 0 35 = Sm 0 35 := sF_ne (by omega)
  simp only [Option.bind_some, hX1, q1.1.lit hk, a72, g4, c4, ↓reduceIte, s35, hM1, a24, g2, c2, g96, e96]
  rcases q1.1.lt hk with e | e
  · simp only [e, ↓reduceIte, i01]
    refine ⟨X1, _, rfl, rfl, ?_, ?_⟩
    · have : sF M1 1 (24 + k) 0 = M1 := by
        funext r j
        by_cases c : r = 1 ∧ j = 24 + k
        · obtain ⟨rfl, rfl⟩ := c; rw [sF_at, e]
        · rw [sF_ne (by omega)]
      rw [this]; exact q1
    · rw [← jj]
      exact Jn_same (sF_ne (by omega)) (fun i hi => sF_ne (by omega))
  · simp only [e, ↓reduceIte, i10, pl0, Option.bind_some]
    have e7 : X1 P 7 = M1 1 96 := q1.pr.2.2.2.1
    have q2 := q1.put (r := P) (j := 7) (i := 96) (v := X1 P 7 + 1) (u := M1 1 96 + 1) (Or.inl ⟨rfl, by omega⟩) (by rw [e7]; exact q1.pr.gut ht _) (q1.rr.gut ht)
    refine ⟨_, _, rfl, rfl, q2.put (Or.inl ⟨rfl, by omega⟩) (q2.pr.lit ht hk (Or.inl rfl) (fun i hi => by rw [bt_off (by omega) hi]; rfl)) (q2.rr.lit ht hk (Or.inl rfl)), ?_⟩
    rw [← jj]
    exact Jn_same (by rw [sF_ne (by omega), sF_ne (by omega)]) (fun i hi => by rw [sF_ne (by omega), sF_ne (by omega)])
theorem pn_ {x : Int32} {hi : Nat} (hh : hi < 2 ^ 31) (h0 : 0 ≤ x) (h1 : x ≤ nI hi) : ∃ b, b ≤ hi ∧ x = nI b := by
  obtain ⟨n, a, b, c⟩ := rngN (x := x) (a := 0) (b := hi) hh (fun z => (fa_of_lt z).2.1 h0) (fun z => (fa_of_lt z).2.1 h1)
  exact ⟨n, b, c⟩
theorem q_one (hP : isP P) (h : QR Sx Sm P t) (hL : LawR Sx Sm) {k : Nat} (hk : k < t) (hl : Sm 1 (72 + k) = 0) : ∃ Sx' Sm', f_Almanac_passOver Sx P (nI k) = some Sx' ∧ f_Mo_goesOn Sm (nI k) = some Sm' ∧ QR Sx' Sm' P t ∧ Jn Sm' t = Jn Sm t := by
  have ht := h.1.1
  have hP20 : P ≤ 20 := by unfold isP at hP; omega
  have g1 : ig (nI k) 24 = true := gn (by omega) (by omega)
  have c1 : (nI k).toNatClampNeg = k := cl
  obtain ⟨a, M1, ha, d1, d2, d3, d4, d5, d6⟩ := q_feels h hk
  obtain ⟨X1, hX1⟩ : ∃ X1, sF (sF (sF (sF Sx P 9 (nI a)) 40 4 (nI P)) 40 5 (nI k)) 40 6 (nI (a % 10)) = X1 := ⟨_, rfl⟩
  have rX : ∀ j, j ≠ 40 → X1 j = sF Sx P 9 (nI a) j := fun j hj => by rw [← hX1, sF_rne hj, sF_rne hj, sF_rne hj]
  have q1 : QR X1 M1 P t := d3.cong (fun j h1 h2 => rX j (by omega)) (fun _ _ => rfl)
  have L1 : LawR X1 M1 := LawR_c _ _ _ _ (fun i j h1 h2 => by rw [rX i (by omega), sF_rne (by omega)]) (fun i j h1 h2 => by rw [d4 i (by omega) (by omega)]) (by rw [d4 0 (by omega) (by omega)]) hL
  have f4 : X1 40 4 = nI P := by rw [← hX1, sF_ne (by omega), sF_ne (by omega), sF_at]
  have f5 : X1 40 5 = nI k := by rw [← hX1, sF_ne (by omega), sF_at]
  have f6 : X1 40 6 = nI (a % 10) := by rw [← hX1, sF_at]
  have m4 : M1 4 = Sm 4 := d4 4 (by omega) (by omega)
  have m5 : M1 5 = Sm 5 := d4 5 (by omega) (by omega)
  have hx : XF X1 (fvF (M1 1) (Sm 4) (Sm 5) t k (nI (a % 10))) := fun S hS => by
    have np : NP S P t (M1 1) (M1 4) (M1 5) := q1.1.cong (fun j h1 h2 => hS.1 j (by omega) (by omega)) (fun _ _ => rfl)
    rw [m4, m5] at np
    exact x_facts np hP hk (by rw [hS.2.1]; exact f4) (by rw [hS.2.2.1]; exact f5) (by rw [hS.2.2.2]; exact f6)
  obtain ⟨v1, X2, M2, e1, e2, e3, e4, e5⟩ := ask_any hx d6 L1 (agX.refl X1) (agM.refl M1)
  obtain ⟨v2, X3, M3, e6, e7, e8, e9, e10⟩ := ask_law hx d6 L1 e3 e4 (L0 := 98) (Or.inl rfl) 99 1 (by decide)
  obtain ⟨v3, X4, M4, e11, e12, e13, e14, e15⟩ := ask_law hx d6 L1 e8 e9 (L0 := 100) (Or.inr rfl) 10 0 (by decide)
  have q4 : QR X4 M4 P t := q1.cong (fun j h1 h2 => e13.1 j (by omega) (by omega)) (fun j hj => e14 j (by omega))
  have j4 : Jn M4 t = Jn Sm t := Jn_same (by rw [e14 0 (by omega), d4 0 (by omega) (by omega)]) (fun i hi => by rw [e14 1 (by omega), d5, un_ (by omega)])
  have l4 : M4 1 (72 + k) = 0 := by rw [e14 1 (by omega), d5, un_ (by omega)]; exact hl
  obtain ⟨b, hb, eb⟩ : ∃ b, b ≤ 99 ∧ v2 = nI b := by
    rcases e10 with e | ⟨p, q⟩
    · exact ⟨1, by omega, e⟩
    · exact pn_ (hi := 99) (by omega) p q
  obtain ⟨X5, M5, a1, a2, q5, j5⟩ := q_light q4 hk e5 (fun S => f_Almanac_passOver_72 P S (nI k) v2 v3) (fun S => f_Mo_goesOn_58 S (nI k) v2 v3)
  obtain ⟨X6, M6, b1, b2, q6, j6⟩ := q_burn q5 hk hb (fun S => f_Almanac_passOver_87 P S (nI k) v3) (fun S => f_Mo_goesOn_77 S (nI k) v3)
  obtain ⟨c, hc, h1, h2, q7⟩ := q_draw q6
  obtain ⟨X7, hX7⟩ : ∃ X7, sF X6 P 9 (nI c) = X7 := ⟨_, rfl⟩
  obtain ⟨M7, hM7⟩ : ∃ M7, sF M6 1 98 (nI c) = M7 := ⟨_, rfl⟩
  rw [hX7] at h1 q7
  rw [hM7] at h2 q7
  have s7 : ∀ i, i < t → M7 1 (72 + i) = M4 1 (72 + i) := fun i hi => by rw [← hM7, sF_ne (by omega), j6.2 i hi, j5.2 i hi]
  have jj : Jn M7 t = Jn Sm t := by
    rw [← j4]
    exact Jn_same (by rw [← hM7, sF_ne (by omega), j6.1, j5.1]) s7
  have l7 : M7 1 (72 + k) = 0 := by rw [s7 k hk]; exact l4
  obtain ⟨dr, hdr⟩ : ∃ dr, nI (c % 10) = dr := ⟨_, rfl⟩
  rw [hdr] at h1 h2
  obtain ⟨fr, hfr, f1, f2⟩ : ∃ fr : Int32, (fr = 0 ∨ fr = 1) ∧ f_Parish_isFree X7 P (nI k) = some fr ∧ f_Mo_goesOn_77 M6 (nI k) v3 = f_Mo_goesOn_116 M7 (nI k) v3 dr fr := by
    unfold f_Parish_isFree f_Mo_goesOn_77 f_Mo_goesOn_111
    rw [h2]
    simp only [Option.bind_some, g1, c1, ↓reduceIte]
    rw [q7.1.wait hk]
    rcases q7.1.wal k hk with e | ⟨w, w1, w2⟩
    · have hn : f_Parish_has X7 P (pw (M7 5 k)) = some 0 := has_n q7.1.things (Or.inl (by rw [e]; decide))
      rw [hn, if_pos e, Option.bind_some, if_pos rfl]
      exact ⟨1, Or.inr rfl, rfl, rfl⟩
    · have pwa : pw (M7 5 k) = nI w := by unfold pw; rw [w2, if_neg (nI_m1 (by omega))]
      have gw : ig (nI (72 + w)) 99 = true := gn (by omega) (by omega)
      have cw : (nI (72 + w)).toNatClampNeg = 72 + w := cl
      rw [pwa, has_y q7.1.things ht (by omega), w2, if_neg (nI_m1 (by omega)), a72, if_pos gw, cw, q7.1.done (by omega)]
      simp only [Option.bind_some, i10, ↓reduceIte]
      rcases q7.1.dn (show w < t by omega) with e | e
      · rw [e, if_pos rfl, if_neg i01]; exact ⟨0, Or.inl rfl, rfl, rfl⟩
      · rw [e, if_neg i10, if_pos rfl]; exact ⟨1, Or.inr rfl, rfl, rfl⟩
  have endX : f_Almanac_passOver Sx P (nI k) = (if v3 ≤ dr then f_Almanac_passOver_101 P X7 (nI k) 0 else f_Almanac_passOver_101 P X7 (nI k) 1) := by
    unfold f_Almanac_passOver f_Reckoner_face
    rw [d1, Option.bind_some, Option.bind_some, Option.bind_some, Option.bind_some, Option.bind_some, hX1, e1, Option.bind_some, Option.bind_some]
    rw [show f_Reckoner_ask X2 98 1 99 = some (v2, X3) from e6, Option.bind_some, Option.bind_some]
    rw [show f_Reckoner_ask X3 100 0 10 = some (v3, X4) from e11, Option.bind_some, Option.bind_some]
    refine a1.trans ?_
    show f_Almanac_passOver_72 P X5 (nI k) v2 v3 = _
    unfold f_Almanac_passOver_72
    rw [eb]
    refine b1.trans ?_
    show f_Almanac_passOver_87 P X6 (nI k) v3 = _
    unfold f_Almanac_passOver_87
    rw [h1, Option.bind_some]
  have endM : f_Mo_goesOn Sm (nI k) = f_Mo_goesOn_116 M7 (nI k) v3 dr fr := by
    unfold f_Mo_goesOn
    rw [d2, Option.bind_some, e2, Option.bind_some, Option.bind_some]
    rw [show f_Mo_byLaw M2 98 99 1 = some (v2, M3) from e7, Option.bind_some, Option.bind_some]
    rw [show f_Mo_byLaw M3 100 10 0 = some (v3, M4) from e12, Option.bind_some, Option.bind_some]
    refine a2.trans ?_
    show f_Mo_goesOn_58 M5 (nI k) v2 v3 = _
    unfold f_Mo_goesOn_58
    rw [eb]
    refine b2.trans ?_
    exact f2
  rw [endX, endM]
  unfold f_Mo_goesOn_116 f_Almanac_passOver_101 f_Almanac_passOver_124 f_Mo_goesOn_138
  obtain ⟨X8, M8, o1, o2, o3, o4⟩ := q_off q7 hk
  obtain ⟨X9, M9, p1, p2, p3, p4⟩ := q_fin q7 hk l7
  rw [f1, o1, o2, p1, p2]
  simp only [Option.bind_some, i10, ↓reduceIte]
  by_cases cc : v3 ≤ dr
  · simp only [cc, ↓reduceIte]
    exact ⟨X8, M8, rfl, rfl, o3, o4.trans jj⟩
  · simp only [cc, ↓reduceIte]
    rcases hfr with e | e
    · simp only [e, ↓reduceIte]
      exact ⟨X8, M8, rfl, rfl, o3, o4.trans jj⟩
    · simp only [e, i10, ↓reduceIte]
      exact ⟨X9, M9, rfl, rfl, p3, p4.trans jj⟩
end DAY
