theorem GL_sub {L : Nat} {xs : Nat → Int32} {pc : Nat} {ls : List (Nat × Value)} {stk : List Value} {Sx Sm : St} (ls' : List (Nat × Value)) (js : List Nat) (hj : lv_pick ls js = ls') (kk : GL L xs pc ls' stk Sx Sm) : GL L xs pc ls stk Sx Sm := fun p l e s m below meth c b H locs D ρx ρm τ lr hc hw hl => kk p l e s m below meth c b H locs D ρx ρm τ lr hc hw (lv_sub hl js (lc_pick hj))
theorem lw_gt {j L : Nat} (hL : L ≤ 3072) (h : L < j + 6) (hj : j < 2 ^ 31 := by omega) : Int32.ofNat L - 6 < nI j := by
  apply Int32.lt_iff_toInt_lt.mpr
  rw [show Int32.ofNat L - 6 = nI L - nI 6 from rfl, pk_sub_toInt (by omega) (by omega), nI_toInt hj]
  omega
def STEP (Rel : St → St → Prop) (mx mm : MI) (hx hm : Nat) (av : List Int32) : Prop := ∀ Sx Sm, Rel Sx Sm → ∃ r Sx' Sm', Ct SX mx hx (.ref 0 :: av.map Value.int) Sx (some r) Sx' ∧ Ct SM mm hm (.ref 0 :: av.map Value.int) Sm (some r) Sm' ∧ Rel Sx' Sm'
def STEPS (Rel : St → St → Prop) : Prop := (∀ a0 a1 : Int32, (a1 = 0 ∨ a1 = 1) → STEP Rel m_W_lit m_Mo_lit 2 4 [a0, a1]) ∧ (∀ a0 a1 a2 a3 a4 : Int32, STEP Rel m_W_feed m_Mo_feed 2 2 [a0, a1, a2, a3, a4]) ∧ (∀ a0 : Int32, STEP Rel m_W_law m_Mo_law 142 9 [a0]) ∧ (∀ a0 : Int32, STEP Rel m_W_parish m_Mo_parish 6 5 [a0]) ∧ (∀ a0 : Int32, STEP Rel m_W_days m_Mo_days 8 9 [a0]) ∧ (∀ a0 a1 : Int32, STEP Rel m_W_tried m_Mo_tried 8 9 [a0, a1]) ∧ (∀ a0 a1 : Int32, STEP Rel m_W_thingIs m_Mo_thingIs 2 3 [a0, a1]) ∧ (∀ a0 a1 : Int32, STEP Rel m_W_byWhen m_Mo_byWhen 8 8 [a0, a1]) ∧ (∀ a0 : Int32, STEP Rel m_W_dark m_Mo_dark 8 8 [a0]) ∧ (∀ a0 : Int32, STEP Rel m_W_pride m_Mo_pride 4 5 [a0]) ∧ (STEP Rel m_W_oldest m_Mo_oldest 2 4 []) ∧ (∀ a0 : Int32, STEP Rel m_W_chain m_Mo_chain 2 3 [a0]) ∧ (STEP Rel m_W_orders m_Mo_orders 4 4 []) ∧ (∀ a0 : Int32, STEP Rel m_W_light m_Mo_light 3 2 [a0]) ∧ (∀ a0 : Int32, STEP Rel m_W_worstNews m_Mo_worstNews 4 2 [a0]) ∧ (STEP Rel m_W_median m_Mo_median 4 4 []) ∧ (∀ a0 a1 a2 : Int32, STEP Rel m_W_twist m_Mo_twist 5 4 [a0, a1, a2]) ∧ (∀ a0 a1 : Int32, STEP Rel m_W_waiting m_Mo_waiting 62 3 [a0, a1]) ∧ (∀ a0 a1 : Int32, STEP Rel m_W_spun m_Mo_spun 6 3 [a0, a1]) ∧ (∀ a0 a1 : Int32, STEP Rel m_W_night m_Mo_night 4 2 [a0, a1]) ∧ (∀ a0 a1 a2 a3 : Int32, (a2 = 0 ∨ a2 = 1) → STEP Rel m_W_putsOff m_Mo_putsOff 3 4 [a0, a1, a2, a3]) ∧ (∀ a0 a1 : Int32, STEP Rel m_W_cord m_Mo_cord 4 2 [a0, a1]) ∧ (∀ a0 a1 a2 : Int32, STEP Rel m_W_seen m_Mo_seen 5 4 [a0, a1, a2]) ∧ (∀ a0 a1 a2 : Int32, STEP Rel m_W_brightest m_Mo_brightest 5 3 [a0, a1, a2]) ∧ (∀ a0 a1 : Int32, STEP Rel m_W_halves m_Mo_halves 4 2 [a0, a1]) ∧ (∀ a0 : Int32, STEP Rel m_W_forgiven m_Mo_forgiven 4 3 [a0]) ∧ (∀ a0 : Int32, STEP Rel m_W_seed m_Mo_seed 2 2 [a0]) ∧ (STEP Rel m_W_keep m_Mo_keep 2 2 []) ∧ (STEP Rel m_W_undo m_Mo_undo 3 2 []) ∧ (∀ a0 : Int32, STEP Rel m_W_check m_Mo_check 2 3 [a0]) ∧ (∀ a0 : Int32, STEP Rel m_W_count m_Mo_count 3 6 [a0])
theorem ig_n {j L : Nat} (h : j < L) (hL : L ≤ 3072) : ig (nI j) L = true := by
  have := vp_in_nI h (by omega : L < 2 ^ 31)
  exact decide_eq_true this
set_option maxHeartbeats 4000000 in
set_option maxRecDepth 20000 in
theorem law_loop {L : Nat} {xs : Nat → Int32} {Rel : St → St → Prop} (hL : L ≤ 3072) (hst : STEPS Rel) : ∀ (n j : Nat), L < j + 6 * n → j ≤ L + 6 → ∀ (Sx Sm : St), Rel Sx Sm → GL L xs 18 [(0, .ref 0), (1, .ref 1), (2, .ref 2), (3, .int (nI j))] [] Sx Sm := by
  intro n
  induction n with
  | zero =>
    intro j hj hjb Sx Sm hR
    refine GL_iload_n 3 rfl dl_18 ?_
    refine GL_aload_n 0 rfl dl_19 ?_
    refine GL_alen dl_20 ?_
    refine GL_bipush 6 (by decide) dl_21 ?_
    refine GL_isub dl_23 ?_
    refine GL_icmp_gt 1093 (by decide) dl_24 (fun c1 => ?_) (fun c1 => ?_)
    · refine GL_iconst 1 (by decide) dl_1093 ?_
      exact GL_ret1 dl_1094
    · exact absurd (lw_gt (j := j) hL (by omega)) c1
  | succ n ih =>
    intro j hj hjb Sx Sm hR
    refine GL_iload_n 3 rfl dl_18 ?_
    refine GL_aload_n 0 rfl dl_19 ?_
    refine GL_alen dl_20 ?_
    refine GL_bipush 6 (by decide) dl_21 ?_
    refine GL_isub dl_23 ?_
    refine GL_icmp_gt 1093 (by decide) dl_24 (fun c1 => ?_) (fun c1 => ?_)
    · refine GL_iconst 1 (by decide) dl_1093 ?_
      exact GL_ret1 dl_1094
    have hj6 : j + 6 ≤ L := Nat.le_of_not_lt (fun q => c1 (lw_gt hL (by omega)))
    have hg0 : ig (nI j) L = true := ig_n (by omega) hL
    have hg1 : ig (nI j + 1) L = true := by rw [nI_1]; exact ig_n (by omega) hL
    have hg2 : ig (nI j + 2) L = true := by rw [show nI j + 2 = nI (j + 2) from nI_add j 2]; exact ig_n (by omega) hL
    have hg3 : ig (nI j + 3) L = true := by rw [show nI j + 3 = nI (j + 3) from nI_add j 3]; exact ig_n (by omega) hL
    have hg4 : ig (nI j + 4) L = true := by rw [show nI j + 4 = nI (j + 4) from nI_add j 4]; exact ig_n (by omega) hL
    have hg5 : ig (nI j + 5) L = true := by rw [show nI j + 5 = nI (j + 5) from nI_add j 5]; exact ig_n (by omega) hL
    have go : ∀ (Sx Sm : St), Rel Sx Sm → GL L xs 1087 [(0, .ref 0), (1, .ref 1), (2, .ref 2), (3, .int (nI j))] [] Sx Sm := by
      intro Sx Sm hR
      refine GL_iinc (v := nI (j + 6)) 6 3 [(3, .int (nI (j + 6))), (0, .ref 0), (1, .ref 1), (2, .ref 2)] (by decide) rfl (nI_add j 6) rfl (by decide) dl_1087 ?_
      refine GL_goto 18 (by decide) dl_1090 ?_
      exact GL_sub _ [1, 2, 3, 0] rfl (ih (j + 6) (by omega) (by omega) Sx Sm hR)
    refine GL_aload_n 0 rfl dl_27 ?_
    refine GL_iload_n 3 rfl dl_28 ?_
    refine GL_iald hg0 dl_29 ?_
    refine GL_bipush 31 (by decide) dl_30 ?_
    refine GL_iand dl_32 ?_
    obtain ⟨z, hz⟩ : ∃ z, xs (nI j).toNatClampNeg &&& 31 = z := ⟨_, rfl⟩
    rw [hz]
    obtain ⟨h0, h1, h2, h3, h4, h5, h6, h7, h8, h9, h10, h11, h12, h13, h14, h15, h16, h17, h18, h19, h20, h21, h22, h23, h24, h25, h26, h27, h28, h29, h30⟩ := hst
    by_cases cz0 : z = 0
    · refine GL_tin (0) (by rw [cz0]; decide) 172 (by decide) (by decide) rfl (by decide) dl_33 ?_
      by_cases hb : (xs (nI j + 2).toNatClampNeg) = 0
      · obtain ⟨r, Sx1, Sm1, hX, hM, hR1⟩ := h0 (xs (nI j + 1).toNatClampNeg) 0 (Or.inl rfl) Sx Sm hR
        exact law_0_0 hg1 hg2 hg3 hg4 hg5 hb hX hM (go _ _ hR1)
      · obtain ⟨r, Sx1, Sm1, hX, hM, hR1⟩ := h0 (xs (nI j + 1).toNatClampNeg) 1 (Or.inr rfl) Sx Sm hR
        exact law_0_1 hg1 hg2 hg3 hg4 hg5 hb hX hM (go _ _ hR1)
    have nz0 := lv_neT cz0 (a := 0) (by decide)
    by_cases cz1 : z = 1
    · obtain ⟨r, Sx1, Sm1, hX, hM, hR1⟩ := (h1 (xs (nI j + 1).toNatClampNeg) (xs (nI j + 2).toNatClampNeg) (xs (nI j + 3).toNatClampNeg) (xs (nI j + 4).toNatClampNeg) (xs (nI j + 5).toNatClampNeg)) Sx Sm hR
      refine GL_tin (1) (by rw [cz1]; decide) 221 (by decide) (by decide) rfl (by decide) dl_33 ?_
      exact law_1 hg1 hg2 hg3 hg4 hg5 hX hM (go _ _ hR1)
    have nz1 := lv_neT cz1 (a := 1) (by decide)
    by_cases cz2 : z = 2
    · obtain ⟨r, Sx1, Sm1, hX, hM, hR1⟩ := (h2 (xs (nI j + 1).toNatClampNeg)) Sx Sm hR
      refine GL_tin (2) (by rw [cz2]; decide) 284 (by decide) (by decide) rfl (by decide) dl_33 ?_
      exact law_2 hg1 hg2 hg3 hg4 hg5 hX hM (go _ _ hR1)
    have nz2 := lv_neT cz2 (a := 2) (by decide)
    by_cases cz3 : z = 3
    · obtain ⟨r, Sx1, Sm1, hX, hM, hR1⟩ := (h3 (xs (nI j + 1).toNatClampNeg)) Sx Sm hR
      refine GL_tin (3) (by rw [cz3]; decide) 307 (by decide) (by decide) rfl (by decide) dl_33 ?_
      exact law_3 hg1 hg2 hg3 hg4 hg5 hX hM (go _ _ hR1)
    have nz3 := lv_neT cz3 (a := 3) (by decide)
    by_cases cz4 : z = 4
    · obtain ⟨r, Sx1, Sm1, hX, hM, hR1⟩ := (h4 (xs (nI j + 1).toNatClampNeg)) Sx Sm hR
      refine GL_tin (4) (by rw [cz4]; decide) 330 (by decide) (by decide) rfl (by decide) dl_33 ?_
      exact law_4 hg1 hg2 hg3 hg4 hg5 hX hM (go _ _ hR1)
    have nz4 := lv_neT cz4 (a := 4) (by decide)
    by_cases cz5 : z = 5
    · obtain ⟨r, Sx1, Sm1, hX, hM, hR1⟩ := (h5 (xs (nI j + 1).toNatClampNeg) (xs (nI j + 2).toNatClampNeg)) Sx Sm hR
      refine GL_tin (5) (by rw [cz5]; decide) 353 (by decide) (by decide) rfl (by decide) dl_33 ?_
      exact law_5 hg1 hg2 hg3 hg4 hg5 hX hM (go _ _ hR1)
    have nz5 := lv_neT cz5 (a := 5) (by decide)
    by_cases cz6 : z = 6
    · obtain ⟨r, Sx1, Sm1, hX, hM, hR1⟩ := (h6 (xs (nI j + 1).toNatClampNeg) (xs (nI j + 2).toNatClampNeg)) Sx Sm hR
      refine GL_tin (6) (by rw [cz6]; decide) 386 (by decide) (by decide) rfl (by decide) dl_33 ?_
      exact law_6 hg1 hg2 hg3 hg4 hg5 hX hM (go _ _ hR1)
    have nz6 := lv_neT cz6 (a := 6) (by decide)
    by_cases cz7 : z = 7
    · obtain ⟨r, Sx1, Sm1, hX, hM, hR1⟩ := (h7 (xs (nI j + 1).toNatClampNeg) (xs (nI j + 2).toNatClampNeg)) Sx Sm hR
      refine GL_tin (7) (by rw [cz7]; decide) 419 (by decide) (by decide) rfl (by decide) dl_33 ?_
      exact law_7 hg1 hg2 hg3 hg4 hg5 hX hM (go _ _ hR1)
    have nz7 := lv_neT cz7 (a := 7) (by decide)
    by_cases cz8 : z = 8
    · obtain ⟨r, Sx1, Sm1, hX, hM, hR1⟩ := (h8 (xs (nI j + 1).toNatClampNeg)) Sx Sm hR
      refine GL_tin (8) (by rw [cz8]; decide) 452 (by decide) (by decide) rfl (by decide) dl_33 ?_
      exact law_8 hg1 hg2 hg3 hg4 hg5 hX hM (go _ _ hR1)
    have nz8 := lv_neT cz8 (a := 8) (by decide)
    by_cases cz9 : z = 9
    · obtain ⟨r, Sx1, Sm1, hX, hM, hR1⟩ := (h9 (xs (nI j + 1).toNatClampNeg)) Sx Sm hR
      refine GL_tin (9) (by rw [cz9]; decide) 475 (by decide) (by decide) rfl (by decide) dl_33 ?_
      exact law_9 hg1 hg2 hg3 hg4 hg5 hX hM (go _ _ hR1)
    have nz9 := lv_neT cz9 (a := 9) (by decide)
    by_cases cz10 : z = 10
    · obtain ⟨r, Sx1, Sm1, hX, hM, hR1⟩ := h10 Sx Sm hR
      refine GL_tin (10) (by rw [cz10]; decide) 498 (by decide) (by decide) rfl (by decide) dl_33 ?_
      exact law_10 hg1 hg2 hg3 hg4 hg5 hX hM (go _ _ hR1)
    have nz10 := lv_neT cz10 (a := 10) (by decide)
    by_cases cz11 : z = 11
    · obtain ⟨r, Sx1, Sm1, hX, hM, hR1⟩ := (h11 (xs (nI j + 1).toNatClampNeg)) Sx Sm hR
      refine GL_tin (11) (by rw [cz11]; decide) 511 (by decide) (by decide) rfl (by decide) dl_33 ?_
      exact law_11 hg1 hg2 hg3 hg4 hg5 hX hM (go _ _ hR1)
    have nz11 := lv_neT cz11 (a := 11) (by decide)
    by_cases cz12 : z = 12
    · obtain ⟨r, Sx1, Sm1, hX, hM, hR1⟩ := h12 Sx Sm hR
      refine GL_tin (12) (by rw [cz12]; decide) 534 (by decide) (by decide) rfl (by decide) dl_33 ?_
      exact law_12 hg1 hg2 hg3 hg4 hg5 hX hM (go _ _ hR1)
    have nz12 := lv_neT cz12 (a := 12) (by decide)
    by_cases cz13 : z = 13
    · obtain ⟨r, Sx1, Sm1, hX, hM, hR1⟩ := (h13 (xs (nI j + 1).toNatClampNeg)) Sx Sm hR
      refine GL_tin (13) (by rw [cz13]; decide) 547 (by decide) (by decide) rfl (by decide) dl_33 ?_
      exact law_13 hg1 hg2 hg3 hg4 hg5 hX hM (go _ _ hR1)
    have nz13 := lv_neT cz13 (a := 13) (by decide)
    by_cases cz14 : z = 14
    · obtain ⟨r, Sx1, Sm1, hX, hM, hR1⟩ := (h14 (xs (nI j + 1).toNatClampNeg)) Sx Sm hR
      refine GL_tin (14) (by rw [cz14]; decide) 570 (by decide) (by decide) rfl (by decide) dl_33 ?_
      exact law_14 hg1 hg2 hg3 hg4 hg5 hX hM (go _ _ hR1)
    have nz14 := lv_neT cz14 (a := 14) (by decide)
    by_cases cz15 : z = 15
    · obtain ⟨r, Sx1, Sm1, hX, hM, hR1⟩ := h15 Sx Sm hR
      refine GL_tin (15) (by rw [cz15]; decide) 593 (by decide) (by decide) rfl (by decide) dl_33 ?_
      exact law_15 hg1 hg2 hg3 hg4 hg5 hX hM (go _ _ hR1)
    have nz15 := lv_neT cz15 (a := 15) (by decide)
    by_cases cz16 : z = 16
    · obtain ⟨r, Sx1, Sm1, hX, hM, hR1⟩ := (h16 (xs (nI j + 1).toNatClampNeg) (xs (nI j + 2).toNatClampNeg) (xs (nI j + 3).toNatClampNeg)) Sx Sm hR
      refine GL_tin (16) (by rw [cz16]; decide) 606 (by decide) (by decide) rfl (by decide) dl_33 ?_
      exact law_16 hg1 hg2 hg3 hg4 hg5 hX hM (go _ _ hR1)
    have nz16 := lv_neT cz16 (a := 16) (by decide)
    by_cases cz17 : z = 17
    · obtain ⟨r, Sx1, Sm1, hX, hM, hR1⟩ := (h17 (xs (nI j + 1).toNatClampNeg) (xs (nI j + 2).toNatClampNeg)) Sx Sm hR
      refine GL_tin (17) (by rw [cz17]; decide) 649 (by decide) (by decide) rfl (by decide) dl_33 ?_
      exact law_17 hg1 hg2 hg3 hg4 hg5 hX hM (go _ _ hR1)
    have nz17 := lv_neT cz17 (a := 17) (by decide)
    by_cases cz18 : z = 18
    · obtain ⟨r, Sx1, Sm1, hX, hM, hR1⟩ := (h18 (xs (nI j + 1).toNatClampNeg) (xs (nI j + 2).toNatClampNeg)) Sx Sm hR
      refine GL_tin (18) (by rw [cz18]; decide) 682 (by decide) (by decide) rfl (by decide) dl_33 ?_
      exact law_18 hg1 hg2 hg3 hg4 hg5 hX hM (go _ _ hR1)
    have nz18 := lv_neT cz18 (a := 18) (by decide)
    by_cases cz19 : z = 19
    · obtain ⟨r, Sx1, Sm1, hX, hM, hR1⟩ := (h19 (xs (nI j + 1).toNatClampNeg) (xs (nI j + 2).toNatClampNeg)) Sx Sm hR
      refine GL_tin (19) (by rw [cz19]; decide) 715 (by decide) (by decide) rfl (by decide) dl_33 ?_
      exact law_19 hg1 hg2 hg3 hg4 hg5 hX hM (go _ _ hR1)
    have nz19 := lv_neT cz19 (a := 19) (by decide)
    by_cases cz20 : z = 20
    · refine GL_tin (20) (by rw [cz20]; decide) 748 (by decide) (by decide) rfl (by decide) dl_33 ?_
      by_cases hb : (xs (nI j + 3).toNatClampNeg) = 0
      · obtain ⟨r, Sx1, Sm1, hX, hM, hR1⟩ := h20 (xs (nI j + 1).toNatClampNeg) (xs (nI j + 2).toNatClampNeg) 0 (xs (nI j + 4).toNatClampNeg) (Or.inl rfl) Sx Sm hR
        exact law_20_0 hg1 hg2 hg3 hg4 hg5 hb hX hM (go _ _ hR1)
      · obtain ⟨r, Sx1, Sm1, hX, hM, hR1⟩ := h20 (xs (nI j + 1).toNatClampNeg) (xs (nI j + 2).toNatClampNeg) 1 (xs (nI j + 4).toNatClampNeg) (Or.inr rfl) Sx Sm hR
        exact law_20_1 hg1 hg2 hg3 hg4 hg5 hb hX hM (go _ _ hR1)
    have nz20 := lv_neT cz20 (a := 20) (by decide)
    by_cases cz21 : z = 21
    · obtain ⟨r, Sx1, Sm1, hX, hM, hR1⟩ := (h21 (xs (nI j + 1).toNatClampNeg) (xs (nI j + 2).toNatClampNeg)) Sx Sm hR
      refine GL_tin (21) (by rw [cz21]; decide) 817 (by decide) (by decide) rfl (by decide) dl_33 ?_
      exact law_21 hg1 hg2 hg3 hg4 hg5 hX hM (go _ _ hR1)
    have nz21 := lv_neT cz21 (a := 21) (by decide)
    by_cases cz22 : z = 22
    · obtain ⟨r, Sx1, Sm1, hX, hM, hR1⟩ := (h22 (xs (nI j + 1).toNatClampNeg) (xs (nI j + 2).toNatClampNeg) (xs (nI j + 3).toNatClampNeg)) Sx Sm hR
      refine GL_tin (22) (by rw [cz22]; decide) 850 (by decide) (by decide) rfl (by decide) dl_33 ?_
      exact law_22 hg1 hg2 hg3 hg4 hg5 hX hM (go _ _ hR1)
    have nz22 := lv_neT cz22 (a := 22) (by decide)
    by_cases cz23 : z = 23
    · obtain ⟨r, Sx1, Sm1, hX, hM, hR1⟩ := (h23 (xs (nI j + 1).toNatClampNeg) (xs (nI j + 2).toNatClampNeg) (xs (nI j + 3).toNatClampNeg)) Sx Sm hR
      refine GL_tin (23) (by rw [cz23]; decide) 893 (by decide) (by decide) rfl (by decide) dl_33 ?_
      exact law_23 hg1 hg2 hg3 hg4 hg5 hX hM (go _ _ hR1)
    have nz23 := lv_neT cz23 (a := 23) (by decide)
    by_cases cz24 : z = 24
    · obtain ⟨r, Sx1, Sm1, hX, hM, hR1⟩ := (h24 (xs (nI j + 1).toNatClampNeg) (xs (nI j + 2).toNatClampNeg)) Sx Sm hR
      refine GL_tin (24) (by rw [cz24]; decide) 936 (by decide) (by decide) rfl (by decide) dl_33 ?_
      exact law_24 hg1 hg2 hg3 hg4 hg5 hX hM (go _ _ hR1)
    have nz24 := lv_neT cz24 (a := 24) (by decide)
    by_cases cz25 : z = 25
    · obtain ⟨r, Sx1, Sm1, hX, hM, hR1⟩ := (h25 (xs (nI j + 1).toNatClampNeg)) Sx Sm hR
      refine GL_tin (25) (by rw [cz25]; decide) 969 (by decide) (by decide) rfl (by decide) dl_33 ?_
      exact law_25 hg1 hg2 hg3 hg4 hg5 hX hM (go _ _ hR1)
    have nz25 := lv_neT cz25 (a := 25) (by decide)
    by_cases cz26 : z = 26
    · obtain ⟨r, Sx1, Sm1, hX, hM, hR1⟩ := (h26 (xs (nI j + 1).toNatClampNeg)) Sx Sm hR
      refine GL_tin (26) (by rw [cz26]; decide) 992 (by decide) (by decide) rfl (by decide) dl_33 ?_
      exact law_26 hg1 hg2 hg3 hg4 hg5 hX hM (go _ _ hR1)
    have nz26 := lv_neT cz26 (a := 26) (by decide)
    by_cases cz27 : z = 27
    · obtain ⟨r, Sx1, Sm1, hX, hM, hR1⟩ := h27 Sx Sm hR
      refine GL_tin (27) (by rw [cz27]; decide) 1015 (by decide) (by decide) rfl (by decide) dl_33 ?_
      exact law_27 hg1 hg2 hg3 hg4 hg5 hX hM (go _ _ hR1)
    have nz27 := lv_neT cz27 (a := 27) (by decide)
    by_cases cz28 : z = 28
    · obtain ⟨r, Sx1, Sm1, hX, hM, hR1⟩ := h28 Sx Sm hR
      refine GL_tin (28) (by rw [cz28]; decide) 1028 (by decide) (by decide) rfl (by decide) dl_33 ?_
      exact law_28 hg1 hg2 hg3 hg4 hg5 hX hM (go _ _ hR1)
    have nz28 := lv_neT cz28 (a := 28) (by decide)
    by_cases cz29 : z = 29
    · obtain ⟨r, Sx1, Sm1, hX, hM, hR1⟩ := (h29 (xs (nI j + 1).toNatClampNeg)) Sx Sm hR
      refine GL_tin (29) (by rw [cz29]; decide) 1041 (by decide) (by decide) rfl (by decide) dl_33 ?_
      exact law_29 hg1 hg2 hg3 hg4 hg5 hX hM (go _ _ hR1)
    have nz29 := lv_neT cz29 (a := 29) (by decide)
    by_cases cz30 : z = 30
    · obtain ⟨r, Sx1, Sm1, hX, hM, hR1⟩ := (h30 (xs (nI j + 1).toNatClampNeg)) Sx Sm hR
      refine GL_tin (30) (by rw [cz30]; decide) 1064 (by decide) (by decide) rfl (by decide) dl_33 ?_
      exact law_30 hg1 hg2 hg3 hg4 hg5 hX hM (go _ _ hR1)
    have nz30 := lv_neT cz30 (a := 30) (by decide)
    refine GL_tout (by omega) 1087 (by decide) dl_33 ?_
    exact go Sx Sm hR
