section LSS
variable {n : Nat} {b : Nat → Nat} {S T : St} {p s z w o : Nat}
theorem LST.pop (h : LST n b S T p s z w o) {w' : Nat} (hw : w' ≤ w) : LST n b S (sF T 0 14 (nI w')) p s z w' o ∧ belo S T S (sF T 0 14 (nI w')) s z w := by
  obtain ⟨h1, h2, h3, h4, h5, h6, h7, h8⟩ := h
  exact ⟨⟨h1, h2.set (by omega), h3, by rw [sF_ne (by omega)]; exact h4, sF_at, by rw [sF_ne (by omega)]; exact h6, by omega, h8⟩, ⟨fun _ _ => ⟨rfl, rfl⟩, fun i _ => sF_ne (by omega), fun i _ => sF_ne (by omega), frX.refl S, (frM.refl T).set (by omega)⟩⟩
def psM (T : St) (p w k : Nat) : St := sF (sF (sF T 8 w (nI (1048576 * k))) 0 14 (nI (w + 1))) 0 8 (nI (p + 1))
theorem LST.push (h : LST n b S T p s z w o) (hp : p < n) (k : Nat) : LST n b (sF S 3 1 (nI (p + 1))) (psM T p w k) (p + 1) s z (w + 1) o ∧ belo S T (sF S 3 1 (nI (p + 1))) (psM T p w k) s z w ∧ psM T p w k 8 w = nI (1048576 * k) := by
  obtain ⟨h1, h2, h3, h4, h5, h6, h7, h8⟩ := h
  unfold psM
  refine ⟨⟨h1.on hp, ((h2.set (by omega)).set (by omega)).on, by rw [sF_ne (by omega)]; exact h3, by rw [sF_ne (by omega), sF_ne (by omega), sF_ne (by omega)]; exact h4, by rw [sF_ne (by omega), sF_at], by rw [sF_ne (by omega), sF_ne (by omega), sF_ne (by omega)]; exact h6, by omega, by omega⟩, ⟨fun i _ => ⟨sF_ne (by omega), sF_ne (by omega)⟩, fun i _ => by rw [sF_ne (by omega), sF_ne (by omega), sF_ne (by omega)], fun i _ => by rw [sF_ne (by omega), sF_ne (by omega), sF_ne (by omega)], (frX.refl S).set (by omega), (((frM.refl T).set (by omega)).set (by omega)).set (by omega)⟩, by rw [sF_ne (by omega), sF_ne (by omega), sF_at]⟩
def opM (T : St) (p w o k : Nat) : St := psM (sF T 0 12 (nI (o + 1))) p w k
theorem LST.opened (h : LST n b S T p s z w o) (hp : p < n) (ho : o < 6) (k : Nat) : f_Law_opens S (nI o) = some (1, sF S 3 1 (nI (p + 1))) ∧ f_Mo_opens T (nI k) = some (1, opM T p w o k) ∧ LST n b (sF S 3 1 (nI (p + 1))) (opM T p w o k) (p + 1) s z (w + 1) (o + 1) ∧ belo S T (sF S 3 1 (nI (p + 1))) (opM T p w o k) s z w ∧ opM T p w o k 8 w = nI (1048576 * k) := by
  have hn := h.hn
  obtain ⟨h1, h2, h3, h4, h5, h6, h7, h8⟩ := h
  have h' : LST n b S (sF T 0 12 (nI (o + 1))) p s z w (o + 1) := ⟨h1, h2.set (by omega), h3, by rw [sF_ne (by omega)]; exact h4, by rw [sF_ne (by omega)]; exact h5, sF_at, h7, h8⟩
  have hb : belo S T S (sF T 0 12 (nI (o + 1))) s z w := ⟨fun _ _ => ⟨rfl, rfl⟩, fun i _ => sF_ne (by omega), fun i _ => sF_ne (by omega), frX.refl S, (frM.refl T).set (by omega)⟩
  obtain ⟨p1, p2, p3⟩ := h'.push hp k
  refine ⟨?_, ?_, p1, hb.trans p2 (Nat.le_refl _) (Nat.le_refl _), p3⟩
  · unfold f_Law_opens
    rw [if_pos (show nI o < 6 from ylt (b := 6) ho), h1.2.1, nI_1, Option.bind_some]
  · have c1 : (nI w).toNatClampNeg = w := cl
    have e14 : sF T 0 12 (nI (o + 1)) 0 14 = nI w := by rw [sF_ne (by omega)]; exact h5
    have e14' : ∀ v, sF (sF T 0 12 (nI (o + 1))) 8 w v 0 14 = nI w := fun v => by rw [sF_ne (by omega)]; exact e14
    have e8 : ∀ v u, sF (sF (sF T 0 12 (nI (o + 1))) 8 w v) 0 14 u 0 8 = nI p := fun v u => by rw [sF_ne (by omega), sF_ne (by omega), sF_ne (by omega)]; exact h2.2.2
    unfold f_Mo_opens opM psM
    rw [h6, if_neg (show ¬ nI o = 6 from nI_k 6 (by omega) (by omega) (by omega)), nI_1, Option.bind_some, e14, if_pos (gn (by omega) (by omega)), c1, Option.bind_some, e14', nI_1, Option.bind_some, e8, nI_1, Option.bind_some, show (1048576 : Int32) * nI k = nI (1048576 * k) from pk_mul 1048576 k]
theorem LST.closed6 (h : LST n b S T p s z w 6) (k : Int32) : f_Law_opens S (nI 6) = some (0, sF S 3 2 ((-1000) * nI 5 - nI p)) ∧ f_Mo_opens T k = some (0, sF T 0 10 ((-1000) * nI 5 - nI p)) ∧ ¬ (-1000) * nI 5 - nI p = 0 := by
  have hn := h.hn
  have hp := h.hp
  refine ⟨?_, ?_, fl_ne (by omega) (by omega) (by omega)⟩
  · unfold f_Law_opens
    rw [if_neg (by decide), x_fail h.x.2.2.1, Option.bind_some, h.x.2.1]; rfl
  · unfold f_Mo_opens
    rw [h.2.2.2.2.2.1, if_pos (show nI 6 = 6 from rfl), m_wrong, Option.bind_some, if_pos (Or.inl rfl), h.m.2.2]; rfl
theorem x_needs (h : XD S n b p) (c : Int32) : f_Reading_needs S c = if sg b n p = c then some (sF S 3 1 (nI (p + 1))) else some (sF S 3 2 ((-1000) * nI 1 - nI p)) := by
  unfold f_Reading_needs
  rw [h.sgn, Option.bind_some, if_pos h.2.2.1, x_fail h.2.2.1, Option.bind_some, Option.bind_some, h.2.1, nI_1]
  rfl
def PVo (n : Nat) (b : Nat → Nat) (X : Option St) (C : Option (Int32 × St)) (S T : St) (p s z0 w0 o g B : Nat) : Prop := (∃ q z' S' T' T3 e nv F2' w', p < q ∧ z0 < z' ∧ z' + s + g ≤ q ∧ X = some S' ∧ C = f_Mo_readsSum_14 F2' T' (nI B) ∧ n < F2' + q ∧ MD T' n b q ∧ T' 0 14 = nI w' ∧ w0 ≤ w' ∧ w' ≤ q ∧ STK T' B w' ∧ (∀ i, i < w0 → T' 8 i = T 8 i) ∧ (∀ i, w0 ≤ i → i < w' → ¬ T' 8 i = nI (1048576 * 14)) ∧ (∀ F, f_Mo_closesSums_0 (F + 3) T' 1 = some T3) ∧ LST n b S' T3 q s z' w0 o ∧ belo S T S' T3 s z0 w0 ∧ sgV (S' 33) (S' 34) (T3 7) s nv (15 - 2 * o) e z0 z' ∧ (∀ op, 2 ≤ op → op ≤ 6 → ¬ sg b n q = nI (chr op))) ∨ (∃ f S' T', X = some S' ∧ FM f S' ∧ frX S S' ∧ C = some (0, T') ∧ T' 0 10 = f)
def PVt (n : Nat) (b : Nat → Nat) (kv : St → Int32 → Option St) (o : Nat) : Prop := ∀ S T p s z w g F1 F2 B, LST n b S T p s z w o → z + s + g ≤ p → 8 ≤ F1 + o → n < F2 + p + 1 → B ≤ w → STK T B w → NT T w → PVo n b (kv S (nI o)) (ML F1 F2 T B) S T p s z w o g B
theorem pf_step {d : Nat} (ho : o ≤ 6) (hd : 1 ≤ d ∨ o = 6) (hV : o < 6 → PVt n b (FRV d) (o + 1)) : PF n b (f_Law_readFactor (FRV d)) o := by
  intro S T p s z w g F1 F2 B h hz hF1 hF2 hB hK
  have hn := h.hn
  have hp := h.hp
  obtain ⟨A, hA⟩ : ∃ A, f_Law_readFactor (FRV d) S (nI o) = A := ⟨_, rfl⟩
  obtain ⟨C, hC⟩ : ∃ C, ML F1 F2 T B = C := ⟨_, rfl⟩
  rw [hA, hC]
  obtain ⟨F1, rfl⟩ : ∃ v, F1 = v + 1 := ⟨F1 - 1, by omega⟩
  unfold f_Law_readFactor at hA
  rw [h.x.sign, Option.bind_some, if_pos h.x.2.2.1] at hA
  unfold ML at hC
  rw [f_Mo_readsFactor_0, h.here, Option.bind_some] at hC
  by_cases c91 : sg b n p = 91
  · have pn : p < n := sg_lt (c := 91) (by omega) c91
    rw [if_pos c91] at hA hC
    by_cases o6 : o < 6
    · obtain ⟨a1, a2, a3, a4, a5⟩ := h.opened pn o6 14
      rw [a1, Option.bind_some, if_neg i10] at hA
      rw [show f_Mo_opens T 14 = some (1, opM T p w o 14) from a2, Option.bind_some, if_neg i10] at hC
      have hC : ML F1 F2 (opM T p w o 14) B = C := hC
      have hA : ((FRV d (sF S 3 1 (nI (p + 1))) (nI o + 1)).bind fun w_37 => (f_Reading_needs w_37 93).bind fun w_46 => some w_46) = A := hA
      rw [nI_1] at hA
      obtain ⟨S1, hS1⟩ : ∃ S1, sF S 3 1 (nI (p + 1)) = S1 := ⟨_, rfl⟩
      obtain ⟨T1, hT1⟩ : ∃ T1, opM T p w o 14 = T1 := ⟨_, rfl⟩
      rw [hS1] at hA a3 a4
      rw [hT1] at hC a3 a4 a5
      have hK1 : STK T1 B (w + 1) := fun i h1 h2 => by
        by_cases e : i = w
        · rw [e]; exact ⟨14, Or.inr rfl, a5⟩
        · rw [a4.2.2.1 i (by omega)]; exact hK i h1 (by omega)
      have hN1 : NT T1 (w + 1) := Or.inr ⟨14, 0, by omega, by omega, by omega, a5⟩
      have v := hV o6 S1 T1 (p + 1) s z (w + 1) g F1 F2 B a3 (by omega) (by omega) (by omega) (by omega) hK1 hN1
      rw [hC] at v
      rcases v with ⟨q, z', S', T', T3, e, nv, F2', w', r1, r2, r3, r4, r5, r6, r7, r8, r9, r10, r11, r12, r13, r14, r15, r16, r17, r18⟩ | ⟨f, S', T', r1, r2, r3, r4, r5⟩
      · obtain ⟨F3, rfl⟩ : ∃ v, F2' = v + 1 := ⟨F2' - 1, by have := r15.hp; omega⟩
        have qn := r15.hp
        rw [r4, Option.bind_some, x_needs r15.x, ] at hA
        have hs0 : f_Mo_sumSign T' (sg b n q) = some (-1) := m_sum0 r18
        have hop : f_Mo_hasOpenSum T' (nI B) = some 1 := m_has1 r8 (by omega) (by omega) r11 (i := w) (by omega) (by omega) (by rw [r12 w (by omega)]; exact a5)
        rw [f_Mo_readsSum_14, r7.here qn hn, Option.bind_some, hs0, Option.bind_some, if_pos rfl, Option.bind_some] at r5
        by_cases c93 : sg b n q = 93
        · have qn' : q < n := sg_lt (c := 93) (by omega) c93
          rw [if_pos c93, Option.bind_some] at hA
          obtain ⟨FF, hFF⟩ : ∃ F, FU = F + 3 := ⟨FU - 3, by have := FU_gt (n := 5) (by omega); omega⟩
          have hcl : f_Mo_closesSums T' 1 = some T3 := by unfold f_Mo_closesSums; rw [hFF]; exact r14 FF
          obtain ⟨l1, l2⟩ := r15.pop (w' := w) (by omega)
          have l1' : LST n b S' (sF (sF T3 0 14 (nI w)) 0 12 (nI o)) q s z' w o := by
            obtain ⟨h1, h2, h3, h4, h5, h6, h7, h8⟩ := l1
            exact ⟨h1, h2.set (by omega), h3, by rw [sF_ne (by omega)]; exact h4, by rw [sF_ne (by omega)]; exact h5, sF_at, h7, h8⟩
          have l2' : belo S' T3 S' (sF (sF T3 0 14 (nI w)) 0 12 (nI o)) s z' w := ⟨fun _ _ => ⟨rfl, rfl⟩, fun i _ => by rw [sF_ne (by omega), sF_ne (by omega)], fun i _ => by rw [sF_ne (by omega), sF_ne (by omega)], frX.refl S', ((frM.refl T3).set (by omega)).set (by omega)⟩
          obtain ⟨m1, m2⟩ := l1'.on qn'
          have e14 : T3 0 14 - 1 = nI w := by rw [r15.2.2.2.2.1]; exact pk_sub (a := w + 1) (b := 1) (by omega)
          have e12 : ∀ v, sF T3 0 14 v 0 12 - 1 = nI o := fun v => by rw [sF_ne (by omega), r15.2.2.2.2.2.1]; exact pk_sub (a := o + 1) (b := 1) (by omega)
          have e8 : ∀ v u, sF (sF T3 0 14 v) 0 12 u 0 8 + 1 = nI (q + 1) := fun v u => by rw [sF_ne (by omega), sF_ne (by omega), r15.m.2.2, nI_1]
          rw [if_pos c93, hop, Option.bind_some, if_neg i10, hcl, Option.bind_some, e14, Option.bind_some, e12, Option.bind_some, e8, Option.bind_some] at r5
          have bb := ((a4.trans r16 (Nat.le_refl _) (by omega)).trans l2' (by omega) (Nat.le_refl _)).trans m2 (by omega) (Nat.le_refl _)
          have ss := (l2'.trans m2 (Nat.le_refl _) (Nat.le_refl _)).gV (Nat.le_refl _) r17
          rw [show 15 - 2 * (o + 1) = 13 - 2 * o by omega] at ss
          exact Or.inl ⟨q + 1, z', _, _, e, nv, F3, by omega, r2, by omega, m1, bb, ss, hA.symm, r5, by omega⟩
        · have f0 : ¬ (-1000) * nI 1 - nI q = 0 := fl_ne (by omega) (by omega) (by omega)
          rw [if_neg c93, Option.bind_some] at hA
          unfold f_Mo_readsSum_138 at r5
          rw [if_neg c93, hop, Option.bind_some, if_neg i10, m_wrong, Option.bind_some, if_pos (Or.inl rfl), r7.2.2] at r5
          rw [show (1 : Int32) = nI 1 from rfl] at r5
          exact Or.inr ⟨(-1000) * nI 1 - nI q, sF S' 3 2 ((-1000) * nI 1 - nI q), sF T' 0 10 ((-1000) * nI 1 - nI q), hA.symm, r15.fm f0, (a4.2.2.2.1.trans r16.2.2.2.1).set (by omega), r5, sF_at⟩
      · rw [r1, Option.bind_some, fm_needs r2, Option.bind_some] at hA
        exact Or.inr ⟨f, S', T', hA.symm, r2, a4.2.2.2.1.trans r3, r4, r5⟩
    · have o6' : o = 6 := by omega
      subst o6'
      obtain ⟨a1, a2, a3⟩ := h.closed6 14
      rw [a1, Option.bind_some, if_pos rfl] at hA
      rw [a2, Option.bind_some, if_pos rfl, Option.bind_some, if_pos rfl] at hC
      exact Or.inr ⟨(-1000) * nI 5 - nI p, sF S 3 2 ((-1000) * nI 5 - nI p), sF T 0 10 ((-1000) * nI 5 - nI p), hA.symm, h.fm a3, (frX.refl S).set (by omega), hC.symm, sF_at⟩
  · rw [if_neg c91, x_dig, Option.bind_some] at hA
    rw [if_neg c91, m_dig h.m hp hn, Option.bind_some] at hC
    cases hdg : dg (sg b n p) with
    | true =>
      rw [hdg, ib1'] at hA hC
      rw [m_number h.m hp hn hdg] at hC
      rcases rd_amount (md := 5) (by omega) (by omega) h.x h.m with ⟨q, a, S1, T1, q1, q2, q3, e1, e2, hX1, hM1, h11⟩ | ⟨f, v, S1, T1, f0, e1, e2, e3, e4⟩
      · have hX1' : LST n b S1 T1 q s z w o := ⟨hX1, hM1, (w_Reading_number e1 (by omega)).trans h.2.2.1, (w_Mo_readsAmount e2 (by omega)).trans h.2.2.2.1, (w_Mo_readsAmount e2 (by omega)).trans h.2.2.2.2.1, (w_Mo_readsAmount e2 (by omega)).trans h.2.2.2.2.2.1, by have := h.2.2.2.2.2.2.1; omega, by omega⟩
        have b1 : belo S T S1 T1 s z w := ⟨fun i _ => ⟨w_Reading_number e1 (by omega), w_Reading_number e1 (by omega)⟩, fun i _ => w_Mo_readsAmount e2 (by omega), fun i _ => w_Mo_readsAmount e2 (by omega), fun r j hr => w_Reading_number e1 (by omega), fun r j hr => w_Mo_readsAmount e2 (by omega)⟩
        have hq := hX1.2.2.2.1
        obtain ⟨l1, l2, l3, l4, l5⟩ := hX1'.add (by omega) 0 (nI a) (nI a)
        rw [show f_Reading_number S 5 = some (nI a, S1) from e1, Option.bind_some, x_add hX1'.2.2.1 (by omega), Option.bind_some] at hA
        have h11' : ((1 : Int32), T1).snd 0 11 = nI a := h11
        have e0 : (1048576 : Int32) * 0 + nI a = nI a := by rw [show (1048576 : Int32) * 0 = 0 from rfl, z0I]
        rw [show f_Mo_readsAmount T 5 = some (1, T1) from e2, Option.bind_some, if_neg i10, h11', m_notes hX1'.2.2.2.1 (by omega), Option.bind_some, Option.bind_some, if_neg i10, e0] at hC
        exact Or.inl ⟨q, z + 1, _, _, fun _ => some (nI a), 1, F2, q1, by omega, by omega, l1, b1.trans l2 (Nat.le_refl _) (Nat.le_refl _), Or.inl ⟨a, q3, rfl, by omega, l3, l4, l5, rfl⟩, hA.symm, hC.symm, by omega⟩
      · rw [show f_Reading_number S 5 = some (v, S1) from e1, Option.bind_some] at hA
        rw [show f_Mo_readsAmount T 5 = some (0, T1) from e2, Option.bind_some, if_pos rfl, Option.bind_some, if_pos rfl] at hC
        have fm1 : FM f S1 := ⟨f0, e3, z + s, by have := h.2.2.2.2.2.2.2; omega, (w_Reading_number e1 (by omega)).trans h.2.2.1⟩
        obtain ⟨v', S2, g1, g2, g3⟩ := fm_add fm1 0 v
        have g1' : f_Law_add (v, S1).2 0 (v, S1).1 = some (v', S2) := g1
        rw [g1', Option.bind_some] at hA
        have fr1 : frX S S1 := fun r j hr => w_Reading_number e1 (by omega)
        exact Or.inr ⟨f, S2, T1, hA.symm, g2, fr1.trans g3, hC.symm, e4⟩
    | false =>
      rw [hdg, ib0'] at hA hC
      rw [Option.bind_some] at hC
      rcases facts_of S T (sg b n p) with ⟨i, hi, ex, e1, e2⟩ | ⟨e1, e2⟩
      · have pn : p < n := sg_lt (c := fch i) (by unfold fch; repeat (first | omega | split)) ex
        obtain ⟨m1, m2⟩ := h.on pn
        obtain ⟨l1, l2, l3, l4, l5⟩ := m1.add (by omega) 1 (sg b n p) (nI (1048576 + i))
        rw [e1, Option.bind_some, if_neg i10, h.x.2.1, nI_1, Option.bind_some, x_add m1.2.2.1 (by omega), Option.bind_some] at hA
        have ev : (1048576 : Int32) * 1 + nI i = nI (1048576 + i) := by rw [show (1048576 : Int32) * 1 = nI 1048576 from rfl, nI_add]
        have e8 : ntM T z (nI (1048576 + i)) 0 8 + 1 = nI (p + 1) := by unfold ntM; rw [sF_ne (by omega), sF_ne (by omega), h.m.2.2, nI_1]
        have sw : sF (ntM T z (nI (1048576 + i))) 0 8 (nI (p + 1)) = ntM (sF T 0 8 (nI (p + 1))) z (nI (1048576 + i)) := by
          funext r j
          unfold ntM
          by_cases q1 : r = 0 ∧ j = 8
          · obtain ⟨rfl, rfl⟩ := q1
            rw [sF_at, sF_ne (by omega), sF_ne (by omega), sF_at]
          · rw [sF_ne (by omega)]
            by_cases q2 : r = 0 ∧ j = 13
            · obtain ⟨rfl, rfl⟩ := q2
              rw [sF_at, sF_at]
            · rw [sF_ne (by omega), sF_ne (r := 0) (i := 13) (by omega)]
              by_cases q3 : r = 7 ∧ j = z
              · obtain ⟨rfl, rfl⟩ := q3
                rw [sF_at, sF_at]
              · rw [sF_ne (by omega), sF_ne (r := 7) (by omega), sF_ne (by omega)]
        rw [e2, Option.bind_some, if_neg (nI_m1 (by omega)), m_notes h.2.2.2.1 (by omega), Option.bind_some, ev, e8, Option.bind_some, sw, Option.bind_some, if_neg i10] at hC
        exact Or.inl ⟨p + 1, z + 1, _, _, fun f => some (f i), 1, F2, by omega, by omega, by omega, l1, m2.trans l2 (Nat.le_refl _) (Nat.le_refl _), Or.inr (Or.inl ⟨i, hi, rfl, by omega, l3, by rw [l4, ex], l5, rfl⟩), hA.symm, hC.symm, by omega⟩
      · have f0 : ¬ (-1000) * nI 1 - nI p = 0 := fl_ne (by omega) (by omega) (by omega)
        rw [e1, Option.bind_some, if_pos rfl, x_fail h.x.2.2.1, Option.bind_some, h.x.2.1] at hA
        rw [e2, Option.bind_some, if_pos rfl, m_wrong, Option.bind_some, if_pos (Or.inl rfl), h.m.2.2, Option.bind_some, if_pos rfl] at hC
        rw [show (1 : Int32) = nI 1 from rfl] at hA hC
        exact Or.inr ⟨(-1000) * nI 1 - nI p, sF S 3 2 ((-1000) * nI 1 - nI p), sF T 0 10 ((-1000) * nI 1 - nI p), hA.symm, h.fm f0, (frX.refl S).set (by omega), hC.symm, sF_at⟩
end LSS
