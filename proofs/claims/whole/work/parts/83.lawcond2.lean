def PTo (n : Nat) (b : Nat → Nat) (X : Option St) (C : Option (Int32 × St)) (S T : St) (p s z w o g : Nat) : Prop := (∃ q z' S' T' c nc F' G Fe, p < q ∧ z < z' ∧ z' + s + g ≤ q ∧ X = some S' ∧ C = ((f_Mo_endsPiece_0 Fe T').bind fun x => f_Mo_readsCondition_92 (f_Mo_readsCondition_40 F') G x) ∧ n < F' + q ∧ n < G + q ∧ 100 + o ≤ Fe ∧ LST n b S' T' q s z' w o ∧ belo S T S' T' s z w ∧ sgC (S' 33) (S' 34) (T' 7) s nc c z z') ∨ (∃ f S' T', X = some S' ∧ FM f S' ∧ frX S S' ∧ C = some (0, T') ∧ T' 0 10 = f)
def PTt (n : Nat) (b : Nat → Nat) (kt : St → Int32 → Option St) (o : Nat) : Prop := ∀ S T p s z w g F, LST n b S T p s z w o → z + s + g ≤ p → n < F + p → 1 ≤ w → NT T w → PTo n b (kt S (nI o)) (f_Mo_readsCondition_40 F T) S T p s z w o g
def PCo (n : Nat) (b : Nat → Nat) (X : Option St) (C : Option (Int32 × St)) (S T : St) (p s z w o g : Nat) : Prop := (∃ q z' S' T' T3 c nc F' G, p < q ∧ z < z' ∧ z' + s + g ≤ q ∧ X = some S' ∧ C = f_Mo_readsCondition_92 (f_Mo_readsCondition_40 F') G T' ∧ n < F' + q ∧ n < G + q ∧ MD T' n b q ∧ (∀ F, f_Mo_lands_0 (F + 3) T' 1 = some T3) ∧ LST n b S' T3 q s z' w o ∧ belo S T S' T3 s z w ∧ sgC (S' 33) (S' 34) (T3 7) s nc c z z' ∧ ¬ sg b n q = 38 ∧ ¬ sg b n q = 124) ∨ (∃ f S' T', X = some S' ∧ FM f S' ∧ frX S S' ∧ C = some (0, T') ∧ T' 0 10 = f)
def PCt (n : Nat) (b : Nat → Nat) (kc : St → Int32 → Option St) (o : Nat) : Prop := ∀ S T p s z w g F, LST n b S T p s z w o → z + s + g ≤ p → n < F + p → 1 ≤ w → T 8 (w - 1) = nI (1048576 * 13) → PCo n b (kc S (nI o)) (f_Mo_readsCondition_40 F T) S T p s z w o g
section CO
variable {n : Nat} {b : Nat → Nat} {S T : St} {p s z w o : Nat}
/-- a comparison -/
theorem pt_cmp (ho : o ≤ 6) (kt kc : St → Int32 → Option St) {g F : Nat} (h : LST n b S T p s z w o) (hz : z + s + g ≤ p) (hF : n < F + 1 + p) (hN : NT T w) (n33 : ¬ sg b n p = 33) (n40 : ¬ sg b n p = 40) : PTo n b (f_Law_readTest kt kc F_Law_readValue S (nI o)) (f_Mo_readsCondition_40 (F + 1) T) S T p s z w o g := by
  have hn := h.hn
  have hp := h.hp
  have hFU : 300 < FU := FU_gt (by omega)
  obtain ⟨A, hA⟩ : ∃ A, f_Law_readTest kt kc F_Law_readValue S (nI o) = A := ⟨_, rfl⟩
  obtain ⟨C, hC⟩ : ∃ C, f_Mo_readsCondition_40 (F + 1) T = C := ⟨_, rfl⟩
  rw [hA, hC]
  unfold f_Law_readTest at hA
  rw [h.x.sign, Option.bind_some, if_pos h.x.2.2.1, if_neg n33, if_neg n40] at hA
  rw [f_Mo_readsCondition_40, h.here, Option.bind_some, if_neg n33, Option.bind_some, if_neg n40] at hC
  unfold f_Mo_readsCompared at hC
  -- what the class does behind a fault
  have fm128 : ∀ (f l3 : Int32) (S1 : St), FM f S1 → ∃ S2, f_Law_readTest_128 kt kc F_Law_readValue S1 (nI o) l3 = some S2 ∧ FM f S2 ∧ frX S1 S2 := fun f l3 S1 h1 => by
    obtain ⟨S2, a1, a2, a3⟩ := fm_FRV 8 (by omega) f S1 (nI o) h1
    obtain ⟨v, S3, b1, b2, b3⟩ := fm_add a2 l3 0
    refine ⟨S3, ?_, b2, a3.trans b3⟩
    unfold f_Law_readTest_128
    rw [show F_Law_readValue S1 (nI o) = some S2 from a1, Option.bind_some, b1, Option.bind_some]
  rcases rd_sum ho h hz hN with ⟨q, z1, S1, T1, ea, na, r1, r2, r3, r4, r5, r6, r7, r8⟩ | ⟨f, S1, T1, r1, r2, r3, r4, r5⟩
  · have qn := r6.hp
    rw [r4, Option.bind_some, r6.x.sign, Option.bind_some] at hA
    rw [r5, Option.bind_some, if_neg i10, Option.bind_assoc] at hC
    have hC : ((f_Mo_here T1).bind fun v_10 => (if v_10 = 60 then f_Mo_readsCompared_52 T1 (7 : Int32) else (f_Mo_here T1).bind fun v_24 => if v_24 = 62 then f_Mo_readsCompared_52 T1 (8 : Int32) else (f_Mo_here T1).bind fun v_38 => if v_38 = 61 then f_Mo_readsCompared_52 T1 (9 : Int32) else f_Mo_readsCompared_52 T1 ((-1) : Int32)).bind fun w_84 => if w_84.1 = 0 then some (0, w_84.2) else f_Mo_readsCondition_92 (f_Mo_readsCondition_40 F) FU w_84.2) = C := hC
    rw [r6.here, Option.bind_some, Option.bind_some, Option.bind_some] at hC
    by_cases cm : ∃ op, 7 ≤ op ∧ op ≤ 9 ∧ sg b n q = nI (chr op)
    · obtain ⟨op, o1, o2, o3⟩ := cm
      have qn' : q < n := sg_lt (c := chr op) (by unfold chr; repeat (first | omega | split)) o3
      have hA : f_Law_readTest_128 kt kc F_Law_readValue (sF S1 3 1 (nI (q + 1))) (nI o) (sg b n q) = A := by
        unfold f_Law_readTest_108 at hA
        rw [x_needs r6.x, if_pos rfl, Option.bind_some] at hA
        have hh : op = 7 ∨ op = 8 ∨ op = 9 := by omega
        rcases hh with e | e | e
        · rw [if_pos (show sg b n q = 60 by rw [o3, e]; rfl)] at hA
          exact hA
        · rw [if_neg (show ¬ sg b n q = 60 by rw [o3, e]; decide), if_pos (show sg b n q = 62 by rw [o3, e]; rfl)] at hA
          exact hA
        · rw [if_neg (show ¬ sg b n q = 60 by rw [o3, e]; decide), if_neg (show ¬ sg b n q = 62 by rw [o3, e]; decide), x_needs r6.x, if_pos (show sg b n q = 61 by rw [o3, e]; rfl), Option.bind_some] at hA
          exact hA
      have hC : ((f_Mo_readsCompared_52 T1 (nI op)).bind fun w_84 => if w_84.1 = 0 then some (0, w_84.2) else f_Mo_readsCondition_92 (f_Mo_readsCondition_40 F) FU w_84.2) = C := by
        have hh : op = 7 ∨ op = 8 ∨ op = 9 := by omega
        rcases hh with e | e | e
        · rw [if_pos (show sg b n q = 60 by rw [o3, e]; rfl)] at hC
          rw [e]; exact hC
        · rw [if_neg (show ¬ sg b n q = 60 by rw [o3, e]; decide), if_pos (show sg b n q = 62 by rw [o3, e]; rfl)] at hC
          rw [e]; exact hC
        · rw [if_neg (show ¬ sg b n q = 60 by rw [o3, e]; decide), if_neg (show ¬ sg b n q = 62 by rw [o3, e]; decide), if_pos (show sg b n q = 61 by rw [o3, e]; rfl)] at hC
          rw [e]; exact hC
      obtain ⟨m1, m2⟩ := r6.on qn'
      unfold f_Mo_readsCompared_52 at hC
      rw [if_neg (nI_m1 (by omega)), r6.m.2.2, nI_1, Option.bind_some] at hC
      have N2 : NT (sF T1 0 8 (nI (q + 1))) w := hN.cong (fun i hi => by rw [m2.2.2.1 i hi, r7.2.2.1 i hi])
      unfold f_Law_readTest_128 at hA
      rcases rd_sum (g := g + 1) ho m1 (by omega) N2 with ⟨q2, z2, S2, T2, eb, nb, t1, t2, t3, t4, t5, t6, t7, t8⟩ | ⟨f, S2, T2, t1, t2, t3, t4, t5⟩
      · obtain ⟨l1, l2, l3, l4, l5⟩ := t6.add (by omega) (sg b n q) 0 (nI (1048576 * op))
        have q2n := t6.hp
        rw [t4, Option.bind_some, x_add t6.2.2.1 (by omega), Option.bind_some] at hA
        rw [t5, Option.bind_some, if_neg i10, m_notes t6.2.2.2.1 (by omega), Option.bind_some, mop, Option.bind_assoc] at hC
        have hC : ((f_Mo_endsPiece_0 FU (ntM T2 z2 (nI (1048576 * op)))).bind fun x => f_Mo_readsCondition_92 (f_Mo_readsCondition_40 F) FU x) = C := by
          rw [← hC]
          unfold f_Mo_endsPiece
          congr 1
        refine Or.inl ⟨q2, z2 + 1, _, _, cmpC op ea eb, 1, F, FU, FU, by omega, by omega, by omega, hA.symm, hC.symm, by omega, by omega, by omega, l1, ((r7.trans m2 (by omega) (Nat.le_refl _)).trans t7 (by omega) (Nat.le_refl _)).trans l2 (by omega) (Nat.le_refl _), Or.inl ⟨op, ea, eb, z1, z2, na, nb, o1, o2, ?_, ?_, rfl, l3.trans o3, l5, rfl⟩⟩
        · have := (((m2.trans t7 (Nat.le_refl _) (Nat.le_refl _)).trans l2 (by omega) (Nat.le_refl _))).gV (Nat.le_refl _) r8
          exact sgV_mono _ _ _ _ _ this _ _ (Nat.le_refl _) (by omega)
        · exact sgV_mono _ _ _ _ _ (l2.gV (Nat.le_refl _) t8) _ _ (Nat.le_refl _) (by omega)
      · obtain ⟨v, S3, b1, b2, b3⟩ := fm_add t2 (sg b n q) 0
        rw [t1, Option.bind_some, b1, Option.bind_some] at hA
        rw [t4, Option.bind_some, if_pos rfl, Option.bind_some, if_pos rfl] at hC
        exact Or.inr ⟨f, S3, T2, hA.symm, b2, ((r7.2.2.2.1.trans m2.2.2.2.1).trans t3).trans b3, hC.symm, t5⟩
    · have k60 : ¬ sg b n q = 60 := fun e => cm ⟨7, by omega, by omega, e⟩
      have k62 : ¬ sg b n q = 62 := fun e => cm ⟨8, by omega, by omega, e⟩
      have k61 : ¬ sg b n q = 61 := fun e => cm ⟨9, by omega, by omega, e⟩
      have f0 : ¬ (-1000) * nI 1 - nI q = 0 := fl_ne (by omega) (by omega) (by omega)
      rw [if_neg k60, if_neg k62, x_needs r6.x, if_neg k61, Option.bind_some] at hA
      obtain ⟨S2, a1, a2, a3⟩ := fm128 _ (sg b n q) _ (r6.fm f0)
      rw [a1] at hA
      rw [if_neg k60, if_neg k62, if_neg k61] at hC
      unfold f_Mo_readsCompared_52 at hC
      rw [if_pos rfl, m_wrong, Option.bind_some, if_pos (Or.inl rfl), Option.bind_some, if_pos rfl, r6.m.2.2, show (1 : Int32) = nI 1 from rfl] at hC
      exact Or.inr ⟨(-1000) * nI 1 - nI q, S2, sF T1 0 10 ((-1000) * nI 1 - nI q), hA.symm, a2, (r7.2.2.2.1.set (by omega)).trans a3, hC.symm, sF_at⟩
  · obtain ⟨v, hv⟩ := fm_sign S1
    rw [r1, Option.bind_some, hv, Option.bind_some] at hA
    rw [r4, Option.bind_some, if_pos rfl, Option.bind_some, if_pos rfl] at hC
    unfold f_Law_readTest_108 at hA
    rw [fm_needs r2, Option.bind_some, fm_needs r2, Option.bind_some] at hA
    obtain ⟨S2, a1, a2, a3⟩ := fm128 f v S1 r2
    rw [a1, ite_self, ite_self] at hA
    exact Or.inr ⟨f, S2, T1, hA.symm, a2, r3.trans a3, hC.symm, r5⟩
theorem pt_step (ho : o ≤ 6) {d : Nat} (hT : o < 6 → PTt n b (FRT d) (o + 1)) (hCd : o < 6 → PCt n b (f_Law_readCondition (FRT d)) (o + 1)) (hfm : o < 6 → FMK (FRT d)) : PTt n b (FRT (d + 1)) o := by
  intro S T p s z w g F h hz hF hw hN
  have hn := h.hn
  have hp := h.hp
  have hwp := h.2.2.2.2.2.2.1
  have hFU : 300 < FU := FU_gt (by omega)
  obtain ⟨F, rfl⟩ : ∃ v, F = v + 1 := ⟨F - 1, by omega⟩
  have eF : FRT (d + 1) S (nI o) = f_Law_readTest (FRT d) (f_Law_readCondition (FRT d)) F_Law_readValue S (nI o) := rfl
  rw [eF]
  by_cases n33 : sg b n p = 33
  · have pn : p < n := sg_lt (c := 33) (by omega) n33
    obtain ⟨A, hA⟩ : ∃ A, f_Law_readTest (FRT d) (f_Law_readCondition (FRT d)) F_Law_readValue S (nI o) = A := ⟨_, rfl⟩
    obtain ⟨C, hC⟩ : ∃ C, f_Mo_readsCondition_40 (F + 1) T = C := ⟨_, rfl⟩
    rw [hA, hC]
    unfold f_Law_readTest at hA
    rw [h.x.sign, Option.bind_some, if_pos h.x.2.2.1, if_pos n33] at hA
    rw [f_Mo_readsCondition_40, h.here, Option.bind_some, if_pos n33] at hC
    unfold f_Mo_readsCondition_58 f_Mo_readsCondition_75 at hC
    rw [h.here, Option.bind_some, if_pos n33] at hC
    by_cases o6 : o < 6
    · obtain ⟨a1, a2, a3, a4, a5⟩ := h.opened pn o6 10
      rw [a1, Option.bind_some, if_neg i10, nI_1] at hA
      rw [show f_Mo_opens T 10 = some (1, opM T p w o 10) from a2, Option.bind_some, if_neg i10] at hC
      have v := hT o6 _ _ (p + 1) s z (w + 1) (g + 1) F a3 (by omega) (by omega) (by omega) (Or.inr ⟨10, 0, by omega, by omega, by omega, a5⟩)
      rw [show f_Mo_readsCondition_40 F (opM T p w o 10) = C from hC] at v
      rcases v with ⟨q, z', S', T', c, nc, F', G, Fe, r1, r2, r3, r4, r5, r6, r7, r8, r9, r10, r11⟩ | ⟨f, S', T', r1, r2, r3, r4, r5⟩
      · have hq := r9.hp
        obtain ⟨l1, l2, l3, l4, l5⟩ := r9.ep (by omega) 2 0
        obtain ⟨Fe, rfl⟩ : ∃ v, Fe = v + 1 := ⟨Fe - 1, by omega⟩
        rw [show FRT d (1, sF S 3 1 (nI (p + 1))).2 (nI (o + 1)) = some S' from r4, Option.bind_some, x_add r9.2.2.1 (by omega), Option.bind_some] at hA
        rw [ep_pop r9.2.2.2.2.1 (by omega) (by rw [r10.2.2.1 w (by omega)]; exact a5) r9.2.2.2.1 (by omega) r9.2.2.2.2.2.1] at r5
        refine Or.inl ⟨q, z' + 1, _, _, notC c, nc + 1, F', G, Fe, by omega, by omega, by omega, hA.symm, r5, r6, r7, by omega, l1, (a4.trans r10 (Nat.le_refl _) (by omega)).trans l2 (by omega) (by omega), Or.inr (Or.inl ⟨c, z', ?_, rfl, l3, l5, rfl⟩)⟩
        exact l2.gC (Nat.le_refl _) r11
      · obtain ⟨v, S2, b1, b2, b3⟩ := fm_add r2 2 0
        rw [show FRT d (1, sF S 3 1 (nI (p + 1))).2 (nI (o + 1)) = some S' from r1, Option.bind_some, b1, Option.bind_some] at hA
        exact Or.inr ⟨f, S2, T', hA.symm, b2, (a4.2.2.2.1.trans r3).trans b3, r4, r5⟩
    · have o6' : o = 6 := by omega
      subst o6'
      obtain ⟨a1, a2, a3⟩ := h.closed6 10
      rw [a1, Option.bind_some, if_pos rfl] at hA
      rw [a2, Option.bind_some, if_pos rfl] at hC
      exact Or.inr ⟨(-1000) * nI 5 - nI p, sF S 3 2 ((-1000) * nI 5 - nI p), sF T 0 10 ((-1000) * nI 5 - nI p), hA.symm, h.fm a3, (frX.refl S).set (by omega), hC.symm, sF_at⟩
  · by_cases n40 : sg b n p = 40
    · have pn : p < n := sg_lt (c := 40) (by omega) n40
      obtain ⟨A, hA⟩ : ∃ A, f_Law_readTest (FRT d) (f_Law_readCondition (FRT d)) F_Law_readValue S (nI o) = A := ⟨_, rfl⟩
      obtain ⟨C, hC⟩ : ∃ C, f_Mo_readsCondition_40 (F + 1) T = C := ⟨_, rfl⟩
      rw [hA, hC]
      unfold f_Law_readTest at hA
      rw [h.x.sign, Option.bind_some, if_pos h.x.2.2.1, if_neg n33, if_pos n40] at hA
      rw [f_Mo_readsCondition_40, h.here, Option.bind_some, if_neg n33, Option.bind_some, if_pos n40] at hC
      unfold f_Mo_readsCondition_58 f_Mo_readsCondition_75 at hC
      rw [h.here, Option.bind_some, if_neg n33] at hC
      by_cases o6 : o < 6
      · obtain ⟨a1, a2, a3, a4, a5⟩ := h.opened pn o6 13
        rw [a1, Option.bind_some, if_neg i10, nI_1] at hA
        rw [show f_Mo_opens T 13 = some (1, opM T p w o 13) from a2, Option.bind_some, if_neg i10] at hC
        have v := hCd o6 _ _ (p + 1) s z (w + 1) g F a3 (by omega) (by omega) (by omega) a5
        rw [show f_Mo_readsCondition_40 F (opM T p w o 13) = C from hC] at v
        rcases v with ⟨q, z', S', T', T3, c, nc, F', G, r1, r2, r3, r4, r5, r6, r7, r8, r9, r10, r11, r12, r13, r14⟩ | ⟨f, S', T', r1, r2, r3, r4, r5⟩
        · have hq := r10.hp
          obtain ⟨G, rfl⟩ : ∃ v, G = v + 1 := ⟨G - 1, by omega⟩
          rw [show f_Law_readCondition (FRT d) (1, sF S 3 1 (nI (p + 1))).2 (nI (o + 1)) = some S' from r4, Option.bind_some, x_needs r10.x] at hA
          rw [f_Mo_readsCondition_92, r8.here hq hn, Option.bind_some] at r5
          by_cases c41 : sg b n q = 41
          · have qn' : q < n := sg_lt (c := 41) (by omega) c41
            rw [if_pos c41, Option.bind_some] at hA
            obtain ⟨FF, hFF⟩ : ∃ F, FU = F + 3 := ⟨FU - 3, by omega⟩
            have hld : f_Mo_lands T' 1 = some T3 := by unfold f_Mo_lands; rw [hFF]; exact r9 FF
            obtain ⟨l1, l2⟩ := r10.pop (w' := w) (by omega)
            have l1' : LST n b S' (sF (sF T3 0 14 (nI w)) 0 12 (nI o)) q s z' w o := by
              obtain ⟨h1, h2, h3, h4, h5, h6, h7, h8⟩ := l1
              exact ⟨h1, h2.set (by omega), h3, by rw [sF_ne (by omega)]; exact h4, by rw [sF_ne (by omega)]; exact h5, sF_at, h7, h8⟩
            have l2' : belo S' T3 S' (sF (sF T3 0 14 (nI w)) 0 12 (nI o)) s z' w := ⟨fun _ _ => ⟨rfl, rfl⟩, fun i _ => by rw [sF_ne (by omega), sF_ne (by omega)], fun i _ => by rw [sF_ne (by omega), sF_ne (by omega)], frX.refl S', ((frM.refl T3).set (by omega)).set (by omega)⟩
            obtain ⟨m1, m2⟩ := l1'.on qn'
            have e14 : T3 0 14 - 1 = nI w := by rw [r10.2.2.2.2.1]; exact pk_sub (a := w + 1) (b := 1) (by omega)
            have e12 : ∀ v, sF T3 0 14 v 0 12 - 1 = nI o := fun v => by rw [sF_ne (by omega), r10.2.2.2.2.2.1]; exact pk_sub (a := o + 1) (b := 1) (by omega)
            have e8 : ∀ v u, sF (sF T3 0 14 v) 0 12 u 0 8 + 1 = nI (q + 1) := fun v u => by rw [sF_ne (by omega), sF_ne (by omega), r10.m.2.2, nI_1]
            have ew : ¬ nI w = 0 := nI_ne0 (by omega) (by omega)
            rw [if_pos c41, hld, Option.bind_some, e14, Option.bind_some, e12, Option.bind_some, e8, Option.bind_some, m1.2.2.2.2.1, if_neg ew] at r5
            unfold f_Mo_endsPiece at r5
            exact Or.inl ⟨q + 1, z', _, _, c, nc, F', G, FU, by omega, r2, by omega, hA.symm, r5, by omega, by omega, by omega, m1, ((a4.trans r11 (Nat.le_refl _) (by omega)).trans l2' (by omega) (Nat.le_refl _)).trans m2 (by omega) (Nat.le_refl _), (l2'.trans m2 (Nat.le_refl _) (Nat.le_refl _)).gC (Nat.le_refl _) r12⟩
          · have f0 : ¬ (-1000) * nI 1 - nI q = 0 := fl_ne (by omega) (by omega) (by omega)
            rw [if_neg c41, Option.bind_some] at hA
            rw [if_neg c41, Option.bind_some, if_neg r13, Option.bind_some, if_neg r14, m_wrong, Option.bind_some, if_pos (Or.inl rfl), r8.2.2, show (1 : Int32) = nI 1 from rfl] at r5
            exact Or.inr ⟨(-1000) * nI 1 - nI q, sF S' 3 2 ((-1000) * nI 1 - nI q), sF T' 0 10 ((-1000) * nI 1 - nI q), hA.symm, r10.fm f0, (a4.2.2.2.1.trans r11.2.2.2.1).set (by omega), r5, sF_at⟩
        · rw [show f_Law_readCondition (FRT d) (1, sF S 3 1 (nI (p + 1))).2 (nI (o + 1)) = some S' from r1, Option.bind_some, fm_needs r2, Option.bind_some] at hA
          exact Or.inr ⟨f, S', T', hA.symm, r2, a4.2.2.2.1.trans r3, r4, r5⟩
      · have o6' : o = 6 := by omega
        subst o6'
        obtain ⟨a1, a2, a3⟩ := h.closed6 13
        rw [a1, Option.bind_some, if_pos rfl] at hA
        rw [a2, Option.bind_some, if_pos rfl] at hC
        exact Or.inr ⟨(-1000) * nI 5 - nI p, sF S 3 2 ((-1000) * nI 5 - nI p), sF T 0 10 ((-1000) * nI 5 - nI p), hA.symm, h.fm a3, (frX.refl S).set (by omega), hC.symm, sF_at⟩
    · exact pt_cmp ho _ _ h hz hF hN n33 n40
end CO
