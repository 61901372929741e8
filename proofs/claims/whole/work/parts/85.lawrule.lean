/-! RULES -/
section RU
variable {n : Nat} {b : Nat → Nat} {S T : St} {p s z w o : Nat}
theorem LST.reset (h : LST n b S T p s z w o) : LST n b S (sF (sF T 0 12 0) 0 14 0) p s z 0 0 ∧ belo S T S (sF (sF T 0 12 0) 0 14 0) s z w := by
  obtain ⟨h1, h2, h3, h4, h5, h6, h7, h8⟩ := h
  exact ⟨⟨h1, (h2.set (by omega)).set (by omega), h3, by rw [sF_ne (by omega), sF_ne (by omega)]; exact h4, sF_at, by rw [sF_ne (by omega), sF_at]; rfl, by omega, h8⟩, ⟨fun _ _ => ⟨rfl, rfl⟩, fun i _ => by rw [sF_ne (by omega), sF_ne (by omega)], fun i _ => by rw [sF_ne (by omega), sF_ne (by omega)], frX.refl S, ((frM.refl T).set (by omega)).set (by omega)⟩⟩
/-- a condition in its brackets -/
theorem rd_cond (h : LST n b S T p s z w o) : (∃ q z' S' T' c nc, p < q ∧ z < z' ∧ z' + s ≤ q ∧ ((f_Reading_needs S 40).bind fun w_166 => (F_Law_readCondition w_166 1).bind fun w_171 => f_Reading_needs w_171 41) = some S' ∧ f_Mo_readsCondition T = some (1, T') ∧ LST n b S' T' q s z' 0 0 ∧ belo S T S' T' s z 0 ∧ sgC (S' 33) (S' 34) (T' 7) s nc c z z') ∨ (∃ f S' T', ((f_Reading_needs S 40).bind fun w_166 => (F_Law_readCondition w_166 1).bind fun w_171 => f_Reading_needs w_171 41) = some S' ∧ FM f S' ∧ frX S S' ∧ f_Mo_readsCondition T = some (0, T') ∧ T' 0 10 = f) := by
  have hn := h.hn
  have hp := h.hp
  have hz := h.2.2.2.2.2.2.2
  have hFU : 300 < FU := FU_gt (by omega)
  obtain ⟨A, hA⟩ : ∃ A, ((f_Reading_needs S 40).bind fun w_166 => (F_Law_readCondition w_166 1).bind fun w_171 => f_Reading_needs w_171 41) = A := ⟨_, rfl⟩
  obtain ⟨C, hC⟩ : ∃ C, f_Mo_readsCondition T = C := ⟨_, rfl⟩
  rw [hA, hC]
  unfold f_Mo_readsCondition at hC
  rw [x_needs h.x] at hA
  rw [h.here, Option.bind_some] at hC
  have fmc : ∀ (f : Int32) (S1 : St), FM f S1 → ∃ S2, ((F_Law_readCondition S1 1).bind fun w_171 => f_Reading_needs w_171 41) = some S2 ∧ FM f S2 ∧ frX S1 S2 := fun f S1 h1 => by
    obtain ⟨S2, a1, a2, a3⟩ := fm_cond (fm_FRT 9 (by omega)) f S1 1 h1
    exact ⟨S2, by rw [show F_Law_readCondition S1 1 = some S2 from a1, Option.bind_some, fm_needs a2], a2, a3⟩
  by_cases c40 : sg b n p = 40
  · have pn : p < n := sg_lt (c := 40) (by omega) c40
    obtain ⟨u1, u2⟩ := h.reset
    obtain ⟨a1, a2, a3, a4, a5⟩ := u1.opened pn (by omega) 13
    rw [if_pos c40, Option.bind_some] at hA
    rw [if_pos c40, Option.bind_some, Option.bind_some, show f_Mo_opens (sF (sF T 0 12 0) 0 14 0) 13 = some (1, opM (sF (sF T 0 12 0) 0 14 0) p 0 0 13) from a2, Option.bind_some, if_neg i10] at hC
    have v := pc_all _ _ (p + 1) s z 1 0 FU a3 (by omega) (by omega) (by omega) a5
    rw [show f_Mo_readsCondition_40 FU (opM (sF (sF T 0 12 0) 0 14 0) p 0 0 13) = C from hC] at v
    have b0 : belo S T (sF S 3 1 (nI (p + 1))) (opM (sF (sF T 0 12 0) 0 14 0) p 0 0 13) s z 0 := (u2.le (Nat.le_refl _) (Nat.zero_le _)).trans a4 (Nat.le_refl _) (Nat.le_refl _)
    rcases v with ⟨q, z', S', T', T3, c, nc, F', G, r1, r2, r3, r4, r5, r6, r7, r8, r9, r10, r11, r12, r13, r14⟩ | ⟨f, S', T', r1, r2, r3, r4, r5⟩
    · have hq := r10.hp
      obtain ⟨G, rfl⟩ : ∃ v, G = v + 1 := ⟨G - 1, by omega⟩
      rw [show F_Law_readCondition (sF S 3 1 (nI (p + 1))) 1 = some S' from r4, Option.bind_some, x_needs r10.x] at hA
      rw [f_Mo_readsCondition_92, r8.here hq hn, Option.bind_some] at r5
      by_cases c41 : sg b n q = 41
      · have qn' : q < n := sg_lt (c := 41) (by omega) c41
        rw [if_pos c41] at hA
        obtain ⟨FF, hFF⟩ : ∃ F, FU = F + 3 := ⟨FU - 3, by omega⟩
        have hld : f_Mo_lands T' 1 = some T3 := by unfold f_Mo_lands; rw [hFF]; exact r9 FF
        obtain ⟨l1, l2⟩ := r10.pop (w' := 0) (by omega)
        have l1' : LST n b S' (sF (sF T3 0 14 (nI 0)) 0 12 (nI 0)) q s z' 0 0 := by
          obtain ⟨h1, h2, h3, h4, h5, h6, h7, h8⟩ := l1
          exact ⟨h1, h2.set (by omega), h3, by rw [sF_ne (by omega)]; exact h4, by rw [sF_ne (by omega)]; exact h5, sF_at, h7, h8⟩
        have l2' : belo S' T3 S' (sF (sF T3 0 14 (nI 0)) 0 12 (nI 0)) s z' 0 := ⟨fun _ _ => ⟨rfl, rfl⟩, fun i _ => by rw [sF_ne (by omega), sF_ne (by omega)], fun i _ => by rw [sF_ne (by omega), sF_ne (by omega)], frX.refl S', ((frM.refl T3).set (by omega)).set (by omega)⟩
        obtain ⟨m1, m2⟩ := l1'.on qn'
        have e14 : T3 0 14 - 1 = nI 0 := by rw [r10.2.2.2.2.1]; exact pk_sub (a := 1) (b := 1) (by omega)
        have e12 : ∀ v, sF T3 0 14 v 0 12 - 1 = nI 0 := fun v => by rw [sF_ne (by omega), r10.2.2.2.2.2.1]; exact pk_sub (a := 1) (b := 1) (by omega)
        have e8 : ∀ v u, sF (sF T3 0 14 v) 0 12 u 0 8 + 1 = nI (q + 1) := fun v u => by rw [sF_ne (by omega), sF_ne (by omega), r10.m.2.2, nI_1]
        rw [if_pos c41, hld, Option.bind_some, e14, Option.bind_some, e12, Option.bind_some, e8, Option.bind_some, m1.2.2.2.2.1, if_pos (show nI 0 = 0 from rfl)] at r5
        exact Or.inl ⟨q + 1, z', _, _, c, nc, by omega, r2, by omega, hA.symm, r5, m1, ((b0.trans r11 (Nat.le_refl _) (by omega)).trans l2' (by omega) (Nat.le_refl _)).trans m2 (by omega) (Nat.le_refl _), (l2'.trans m2 (Nat.le_refl _) (Nat.le_refl _)).gC (Nat.le_refl _) r12⟩
      · have f0 : ¬ (-1000) * nI 1 - nI q = 0 := fl_ne (by omega) (by omega) (by omega)
        rw [if_neg c41] at hA
        rw [if_neg c41, Option.bind_some, if_neg r13, Option.bind_some, if_neg r14, m_wrong, Option.bind_some, if_pos (Or.inl rfl), r8.2.2, show (1 : Int32) = nI 1 from rfl] at r5
        exact Or.inr ⟨(-1000) * nI 1 - nI q, sF S' 3 2 ((-1000) * nI 1 - nI q), sF T' 0 10 ((-1000) * nI 1 - nI q), hA.symm, r10.fm f0, (b0.2.2.2.1.trans r11.2.2.2.1).set (by omega), r5, sF_at⟩
    · rw [show F_Law_readCondition (sF S 3 1 (nI (p + 1))) 1 = some S' from r1, Option.bind_some, fm_needs r2] at hA
      exact Or.inr ⟨f, S', T', hA.symm, r2, b0.2.2.2.1.trans r3, r4, r5⟩
  · have f0 : ¬ (-1000) * nI 1 - nI p = 0 := fl_ne (by omega) (by omega) (by omega)
    rw [if_neg c40, Option.bind_some] at hA
    rw [if_neg c40, m_wrong, Option.bind_some, if_pos (Or.inl rfl), h.m.2.2, show (1 : Int32) = nI 1 from rfl] at hC
    obtain ⟨S2, a1, a2, a3⟩ := fmc _ _ (h.fm f0)
    rw [a1] at hA
    exact Or.inr ⟨(-1000) * nI 1 - nI p, S2, sF T 0 10 ((-1000) * nI 1 - nI p), hA.symm, a2, ((frX.refl S).set (by omega)).trans a3, hC.symm, sF_at⟩
def RuleB (lt va ho en st de ml mf mh mt cd : Nat → Int32) (Z ZX r : Nat) : Prop := ∃ L s m1 m2 m3 p1 e c, (L = 100 ∨ L = 98 ∨ L = 120) ∧ lt r = nI L ∧ ml r = nI L ∧ va r = nI p1 ∧ ho r = nI (m2 + s) ∧ en r = nI (m3 + s) ∧ mf r = nI m1 ∧ mh r = nI m2 ∧ mt r = nI m3 ∧ m3 ≤ Z ∧ m3 + s ≤ ZX ∧ (∃ nc, sgC st de cd s nc c m2 m3) ∧ ((L ≠ 120 ∧ p1 = m1 + s ∧ ∃ nv, sgV st de cd s nv 64 e m1 m2) ∨ (L = 120 ∧ p1 + 1 = m2 + s ∧ st p1 = 0 ∧ de p1 = 1 ∧ e = fun _ => some 1))
theorem RuleB.cong {lt va ho en st de ml mf mh mt cd lt' va' ho' en' st' de' ml' mf' mh' mt' cd' : Nat → Int32} {Z ZX Z' ZX' r : Nat} (h : RuleB lt va ho en st de ml mf mh mt cd Z ZX r) (h1 : lt' r = lt r) (h2 : va' r = va r) (h3 : ho' r = ho r) (h4 : en' r = en r) (h5 : ml' r = ml r) (h6 : mf' r = mf r) (h7 : mh' r = mh r) (h8 : mt' r = mt r) (hx : ∀ i, i < ZX → st' i = st i ∧ de' i = de i) (hm : ∀ i, i < Z → cd' i = cd i) (hZ : Z ≤ Z') (hZX : ZX ≤ ZX') : RuleB lt' va' ho' en' st' de' ml' mf' mh' mt' cd' Z' ZX' r := by
  obtain ⟨L, s, m1, m2, m3, p1, e, c, q1, q2, q3, q4, q5, q6, q7, q8, q9, q10, q11, ⟨nc, q12⟩, q13⟩ := h
  have lc := sgC_lt _ _ _ _ q12
  refine ⟨L, s, m1, m2, m3, p1, e, c, q1, by rw [h1]; exact q2, by rw [h5]; exact q3, by rw [h2]; exact q4, by rw [h3]; exact q5, by rw [h4]; exact q6, by rw [h6]; exact q7, by rw [h7]; exact q8, by rw [h8]; exact q9, by omega, by omega, ⟨nc, sgC_congr _ _ _ _ (fun i a b => ⟨(hx (i + s) (by omega)).1, (hx (i + s) (by omega)).2, hm i (by omega)⟩) q12⟩, ?_⟩
  rcases q13 with ⟨a1, a2, nv, a3⟩ | ⟨a1, a2, a3, a4, a5⟩
  · have lv := sgV_lt _ _ _ _ _ a3
    exact Or.inl ⟨a1, a2, nv, sgV_congr _ _ _ _ _ (fun i a b => ⟨(hx (i + s) (by omega)).1, (hx (i + s) (by omega)).2, hm i (by omega)⟩) a3⟩
  · exact Or.inr ⟨a1, a2, by rw [(hx p1 (by omega)).1]; exact a3, by rw [(hx p1 (by omega)).2]; exact a4, a5⟩
theorem RuleB.g {lt va ho en st de ml mf mh mt cd : Nat → Int32} {Z ZX r : Nat} (h : RuleB lt va ho en st de ml mf mh mt cd Z ZX r) (hX : ZX ≤ 240) : RuleG lt va ho en st de ml mf mh mt cd r := by
  obtain ⟨L, s, m1, m2, m3, p1, e, c, q1, q2, q3, q4, q5, q6, q7, q8, q9, q10, q11, q12, q13⟩ := h
  exact ⟨L, s, m1, m2, m3, p1, e, c, q1, q2, q3, q4, q5, q6, q7, q8, q9, by omega, q12, q13⟩
end RU
