/-! a value's loop -/
def cx (k : Nat) : Int32 := if k = 0 then 0 else nI (chr k)
def pc (k : Nat) : Nat := if k = 0 then 0 else 1
def PEND (T : St) (w0 sp pp w : Nat) : Prop := w = w0 + pc sp + pc pp ∧ (sp ≠ 0 → T 8 w0 = nI (1048576 * sp)) ∧ (pp ≠ 0 → T 8 (w0 + pc sp) = nI (1048576 * pp))
def CP (st de cd : Nat → Int32) (s z0 sp pp z o : Nat) : Prop := ∃ z1, (sp = 0 → z1 = z0) ∧ (sp ≠ 0 → ∃ a na, sgV st de cd s na (15 - 2 * o) a z0 z1) ∧ (pp = 0 → z = z1) ∧ (pp ≠ 0 → ∃ a na, sgV st de cd s na (14 - 2 * o) a z1 z)
theorem chr0 {k : Nat} : ¬ nI (chr k) = 0 := by
  unfold chr
  repeat (first | decide | split)
theorem cx0 : cx 0 = 0 := rfl
theorem cx1 {k : Nat} (h : k ≠ 0) : cx k = nI (chr k) ∧ ¬ cx k = 0 := by
  unfold cx
  rw [if_neg h]
  exact ⟨rfl, chr0⟩
section VL
variable {n : Nat} {b : Nat → Nat} {S T : St} {p s z w o : Nat}
theorem x39_times {rf : St → Int32 → Option St} {k : St → Int32 → Int32 → Int32 → Int32 → Int32 → Option St} (h : XD S n b p) {op : Nat} (h1 : 4 ≤ op) (h2 : op ≤ 6) (hs : sg b n p = nI (chr op)) (l1 l2 : Int32) (i : Nat) : f_Law_readValue_39 rf k S l1 l2 (nI i) = k (sF S 3 1 (nI (p + 1))) l1 l2 (nI (chr op)) 1 (nI (i + 1)) := by
  have e147 : ∀ l3, f_Law_readValue_147 rf k S l1 l2 l3 (nI i) (nI (chr op)) = k (sF S 3 1 (nI (p + 1))) l1 l2 l3 1 (nI (i + 1)) := fun l3 => by
    unfold f_Law_readValue_147 f_Law_readValue_164
    rw [x_takes h, if_pos hs, Option.bind_some, if_neg i10, Option.bind_some, nI_1]
  have e108 : ∀ l8, f_Law_readValue_108 rf k S l1 l2 (nI i) (nI (chr op)) 1 l8 (nI (chr op)) = k (sF S 3 1 (nI (p + 1))) l1 l2 (nI (chr op)) 1 (nI (i + 1)) := fun l8 => by
    unfold f_Law_readValue_108 f_Law_readValue_137
    rw [if_neg i10, if_neg i10, e147]
  have e74 : f_Law_readValue_74 rf k S l1 l2 (nI i) (nI (chr op)) 1 = k (sF S 3 1 (nI (p + 1))) l1 l2 (nI (chr op)) 1 (nI (i + 1)) := by
    unfold f_Law_readValue_74 f_Law_readValue_90 f_Law_readValue_95
    rw [if_neg i10, if_neg i10, e108, e108]
    by_cases c1 : nI (chr op) = 43
    · rw [if_pos c1]
    · rw [if_neg c1]
      by_cases c2 : nI (chr op) = 45
      · rw [if_pos c2]
      · rw [if_neg c2]
  unfold f_Law_readValue_39 f_Law_readValue_69
  rw [h.sign, Option.bind_some, hs, e74]
  have hh : op = 4 ∨ op = 5 ∨ op = 6 := by omega
  rcases hh with e | e | e
  · rw [if_pos (show nI (chr op) = 42 by rw [e]; rfl)]
  · rw [if_neg (show ¬ nI (chr op) = 42 by rw [e]; decide), if_pos (show nI (chr op) = 47 by rw [e]; rfl)]
  · rw [if_neg (show ¬ nI (chr op) = 42 by rw [e]; decide), if_neg (show ¬ nI (chr op) = 47 by rw [e]; decide), if_pos (show nI (chr op) = 37 by rw [e]; rfl)]
theorem x39_else {rf : St → Int32 → Option St} {k : St → Int32 → Int32 → Int32 → Int32 → Int32 → Option St} {S3 : St} {sp : Nat} (h : XD S n b p) (h3 : XD S3 n b p) (hadd : (sp = 0 ∧ S3 = S) ∨ (sp ≠ 0 ∧ ∃ v, f_Law_add S (nI (chr sp)) 0 = some (v, S3))) (hno : ∀ op, 4 ≤ op → op ≤ 6 → ¬ sg b n p = nI (chr op)) (l1 : Int32) (i : Nat) : f_Law_readValue_39 rf k S l1 (cx sp) (nI i) = if sg b n p = 43 ∨ sg b n p = 45 then k (sF S3 3 1 (nI (p + 1))) l1 (sg b n p) 0 1 (nI (i + 1)) else k S3 l1 0 0 0 (nI (i + 1)) := by
  have e125 : ∀ l8, f_Law_readValue_125 rf k S3 l1 0 (nI i) (sg b n p) 0 l8 = if l8 = 0 then k S3 l1 0 0 0 (nI (i + 1)) else k (sF S3 3 1 (nI (p + 1))) l1 (sg b n p) 0 1 (nI (i + 1)) := fun l8 => by
    unfold f_Law_readValue_125 f_Law_readValue_136 f_Law_readValue_137 f_Law_readValue_163 f_Law_readValue_147 f_Law_readValue_164 f_Law_readValue_163 f_Law_readValue_164
    by_cases c : l8 = 0
    · rw [if_pos c, if_pos rfl, if_pos c, if_pos c, Option.bind_some, nI_1]
    · rw [if_neg c, if_neg c, if_pos rfl, if_neg c, x_takes h3, if_pos rfl, Option.bind_some, if_neg i10, Option.bind_some, nI_1]
  have e95 : ∀ l8, f_Law_readValue_95 rf k S l1 (cx sp) (nI i) (sg b n p) 0 l8 = if l8 = 0 then k S3 l1 0 0 0 (nI (i + 1)) else k (sF S3 3 1 (nI (p + 1))) l1 (sg b n p) 0 1 (nI (i + 1)) := fun l8 => by
    unfold f_Law_readValue_95 f_Law_readValue_108
    rw [if_pos rfl, if_pos rfl]
    rcases hadd with ⟨c1, c2⟩ | ⟨c1, v, c2⟩
    · rw [c1, if_pos cx0, ← c2, e125]
    · rw [if_neg (cx1 c1).2, (cx1 c1).1, c2, Option.bind_some, e125]
  unfold f_Law_readValue_39
  rw [h.sign, Option.bind_some, if_neg (show ¬ sg b n p = 42 from hno 4 (by omega) (by omega)), if_neg (show ¬ sg b n p = 47 from hno 5 (by omega) (by omega)), if_neg (show ¬ sg b n p = 37 from hno 6 (by omega) (by omega))]
  unfold f_Law_readValue_74 f_Law_readValue_90
  rw [e95, e95, if_neg i10, if_pos rfl]
  by_cases c1 : sg b n p = 43
  · rw [if_pos c1, if_pos (Or.inl c1)]
  · rw [if_neg c1]
    by_cases c2 : sg b n p = 45
    · rw [if_pos c2, if_pos (Or.inr c2)]
    · rw [if_neg c2, if_neg (fun q => q.elim c1 c2)]
theorem fm_after {rf : St → Int32 → Option St} {S1 : St} {f : Int32} (h : FM f S1) {l1 : Int32} (hr : rf S l1 = some S1) (F : Nat) (l2 l3 : Int32) {i : Nat} (hi : i < 240) : ∃ S', f_Law_readValue_10 rf (F + 2) S l1 l2 l3 1 (nI i) = some S' ∧ FM f S' ∧ frX S1 S' := by
  have stop : ∀ S a b l, f_Law_readValue_10 rf (F + 1) S l1 a b 0 l = some S := fun S a b l => by
    rw [f_Law_readValue_10]
    by_cases c : (240 : Int32) ≤ l
    · rw [if_pos c]
    · rw [if_neg c, if_pos rfl]
  rw [f_Law_readValue_10, if_neg (show ¬ (240 : Int32) ≤ nI i from nle (b := 240) hi), if_neg i10, hr, Option.bind_some]
  by_cases c3 : l3 = 0
  · obtain ⟨S2, a, b, g1, g2, g3⟩ := fm_39 h rf (f_Law_readValue_10 rf (F + 1)) l1 l2 (nI i)
    exact ⟨S2, by rw [if_pos c3, g1, stop], g2, g3⟩
  · obtain ⟨v, S3, a1, a2, a3⟩ := fm_add h l3 0
    obtain ⟨S2, a, b, g1, g2, g3⟩ := fm_39 a2 rf (f_Law_readValue_10 rf (F + 1)) l1 l2 (nI i)
    exact ⟨S2, by rw [if_neg c3, a1, Option.bind_some, g1, stop], g2, a3.trans g3⟩
theorem pc0 : pc 0 = 0 := rfl
theorem pc1 {k : Nat} (h : k ≠ 0) : pc k = 1 := by unfold pc; rw [if_neg h]
theorem pcle (k : Nat) : pc k ≤ 1 := by unfold pc; split <;> omega
/-- what the reference does at a sign of a sum -/
theorem m14_op {F B op : Nat} {T2 : St} (hM : MD T n b p) (hp : p < n) (hn : n ≤ 240) (h1 : 2 ≤ op) (h2 : op ≤ 6) (hs : sg b n p = nI (chr op)) {w2 : Nat} (hw2 : w2 ≤ 250) (hcl : f_Mo_closesSums T (if 4 ≤ op then 0 else 1) = some T2) (h14 : T2 0 14 = nI w2) (h8 : T2 0 8 = nI p) : f_Mo_readsSum_14 (F + 1) T (nI B) = ML FU F (psM T2 p w2 op) B := by
  have c1 : (nI w2).toNatClampNeg = w2 := cl
  have e38 : ∀ s0 : Int32, f_Mo_closesSums T s0 = some T2 → f_Mo_readsSum_38 (f_Mo_readsSum_14 F) T (nI B) (nI op) s0 = ML FU F (psM T2 p w2 op) B := fun s0 hs0 => by
    unfold f_Mo_readsSum_38 ML psM f_Mo_readsFactor f_Mo_readsSum_163
    have e14 : ∀ v, sF T2 8 w2 v 0 14 = nI w2 := fun v => by rw [sF_ne (by omega)]; exact h14
    have e8 : ∀ v u, sF (sF T2 8 w2 v) 0 14 u 0 8 = nI p := fun v u => by rw [sF_ne (by omega), sF_ne (by omega)]; exact h8
    rw [hs0, Option.bind_some, h14, if_pos (gn (by omega) (by omega)), c1, Option.bind_some, e14, nI_1, Option.bind_some, e8, nI_1, Option.bind_some, show (1048576 : Int32) * nI op = nI (1048576 * op) from pk_mul 1048576 op]
  rw [f_Mo_readsSum_14, hM.here (by omega) hn, Option.bind_some, hs, m_sum h1 h2, Option.bind_some, if_neg (nI_m1 (by omega))]
  by_cases c : 4 ≤ op
  · rw [if_pos c] at hcl
    rw [if_pos (show (4 : Int32) ≤ nI op from yle (a := 4) c), e38 0 hcl]
  · rw [if_neg c] at hcl
    rw [if_neg (show ¬ (4 : Int32) ≤ nI op from nle (b := 4) (by omega)), e38 1 hcl]
theorem PVo.mono {X : Option St} {C : Option (Int32 × St)} {S1 T1 : St} {p1 z0 w0 g B : Nat} (h : PVo n b X C S1 T1 p1 s z0 w0 o g B) (hb : belo S T S1 T1 s z0 w0) (hp : p ≤ p1) : PVo n b X C S T p s z0 w0 o g B := by
  rcases h with ⟨q, z', S', T', T3, e, nv, F2', w', r1, r2, r3, r4, r5, r6, r7, r8, r9, r10, r11, r12, r13, r14, r15, r16, r17, r18⟩ | ⟨f, S', T', r1, r2, r3, r4, r5⟩
  · exact Or.inl ⟨q, z', S', T', T3, e, nv, F2', w', by omega, r2, r3, r4, r5, r6, r7, r8, r9, r10, r11, fun i hi => (r12 i hi).trans (hb.2.2.1 i hi), r13, r14, r15, hb.trans r16 (Nat.le_refl _) (Nat.le_refl _), r17, r18⟩
  · exact Or.inr ⟨f, S', T', r1, r2, hb.2.2.2.1.trans r3, r4, r5⟩
theorem pv10 {rf : St → Int32 → Option St} (hrf : PF n b rf o) (ho : o ≤ 6) : ∀ m S T p s z w w0 z0 sp pp g F F1 F2 B i, n - p = m → m + 3 ≤ F → LST n b S T p s z w o → PEND T w0 sp pp w → (sp = 0 ∨ (2 ≤ sp ∧ sp ≤ 3)) → (pp = 0 ∨ (4 ≤ pp ∧ pp ≤ 6)) → NT T w0 → STK T B w0 → B ≤ w0 → CP (S 33) (S 34) (T 7) s z0 sp pp z o → z0 ≤ z → z + s + g + pc sp + pc pp ≤ p → 2 * i ≤ p → 8 ≤ F1 + o → n < F2 + p + 1 → PVo n b (f_Law_readValue_10 rf F S (nI o) (cx sp) (cx pp) 1 (nI i)) (ML F1 F2 T B) S T p s z0 w0 o g B := by
  obtain ⟨FF, hFF⟩ : ∃ F, FU = F + 3 := ⟨FU - 3, by have := FU_gt (n := 5) (by omega); omega⟩
  have hFF' : 10 ≤ FF := by have := FU_gt (n := 20) (by omega); omega
  intro m
  induction m using Nat.strongRecOn with
  | _ m ih =>
    intro S T p s z w w0 z0 sp pp g F F1 F2 B i hm hF h hP hsp hpp hN hK hB hC hz0 hz hi hF1 hF2
    have hn := h.hn
    have hp := h.hp
    have hwp := h.2.2.2.2.2.2.1
    obtain ⟨hw, hP1, hP2⟩ := hP
    have hKw : STK T B w := fun j h1 h2 => by
      by_cases c : j < w0
      · exact hK j h1 c
      · have l1 := pcle sp
        have l2 := pcle pp
        by_cases c0 : j = w0
        · by_cases s0 : sp = 0
          · have p0 : pp ≠ 0 := fun e => by rw [s0, e, pc0] at hw; omega
            have e := hP2 p0
            rw [s0, pc0, Nat.add_zero] at e
            exact ⟨pp, Or.inl (by omega), by rw [c0]; exact e⟩
          · exact ⟨sp, Or.inl (by omega), by rw [c0]; exact hP1 s0⟩
        · have s0 : sp ≠ 0 := fun e => by rw [e, pc0] at hw; omega
          have p0 : pp ≠ 0 := fun e => by rw [e, pc0] at hw; omega
          have e := hP2 p0
          rw [pc1 s0] at e hw
          rw [pc1 p0] at hw
          exact ⟨pp, Or.inl (by omega), by rw [show j = w0 + 1 by omega]; exact e⟩
    have l1 := pcle sp
    have l2 := pcle pp
    rcases hrf S T p s z w (g + pc sp + pc pp) F1 F2 B h (by omega) hF1 hF2 (by omega) hKw with ⟨q, z3, S1, T1, c, nc, F2', r1, r2, r3, r4, r5, r6, r7, r8, r9⟩ | ⟨f, S1, T1, e1, e2, e3, e4, e5⟩
    · obtain ⟨F0, rfl⟩ : ∃ v, F = v + 1 := ⟨F - 1, by omega⟩
      have hq := r4.hp
      obtain ⟨K, hKd⟩ : ∃ K, f_Law_readValue_10 rf F0 = K := ⟨_, rfl⟩
      have eX : f_Law_readValue_10 rf (F0 + 1) S (nI o) (cx sp) (cx pp) 1 (nI i) = if cx pp = 0 then f_Law_readValue_39 rf K S1 (nI o) (cx sp) (nI i) else (f_Law_add S1 (cx pp) 0).bind fun w_35 => f_Law_readValue_39 rf K w_35.2 (nI o) (cx sp) (nI i) := by
        rw [f_Law_readValue_10, if_neg (show ¬ (240 : Int32) ≤ nI i from nle (b := 240) (by omega)), if_neg i10, r7, Option.bind_some, hKd]
      have t8 := r5.2.2.1
      have N1 : NT T1 w0 := hN.cong (fun j hj => t8 j (by omega))
      obtain ⟨z1, cp1, cp2, cp3, cp4⟩ := hC
      have hws : w0 + pc sp ≤ w := by omega
      have q1 : sp ≠ 0 → T1 8 w0 = nI (1048576 * sp) := fun e => by rw [t8 w0 (by rw [pc1 e] at hw; omega)]; exact hP1 e
      -- the product is closed
      obtain ⟨S2, T2, zc, ca, na, A1, A2, A3, A4, A5, A6, A7⟩ : ∃ S2 T2 zc ca na, zc = z3 + pc pp ∧ f_Law_readValue_10 rf (F0 + 1) S (nI o) (cx sp) (cx pp) 1 (nI i) = f_Law_readValue_39 rf K S2 (nI o) (cx sp) (nI i) ∧ LST n b S2 T2 q s zc (w0 + pc sp) o ∧ belo S1 T1 S2 T2 s z3 (w0 + pc sp) ∧ (∀ F, f_Mo_closesSums_0 (F + 2) T1 0 = some T2) ∧ (∀ F, ∃ F', f_Mo_closesSums_0 (F + 3) T1 1 = f_Mo_closesSums_0 (F' + 2) T2 1) ∧ sgV (S2 33) (S2 34) (T2 7) s na (14 - 2 * o) ca z1 zc := by
        have stop0 : ∀ (T2 : St) (F : Nat), T2 0 14 = nI (w0 + pc sp) → (∀ j, j < w0 + pc sp → T2 8 j = T1 8 j) → f_Mo_closesSums_0 (F + 1) T2 0 = some T2 := fun T2 F h14 h8 => by
          by_cases s0 : sp = 0
          · rw [s0, pc0, Nat.add_zero] at h14
            exact cl_stop h14 (by omega) (N1.cong (fun j hj => h8 j (by omega)))
          · rw [pc1 s0] at h14 h8
            exact cl_keep h14 (by omega) (by rw [h8 w0 (by omega)]; exact q1 s0) (by omega)
        by_cases p0 : pp = 0
        · have hw' : w = w0 + pc sp := by rw [p0, pc0] at hw; omega
          refine ⟨S1, T1, z3, c, nc, by rw [p0, pc0]; rfl, by rw [eX, p0, if_pos cx0], by rw [← hw']; exact r4, belo.refl _ _ _ _ _, fun F => stop0 T1 (F + 1) (by rw [← hw']; exact r4.2.2.2.2.1) (fun _ _ => rfl), fun F => ⟨F + 1, rfl⟩, ?_⟩
          have := sgV_mono _ _ _ _ _ r6 nc (14 - 2 * o) (Nat.le_refl _) (by omega)
          rw [cp3 p0] at this
          exact this
        · have pp1 := pc1 p0
          have hw' : w = w0 + pc sp + 1 := by omega
          obtain ⟨a1, a2, a3, a4, a5⟩ := r4.add (by omega) (nI (chr pp)) 0 (nI (1048576 * pp))
          obtain ⟨b1, b2⟩ := a1.pop hws
          have p46 : 4 ≤ pp ∧ pp ≤ 6 := hpp.resolve_left p0
          have h14 : T1 0 14 = nI (w0 + pc sp + 1) := by rw [← hw']; exact r4.2.2.2.2.1
          have h8 : T1 8 (w0 + pc sp) = nI (1048576 * pp) := by rw [t8 _ (by omega)]; exact hP2 p0
          have h13 := r4.2.2.2.1
          have bb := a2.trans b2 (by omega) (Nat.le_refl _)
          have e2 : sF (ntM T1 z3 (nI (1048576 * pp))) 0 14 (nI (w0 + pc sp)) = popM T1 z3 pp (w0 + pc sp) := rfl
          rw [e2] at b1 b2 bb
          obtain ⟨bv, nb, hbv⟩ := cp4 p0
          refine ⟨adX S1 (z3 + s) (nI (chr pp)) 0, popM T1 z3 pp (w0 + pc sp), z3 + 1, opV pp bv c, max nb nc + 1, by omega, ?_, b1, bb.le (Nat.le_refl _) hws, fun F => ?_, fun F => ⟨F, cl_pop h14 (by omega) h8 h13 (by omega) (Or.inl p46)⟩, ?_⟩
          · rw [eX, if_neg (cx1 p0).2, (cx1 p0).1, x_add r4.2.2.1 (by omega), Option.bind_some]
          · rw [cl_pop h14 (by omega) h8 h13 (by omega) (Or.inl p46)]
            exact stop0 _ F b1.2.2.2.2.1 (fun j hj => bb.2.2.1 j (by omega))
          · have v1 := (r5.trans bb (Nat.le_of_lt r2) (Nat.le_refl _)).gV (Nat.le_refl _) hbv
            have v2 := bb.gV (Nat.le_refl _) r6
            refine Or.inr (Or.inr ⟨pp, bv, c, z, z3, by omega, by omega, by omega, sgV_mono _ _ _ _ _ v1 _ _ (Nat.le_max_left _ _) (Nat.le_refl _), sgV_mono _ _ _ _ _ v2 _ _ (Nat.le_max_right _ _) (by omega), rfl, a3, ?_, rfl⟩)
            exact (b2.2.1 z3 (by omega)).trans a5
      have sumv : sp ≠ 0 → ∃ a na, sgV (S2 33) (S2 34) (T2 7) s na (15 - 2 * o) a z0 z1 ∧ z1 ≤ z := fun s0 => by
        obtain ⟨a, na', ha⟩ := cp2 s0
        have z1z : z1 ≤ z := by
          by_cases p0 : pp = 0
          · rw [cp3 p0]; exact Nat.le_refl _
          · obtain ⟨bv, nb, hbv⟩ := cp4 p0
            exact Nat.le_of_lt (sgV_lt _ _ _ _ _ hbv)
        exact ⟨a, na', ((r5.le (z := z) (w := 0) (Nat.le_refl _) (Nat.zero_le _)).trans (A4.le (z := z) (w := 0) (by omega) (Nat.zero_le _)) (Nat.le_refl _) (Nat.le_refl _)).gV z1z ha, z1z⟩
      -- the sum is closed
      obtain ⟨S3, T3, zs, e, ne, B1, B2, B3, B4, B5, B6⟩ : ∃ S3 T3 zs e ne, zs = zc + pc sp ∧ ((sp = 0 ∧ S3 = S2) ∨ (sp ≠ 0 ∧ ∃ v, f_Law_add S2 (nI (chr sp)) 0 = some (v, S3))) ∧ LST n b S3 T3 q s zs w0 o ∧ belo S2 T2 S3 T3 s zc w0 ∧ (∀ F, f_Mo_closesSums_0 (F + 2) T2 1 = some T3) ∧ sgV (S3 33) (S3 34) (T3 7) s ne (15 - 2 * o) e z0 zs := by
        have N2 : NT T2 w0 := N1.cong (fun j hj => A4.2.2.1 j (by omega))
        by_cases s0 : sp = 0
        · rw [s0, pc0, Nat.add_zero] at A3
          refine ⟨S2, T2, zc, ca, na, by rw [s0, pc0]; rfl, Or.inl ⟨s0, rfl⟩, A3, belo.refl _ _ _ _ _, fun F => cl_stop A3.2.2.2.2.1 (by omega) N2, ?_⟩
          have := sgV_mono _ _ _ _ _ A7 na (15 - 2 * o) (Nat.le_refl _) (by omega)
          rw [cp1 s0] at this
          exact this
        · have sp1 := pc1 s0
          rw [sp1] at A3 A4
          obtain ⟨a1, a2, a3, a4, a5⟩ := A3.add (by omega) (nI (chr sp)) 0 (nI (1048576 * sp))
          obtain ⟨b1, b2⟩ := a1.pop (w' := w0) (by omega)
          have bb := a2.trans b2 (by omega) (Nat.le_refl _)
          have e2 : sF (ntM T2 zc (nI (1048576 * sp))) 0 14 (nI w0) = popM T2 zc sp w0 := rfl
          rw [e2] at b1 b2 bb
          obtain ⟨av, nav, hav, zz⟩ := sumv s0
          have lc := sgV_lt _ _ _ _ _ A7
          have h8 : T2 8 w0 = nI (1048576 * sp) := by rw [A4.2.2.1 w0 (by omega)]; exact q1 s0
          refine ⟨adX S2 (zc + s) (nI (chr sp)) 0, popM T2 zc sp w0, zc + 1, opV sp av ca, max nav na + 1, by omega, Or.inr ⟨s0, _, x_add A3.2.2.1 (by omega) _ _⟩, b1, bb.le (Nat.le_refl _) (by omega), fun F => ?_, ?_⟩
          · rw [cl_pop A3.2.2.2.2.1 (by omega) h8 A3.2.2.2.1 (by omega) (Or.inr ⟨by omega, by omega, i10⟩)]
            exact cl_stop b1.2.2.2.2.1 (by omega) (N2.cong (fun j hj => bb.2.2.1 j (by omega)))
          · have v1 := bb.gV (by omega) hav
            have v2 := bb.gV (Nat.le_refl _) A7
            refine Or.inr (Or.inr ⟨sp, av, ca, z1, zc, by omega, by omega, by omega, sgV_mono _ _ _ _ _ v1 _ _ (Nat.le_max_left _ _) (Nat.le_refl _), sgV_mono _ _ _ _ _ v2 _ _ (Nat.le_max_right _ _) (by omega), rfl, a3, ?_, rfl⟩)
            exact (b2.2.1 zc (by omega)).trans a5
      have bel2 : belo S T S2 T2 s z0 w0 := (r5.le (z := z0) (w := w0) hz0 (by omega)).trans (A4.le (z := z3) (w := w0) (Nat.le_refl _) (by omega)) (by omega) (Nat.le_refl _)
      have bel3 : belo S T S3 T3 s z0 w0 := bel2.trans B4 (by omega) (Nat.le_refl _)
      by_cases ct : ∃ op, 4 ≤ op ∧ op ≤ 6 ∧ sg b n q = nI (chr op)
      · obtain ⟨op, o1, o2, o3⟩ := ct
        have qn : q < n := sg_lt (c := chr op) (by unfold chr; repeat (first | omega | split)) o3
        obtain ⟨F3, rfl⟩ : ∃ v, F2' = v + 1 := ⟨F2' - 1, by omega⟩
        obtain ⟨d1, d2, d3⟩ := A3.push qn op
        have op0 : op ≠ 0 := by omega
        rw [A2, x39_times A3.x o1 o2 o3, r8, m14_op r4.m qn hn (by omega) o2 o3 (w2 := w0 + pc sp) (by omega) (by rw [if_pos o1]; unfold f_Mo_closesSums; rw [hFF]; exact A5 (FF + 1)) A3.2.2.2.2.1 A3.m.2.2, ← (cx1 op0).1, ← hKd]
        refine (ih (n - (q + 1)) (by omega) _ _ (q + 1) s zc (w0 + pc sp + 1) w0 z0 sp op g F0 FU F3 B (i + 1) rfl (by omega) d1 ⟨by rw [pc1 op0], fun e => ?_, fun _ => d3⟩ hsp (Or.inr ⟨o1, o2⟩) ?_ ?_ hB ⟨z1, cp1, fun e => ?_, fun e => absurd e op0, fun _ => ⟨ca, na, d2.gV (Nat.le_refl _) A7⟩⟩ (by omega) (by rw [pc1 op0]; omega) (by omega) (by omega) (by omega)).mono (bel2.trans d2 (by omega) (by omega)) (by omega)
        · rw [d2.2.2.1 w0 (by rw [pc1 e]; omega), A4.2.2.1 w0 (by rw [pc1 e]; omega)]; exact q1 e
        · exact N1.cong (fun j hj => by rw [d2.2.2.1 j (by omega), A4.2.2.1 j (by omega)])
        · exact hK.cong (fun j hj => by rw [d2.2.2.1 j (by omega)]; exact bel2.2.2.1 j hj)
        · obtain ⟨a, na', ha, zz⟩ := sumv e
          exact ⟨a, na', d2.gV (by omega) ha⟩
      · have hno : ∀ op, 4 ≤ op → op ≤ 6 → ¬ sg b n q = nI (chr op) := fun op h1 h2 h3 => ct ⟨op, h1, h2, h3⟩
        have hcl1 : ∀ F, f_Mo_closesSums_0 (F + 3) T1 1 = some T3 := fun F => by
          obtain ⟨F', e⟩ := A6 F
          rw [e]; exact B5 F'
        rw [A2, x39_else A3.x B3.x B2 hno, r8]
        by_cases cp : sg b n q = 43 ∨ sg b n q = 45
        · obtain ⟨op, o1, o2, o3⟩ : ∃ op, 2 ≤ op ∧ op ≤ 3 ∧ sg b n q = nI (chr op) := by
            rcases cp with e | e
            · exact ⟨2, by omega, by omega, e⟩
            · exact ⟨3, by omega, by omega, e⟩
          have qn : q < n := sg_lt (c := chr op) (by unfold chr; repeat (first | omega | split)) o3
          obtain ⟨F3, rfl⟩ : ∃ v, F2' = v + 1 := ⟨F2' - 1, by omega⟩
          obtain ⟨d1, d2, d3⟩ := B3.push qn op
          have op0 : op ≠ 0 := by omega
          rw [if_pos cp, m14_op r4.m qn hn o1 (by omega) o3 (w2 := w0) (by omega) (by rw [if_neg (by omega)]; unfold f_Mo_closesSums; rw [hFF]; exact hcl1 FF) B3.2.2.2.2.1 B3.m.2.2, o3, ← (cx1 op0).1, ← cx0, ← hKd]
          refine (ih (n - (q + 1)) (by omega) _ _ (q + 1) s zs (w0 + 1) w0 z0 op 0 g F0 FU F3 B (i + 1) rfl (by omega) d1 ⟨by rw [pc1 op0, pc0], fun _ => d3, fun e => absurd rfl e⟩ (Or.inr ⟨o1, o2⟩) (Or.inl rfl) ?_ ?_ hB ⟨zs, fun e => absurd e op0, fun _ => ⟨e, ne, d2.gV (Nat.le_refl _) B6⟩, fun _ => rfl, fun e => absurd rfl e⟩ (by omega) (by rw [pc1 op0, pc0]; omega) (by omega) (by omega) (by omega)).mono (bel3.trans d2 (by omega) (by omega)) (by omega)
          · exact N1.cong (fun j hj => by rw [d2.2.2.1 j hj, B4.2.2.1 j hj, A4.2.2.1 j (by omega)])
          · exact hK.cong (fun j hj => by rw [d2.2.2.1 j hj]; exact bel3.2.2.1 j hj)
        · rw [if_neg cp]
          have eK : K S3 (nI o) 0 0 0 (nI (i + 1)) = some S3 := by
            rw [← hKd]
            obtain ⟨F1', rfl⟩ : ∃ v, F0 = v + 1 := ⟨F0 - 1, by omega⟩
            rw [f_Law_readValue_10, if_neg (show ¬ (240 : Int32) ≤ nI (i + 1) from nle (b := 240) (by omega)), if_pos rfl]
          refine Or.inl ⟨q, zs, S3, T1, T3, e, ne, F2', w, r1, by omega, by omega, eK, rfl, r9, r4.m, r4.2.2.2.2.1, by omega, by have := r4.2.2.2.2.2.2.1; omega, hKw.cong t8, fun j hj => t8 j (by omega), fun j h1 h2 => ?_, hcl1, B3, bel3, B6, fun op h1 h2 h3 => ?_⟩
          · rw [t8 j h2]
            by_cases c0 : j = w0
            · by_cases s0 : sp = 0
              · have p0 : pp ≠ 0 := fun e => by rw [s0, e, pc0] at hw; omega
                have e := hP2 p0
                rw [s0, pc0, Nat.add_zero] at e
                rw [c0, e]; exact nI_k _ (by omega) (by omega) (by omega)
              · rw [c0, hP1 s0]; exact nI_k _ (by omega) (by omega) (by omega)
            · have s0 : sp ≠ 0 := fun e => by rw [e, pc0] at hw; omega
              have p0 : pp ≠ 0 := fun e => by rw [e, pc0] at hw; omega
              have e := hP2 p0
              rw [pc1 s0] at e hw
              rw [pc1 p0] at hw
              rw [show j = w0 + 1 by omega, e]; exact nI_k _ (by omega) (by omega) (by omega)
          · by_cases o4 : 4 ≤ op
            · exact hno op o4 h2 h3
            · have hh : op = 2 ∨ op = 3 := by omega
              rcases hh with e | e
              · exact cp (Or.inl (by rw [h3, e]; rfl))
              · exact cp (Or.inr (by rw [h3, e]; rfl))
    · obtain ⟨F0, rfl⟩ : ∃ v, F = v + 2 := ⟨F - 2, by omega⟩
      obtain ⟨S', g1, g2, g3⟩ := fm_after e2 e1 F0 (cx sp) (cx pp) (i := i) (by omega)
      exact Or.inr ⟨f, S', T1, g1, g2, e3.trans g3, e4, e5⟩
theorem pv_top (ho : o ≤ 6) {d : Nat} (hrf : PF n b (f_Law_readFactor (FRV d)) o) : PVt n b (FRV (d + 1)) o := by
  obtain ⟨F0, hF0⟩ : ∃ F, FU = F := ⟨_, rfl⟩
  have hF0' : 300 < F0 := by rw [← hF0]; exact FU_gt (by omega)
  intro S T p s z w g F1 F2 B h hz hF1 hF2 hB hK hN
  have e : FRV (d + 1) S (nI o) = f_Law_readValue_10 (f_Law_readFactor (FRV d)) F0 S (nI o) (cx 0) (cx 0) 1 (nI 0) := by
    show f_Law_readValue (f_Law_readFactor (FRV d)) S (nI o) = _
    unfold f_Law_readValue
    rw [Option.bind_some, Option.bind_some, Option.bind_some, Option.bind_some, hF0]
    rfl
  rw [e]
  have hn := h.hn
  exact pv10 hrf ho (n - p) S T p s z w w z 0 0 g F0 F1 F2 B 0 rfl (by omega) h ⟨by rw [pc0]; omega, fun q => absurd rfl q, fun q => absurd rfl q⟩ (Or.inl rfl) (Or.inl rfl) hN hK hB ⟨z, fun _ => rfl, fun q => absurd rfl q, fun _ => rfl, fun q => absurd rfl q⟩ (Nat.le_refl _) (by rw [pc0]; omega) (by omega) hF1 hF2
theorem pf_all : ∀ d o, o ≤ 6 → 6 ≤ d + o → PF n b (f_Law_readFactor (FRV d)) o
  | 0, o, h1, h2 => pf_step h1 (Or.inr (by omega)) (fun h => by omega)
  | d + 1, o, h1, h2 => pf_step h1 (Or.inl (by omega)) (fun h => pv_top (by omega) (pf_all d (o + 1) (by omega) (by omega)))
/-- the class's values, at six open ones at most -/
theorem pv_all (ho : o ≤ 6) : PVt n b F_Law_readValue o := pv_top ho (pf_all 7 o ho (by omega))
end VL
