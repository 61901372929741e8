def pbn (t : Bool) : Nat := if t then 1 else 0
def PCD (T : St) (w0 : Nat) (tp tt : Bool) (zp zt w : Nat) : Prop := w = w0 + pbn tp + pbn tt ∧ (tp = true → T 8 w0 = nI (1048576 * 12 + zp)) ∧ (tt = true → T 8 (w0 + pbn tp) = nI (1048576 * 11 + zt))
def CCD (st de cd : Nat → Int32) (s z0 : Nat) (tp tt : Bool) (zp zt z : Nat) : Prop := ∃ z1, (tp = false → z1 = z0) ∧ (tp = true → z1 = zp + 1 ∧ st (zp + s) = 3 ∧ cd zp = nI (1048576 * 12) ∧ ∃ a na, sgC st de cd s na a z0 zp) ∧ (tt = false → z = z1) ∧ (tt = true → z = zt + 1 ∧ st (zt + s) = 4 ∧ cd zt = nI (1048576 * 11) ∧ ∃ a na, sgC st de cd s na a z1 zt)
def cxB (t : Bool) (z : Nat) : Int32 := if t then nI z else -1
section CO
variable {n : Nat} {b : Nat → Nat} {S T : St} {p s z w o : Nat}
theorem PCo.mono {X : Option St} {C : Option (Int32 × St)} {S1 T1 : St} {p1 z0 w0 g : Nat} (h : PCo n b X C S1 T1 p1 s z0 w0 o g) (hb : belo S T S1 T1 s z0 w0) (hp : p ≤ p1) : PCo n b X C S T p s z0 w0 o g := by
  rcases h with ⟨q, z', S', T', T3, c, nc, F', G, r1, r2, r3, r4, r5, r6, r7, r8, r9, r10, r11, r12, r13, r14⟩ | ⟨f, S', T', r1, r2, r3, r4, r5⟩
  · exact Or.inl ⟨q, z', S', T', T3, c, nc, F', G, by omega, r2, r3, r4, r5, r6, r7, r8, r9, r10, hb.trans r11 (Nat.le_refl _) (Nat.le_refl _), r12, r13, r14⟩
  · exact Or.inr ⟨f, S', T', r1, r2, hb.2.2.2.1.trans r3, r4, r5⟩
theorem fmc_after {kt : St → Int32 → Option St} {S1 : St} {f : Int32} (h : FM f S1) {l1 : Int32} (hr : kt S l1 = some S1) (F : Nat) (l2 l3 : Int32) {i : Nat} (hi : i < 240) : ∃ S', f_Law_readCondition_10 kt (F + 2) S l1 l2 l3 1 (nI i) = some S' ∧ FM f S' ∧ frX S1 S' := by
  obtain ⟨S2, e4, e5, e6⟩ := fm_land h l3
  obtain ⟨S3, e7, e8, e9⟩ := fm_land e5 l2
  have stop : ∀ S a b l, f_Law_readCondition_10 kt (F + 1) S l1 a b 0 l = some S := fun S a b l => by
    rw [f_Law_readCondition_10]
    by_cases c : (240 : Int32) ≤ l
    · rw [if_pos c]
    · rw [if_neg c, if_pos rfl]
  refine ⟨S3, ?_, e8, e6.trans e9⟩
  rw [f_Law_readCondition_10]
  unfold f_Law_readCondition_92
  rw [if_neg (show ¬ (240 : Int32) ≤ nI i from nle (b := 240) hi), if_neg i10, hr, Option.bind_some, e4, Option.bind_some, Option.bind_some, Option.bind_some, x_takes0 e5.n0, Option.bind_some, if_pos rfl, e7, Option.bind_some, Option.bind_some, x_takes0 e8.n0, Option.bind_some, if_pos rfl, Option.bind_some, stop]
theorem pbn1 : pbn true = 1 := rfl
theorem pbn0 : pbn false = 0 := rfl
theorem pbnle (t : Bool) : pbn t ≤ 1 := by cases t <;> decide
theorem pc10 {kt : St → Int32 → Option St} (hkt : PTt n b kt o) : ∀ m S T p s z w w0 z0 tp tt zp zt g F F1 i, n - p = m → m + 3 ≤ F → LST n b S T p s z w o → PCD T w0 tp tt zp zt w → 1 ≤ w0 → T 8 (w0 - 1) = nI (1048576 * 13) → CCD (S 33) (S 34) (T 7) s z0 tp tt zp zt z → z0 ≤ z → z + s + g ≤ p → 2 * i ≤ p → n < F1 + p → PCo n b (f_Law_readCondition_10 kt F S (nI o) (cxB tp (zp + s)) (cxB tt (zt + s)) 1 (nI i)) (f_Mo_readsCondition_40 F1 T) S T p s z0 w0 o g := by
  obtain ⟨FF, hFF⟩ : ∃ F, FU = F + 3 := ⟨FU - 3, by have := FU_gt (n := 5) (by omega); omega⟩
  intro m
  induction m using Nat.strongRecOn with
  | _ m ih =>
    intro S T p s z w w0 z0 tp tt zp zt g F F1 i hm hF h hP hw0 h13 hC hz0 hz hi hF1
    have hn := h.hn
    have hp := h.hp
    have hwp := h.2.2.2.2.2.2.1
    obtain ⟨hw, hP1, hP2⟩ := hP
    obtain ⟨z1, cp1, cp2, cp3, cp4⟩ := hC
    have l1 := pbnle tp
    have l2 := pbnle tt
    -- what stands on top
    have top : ∀ (tp tt : Bool) (w : Nat) (T1 : St), w = w0 + pbn tp + pbn tt → T1 8 (w0 - 1) = nI (1048576 * 13) → (tp = true → T1 8 w0 = nI (1048576 * 12 + zp)) → (tt = true → T1 8 (w0 + pbn tp) = nI (1048576 * 11 + zt)) → ∃ k a, ((tt = true ∧ k = 11 ∧ a = zt) ∨ (tt = false ∧ tp = true ∧ k = 12 ∧ a = zp) ∨ (tt = false ∧ tp = false ∧ k = 13 ∧ a = 0)) ∧ T1 8 (w - 1) = nI (1048576 * k + a) := fun tp tt w T1 hw a1 a2 a3 => by
      cases tt with
      | true =>
        rw [pbn1] at hw
        exact ⟨11, zt, Or.inl ⟨rfl, rfl, rfl⟩, by rw [show w - 1 = w0 + pbn tp by omega]; exact a3 rfl⟩
      | false =>
        rw [pbn0] at hw
        cases tp with
        | true =>
          rw [pbn1] at hw
          exact ⟨12, zp, Or.inr (Or.inl ⟨rfl, rfl, rfl, rfl⟩), by rw [show w - 1 = w0 by omega]; exact a2 rfl⟩
        | false =>
          rw [pbn0] at hw
          exact ⟨13, 0, Or.inr (Or.inr ⟨rfl, rfl, rfl, rfl⟩), by rw [show w - 1 = w0 - 1 by omega]; exact a1⟩
    -- pending places lie below
    have hzt : tt = true → zt < z ∧ z1 < zt + 1 := fun e => by
      obtain ⟨c1, -, -, a, na, c2⟩ := cp4 e
      have := sgC_lt _ _ _ _ c2
      omega
    have hz1 : z1 ≤ z := by
      cases e : tt with
      | false => rw [cp3 e]; exact Nat.le_refl _
      | true => have := hzt e; omega
    have hzp : tp = true → zp < z1 ∧ z0 ≤ zp := fun e => by
      obtain ⟨c1, -, -, a, na, c2⟩ := cp2 e
      have := sgC_lt _ _ _ _ c2
      omega
    have hTo := hkt S T p s z w g F1 h hz hF1 (by omega) (by
      obtain ⟨k, a, hk, e⟩ := top tp tt w T hw h13 hP1 hP2
      refine Or.inr ⟨k, a, ?_, ?_, ?_, e⟩
      · omega
      · omega
      · rcases hk with ⟨e1, e2, e3⟩ | ⟨e1, e2, e3, e4⟩ | ⟨e1, e2, e3, e4⟩
        · have := hzt e1; omega
        · have := hzp e2; omega
        · omega)
    rcases hTo with ⟨q, z3, S1, T1, c, nc, F', G, Fe, r1, r2, r3, r4, r5, r6, r7, r8, r9, r10, r11⟩ | ⟨f, S1, T1, e1, e2, e3, e4, e5⟩
    · have hq := r9.hp
      obtain ⟨F0, rfl⟩ : ∃ v, F = v + 1 := ⟨F - 1, by omega⟩
      obtain ⟨K, hKd⟩ : ∃ K, f_Law_readCondition_10 kt F0 = K := ⟨_, rfl⟩
      have t8 := r10.2.2.1
      have P13 : T1 8 (w0 - 1) = nI (1048576 * 13) := by rw [t8 _ (by omega)]; exact h13
      have P1 : tp = true → T1 8 w0 = nI (1048576 * 12 + zp) := fun e => by rw [t8 _ (by rw [e, pbn1] at hw; omega)]; exact hP1 e
      have P2 : tt = true → T1 8 (w0 + pbn tp) = nI (1048576 * 11 + zt) := fun e => by rw [t8 _ (by rw [e, pbn1] at hw; omega)]; exact hP2 e
      -- nothing is taken back here
      have eP : f_Mo_endsPiece_0 Fe T1 = some T1 := by
        obtain ⟨Fe, rfl⟩ : ∃ v, Fe = v + 1 := ⟨Fe - 1, by omega⟩
        obtain ⟨k, a, hk, e⟩ := top tp tt w T1 hw P13 P1 P2
        refine ep_stop r9.2.2.2.2.1 (by omega) (Or.inr ⟨k, a, by omega, by omega, ?_, e⟩)
        rcases hk with ⟨e1, e2, e3⟩ | ⟨e1, e2, e3, e4⟩ | ⟨e1, e2, e3, e4⟩
        · have := hzt e1; omega
        · have := hzp e2; omega
        · omega
      rw [eP, Option.bind_some] at r5
      have bz : belo S T S1 T1 s z0 w0 := r10.le hz0 (by omega)
      -- the test lands
      obtain ⟨S2, T2, cc, ncc, A1, A2, A3, A4, A5, A6, A7⟩ : ∃ S2 T2 cc ncc, f_Law_land S1 (cxB tt (zt + s)) = some S2 ∧ LST n b S2 T2 q s z3 (w0 + pbn tp) o ∧ belo S1 T1 S2 T2 s z1 (w0 + pbn tp) ∧ (∀ F, f_Mo_lands_0 (F + 2) T1 0 = some T2) ∧ (∀ F, ∃ F', f_Mo_lands_0 (F + 3) T1 1 = f_Mo_lands_0 (F' + 2) T2 1) ∧ sgC (S2 33) (S2 34) (T2 7) s ncc cc z1 z3 ∧ (∀ i, T2 8 i = T1 8 i) := by
        have stop0 : ∀ (T2 : St) (F : Nat), T2 0 14 = nI (w0 + pbn tp) → (∀ i, T2 8 i = T1 8 i) → f_Mo_lands_0 (F + 1) T2 0 = some T2 := fun T2 F h14 h8 => by
          cases e : tp with
          | true =>
            have := hzp e
            rw [e, pbn1] at h14
            exact ld_stop h14 (by omega) (by omega) (k := 12) (a := zp) (by omega) (by omega) (by rw [h8, show w0 + 1 - 1 = w0 by omega]; exact P1 e) (by omega) (Or.inl rfl)
          | false =>
            rw [e, pbn0] at h14
            exact ld_stop h14 (by omega) (by omega) (k := 13) (a := 0) (by omega) (by omega) (by rw [h8]; exact P13) (by omega) (Or.inl rfl)
        cases e : tt with
        | false =>
          have hw' : w = w0 + pbn tp := by rw [e, pbn0] at hw; omega
          refine ⟨S1, T1, c, nc, x_land0, by rw [← hw']; exact r9, belo.refl _ _ _ _ _, fun F => stop0 T1 (F + 1) (by rw [← hw']; exact r9.2.2.2.2.1) (fun _ => rfl), fun F => ⟨F + 1, rfl⟩, ?_, fun _ => rfl⟩
          rw [← cp3 e]; exact r11
        | true =>
          have hw' : w = w0 + pbn tp + 1 := by rw [e, pbn1] at hw; omega
          obtain ⟨c1, c2, c3, a, na, c4⟩ := cp4 e
          have zz := hzt e
          rw [hw'] at r9
          obtain ⟨d1, d2, d3, d4, d5, d6, d7⟩ := r9.land (zt := zt) (by omega) 11
          have t7 : T1 7 zt = nI (1048576 * 11) := by rw [r10.2.1 zt (by omega)]; exact c3
          have pop : ∀ F l, f_Mo_lands_0 (F + 1) T1 l = f_Mo_lands_0 F (ldM T1 zt 11 z3 (w0 + pbn tp)) l := fun F l => ld_pop r9.2.2.2.2.1 (by omega) (Or.inl rfl) (by omega) (P2 e) t7 r9.2.2.2.1 (by omega)
          refine ⟨_, _, jmpC false a c, max na nc + 1, x_land r9.2.2.1 (by omega) (by omega), d1, d2.le (by omega) (Nat.le_refl _), fun F => ?_, fun F => ⟨F, pop (F + 2) 1⟩, Or.inr (Or.inr ⟨false, a, c, zt, ?_, ?_, ?_, d5, d6, rfl⟩), d7⟩
          · rw [pop (F + 1) 0]
            exact stop0 _ F d1.2.2.2.2.1 d7
          · refine sgC_mono _ _ _ _ (sgC_congr na a z1 zt (fun i _ hi => ⟨d4 _, (d3 i (by omega)).1, (d3 i (by omega)).2⟩) ?_) _ (Nat.le_max_left _ _)
            exact r10.gC (by omega) c4
          · refine sgC_mono _ _ _ _ (sgC_congr nc c (zt + 1) z3 (fun i h1 hi => ⟨d4 _, (d3 i (by omega)).1, (d3 i (by omega)).2⟩) ?_) _ (Nat.le_max_right _ _)
            rw [← c1]; exact r11
          · rw [d4, (r10.1 (zt + s) (by omega)).1]; exact c2
      have bz2 : belo S T S2 T2 s z0 w0 := bz.trans (A3.le (z := z0) (w := w0) (by
        cases e : tp with
        | true => have := hzp e; omega
        | false => rw [cp1 e]; exact Nat.le_refl _) (by omega)) (Nat.le_refl _) (Nat.le_refl _)
      have zc3 := sgC_lt _ _ _ _ A6
      -- the first part, if there is one, still stands
      have part : tp = true → z1 = zp + 1 ∧ S2 33 (zp + s) = 3 ∧ T2 7 zp = nI (1048576 * 12) ∧ ∃ a na, sgC (S2 33) (S2 34) (T2 7) s na a z0 zp := fun e => by
        obtain ⟨c1, c2, c3, a, na, c4⟩ := cp2 e
        have hh := hzp e
        refine ⟨c1, ?_, ?_, a, na, A3.gC (by omega) (r10.gC (by omega) c4)⟩
        · rw [(A3.1 (zp + s) (by omega)).1, (r10.1 (zp + s) (by omega)).1]; exact c2
        · rw [A3.2.1 zp (by omega), r10.2.1 zp (by omega)]; exact c3
      have eX0 : f_Law_readCondition_10 kt (F0 + 1) S (nI o) (cxB tp (zp + s)) (cxB tt (zt + s)) 1 (nI i) = if sg b n q = 38 then ((f_Law_add (sF S2 3 1 (nI (q + 1))) 4 0).bind fun w_53 => K w_53.2 (nI o) (cxB tp (zp + s)) w_53.1 1 (nI (i + 1))) else ((f_Law_land S2 (cxB tp (zp + s))).bind fun w_65 => (f_Reading_takes w_65 124).bind fun w_76 => if w_76.1 = 0 then K w_76.2 (nI o) (-1) (-1) 0 (nI (i + 1)) else (f_Law_add w_76.2 3 0).bind fun w_85 => K w_85.2 (nI o) w_85.1 (-1) 1 (nI (i + 1))) := by
        rw [f_Law_readCondition_10, if_neg (show ¬ (240 : Int32) ≤ nI i from nle (b := 240) (by omega)), if_neg i10, r4, Option.bind_some, A1, Option.bind_some, Option.bind_some, Option.bind_some, x_takes A2.x, hKd]
        unfold f_Law_readCondition_92
        by_cases c : sg b n q = 38
        · rw [if_pos c, if_pos c, Option.bind_some, if_neg i10]
          simp only [Option.bind_some, nI_1]
        · rw [if_neg c, if_neg c, Option.bind_some, if_pos rfl]
          simp only [Option.bind_some, nI_1]
      have tpS : T2 8 (w0 - 1) = nI (1048576 * 13) := by rw [A7]; exact P13
      by_cases c38 : sg b n q = 38
      · have qn : q < n := sg_lt (c := 38) (by omega) c38
        obtain ⟨G, rfl⟩ : ∃ v, G = v + 1 := ⟨G - 1, by omega⟩
        obtain ⟨j1, j2, j3, j4, j5, j6, j7⟩ := A2.jump qn 11 4
        have hld : f_Mo_lands T1 0 = some T2 := by unfold f_Mo_lands; rw [hFF]; exact A4 (FF + 1)
        have eM : f_Mo_readsCondition_92 (f_Mo_readsCondition_40 F') (G + 1) T1 = f_Mo_readsCondition_40 F' (jmM T2 q (w0 + pbn tp) z3 11) := by
          rw [f_Mo_readsCondition_92, r9.here, Option.bind_some, if_neg (show ¬ sg b n q = 41 by rw [c38]; decide), Option.bind_some, if_pos c38]
          unfold f_Mo_readsCondition_180 f_Mo_readsCondition_195 f_Mo_readsCondition_215
          rw [r9.here, Option.bind_some, if_neg (show ¬ sg b n q = 124 by rw [c38]; decide), hld, Option.bind_some, A2.here, Option.bind_some, if_pos c38, show f_Mo_jumps T2 11 = some (jmM T2 q (w0 + pbn tp) z3 11) from j2, Option.bind_some]
        rw [eX0, if_pos c38, j1, Option.bind_some, r5, eM, ← hKd]
        refine (ih (n - (q + 1)) (by omega) _ _ (q + 1) s (z3 + 1) (w0 + pbn tp + 1) w0 z0 tp true zp z3 g F0 F' (i + 1) rfl (by omega) j3 ⟨by rw [pbn1], fun e => ?_, fun _ => j7⟩ hw0 ?_ ⟨z1, cp1, fun e => ?_, fun e => Bool.noConfusion e, fun _ => ⟨rfl, j5, j6, cc, ncc, j4.gC (Nat.le_refl _) A6⟩⟩ (by omega) (by omega) (by omega) (by omega)).mono (bz2.trans j4 (by omega) (by omega)) (by omega)
        · rw [j4.2.2.1 w0 (by rw [e, pbn1]; omega), A7]; exact P1 e
        · rw [j4.2.2.1 _ (by omega)]; exact tpS
        · obtain ⟨c1, c2, c3, a, na, c4⟩ := part e
          have hh := hzp e
          exact ⟨c1, by rw [(j4.1 (zp + s) (by omega)).1]; exact c2, by rw [j4.2.1 zp (by omega)]; exact c3, a, na, j4.gC (by omega) c4⟩
      · -- the part lands
        obtain ⟨S3, T3, ce, nce, B1, B2, B3, B4, B5, B6⟩ : ∃ S3 T3 ce nce, f_Law_land S2 (cxB tp (zp + s)) = some S3 ∧ LST n b S3 T3 q s z3 w0 o ∧ belo S2 T2 S3 T3 s z0 w0 ∧ (∀ F, f_Mo_lands_0 (F + 2) T2 1 = some T3) ∧ sgC (S3 33) (S3 34) (T3 7) s nce ce z0 z3 ∧ (∀ i, T3 8 i = T2 8 i) := by
          have stop1 : ∀ (T3 : St) (F : Nat), T3 0 14 = nI w0 → (∀ i, T3 8 i = T2 8 i) → f_Mo_lands_0 (F + 1) T3 1 = some T3 := fun T3 F h14 h8 => ld_stop h14 (by omega) hw0 (k := 13) (a := 0) (by omega) (by omega) (by rw [h8]; exact tpS) (by omega) (Or.inr (by omega))
          cases e : tp with
          | false =>
            rw [e, pbn0, Nat.add_zero] at A2
            refine ⟨S2, T2, cc, ncc, x_land0, A2, belo.refl _ _ _ _ _, fun F => stop1 T2 (F + 1) A2.2.2.2.2.1 (fun _ => rfl), ?_, fun _ => rfl⟩
            rw [← cp1 e]; exact A6
          | true =>
            obtain ⟨c1, c2, c3, a, na, c4⟩ := part e
            have hh := hzp e
            rw [e, pbn1] at A2
            obtain ⟨d1, d2, d3, d4, d5, d6, d7⟩ := A2.land (zt := zp) (by omega) 12
            have pop : ∀ F, f_Mo_lands_0 (F + 1) T2 1 = f_Mo_lands_0 F (ldM T2 zp 12 z3 w0) 1 := fun F => ld_pop A2.2.2.2.2.1 (by omega) (Or.inr ⟨rfl, i10⟩) (by omega) (by rw [A7]; exact P1 e) c3 A2.2.2.2.1 (by omega)
            refine ⟨_, _, jmpC true a cc, max na ncc + 1, x_land A2.2.2.1 (by omega) (by omega), d1, d2.le (by omega) (Nat.le_refl _), fun F => ?_, Or.inr (Or.inr ⟨true, a, cc, zp, ?_, ?_, ?_, d5, d6, rfl⟩), d7⟩
            · rw [pop (F + 1)]
              exact stop1 _ F d1.2.2.2.2.1 d7
            · exact sgC_mono _ _ _ _ (sgC_congr na a z0 zp (fun i _ hi => ⟨d4 _, (d3 i (by omega)).1, (d3 i (by omega)).2⟩) c4) _ (Nat.le_max_left _ _)
            · refine sgC_mono _ _ _ _ (sgC_congr ncc cc (zp + 1) z3 (fun i h1 hi => ⟨d4 _, (d3 i (by omega)).1, (d3 i (by omega)).2⟩) ?_) _ (Nat.le_max_right _ _)
              rw [← c1]; exact A6
            · rw [d4]; exact c2
        have bz3 : belo S T S3 T3 s z0 w0 := bz2.trans B3 (Nat.le_refl _) (Nat.le_refl _)
        have hld1 : ∀ F, f_Mo_lands_0 (F + 3) T1 1 = some T3 := fun F => by
          obtain ⟨F', e⟩ := A5 F
          rw [e]; exact B4 F'
        have z0z1 : z0 ≤ z1 := by
          cases e : tp with
          | true => have := hzp e; omega
          | false => rw [cp1 e]; exact Nat.le_refl _
        rw [eX0, if_neg c38, B1, Option.bind_some, x_takes B2.x]
        by_cases c124 : sg b n q = 124
        · have qn : q < n := sg_lt (c := 124) (by omega) c124
          obtain ⟨G, rfl⟩ : ∃ v, G = v + 1 := ⟨G - 1, by omega⟩
          obtain ⟨j1, j2, j3, j4, j5, j6, j7⟩ := B2.jump qn 12 3
          have hld : f_Mo_lands T1 1 = some T3 := by unfold f_Mo_lands; rw [hFF]; exact hld1 FF
          have eM : f_Mo_readsCondition_92 (f_Mo_readsCondition_40 F') (G + 1) T1 = f_Mo_readsCondition_40 F' (jmM T3 q w0 z3 12) := by
            rw [f_Mo_readsCondition_92, r9.here, Option.bind_some, if_neg (show ¬ sg b n q = 41 by rw [c124]; decide), Option.bind_some, if_neg c38, Option.bind_some, if_pos c124]
            unfold f_Mo_readsCondition_180 f_Mo_readsCondition_195 f_Mo_readsCondition_215
            rw [r9.here, Option.bind_some, if_pos c124, hld, Option.bind_some, B2.here, Option.bind_some, if_neg c38, show f_Mo_jumps T3 12 = some (jmM T3 q w0 z3 12) from j2, Option.bind_some]
          rw [if_pos c124, Option.bind_some, if_neg i10, j1, Option.bind_some, r5, eM, ← hKd]
          refine (ih (n - (q + 1)) (by omega) _ _ (q + 1) s (z3 + 1) (w0 + 1) w0 z0 true false z3 0 g F0 F' (i + 1) rfl (by omega) j3 ⟨by rw [pbn1, pbn0], fun _ => j7, fun e => Bool.noConfusion e⟩ hw0 ?_ ⟨z3 + 1, fun e => Bool.noConfusion e, fun _ => ⟨rfl, j5, j6, ce, nce, j4.gC (Nat.le_refl _) B5⟩, fun _ => rfl, fun e => Bool.noConfusion e⟩ (by omega) (by omega) (by omega) (by omega)).mono (bz3.trans j4 (by omega) (by omega)) (by omega)
          rw [j4.2.2.1 _ (by omega), B6]; exact tpS
        · rw [if_neg c124, Option.bind_some, if_pos rfl, ← hKd]
          have eK : f_Law_readCondition_10 kt F0 S3 (nI o) (-1) (-1) 0 (nI (i + 1)) = some S3 := by
            obtain ⟨F1', rfl⟩ : ∃ v, F0 = v + 1 := ⟨F0 - 1, by omega⟩
            rw [f_Law_readCondition_10, if_neg (show ¬ (240 : Int32) ≤ nI (i + 1) from nle (b := 240) (by omega)), if_pos rfl]
          exact Or.inl ⟨q, z3, S3, T1, T3, ce, nce, F', G, r1, by omega, by omega, eK, r5, r6, r7, r9.m, hld1, B2, bz3, B5, c38, c124⟩
    · obtain ⟨F0, rfl⟩ : ∃ v, F = v + 2 := ⟨F - 2, by omega⟩
      obtain ⟨S', g1, g2, g3⟩ := fmc_after e2 e1 F0 (cxB tp (zp + s)) (cxB tt (zt + s)) (i := i) (by omega)
      exact Or.inr ⟨f, S', T1, g1, g2, e3.trans g3, e4, e5⟩
theorem pc_top {kt : St → Int32 → Option St} (hkt : PTt n b kt o) : PCt n b (f_Law_readCondition kt) o := by
  obtain ⟨F0, hF0⟩ : ∃ F, FU = F := ⟨_, rfl⟩
  have hF0' : 300 < F0 := by rw [← hF0]; exact FU_gt (by omega)
  intro S T p s z w g F h hz hF hw h13
  have hn := h.hn
  have e : f_Law_readCondition kt S (nI o) = f_Law_readCondition_10 kt F0 S (nI o) (cxB false (0 + s)) (cxB false (0 + s)) 1 (nI 0) := by
    unfold f_Law_readCondition
    rw [Option.bind_some, Option.bind_some, Option.bind_some, Option.bind_some, hF0]
    rfl
  rw [e]
  exact pc10 hkt (n - p) S T p s z w w z false false 0 0 g F0 F 0 rfl (by omega) h ⟨by rw [pbn0]; omega, fun q => Bool.noConfusion q, fun q => Bool.noConfusion q⟩ hw h13 ⟨z, fun _ => rfl, fun q => Bool.noConfusion q, fun _ => rfl, fun q => Bool.noConfusion q⟩ (Nat.le_refl _) hz (by omega) hF
theorem pt_all : ∀ d o, o ≤ 6 → 7 ≤ d + o → PTt n b (FRT d) o
  | 0, o, h1, h2 => by omega
  | d + 1, o, h1, h2 => pt_step h1 (fun h => pt_all d (o + 1) (by omega) (by omega)) (fun h => pc_top (pt_all d (o + 1) (by omega) (by omega))) (fun h => fm_FRT d (by omega))
theorem pc_all : PCt n b F_Law_readCondition 1 := pc_top (pt_all 9 1 (by omega) (by omega))
end CO
