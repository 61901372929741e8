/-! READING A LAW: small steps of both -/
theorem at_some (S : St) (l : Int32) : ∃ v, f_Tape_at S l = some v := by
  unfold f_Tape_at
  by_cases c1 : l < 0
  · exact ⟨_, by rw [if_pos c1]⟩
  · by_cases c2 : S 1 1 ≤ l
    · exact ⟨_, by rw [if_neg c1, if_pos c2]⟩
    · by_cases c3 : (260 : Int32) ≤ l
      · exact ⟨_, by rw [if_neg c1, if_neg c2, if_pos c3]⟩
      · obtain ⟨m, a1, a2, a3⟩ := rngN (x := l) (a := 0) (b := 259) (by omega) c1 (fun z => c3 (by
          rw [fa_lt] at z
          rw [fa_le]
          have e1 : (nI 259).toInt = 259 := rfl
          have e2 : (260 : Int32).toInt = 260 := rfl
          omega))
        exact ⟨_, by rw [if_neg c1, if_neg c2, if_neg c3, a3, if_pos (gn (by omega) (by omega))]⟩
def frX (S S' : St) : Prop := ∀ r j, ¬ ((r = 3 ∧ (j = 1 ∨ j = 2)) ∨ (r = 32 ∧ j = 7) ∨ r = 33 ∨ r = 34) → S' r j = S r j
def frM (T T' : St) : Prop := ∀ r j, ¬ ((r = 0 ∧ (j = 8 ∨ j = 10 ∨ j = 11 ∨ j = 12 ∨ j = 13 ∨ j = 14)) ∨ r = 7 ∨ r = 8) → T' r j = T r j
theorem frX.refl (S : St) : frX S S := fun _ _ _ => rfl
theorem frX.trans {A B C : St} (h : frX A B) (h' : frX B C) : frX A C := fun r j z => (h' r j z).trans (h r j z)
theorem frM.refl (S : St) : frM S S := fun _ _ _ => rfl
theorem frM.trans {A B C : St} (h : frM A B) (h' : frM B C) : frM A C := fun r j z => (h' r j z).trans (h r j z)
theorem frX.set {S S' : St} (h : frX S S') {r j : Nat} {v : Int32} (hr : (r = 3 ∧ (j = 1 ∨ j = 2)) ∨ (r = 32 ∧ j = 7) ∨ r = 33 ∨ r = 34) : frX S (sF S' r j v) := fun k i z => by rw [sF_ne (by omega)]; exact h k i z
theorem frM.set {S S' : St} (h : frM S S') {r j : Nat} {v : Int32} (hr : (r = 0 ∧ (j = 8 ∨ j = 10 ∨ j = 11 ∨ j = 12 ∨ j = 13 ∨ j = 14)) ∨ r = 7 ∨ r = 8) : frM S (sF S' r j v) := fun k i z => by rw [sF_ne (by omega)]; exact h k i z
def adX (S : St) (z : Nat) (a b : Int32) : St := sF (sF (sF S 33 z a) 34 z b) 32 7 (nI (z + 1))
theorem x_add {S : St} {z : Nat} (h : S 32 7 = nI z) (hz : z < 240) (a b : Int32) : f_Law_add S a b = some (nI z, adX S z a b) := by
  unfold f_Law_add adX
  have c1 : (nI z).toNatClampNeg = z := cl
  have g1 : ig (nI z) 240 = true := gn (by omega) (by omega)
  have e1 : sF S 33 z a 32 7 = nI z := by rw [sF_ne (by omega)]; exact h
  have e2 : sF (sF S 33 z a) 34 z b 32 7 = nI z := by rw [sF_ne (by omega)]; exact e1
  rw [h, if_pos (show nI z < 240 from ylt (b := 240) hz), if_pos g1, c1, Option.bind_some, e1, if_pos g1, c1, Option.bind_some, e2, nI_1, Option.bind_some, sF_at, show nI (z + 1) - 1 = nI z from pk_sub (a := z + 1) (b := 1) (by omega)]
theorem adX_fr (S : St) (z : Nat) (a b : Int32) : frX S (adX S z a b) := (((frX.refl S).set (by omega)).set (by omega)).set (by omega)
def ntM (T : St) (z : Nat) (v : Int32) : St := sF (sF T 7 z v) 0 13 (nI (z + 1))
theorem m_notes {T : St} {z : Nat} (h : T 0 13 = nI z) (hz : z < 260) (a b : Int32) : f_Mo_notes T a b = some (ntM T z (1048576 * a + b)) := by
  unfold f_Mo_notes ntM
  have c1 : (nI z).toNatClampNeg = z := cl
  have e1 : ∀ v, sF T 7 z v 0 13 = nI z := fun v => by rw [sF_ne (by omega)]; exact h
  rw [h, if_pos (gn (by omega) (by omega)), c1, Option.bind_some, e1, nI_1, Option.bind_some]
theorem ntM_fr (T : St) (z : Nat) (v : Int32) : frM T (ntM T z v) := ((frM.refl T).set (by omega)).set (by omega)
/-! after a fault -/
def FM (f : Int32) (S : St) : Prop := ¬ f = 0 ∧ S 3 2 = f ∧ ∃ z, z ≤ 240 ∧ S 32 7 = nI z
section FMS
variable {S : St} {f : Int32}
theorem FM.n0 (h : FM f S) : ¬ S 3 2 = 0 := by rw [h.2.1]; exact h.1
theorem fm_add (h : FM f S) (a b : Int32) : ∃ v S', f_Law_add S a b = some (v, S') ∧ FM f S' ∧ frX S S' := by
  obtain ⟨h0, h1, z, hz, h2⟩ := h
  by_cases c : z < 240
  · exact ⟨_, _, x_add h2 c a b, ⟨h0, by unfold adX; rw [sF_ne (by omega), sF_ne (by omega), sF_ne (by omega)]; exact h1, z + 1, by omega, by unfold adX; exact sF_at⟩, adX_fr S z a b⟩
  · refine ⟨-1, S, ?_, ⟨h0, h1, z, hz, h2⟩, frX.refl S⟩
    unfold f_Law_add
    rw [h2, if_neg (show ¬ nI z < 240 from nlt' (a := z) (b := 240) (by omega))]
theorem fm_land (h : FM f S) (l : Int32) : ∃ S', f_Law_land S l = some S' ∧ FM f S' ∧ frX S S' := by
  obtain ⟨h0, h1, z, hz, h2⟩ := h
  unfold f_Law_land
  rw [h2]
  by_cases c1 : l < 0
  · exact ⟨S, by rw [if_pos c1], ⟨h0, h1, z, hz, h2⟩, frX.refl S⟩
  · by_cases c2 : nI z ≤ l
    · exact ⟨S, by rw [if_neg c1, if_pos c2], ⟨h0, h1, z, hz, h2⟩, frX.refl S⟩
    · have hz0 : z ≠ 0 := fun e => by
        subst e
        exact c2 (fa_of_nlt c1)
      obtain ⟨m, a1, a2, a3⟩ := rngN (x := l) (a := 0) (b := z - 1) (by omega) c1 (fun q => c2 (by
        rw [fa_lt] at q
        rw [fa_le]
        rw [nI_toInt (by omega)] at q ⊢
        omega))
      refine ⟨sF S 34 m (nI z), ?_, ⟨h0, by rw [sF_ne (by omega)]; exact h1, z, hz, by rw [sF_ne (by omega)]; exact h2⟩, (frX.refl S).set (by omega)⟩
      have c1' : (nI m).toNatClampNeg = m := cl
      rw [if_neg c1, if_neg c2, a3, if_pos (gn (by omega) (by omega)), c1', Option.bind_some]
theorem fm_needs (h : FM f S) (c : Int32) : f_Reading_needs S c = some S := by
  obtain ⟨v, hv⟩ := at_some S (S 3 1)
  unfold f_Reading_needs
  rw [hv, Option.bind_some]
  by_cases e : v = c
  · rw [if_pos e, if_neg h.n0]
  · rw [if_neg e, x_fail0 h.n0, Option.bind_some]
theorem fm_sign (S : St) : ∃ v, f_Reading_sign S = some v := by
  obtain ⟨v, hv⟩ := at_some S (S 3 1)
  exact ⟨v, by unfold f_Reading_sign; rw [hv, Option.bind_some]⟩
def FMK (k : St → Int32 → Option St) : Prop := ∀ f S l, FM f S → ∃ S', k S l = some S' ∧ FM f S' ∧ frX S S'
theorem fm_137 (h : FM f S) (rf : St → Int32 → Option St) (k : St → Int32 → Int32 → Int32 → Int32 → Int32 → Option St) (l1 l2 l3 l5 l6 l7 l8 : Int32) : f_Law_readValue_137 rf k S l1 l2 l3 l5 l6 l7 l8 = k S l1 l2 l3 0 (l5 + 1) := by
  have e147 : f_Law_readValue_147 rf k S l1 l2 l3 l5 l6 = k S l1 l2 l3 0 (l5 + 1) := by
    unfold f_Law_readValue_147 f_Law_readValue_163 f_Law_readValue_164
    rw [x_takes0 h.n0, Option.bind_some, if_pos rfl, Option.bind_some]
  have e163 : f_Law_readValue_163 rf k S l1 l2 l3 l5 = k S l1 l2 l3 0 (l5 + 1) := by
    unfold f_Law_readValue_163 f_Law_readValue_164
    rw [Option.bind_some]
  unfold f_Law_readValue_137
  rw [e147, e163]
  by_cases c1 : l7 = 0
  · by_cases c2 : l8 = 0
    · rw [if_pos c1, if_pos c2]
    · rw [if_pos c1, if_neg c2]
  · rw [if_neg c1]
theorem fm_39 (h : FM f S) (rf : St → Int32 → Option St) (k : St → Int32 → Int32 → Int32 → Int32 → Int32 → Option St) (l1 l2 l5 : Int32) : ∃ S' a b, f_Law_readValue_39 rf k S l1 l2 l5 = k S' l1 a b 0 (l5 + 1) ∧ FM f S' ∧ frX S S' := by
  have e125 : ∀ S, FM f S → ∀ l3 l6 l7 l8, ∃ a b, f_Law_readValue_125 rf k S l1 l3 l5 l6 l7 l8 = k S l1 a b 0 (l5 + 1) := fun S h l3 l6 l7 l8 => by
    unfold f_Law_readValue_125 f_Law_readValue_136
    by_cases c : l8 = 0
    · exact ⟨_, _, by rw [if_pos c, fm_137 h]⟩
    · exact ⟨_, _, by rw [if_neg c, fm_137 h]⟩
  have e108 : ∀ l6 l7 l8 s0, ∃ S' a b, f_Law_readValue_108 rf k S l1 l2 l5 l6 l7 l8 s0 = k S' l1 a b 0 (l5 + 1) ∧ FM f S' ∧ frX S S' := fun l6 l7 l8 s0 => by
    unfold f_Law_readValue_108
    by_cases c1 : l7 = 0
    · by_cases c2 : l2 = 0
      · obtain ⟨a, b, e⟩ := e125 S h s0 l6 l7 l8
        exact ⟨S, a, b, by rw [if_pos c1, if_pos c2, e], h, frX.refl S⟩
      · obtain ⟨v, S', e1, e2, e3⟩ := fm_add h l2 0
        obtain ⟨a, b, e⟩ := e125 S' e2 s0 l6 l7 l8
        exact ⟨S', a, b, by rw [if_pos c1, if_neg c2, e1, Option.bind_some, e], e2, e3⟩
    · exact ⟨S, l2, s0, by rw [if_neg c1, fm_137 h], h, frX.refl S⟩
  have e74 : ∀ l6 s0, ∃ S' a b, f_Law_readValue_74 rf k S l1 l2 l5 l6 s0 = k S' l1 a b 0 (l5 + 1) ∧ FM f S' ∧ frX S S' := fun l6 s0 => by
    have e95 : ∀ s1, ∃ S' a b, f_Law_readValue_95 rf k S l1 l2 l5 l6 s0 s1 = k S' l1 a b 0 (l5 + 1) ∧ FM f S' ∧ frX S S' := fun s1 => by
      unfold f_Law_readValue_95
      by_cases c : s0 = 0
      · rw [if_pos c]; exact e108 l6 s0 s1 0
      · rw [if_neg c]; exact e108 l6 s0 s1 l6
    unfold f_Law_readValue_74 f_Law_readValue_90
    by_cases c1 : l6 = 43
    · rw [if_pos c1]; exact e95 1
    · by_cases c2 : l6 = 45
      · rw [if_neg c1, if_pos c2]; exact e95 1
      · rw [if_neg c1, if_neg c2]; exact e95 0
  obtain ⟨v, hv⟩ := fm_sign S
  unfold f_Law_readValue_39 f_Law_readValue_69
  rw [hv, Option.bind_some]
  by_cases c1 : v = 42
  · rw [if_pos c1]; exact e74 v 1
  · by_cases c2 : v = 47
    · rw [if_neg c1, if_pos c2]; exact e74 v 1
    · by_cases c3 : v = 37
      · rw [if_neg c1, if_neg c2, if_pos c3]; exact e74 v 1
      · rw [if_neg c1, if_neg c2, if_neg c3]; exact e74 v 0
theorem fm_val10 {rf : St → Int32 → Option St} (hr : FMK rf) (h : FM f S) (F : Nat) (l1 l2 l3 l4 l5 : Int32) : ∃ S', f_Law_readValue_10 rf (F + 2) S l1 l2 l3 l4 l5 = some S' ∧ FM f S' ∧ frX S S' := by
  rw [f_Law_readValue_10]
  by_cases c1 : (240 : Int32) ≤ l5
  · exact ⟨S, by rw [if_pos c1], h, frX.refl S⟩
  · by_cases c2 : l4 = 0
    · exact ⟨S, by rw [if_neg c1, if_pos c2], h, frX.refl S⟩
    · obtain ⟨S1, e1, e2, e3⟩ := hr f S l1 h
      rw [if_neg c1, if_neg c2, e1, Option.bind_some]
      have stop : ∀ S a b l, f_Law_readValue_10 rf (F + 1) S l1 a b 0 l = some S := fun S a b l => by
        rw [f_Law_readValue_10]
        by_cases c : (240 : Int32) ≤ l
        · rw [if_pos c]
        · rw [if_neg c, if_pos rfl]
      by_cases c3 : l3 = 0
      · obtain ⟨S2, a, b, g1, g2, g3⟩ := fm_39 e2 rf (f_Law_readValue_10 rf (F + 1)) l1 l2 l5
        exact ⟨S2, by rw [if_pos c3, g1, stop], g2, e3.trans g3⟩
      · obtain ⟨v, S3, a1, a2, a3⟩ := fm_add e2 l3 0
        obtain ⟨S2, a, b, g1, g2, g3⟩ := fm_39 a2 rf (f_Law_readValue_10 rf (F + 1)) l1 l2 l5
        exact ⟨S2, by rw [if_neg c3, a1, Option.bind_some, g1, stop], g2, (e3.trans a3).trans g3⟩
theorem fm_factor (kv : St → Int32 → Option St) : FMK (f_Law_readFactor kv) := fun f S l h => by
  obtain ⟨v, hv⟩ := fm_sign S
  exact ⟨S, by unfold f_Law_readFactor; rw [hv, Option.bind_some, if_neg h.n0], h, frX.refl S⟩
theorem fm_value (kv : St → Int32 → Option St) : FMK (f_Law_readValue (f_Law_readFactor kv)) := fun f S l h => by
  obtain ⟨F, hF⟩ : ∃ F, FU = F + 2 := ⟨FU - 2, by have := FU_gt (n := 5) (by omega); omega⟩
  unfold f_Law_readValue
  rw [Option.bind_some, Option.bind_some, Option.bind_some, Option.bind_some, hF]
  exact fm_val10 (fm_factor kv) h F l 0 0 1 0
theorem fm_FRV : ∀ d, 1 ≤ d → FMK (FRV d) := fun d hd => by
  obtain ⟨d, rfl⟩ : ∃ z, d = z + 1 := ⟨d - 1, by omega⟩
  exact fm_value (FRV d)
theorem fm_test (a b c : St → Int32 → Option St) : FMK (f_Law_readTest a b c) := fun f S l h => by
  obtain ⟨v, hv⟩ := fm_sign S
  exact ⟨S, by unfold f_Law_readTest; rw [hv, Option.bind_some, if_neg h.n0], h, frX.refl S⟩
theorem fm_FRT : ∀ d, 1 ≤ d → FMK (FRT d) := fun d hd => by
  obtain ⟨d, rfl⟩ : ∃ z, d = z + 1 := ⟨d - 1, by omega⟩
  exact fm_test _ _ _
theorem fm_cond10 {rt : St → Int32 → Option St} (hr : FMK rt) (h : FM f S) (F : Nat) (l1 l2 l3 l4 l5 : Int32) : ∃ S', f_Law_readCondition_10 rt (F + 2) S l1 l2 l3 l4 l5 = some S' ∧ FM f S' ∧ frX S S' := by
  rw [f_Law_readCondition_10]
  by_cases c1 : (240 : Int32) ≤ l5
  · exact ⟨S, by rw [if_pos c1], h, frX.refl S⟩
  · by_cases c2 : l4 = 0
    · exact ⟨S, by rw [if_neg c1, if_pos c2], h, frX.refl S⟩
    · obtain ⟨S1, e1, e2, e3⟩ := hr f S l1 h
      obtain ⟨S2, e4, e5, e6⟩ := fm_land e2 l3
      obtain ⟨S3, e7, e8, e9⟩ := fm_land e5 l2
      have stop : ∀ S a b l, f_Law_readCondition_10 rt (F + 1) S l1 a b 0 l = some S := fun S a b l => by
        rw [f_Law_readCondition_10]
        by_cases c : (240 : Int32) ≤ l
        · rw [if_pos c]
        · rw [if_neg c, if_pos rfl]
      refine ⟨S3, ?_, e8, (e3.trans e6).trans e9⟩
      unfold f_Law_readCondition_92
      rw [if_neg c1, if_neg c2, e1, Option.bind_some, e4, Option.bind_some, Option.bind_some, Option.bind_some, x_takes0 e5.n0, Option.bind_some, if_pos rfl, e7, Option.bind_some, Option.bind_some, x_takes0 e8.n0, Option.bind_some, if_pos rfl, Option.bind_some, stop]
theorem fm_cond {rt : St → Int32 → Option St} (hr : FMK rt) : FMK (f_Law_readCondition rt) := fun f S l h => by
  obtain ⟨F, hF⟩ : ∃ F, FU = F + 2 := ⟨FU - 2, by have := FU_gt (n := 5) (by omega); omega⟩
  unfold f_Law_readCondition
  rw [Option.bind_some, Option.bind_some, Option.bind_some, Option.bind_some, hF]
  exact fm_cond10 hr h F l (-1) (-1) 1 0
end FMS
