/-! MEDIAN -/
def lf (r : Nat → Int32) (k : Nat) : Bool := decide (r (72 + k) = 0)
def oNat (r : Nat → Int32) (k : Nat) : Nat := (r (48 + k)).toNatClampNeg
section X
variable {S : St} {P t : Nat} {r wh wa : Nat → Int32}
theorem NP.oN (h : NP S P t r wh wa) {k : Nat} (hk : k < t) : r (48 + k) = nI (oNat r k) ∧ oNat r k ≤ 9999 := by
  obtain ⟨a, h1, h2⟩ := (h.2.2.2.2.1 k hk).2.2.1
  have : oNat r k = a := by unfold oNat; rw [h2]; exact cl
  rw [this]; exact ⟨h2, h1⟩
theorem NP.lfd (h : NP S P t r wh wa) {k : Nat} (hk : k < t) : bt (S P 5) k = !(lf r k) := by
  have dn := h.dn hk
  obtain ⟨ht, -, -, ⟨-, p2, -⟩, -⟩ := h
  rw [(p2 k hk).2]
  unfold lf
  rcases dn with e | e <;> rw [e] <;> rfl
theorem NP.many (h : NP S P t r wh wa) : f_JI_bitCount S (S P 5) = some (nI (fb_ct (fun k => !(lf r k)) t)) := by
  have ht := h.1
  rw [bc_I]
  congr 2
  have e : (32 : Nat) = t + (32 - t) := by omega
  rw [e, fb_ct_split]
  have z : fb_ct (fun k => bt (S P 5) (t + k)) (32 - t) = 0 := fb_ct_zero.mpr (fun k _ => (h.2.2.2.1.2.2.1 (t + k) (by omega)).2)
  rw [z]
  exact fb_ct_cong (fun k hk => h.lfd hk)
theorem NP.left (h : NP S P t r wh wa) : nI t - nI (fb_ct (fun k => !(lf r k)) t) = nI (fb_ct (lf r) t) := by
  have e := fb_ct_not (lf r) t
  rw [pk_sub (show fb_ct (fun k => !(lf r k)) t ≤ t by omega)]
  congr 1
  omega
theorem x_under (h : NP S P t r wh wa) {v : Nat} (hv : v ≤ 10000) : f_Parish_leftPutOffUnder S P (nI v) = some (nI (fb_ct (fun k => lf r k && decide (oNat r k < v)) t)) := by
  have ht := h.1
  obtain ⟨F, hF⟩ : ∃ F, FU = F := ⟨_, rfl⟩
  have hF' : 300 < F := by rw [← hF]; exact FU_gt (by omega)
  have key : ∀ m j F, j + m = t → m < F → f_Parish_leftPutOffUnder_4 P F S (nI v) (nI (fb_ct (fun k => lf r k && decide (oNat r k < v)) j)) (nI j) = some (nI (fb_ct (fun k => lf r k && decide (oNat r k < v)) t)) := by
    intro m
    induction m with
    | zero =>
      intro j F hj hF
      obtain ⟨F, rfl⟩ : ∃ z, F = z + 1 := ⟨F - 1, by omega⟩
      have : j = t := by omega
      subst this
      rw [f_Parish_leftPutOffUnder_4, h.things, if_pos (yle (Nat.le_refl _))]
    | succ m ih =>
      intro j F hj hF
      obtain ⟨F, rfl⟩ : ∃ z, F = z + 1 := ⟨F - 1, by omega⟩
      have hj' : j < t := by omega
      obtain ⟨o1, o2⟩ := h.oN hj'
      have ih1 := ih (j + 1) F (by omega) (by omega)
      rw [fb_ct_succ] at ih1
      rw [f_Parish_leftPutOffUnder_4, h.things, if_neg (nle hj'), if_neg (n24 (show j < 24 by omega)), h.done hj', Option.bind_some]
      unfold f_Parish_leftPutOffUnder_39
      rw [nI_1, Option.bind_some, Option.bind_some, if_pos (gn (show j < 24 by omega) (by omega)), cl (n := j), h.off hj', o1, Option.bind_some]
      unfold lf at ih1 ⊢
      rcases h.dn hj' with e | e
      · rw [if_pos e]
        by_cases c : oNat r j < v
        · rw [if_neg (nle c)]
          simp only [e, c, decide_true, Bool.and_self, ↓reduceIte] at ih1
          rw [nI_1]; exact ih1
        · rw [if_pos (yle (by omega))]
          simp only [e, c, decide_true, decide_false, Bool.and_false, Bool.false_eq_true, ↓reduceIte, Nat.add_zero] at ih1
          exact ih1
      · rw [if_neg (by rw [e]; exact i10)]
        simp only [e, i10, decide_false, Bool.false_and, Bool.false_eq_true, ↓reduceIte, Nat.add_zero] at ih1
        exact ih1
  unfold f_Parish_leftPutOffUnder
  rw [Option.bind_some, Option.bind_some, hF]
  exact key t 0 F (by omega) (by omega)
end X
section M
variable {M S : St} {t : Nat} {P : Nat} {wh wa : Nat → Int32}
theorem m_count {N : Nat} (hm : NM M t) (K : St → Int32 → Option Int32) (hK : ∀ c n, f_Mo_median_4 (n + 1) M c (nI t) = K M c) : ∀ m j F, j + m = t → m < F → f_Mo_median_4 F M (nI (N + fb_ct (lf (M 1)) j)) (nI j) = K M (nI (N + fb_ct (lf (M 1)) t)) := by
  have ht := hm.2
  intro m
  induction m with
  | zero =>
    intro j F hj hF
    obtain ⟨F, rfl⟩ : ∃ z, F = z + 1 := ⟨F - 1, by omega⟩
    have : j = t := by omega
    subst this
    exact hK _ _
  | succ m ih =>
    intro j F hj hF
    obtain ⟨F, rfl⟩ : ∃ z, F = z + 1 := ⟨F - 1, by omega⟩
    have ih1 := ih (j + 1) F (by omega) (by omega)
    rw [fb_ct_succ] at ih1
    rw [f_Mo_median_4, hm.1, if_neg (nle (by omega)), hm.left (show j < t by omega), Option.bind_some]
    unfold f_Mo_median_24
    rw [nI_1, Option.bind_some, Option.bind_some, nI_1, Option.bind_some]
    unfold lf at ih1 ⊢
    by_cases e : M 1 (72 + j) = 0
    · rw [if_pos e, if_neg i10]
      simp only [e, decide_true, ↓reduceIte] at ih1
      exact ih1
    · rw [if_neg e, if_pos rfl]
      simp only [e, decide_false, Bool.false_eq_true, ↓reduceIte, Nat.add_zero] at ih1
      exact ih1
def bel (r : Nat → Int32) (k : Nat) (j : Nat) : Nat := fb_ct (fun i => lf r i && decide (oNat r i < oNat r k)) j
def eqs (r : Nat → Int32) (k : Nat) (j : Nat) : Nat := fb_ct (fun i => lf r i && decide (oNat r i = oNat r k)) j
theorem m_med48 (hm : NM M t) (ho : ∀ k, k < t → M 1 (48 + k) = nI (oNat (M 1) k) ∧ oNat (M 1) k ≤ 9999) (K : St → Int32 → Int32 → Option Int32) (mid : Int32) {k : Nat} (hk : k < t) : ∀ m j F, j + m = t → m < F → f_Mo_median_48 K F M mid (nI k) (nI (bel (M 1) k j)) (nI (eqs (M 1) k j)) (nI j) = if lf (M 1) k then (if (mid - 1) / 2 < nI (bel (M 1) k t) then K M mid (nI (k + 1)) else if nI (bel (M 1) k t + eqs (M 1) k t) ≤ (mid - 1) / 2 then K M mid (nI (k + 1)) else some (nI (oNat (M 1) k))) else K M mid (nI (k + 1)) := by
  have ht := hm.2
  obtain ⟨ok1, ok2⟩ := ho k hk
  have gk : ig (nI (48 + k)) 99 = true := gn (by omega) (by omega)
  have ck : (nI (48 + k)).toNatClampNeg = 48 + k := cl
  intro m
  induction m with
  | zero =>
    intro j F hj hF
    obtain ⟨F, rfl⟩ : ∃ z, F = z + 1 := ⟨F - 1, by omega⟩
    have : j = t := by omega
    subst this
    rw [f_Mo_median_48, hm.1, if_pos (yle (Nat.le_refl _)), hm.left hk, Option.bind_some]
    unfold f_Mo_median_174
    rw [nI_1, Option.bind_some, nI_add, a48, if_pos gk, ck, ok1]
    unfold lf
    by_cases e : M 1 (72 + k) = 0
    · simp only [e, i10, decide_true, ↓reduceIte]
    · simp only [e, decide_false, Bool.false_eq_true, ↓reduceIte]
  | succ m ih =>
    intro j F hj hF
    obtain ⟨F, rfl⟩ : ∃ z, F = z + 1 := ⟨F - 1, by omega⟩
    obtain ⟨oj1, oj2⟩ := ho j (by omega)
    have gj : ig (nI (48 + j)) 99 = true := gn (by omega) (by omega)
    have cj : (nI (48 + j)).toNatClampNeg = 48 + j := cl
    have ih1 := ih (j + 1) F (by omega) (by omega)
    have e1 : bel (M 1) k (j + 1) = bel (M 1) k j + (if lf (M 1) j && decide (oNat (M 1) j < oNat (M 1) k) then 1 else 0) := fb_ct_succ _ _
    have e2 : eqs (M 1) k (j + 1) = eqs (M 1) k j + (if lf (M 1) j && decide (oNat (M 1) j = oNat (M 1) k) then 1 else 0) := fb_ct_succ _ _
    rw [e1, e2] at ih1
    rw [f_Mo_median_48, hm.1, if_neg (nle (by omega)), hm.left (show j < t by omega), Option.bind_some]
    unfold f_Mo_median_92 f_Mo_median_129
    rw [hm.left (show j < t by omega)]
    simp only [Option.bind_some, a48, gk, gj, ck, cj, ok1, oj1, nI_1, ↓reduceIte]
    refine Eq.trans ?_ ih1
    unfold lf
    by_cases e : M 1 (72 + j) = 0
    · simp only [e, i10, decide_true, Bool.true_and, ↓reduceIte]
      by_cases c : oNat (M 1) j < oNat (M 1) k
      · have c2 : ¬ oNat (M 1) j = oNat (M 1) k := by omega
        have c3 : ¬ nI (oNat (M 1) j) = nI (oNat (M 1) k) := fun z => c2 (nI_inj (by omega) (by omega) z)
        have c4 : ¬ nI (oNat (M 1) k) ≤ nI (oNat (M 1) j) := nle c
        simp only [c, c2, c3, c4, decide_true, decide_false, Bool.false_eq_true, ↓reduceIte, Nat.add_zero]
      · have c4 : nI (oNat (M 1) k) ≤ nI (oNat (M 1) j) := yle (by omega)
        by_cases c2 : oNat (M 1) j = oNat (M 1) k
        · simp only [c2, decide_true, Nat.lt_irrefl, Int32.le_refl, decide_false, Bool.false_eq_true, ↓reduceIte, Nat.add_zero]
        · have c3 : ¬ nI (oNat (M 1) j) = nI (oNat (M 1) k) := fun z => c2 (nI_inj (by omega) (by omega) z)
          simp only [c, c2, c3, c4, decide_false, Bool.false_eq_true, ↓reduceIte, Nat.add_zero]
    · simp only [e, decide_false, Bool.false_and, Bool.false_eq_true, ↓reduceIte, Nat.add_zero]
end M
section M
variable {M S : St} {t : Nat} {P : Nat} {wh wa : Nat → Int32}
theorem med_eq {wh' : Nat → Int32} (h : NP S P t (M 1) wh' wa) (hm : NM M t) (c : Int32) : ∀ m k F F', k + m = t → m < F → m < F' → f_Parish_middlePutOff_19 P F S ((c - 1) / 2) (nI k) = f_Mo_median_32 F' M c (nI k) := by
  have ht := hm.2
  obtain ⟨F0, hF0⟩ : ∃ F, FU = F := ⟨_, rfl⟩
  have hF0' : 300 < F0 := by rw [← hF0]; exact FU_gt (by omega)
  intro m
  induction m with
  | zero =>
    intro k F F' hk hF hF'
    obtain ⟨F, rfl⟩ : ∃ z, F = z + 1 := ⟨F - 1, by omega⟩
    obtain ⟨F', rfl⟩ : ∃ z, F' = z + 1 := ⟨F' - 1, by omega⟩
    rw [f_Parish_middlePutOff_19, h.things, if_pos (yle (by omega)), f_Mo_median_32, hm.1, if_pos (yle (by omega))]
  | succ m ih =>
    intro k F F' hk hF hF'
    obtain ⟨F, rfl⟩ : ∃ z, F = z + 1 := ⟨F - 1, by omega⟩
    obtain ⟨F', rfl⟩ : ∃ z, F' = z + 1 := ⟨F' - 1, by omega⟩
    have hk' : k < t := by omega
    obtain ⟨o1, o2⟩ := h.oN hk'
    have g1 : ig (nI k) 24 = true := gn (by omega) (by omega)
    have c1 : (nI k).toNatClampNeg = k := cl
    have ih1 := ih (k + 1) F F' (by omega) (by omega) (by omega)
    have k48 := m_med48 hm (fun j hj => h.oN hj) (f_Mo_median_32 F') c hk' t 0 F0 (by omega) (by omega)
    have k48' : f_Mo_median_48 (f_Mo_median_32 F') F0 M c (nI k) 0 0 0 = _ := k48
    rw [f_Mo_median_32, hm.1, if_neg (nle hk'), Option.bind_some, Option.bind_some, Option.bind_some, hF0, k48']
    rw [f_Parish_middlePutOff_19, h.things, if_neg (nle hk'), if_neg (n24 (show k < 24 by omega)), h.done hk', Option.bind_some]
    unfold f_Parish_middlePutOff_84
    have u1 := x_under h (v := oNat (M 1) k) (by omega)
    have u2 := x_under h (v := oNat (M 1) k + 1) (by omega)
    have e2 : fb_ct (fun j => lf (M 1) j && decide (oNat (M 1) j < oNat (M 1) k + 1)) t = bel (M 1) k t + eqs (M 1) k t := by
      unfold bel eqs
      rw [← fb_ct_or]
      · apply fb_ct_cong
        intro j _
        cases lf (M 1) j with
        | false => rfl
        | true =>
          rw [Bool.true_and, Bool.true_and, Bool.true_and]
          by_cases q : oNat (M 1) j < oNat (M 1) k
          · rw [decide_eq_true q, decide_eq_true (by omega)]; rfl
          · by_cases q2 : oNat (M 1) j = oNat (M 1) k
            · rw [decide_eq_true q2, decide_eq_true (by omega), Bool.or_true]
            · rw [decide_eq_false q, decide_eq_false q2, decide_eq_false (by omega)]; rfl
      · intro j _ q
        simp only [Bool.and_eq_true, decide_eq_true_eq] at q
        omega
    have e1 : fb_ct (fun j => lf (M 1) j && decide (oNat (M 1) j < oNat (M 1) k)) t = bel (M 1) k t := rfl
    rw [e1] at u1
    rw [e2] at u2
    simp only [g1, c1, h.off hk', o1, nI_1, u1, u2, Option.bind_some, ↓reduceIte]
    unfold lf
    rcases h.dn hk' with e | e
    · simp only [e, decide_true, ↓reduceIte]
      rw [ih1]
    · simp only [e, i10, decide_false, Bool.false_eq_true, ↓reduceIte]
      exact ih1
end M
section STP
variable {LR : St → St → Prop}
theorem st_median : STEP (RelL LR) m_W_median m_Mo_median 4 4 [] := by
  intro Sx Sm hR
  obtain ⟨t, h, hm⟩ := hR.2.1.np
  have ht := hm.2
  obtain ⟨F, hF⟩ : ∃ F, FU = F := ⟨_, rfl⟩
  have hF' : 300 < F := by rw [← hF]; exact FU_gt (by omega)
  -- the reference ends
  have key : ∃ r, f_W_median Sx = some r ∧ f_Mo_median Sm = some r := by
    have e1 := m_count (N := 0) hm (fun S c => f_Mo_median_32 F S c 0) (fun c n => by rw [f_Mo_median_4, hm.1, if_pos (yle (Nat.le_refl _)), Option.bind_some, hF]) t 0 F (by omega) (by omega)
    have e2 : f_Mo_median Sm = f_Mo_median_32 F Sm (nI (fb_ct (lf (Sm 1)) t)) 0 := by
      unfold f_Mo_median
      rw [Option.bind_some, Option.bind_some, hF]
      rw [Nat.zero_add, Nat.zero_add] at e1
      exact e1
    have e3 := med_eq h hm (nI (fb_ct (lf (Sm 1)) t)) t 0 F F (by omega) (by omega) (by omega)
    have e4 : f_W_median Sx = f_Parish_middlePutOff_19 4 F Sx ((nI (fb_ct (lf (Sm 1)) t) - 1) / 2) 0 := by
      unfold f_W_median f_Parish_middlePutOff
      rw [h.many, Option.bind_some, h.things, h.left, Option.bind_some, Option.bind_some, hF]
      cases f_Parish_middlePutOff_19 4 F Sx ((nI (fb_ct (lf (Sm 1)) t) - 1) / 2) 0 <;> rfl
    have tot : ∀ m k F', k + m = t → m < F' → ∃ r, f_Mo_median_32 F' Sm (nI (fb_ct (lf (Sm 1)) t)) (nI k) = some r := by
      intro m
      induction m with
      | zero =>
        intro k F' hk hF1
        obtain ⟨F', rfl⟩ : ∃ z, F' = z + 1 := ⟨F' - 1, by omega⟩
        exact ⟨-2, by rw [f_Mo_median_32, hm.1, if_pos (yle (by omega))]⟩
      | succ m ih =>
        intro k F' hk hF1
        obtain ⟨F', rfl⟩ : ∃ z, F' = z + 1 := ⟨F' - 1, by omega⟩
        obtain ⟨r, hr⟩ := ih (k + 1) F' (by omega) (by omega)
        have k48 := m_med48 hm (fun j hj => h.oN hj) (f_Mo_median_32 F') (nI (fb_ct (lf (Sm 1)) t)) (show k < t by omega) t 0 F (by omega) (by omega)
        have k48' : f_Mo_median_48 (f_Mo_median_32 F') F Sm (nI (fb_ct (lf (Sm 1)) t)) (nI k) 0 0 0 = _ := k48
        rw [f_Mo_median_32, hm.1, if_neg (nle (by omega)), Option.bind_some, Option.bind_some, Option.bind_some, hF, k48', hr]
        split
        · split
          · exact ⟨_, rfl⟩
          · split
            · exact ⟨_, rfl⟩
            · exact ⟨_, rfl⟩
        · exact ⟨_, rfl⟩
    obtain ⟨r, hr⟩ := tot t 0 F (by omega) (by omega)
    have hr' : f_Mo_median_32 F Sm (nI (fb_ct (lf (Sm 1)) t)) 0 = some r := hr
    have e3' : f_Parish_middlePutOff_19 4 F Sx ((nI (fb_ct (lf (Sm 1)) t) - 1) / 2) 0 = f_Mo_median_32 F Sm (nI (fb_ct (lf (Sm 1)) t)) 0 := e3
    exact ⟨r, by rw [e4, e3', hr'], by rw [e2, hr']⟩
  obtain ⟨r, hx, hm⟩ := key
  exact ⟨r, Sx, Sm, t_W_median hx, t_Mo_median hm, hR⟩
end STP
