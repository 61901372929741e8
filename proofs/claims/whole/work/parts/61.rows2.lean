/-! HALVES -/
def dd (b : Nat → Nat) (n c : Nat) : Nat := if 2 * fb_sm b c ≤ fb_sm b n then fb_sm b n - 2 * fb_sm b c else 2 * fb_sm b c - fb_sm b n
theorem jabs_i {x : Int32} {m : Nat} (hm : m < 2 ^ 31) (h : x.toInt = m ∨ x.toInt = -(m : Int)) : jabs x = nI m := by
  have z0 : (0 : Int32).toInt = 0 := by decide
  have e := nI_toInt hm
  unfold jabs
  apply (fa_eq _ _).mpr
  by_cases c : 0 ≤ x
  · rw [if_pos c]
    have := (fa_le _ _).mp c
    omega
  · rw [if_neg c, fb_subI (by omega) (by omega)]
    have : ¬ (0 : Int32).toInt ≤ x.toInt := fun z => c ((fa_le _ _).mpr z)
    omega
theorem sm_b {b : Nat → Nat} {n c : Nat} (hb : ∀ i, i < n → b i < 256) (hn : n ≤ 16) (hc : c ≤ n) : fb_sm b c ≤ 4080 := by
  have := fb_sm_bound (f := b) (c := 255) (n := c) (fun k hk => by have := hb k (by omega); omega)
  omega
theorem x_diff {S : St} {n c : Nat} {b : Nat → Nat} (h : XB S n b) (hn : n ≤ 16) (hc : c ≤ n) : f_Rows_difference S (nI n) (nI c) = some (nI (dd b n c)) := by
  obtain ⟨F, hF⟩ : ∃ F, FU = F := ⟨_, rfl⟩
  have hF' : 300 < F := by rw [← hF]; exact FU_gt (by omega)
  have hb : ∀ i, i < n → b i < 256 := fun i hi => (h.2.2 i hi).2
  have key : ∀ k j F (x : Int32), j + k = n → k < F → x.toInt = (if j ≤ c then (fb_sm b j : Int) else 2 * fb_sm b c - fb_sm b j) → f_Rows_difference_5 F S (nI n) (nI c) x (nI j) = some (nI (dd b n c)) := by
    intro k
    induction k with
    | zero =>
      intro j F x hj hF hx
      obtain ⟨F, rfl⟩ : ∃ z, F = z + 1 := ⟨F - 1, by omega⟩
      have : j = n := by omega
      subst this
      rw [f_Rows_difference_5, if_pos (yle (Nat.le_refl _))]
      congr 1
      have s1 := sm_b hb hn hc
      have s2 := sm_b hb hn (Nat.le_refl j)
      apply jabs_i
      · unfold dd; split <;> omega
      · have hx2 : x.toInt = 2 * fb_sm b c - fb_sm b j := by
          by_cases q : j ≤ c
          · have : j = c := by omega
            subst this
            rw [if_pos q] at hx; omega
          · rw [if_neg q] at hx; exact hx
        unfold dd
        split <;> omega
    | succ k ih =>
      intro j F x hj hF hx
      obtain ⟨F, rfl⟩ : ∃ z, F = z + 1 := ⟨F - 1, by omega⟩
      have s1 := sm_b hb hn hc
      have s2 := sm_b hb hn (show j ≤ n by omega)
      have s3 := hb j (by omega)
      have e3 := nI_toInt (n := b j) (by omega)
      have x1 : -5000 ≤ x.toInt ∧ x.toInt ≤ 9000 := by
        by_cases q : j ≤ c
        · rw [if_pos q] at hx; omega
        · rw [if_neg q] at hx; omega
      rw [f_Rows_difference_5, if_neg (nle (by omega))]
      unfold f_Rows_difference_40
      by_cases q : c ≤ j
      · rw [if_pos (yle q), h.at (by omega), Option.bind_some, Option.bind_some, Option.bind_some, nI_1]
        have e4 := fb_negI (x := nI (b j)) (by omega)
        refine ih (j + 1) F _ (by omega) (by omega) ?_
        rw [fb_addI (by omega) (by omega), e4, e3, fb_sm_succ, if_neg (by omega)]
        by_cases q2 : j ≤ c
        · have : j = c := by omega
          subst this
          rw [if_pos q2] at hx; omega
        · rw [if_neg q2] at hx; omega
      · rw [if_neg (nle (by omega)), h.at (by omega), Option.bind_some, Option.bind_some, Option.bind_some, nI_1]
        refine ih (j + 1) F _ (by omega) (by omega) ?_
        rw [fb_addI (by omega) (by omega), e3, fb_sm_succ, if_pos (by omega)]
        rw [if_pos (by omega)] at hx
        omega
  unfold f_Rows_difference
  rw [Option.bind_some, Option.bind_some, hF]
  exact key n 0 F 0 (by omega) (by omega) (by rw [if_pos (Nat.zero_le _)]; rfl)
theorem dd_b {b : Nat → Nat} {n c : Nat} (hb : ∀ i, i < n → b i < 256) (hn : n ≤ 16) (hc : c ≤ n) : dd b n c ≤ 10000 := by
  have s1 := sm_b hb hn hc
  have s2 := sm_b hb hn (Nat.le_refl n)
  unfold dd; split <;> omega
def gH (b : Nat → Nat) (n j a : Nat) : Nat := if dd b n a ≤ dd b n j then a else j
theorem x_even {S : St} {n : Nat} {b : Nat → Nat} (h : XB S n b) (hn2 : 2 ≤ n) (hn : n ≤ 16) : f_Rows_evenestCut S (nI n) = some (nI (foldN (gH b n) (n - 2) 2 1)) ∧ foldN (gH b n) (n - 2) 2 1 < n := by
  obtain ⟨F, hF⟩ : ∃ F, FU = F := ⟨_, rfl⟩
  have hF' : 300 < F := by rw [← hF]; exact FU_gt (by omega)
  have hb : ∀ i, i < n → b i < 256 := fun i hi => (h.2.2 i hi).2
  have key := loopI (fun f j (a : Nat) => f_Rows_evenestCut_4 f S (nI n) (nI a) (nI j)) (fun a => some (nI a)) (gH b n) n (fun j a => a < n) ?_ ?_ (n - 2) F 2 1 (by omega) (by omega) (by omega)
  · refine ⟨?_, key.2⟩
    unfold f_Rows_evenestCut
    rw [Option.bind_some, Option.bind_some, hF]
    exact key.1
  · intro f a ha
    show f_Rows_evenestCut_4 (f + 1) S (nI n) (nI a) (nI n) = _
    rw [f_Rows_evenestCut_4, if_pos (yle (Nat.le_refl n))]
  · intro f j a hj ha
    have d1 := dd_b hb hn (show j ≤ n by omega)
    have d2 := dd_b hb hn (show a ≤ n by omega)
    refine ⟨?_, ?_⟩
    · show f_Rows_evenestCut_4 (f + 1) S (nI n) (nI a) (nI j) = f_Rows_evenestCut_4 f S (nI n) (nI _) (nI (j + 1))
      rw [f_Rows_evenestCut_4, if_neg (nle hj), x_diff h hn (by omega), Option.bind_some, x_diff h hn (by omega), Option.bind_some]
      unfold gH f_Rows_evenestCut_26
      rw [nI_1, Option.bind_some, Option.bind_some]
      by_cases c : dd b n a ≤ dd b n j
      · rw [if_pos (yle c), if_pos c]
      · rw [if_neg (nle (by omega)), if_neg c]
    · show gH b n j a < n
      unfold gH
      split
      · exact ha
      · exact hj
theorem m_dd {b : Nat → Nat} {n c : Nat} (hb : ∀ i, i < n → b i < 256) (hn : n ≤ 16) (hc : c ≤ n) (S : St) : f_Mo_size S (nI (fb_sm b n) - 2 * nI (fb_sm b c)) = some (nI (dd b n c)) := by
  have s1 := sm_b hb hn hc
  have s2 := sm_b hb hn (Nat.le_refl n)
  rw [m_size, m2]
  congr 1
  have e := pk_sub_toInt (a := fb_sm b n) (b := 2 * fb_sm b c) (by omega) (by omega)
  apply jabs_i
  · unfold dd; split <;> omega
  · unfold dd; split <;> omega
theorem m_h39 {S : St} {n : Nat} {b : Nat → Nat} (h : MB S n b) (hn2 : 2 ≤ n) (hn : n ≤ 16) (d : Int32) : f_Mo_halves_39 FU S (nI n) d 0 0 = some (if d = 0 then nI (foldN (gH b n) (n - 2) 2 1) else nI (dd b n (foldN (gH b n) (n - 2) 2 1)), S) := by
  obtain ⟨F, hF⟩ : ∃ F, FU = F := ⟨_, rfl⟩
  have hF' : 300 < F := by rw [← hF]; exact FU_gt (by omega)
  have hb : ∀ i, i < n → b i < 256 := fun i hi => (h.2 i hi).2
  -- the later loop
  have k2 : ∀ k j a F, j + k = n → 1 ≤ j → k < F → a < n → f_Mo_halves_74 F S (nI n) d (nI (fb_sm b n)) (nI (dd b n a)) (nI a) (nI (fb_sm b (j - 1))) (nI j) = some (if d = 0 then nI (foldN (gH b n) k j a) else nI (dd b n (foldN (gH b n) k j a)), S) := by
    intro k
    induction k with
    | zero =>
      intro j a F hj h1 hF ha
      obtain ⟨F, rfl⟩ : ∃ z, F = z + 1 := ⟨F - 1, by omega⟩
      have : j = n := by omega
      subst this
      rw [f_Mo_halves_74, if_pos (yle (Nat.le_refl _)), foldN]
      by_cases q : d = 0
      · rw [if_pos q, if_pos q]
      · rw [if_neg q, if_neg q]
    | succ k ih =>
      intro j a F hj h1 hF ha
      obtain ⟨F, rfl⟩ : ∃ z, F = z + 1 := ⟨F - 1, by omega⟩
      have e1 : nI (fb_sm b (j - 1)) + nI (b (j - 1)) = nI (fb_sm b j) := by
        rw [nI_add, ← fb_sm_succ, show j - 1 + 1 = j by omega]
      have d1 := dd_b hb hn (show j ≤ n by omega)
      have d2 := dd_b hb hn (show a ≤ n by omega)
      rw [f_Mo_halves_74, if_neg (nle (by omega)), sb1 h1, h.oct (by omega), Option.bind_some, Option.bind_some, e1, m_dd hb hn (by omega), Option.bind_some, Option.bind_some, foldN]
      unfold f_Mo_halves_125
      rw [nI_1, Option.bind_some, Option.bind_some]
      have ih1 := ih (j + 1) (gH b n j a) F (by omega) (by omega) (by omega) (by unfold gH; split <;> omega)
      rw [show j + 1 - 1 = j by omega] at ih1
      unfold gH at ih1 ⊢
      by_cases c : dd b n a ≤ dd b n j
      · rw [if_pos c] at ih1 ⊢
        rw [if_neg (nlt' (by omega))]; exact ih1
      · rw [if_neg c] at ih1 ⊢
        rw [if_pos (ylt (by omega))]; exact ih1
  have k1 : ∀ k j F', j + k = n → k < F' → f_Mo_halves_39 F' S (nI n) d (nI (fb_sm b j)) (nI j) = f_Mo_halves_74 F S (nI n) d (nI (fb_sm b n)) 1000000 0 0 1 := by
    intro k
    induction k with
    | zero =>
      intro j F' hj hF1
      obtain ⟨F', rfl⟩ : ∃ z, F' = z + 1 := ⟨F' - 1, by omega⟩
      have : j = n := by omega
      subst this
      rw [f_Mo_halves_39, if_pos (yle (Nat.le_refl _)), Option.bind_some, Option.bind_some, Option.bind_some, Option.bind_some, hF]
    | succ k ih =>
      intro j F' hj hF1
      obtain ⟨F', rfl⟩ : ∃ z, F' = z + 1 := ⟨F' - 1, by omega⟩
      rw [f_Mo_halves_39, if_neg (nle (by omega)), h.oct (by omega), Option.bind_some, Option.bind_some, Option.bind_some, nI_add, nI_1]
      exact ih (j + 1) F' (by omega) (by omega)
  have k3 := k1 n 0 F (by omega) (by omega)
  rw [hF]
  refine Eq.trans k3 ?_
  obtain ⟨F, rfl⟩ : ∃ z, F = z + 1 := ⟨F - 1, by omega⟩
  have d1 := dd_b hb hn (show 1 ≤ n by omega)
  have o1 : (1 : Int32) - 1 = nI 0 := by decide
  have e1 : (0 : Int32) + nI (b 0) = nI (fb_sm b 1) := by rw [z0I]; simp [fb_sm]
  have o2 : (1 : Int32) + 1 = nI 2 := by decide
  rw [f_Mo_halves_74, if_neg (show ¬ nI n ≤ 1 from nle (a := 1) (by omega)), o1, h.oct (by omega), Option.bind_some, Option.bind_some, e1, m_dd hb hn (by omega), Option.bind_some, if_pos (show nI (dd b n 1) < 1000000 from ylt (b := 1000000) (by omega)), Option.bind_some]
  unfold f_Mo_halves_125
  rw [Option.bind_some, o2]
  exact k2 (n - 2) 2 1 F (by omega) (by omega) (by omega) (by omega)
section STP
variable {LR : St → St → Prop}
theorem st_halves (hL : LRc LR) (a d : Int32) : STEP (RelL LR) m_W_halves m_Mo_halves 4 2 [a, d] := by
  intro Sx Sm hR
  have no : f_W_halves Sx a d = some (-1, Sx) → f_Mo_halves Sm a d = some (-1, Sm) → ∃ r Sx' Sm', Ct SX m_W_halves 4 (.ref 0 :: [a, d].map Value.int) Sx (some r) Sx' ∧ Ct SM m_Mo_halves 2 (.ref 0 :: [a, d].map Value.int) Sm (some r) Sm' ∧ RelL LR Sx' Sm' := fun e1 e2 => ⟨-1, Sx, Sm, t_W_halves e1, t_Mo_halves e2, hR⟩
  by_cases hc : a < 2 ∨ (16 : Int32) < a
  · exact no (by unfold f_W_halves; rw [wi_n hc]; rfl) (by unfold f_Mo_halves; rw [in_n hc]; rfl)
  have n1 : ¬ a < 2 := fun z => hc (Or.inl z)
  have n2 : ¬ (16 : Int32) < a := fun z => hc (Or.inr z)
  by_cases hc3 : d < 0 ∨ (1 : Int32) < d
  · exact no (by unfold f_W_halves; rw [wi_y n1 n2, wi_n hc3]; rfl) (by unfold f_Mo_halves; rw [in_y n1 n2, in_n hc3]; rfl)
  have n5 : ¬ d < 0 := fun z => hc3 (Or.inl z)
  have n6 : ¬ (1 : Int32) < d := fun z => hc3 (Or.inr z)
  obtain ⟨n, q1, q2, rfl⟩ := rngN (a := 2) (b := 16) (by omega) n1 n2
  rcases tk hR.1 n (by omega) with ⟨b, t1, t2, t3, t4⟩ | ⟨t1, t2⟩
  · obtain ⟨e1, e2⟩ := x_even t3 q1 q2
    have h1 : f_W_halves Sx (nI n) d = some (if d = 0 then nI (foldN (gH b n) (n - 2) 2 1) else nI (dd b n (foldN (gH b n) (n - 2) 2 1)), tX Sx n) := by
      unfold f_W_halves
      rw [wi_y n1 n2, Option.bind_some, if_neg i10, wi_y n5 n6, Option.bind_some, if_neg i10, t1, Option.bind_some, if_neg i10, e1, Option.bind_some, x_diff t3 q2 (by omega), Option.bind_some]
      by_cases hd : d = 0
      · rw [if_pos hd, if_pos hd]
      · rw [if_neg hd, if_neg hd]
    have h2 : f_Mo_halves Sm (nI n) d = some (if d = 0 then nI (foldN (gH b n) (n - 2) 2 1) else nI (dd b n (foldN (gH b n) (n - 2) 2 1)), tM Sm) := by
      unfold f_Mo_halves
      rw [in_y n1 n2, Option.bind_some, if_neg i10, in_y n5 n6, Option.bind_some, if_neg i10, if_pos t2, Option.bind_some, Option.bind_some, Option.bind_some]
      exact m_h39 t4 q1 q2 d
    generalize (if d = 0 then nI (foldN (gH b n) (n - 2) 2 1) else nI (dd b n (foldN (gH b n) (n - 2) 2 1))) = r at h1 h2
    exact ⟨r, tX Sx n, tM Sm, t_W_halves h1, t_Mo_halves h2, hR.tt hL _⟩
  · refine no ?_ ?_
    · unfold f_W_halves
      rw [wi_y n1 n2, Option.bind_some, if_neg i10, wi_y n5 n6, Option.bind_some, if_neg i10, t1]; rfl
    · unfold f_Mo_halves
      rw [in_y n1 n2, Option.bind_some, if_neg i10, in_y n5 n6, Option.bind_some, if_neg i10, if_neg t2]
end STP
/-! NIGHT -/
def gFar (b : Nat → Nat) (p j a : Nat) : Nat := if b (2 * j) ≤ p then max a (b (2 * j + 1)) else a
def far (b : Nat → Nat) (n p : Nat) : Nat := foldN (gFar b p) n 0 p
theorem far_spec {b : Nat → Nat} {p : Nat} : ∀ (m j a : Nat), foldN (gFar b p) m j a = a ∨ ∃ k, j ≤ k ∧ k < j + m ∧ foldN (gFar b p) m j a = b (2 * k + 1)
  | 0, j, a => Or.inl rfl
  | m + 1, j, a => by
    rw [foldN]
    rcases far_spec m (j + 1) (gFar b p j a) with e | ⟨k, h1, h2, h3⟩
    · rw [e]
      unfold gFar
      by_cases c : b (2 * j) ≤ p
      · rw [if_pos c]
        by_cases c2 : a < b (2 * j + 1)
        · exact Or.inr ⟨j, by omega, by omega, Nat.max_eq_right (by omega)⟩
        · exact Or.inl (Nat.max_eq_left (by omega))
      · rw [if_neg c]; exact Or.inl rfl
    · exact Or.inr ⟨k, by omega, by omega, h3⟩
theorem far_ge {b : Nat → Nat} {p : Nat} : ∀ (m j a : Nat), a ≤ foldN (gFar b p) m j a
  | 0, j, a => Nat.le_refl _
  | m + 1, j, a => by
    rw [foldN]
    refine Nat.le_trans ?_ (far_ge m (j + 1) _)
    unfold gFar
    split
    · exact Nat.le_max_left _ _
    · exact Nat.le_refl _
theorem far_lt {b : Nat → Nat} {n p : Nat} (hb : ∀ i, i < 2 * n → b i < 256) (hp : p < 256) : far b n p < 256 := by
  rcases far_spec (b := b) (p := p) n 0 p with e | ⟨k, h1, h2, h3⟩
  · unfold far; omega
  · have := hb (2 * k + 1) (by omega)
    unfold far; omega
theorem x_far {S : St} {n p : Nat} {b : Nat → Nat} (h : XB S (2 * n) b) (hp : p < 256) : f_Rows_farthestFrom S (nI n) (nI p) = some (nI (far b n p)) := by
  have hn := h.2.1
  obtain ⟨F, hF⟩ : ∃ F, FU = F := ⟨_, rfl⟩
  have hF' : 300 < F := by rw [← hF]; exact FU_gt (by omega)
  have key := loopI (fun f j (a : Nat) => f_Rows_farthestFrom_5 f S (nI n) (nI p) (nI a) (nI j)) (fun a => some (nI a)) (gFar b p) n (fun j a => a < 256) ?_ ?_ n F 0 p (by omega) (by omega) hp
  · unfold f_Rows_farthestFrom
    rw [Option.bind_some, hF]
    exact key.1
  · intro f a ha
    show f_Rows_farthestFrom_5 (f + 1) S (nI n) (nI p) (nI a) (nI n) = _
    rw [f_Rows_farthestFrom_5, if_pos (yle (Nat.le_refl n))]
  · intro f j a hj ha
    have b1 := (h.2.2 (2 * j) (by omega)).2
    have b2 := (h.2.2 (2 * j + 1) (by omega)).2
    refine ⟨?_, ?_⟩
    · show f_Rows_farthestFrom_5 (f + 1) S (nI n) (nI p) (nI a) (nI j) = f_Rows_farthestFrom_5 f S (nI n) (nI p) (nI _) (nI (j + 1))
      rw [f_Rows_farthestFrom_5, if_neg (nle hj), m2, nI_1, h.at (by omega), Option.bind_some, h.at (by omega), Option.bind_some]
      unfold gFar f_Rows_farthestFrom_44
      rw [nI_1, Option.bind_some, Option.bind_some, Option.bind_some, jmax_n (by omega) (by omega)]
      by_cases c : b (2 * j) ≤ p
      · rw [if_neg (nlt' c), if_pos c]
      · rw [if_pos (ylt (by omega)), if_neg c]
    · show gFar b p j a < 256
      unfold gFar
      split
      · exact Nat.max_lt.mpr ⟨ha, b2⟩
      · exact ha
theorem m_n91 {S : St} {n p L : Nat} {b : Nat → Nat} (h : MB S (2 * n) b) (hp : p < 256) (cnt : Nat) (K : St → Int32 → Int32 → Int32 → Int32 → Option (Int32 × St)) {F : Nat} (hF' : 300 < F) : f_Mo_night_91 K F S (nI n) (nI L) (nI cnt) (nI p) (nI p) 0 = if far b n p = p then some (-2, S) else K S (nI n) (nI L) (nI (cnt + 1)) (nI (far b n p)) := by
  have hn := h.1
  have key := loopI (fun f j (a : Nat) => f_Mo_night_91 K f S (nI n) (nI L) (nI cnt) (nI p) (nI a) (nI j)) (fun a => if a = p then some (-2, S) else K S (nI n) (nI L) (nI (cnt + 1)) (nI a)) (gFar b p) n (fun j a => a < 256) ?_ ?_ n F 0 p (by omega) (by omega) hp
  · exact key.1
  · intro f a ha
    show f_Mo_night_91 K (f + 1) S (nI n) (nI L) (nI cnt) (nI p) (nI a) (nI n) = _
    rw [f_Mo_night_91, if_pos (yle (Nat.le_refl n)), Option.bind_some, nI_1]
    by_cases c : a = p
    · rw [if_pos (by rw [c]), if_pos c]
    · rw [if_neg (fun z => c (nI_inj (by omega) (by omega) z)), if_neg c]
  · intro f j a hj ha
    have b1 := (h.2 (2 * j) (by omega)).2
    have b2 := (h.2 (2 * j + 1) (by omega)).2
    refine ⟨?_, ?_⟩
    · show f_Mo_night_91 K (f + 1) S (nI n) (nI L) (nI cnt) (nI p) (nI a) (nI j) = f_Mo_night_91 K f S (nI n) (nI L) (nI cnt) (nI p) (nI _) (nI (j + 1))
      rw [f_Mo_night_91, if_neg (nle hj), m2, nI_1, h.oct (by omega), Option.bind_some, h.oct (by omega), Option.bind_some, m_max, Option.bind_some, jmax_n (by omega) (by omega)]
      unfold gFar f_Mo_night_127
      rw [nI_1, Option.bind_some, Option.bind_some]
      by_cases c : b (2 * j) ≤ p
      · rw [if_neg (nlt' c), if_pos c]
      · rw [if_pos (ylt (by omega)), if_neg c]
    · show gFar b p j a < 256
      unfold gFar
      split
      · exact Nat.max_lt.mpr ⟨ha, b2⟩
      · exact ha
def itF (b : Nat → Nat) (n : Nat) : Nat → Nat
  | 0 => 0
  | c + 1 => far b n (itF b n c)
theorem itF_lt {b : Nat → Nat} {n : Nat} (hb : ∀ i, i < 2 * n → b i < 256) : ∀ c, itF b n c < 256
  | 0 => (by decide : (0 : Nat) < 256)
  | c + 1 => far_lt hb (itF_lt hb c)
theorem itF_few {b : Nat → Nat} {n c : Nat} (h : ∀ i, i < c → itF b n (i + 1) ≠ itF b n i) : c ≤ n := by
  have inc : ∀ i, i < c → itF b n i < itF b n (i + 1) := fun i hi => by
    have h1 : itF b n i ≤ itF b n (i + 1) := far_ge n 0 _
    have := h i hi
    omega
  have mono : ∀ j i, i < j → j ≤ c → itF b n i < itF b n j := by
    intro j
    induction j with
    | zero => intro i hi; omega
    | succ j ih =>
      intro i hi hj
      have h1 := inc j (by omega)
      rcases Nat.lt_or_ge i j with q | q
      · exact Nat.lt_trans (ih i q (by omega)) h1
      · have : i = j := by omega
        subst this; exact h1
  have ex : ∀ i, ∃ k, i < c → k < n ∧ itF b n (i + 1) = b (2 * k + 1) := fun i => by
    by_cases hi : i < c
    · rcases far_spec (b := b) (p := itF b n i) n 0 (itF b n i) with e | ⟨k, h1, h2, h3⟩
      · exact absurd e (h i hi)
      · exact ⟨k, fun _ => ⟨by omega, h3⟩⟩
    · exact ⟨0, fun z => absurd z hi⟩
  refine fb_holes n c (fun i => (ex i).choose) (fun i hi => ((ex i).choose_spec hi).1) (fun i j hij hj e => ?_)
  have e1 := ((ex i).choose_spec (by omega)).2
  have e2 := ((ex j).choose_spec hj).2
  have e3 : (ex i).choose = (ex j).choose := e
  rw [e3, ← e2] at e1
  have := mono (j + 1) (i + 1) (by omega) (by omega)
  omega
theorem x_stuck {S : St} {n p L : Nat} {b : Nat → Nat} (h : XB S (2 * n) b) (hn : n ≤ 16) (hp : p < 256) (hf : far b n p = p) (hL : p < L) (hL2 : L < 256) : ∀ k c F, c + k = n + 1 → k < F → f_Rows_fewestWicks_46 F S (nI n) (nI L) (nI p) (nI c) = some (-2) := by
  intro k
  induction k with
  | zero =>
    intro c F hc hF
    obtain ⟨F, rfl⟩ : ∃ z, F = z + 1 := ⟨F - 1, by omega⟩
    rw [f_Rows_fewestWicks_46, if_pos (ylt (by omega))]
  | succ k ih =>
    intro c F hc hF
    obtain ⟨F, rfl⟩ : ∃ z, F = z + 1 := ⟨F - 1, by omega⟩
    rw [f_Rows_fewestWicks_46, if_neg (nlt' (by omega)), if_pos (ylt hL), x_far h hp, Option.bind_some, Option.bind_some, hf, nI_1]
    exact ih (c + 1) F (by omega) (by omega)
theorem night_eq {S T : St} {n L : Nat} {b : Nat → Nat} (h : XB S (2 * n) b) (h' : MB T (2 * n) b) (hn : n ≤ 16) (hL2 : L < 256) : ∀ k c F F', c + k = n + 1 → k < F → k < F' → (∀ i, i < c → itF b n (i + 1) ≠ itF b n i) → ∃ r, f_Rows_fewestWicks_46 F S (nI n) (nI L) (nI (itF b n c)) (nI c) = some r ∧ f_Mo_night_78 F' T (nI n) (nI L) (nI c) (nI (itF b n c)) = some (r, T) := by
  intro k
  obtain ⟨F0, hF0⟩ : ∃ F, FU = F := ⟨_, rfl⟩
  have hF0' : 300 < F0 := by rw [← hF0]; exact FU_gt (by omega)
  induction k with
  | zero =>
    intro c F F' hc hF hF' hs
    have := itF_few hs
    omega
  | succ k ih =>
    intro c F F' hc hF hF' hs
    obtain ⟨F, rfl⟩ : ∃ z, F = z + 1 := ⟨F - 1, by omega⟩
    obtain ⟨F', rfl⟩ : ∃ z, F' = z + 1 := ⟨F' - 1, by omega⟩
    have hp := itF_lt (n := n) (fun i hi => (h.2.2 i hi).2) c
    by_cases q : L ≤ itF b n c
    · refine ⟨nI c, ?_, ?_⟩
      · rw [f_Rows_fewestWicks_46, if_neg (nlt' (by omega)), if_neg (nlt' q)]
      · rw [f_Mo_night_78, if_pos (yle q)]
    · by_cases e : far b n (itF b n c) = itF b n c
      · refine ⟨-2, x_stuck h hn hp e (by omega) hL2 (k + 1) c (F + 1) hc hF, ?_⟩
        rw [f_Mo_night_78, if_neg (nle (by omega)), Option.bind_some, hF0, m_n91 h' hp c _ hF0', if_pos e]
      · rw [f_Rows_fewestWicks_46, if_neg (nlt' (by omega)), if_pos (ylt (by omega)), x_far h hp, Option.bind_some, Option.bind_some, nI_1, f_Mo_night_78, if_neg (nle (by omega)), Option.bind_some, hF0, m_n91 h' hp c _ hF0', if_neg e]
        refine ih (c + 1) F F' (by omega) (by omega) (by omega) (fun i hi => ?_)
        by_cases z : i = c
        · subst z; exact e
        · exact hs i (by omega)
theorem night_eq2 {S T : St} {n L : Nat} {b : Nat → Nat} (h : XB S (2 * n) b) (h' : MB T (2 * n) b) (hn : n ≤ 16) (hL2 : L < 256) : ∀ k j F F', j + k = n → k < F → k < F' → ∃ r, f_Rows_fewestWicks_2 F S (nI n) (nI L) (nI j) = some r ∧ f_Mo_night_40 F' T (nI n) (nI L) (nI j) = some (r, T) := by
  intro k
  obtain ⟨F0, hF0⟩ : ∃ F, FU = F := ⟨_, rfl⟩
  have hF0' : 300 < F0 := by rw [← hF0]; exact FU_gt (by omega)
  induction k with
  | zero =>
    intro j F F' hj hF hF'
    obtain ⟨F, rfl⟩ : ∃ z, F = z + 1 := ⟨F - 1, by omega⟩
    obtain ⟨F', rfl⟩ : ∃ z, F' = z + 1 := ⟨F' - 1, by omega⟩
    rw [f_Rows_fewestWicks_2, if_pos (yle (by omega)), Option.bind_some, Option.bind_some, f_Mo_night_40, if_pos (yle (by omega)), Option.bind_some, Option.bind_some, hF0]
    exact night_eq h h' hn hL2 (n + 1) 0 F0 F0 (by omega) (by omega) (by omega) (fun i hi => by omega)
  | succ k ih =>
    intro j F F' hj hF hF'
    obtain ⟨F, rfl⟩ : ∃ z, F = z + 1 := ⟨F - 1, by omega⟩
    obtain ⟨F', rfl⟩ : ∃ z, F' = z + 1 := ⟨F' - 1, by omega⟩
    rw [f_Rows_fewestWicks_2, if_neg (nle (by omega)), m2, nI_1, h.at (by omega), Option.bind_some, h.at (by omega), Option.bind_some, f_Mo_night_40, if_neg (nle (by omega)), m2, show nI (2 * j) + 1 = nI (2 * j + 1) from nI_1 _, h'.oct (i := 2 * j + 1) (by omega), Option.bind_some, h'.oct (i := 2 * j) (by omega), Option.bind_some]
    by_cases c : nI (b (2 * j)) < nI (b (2 * j + 1))
    · simp only [c, ↓reduceIte, Option.bind_some, nI_1]
      exact ih (j + 1) F F' (by omega) (by omega) (by omega)
    · simp only [c, ↓reduceIte, Option.bind_some]
      exact ⟨-3, rfl, rfl⟩
section STP
variable {LR : St → St → Prop}
theorem st_night (hL : LRc LR) (a b' : Int32) : STEP (RelL LR) m_W_night m_Mo_night 4 2 [a, b'] := by
  intro Sx Sm hR
  obtain ⟨F, hF⟩ : ∃ F, FU = F := ⟨_, rfl⟩
  have hF' : 4000 < F := by rw [← hF]; exact FU_gt (by omega)
  have no : f_W_night Sx a b' = some (-1, Sx) → f_Mo_night Sm a b' = some (-1, Sm) → ∃ r Sx' Sm', Ct SX m_W_night 4 (.ref 0 :: [a, b'].map Value.int) Sx (some r) Sx' ∧ Ct SM m_Mo_night 2 (.ref 0 :: [a, b'].map Value.int) Sm (some r) Sm' ∧ RelL LR Sx' Sm' := fun e1 e2 => ⟨-1, Sx, Sm, t_W_night e1, t_Mo_night e2, hR⟩
  by_cases hc : a < 1 ∨ (16 : Int32) < a
  · exact no (by unfold f_W_night; rw [wi_n hc]; rfl) (by unfold f_Mo_night; rw [in_n hc]; rfl)
  have n1 : ¬ a < 1 := fun z => hc (Or.inl z)
  have n2 : ¬ (16 : Int32) < a := fun z => hc (Or.inr z)
  by_cases hc2 : b' < 1 ∨ (255 : Int32) < b'
  · exact no (by unfold f_W_night; rw [wi_y n1 n2, wi_n hc2]; rfl) (by unfold f_Mo_night; rw [in_y n1 n2, in_n hc2]; rfl)
  have n3 : ¬ b' < 1 := fun z => hc2 (Or.inl z)
  have n4 : ¬ (255 : Int32) < b' := fun z => hc2 (Or.inr z)
  obtain ⟨n, q1, q2, rfl⟩ := rngN (a := 1) (b := 16) (by omega) n1 n2
  obtain ⟨L, q3, q4, rfl⟩ := rngN (a := 1) (b := 255) (by omega) n3 n4
  rcases tk hR.1 (2 * n) (by omega) with ⟨b, t1, t2, t3, t4⟩ | ⟨t1, t2⟩
  · obtain ⟨r, e1, e2⟩ := night_eq2 t3 t4 q2 (show L < 256 by omega) n 0 F F (by omega) (by omega) (by omega)
    have h1 : f_W_night Sx (nI n) (nI L) = some (r, tX Sx (2 * n)) := by
      unfold f_W_night f_Rows_fewestWicks
      rw [wi_y n1 n2, Option.bind_some, if_neg i10, wi_y n3 n4, Option.bind_some, if_neg i10, m2, t1, Option.bind_some, if_neg i10, Option.bind_some, hF]
      have e1' : f_Rows_fewestWicks_2 F (tX Sx (2 * n)) (nI n) (nI L) 0 = some r := e1
      rw [e1', Option.bind_some]
    have h2 : f_Mo_night Sm (nI n) (nI L) = some (r, tM Sm) := by
      unfold f_Mo_night
      rw [in_y n1 n2, Option.bind_some, if_neg i10, in_y n3 n4, Option.bind_some, if_neg i10, m2, if_pos t2, Option.bind_some, Option.bind_some, hF]
      exact e2
    exact ⟨r, tX Sx (2 * n), tM Sm, t_W_night h1, t_Mo_night h2, hR.tt hL _⟩
  · refine no ?_ ?_
    · unfold f_W_night
      rw [wi_y n1 n2, Option.bind_some, if_neg i10, wi_y n3 n4, Option.bind_some, if_neg i10, m2, t1]; rfl
    · unfold f_Mo_night
      rw [in_y n1 n2, Option.bind_some, if_neg i10, in_y n3 n4, Option.bind_some, if_neg i10, m2, if_neg t2]
end STP
