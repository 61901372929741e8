theorem foldN_rel {α β : Type} {g : Nat → α → α} {g' : Nat → β → β} (I : Nat → α → β → Prop) : ∀ (m j : Nat) (a : α) (b : β), I j a b → (∀ k a b, j ≤ k → k < j + m → I k a b → I (k + 1) (g k a) (g' k b)) → I (j + m) (foldN g m j a) (foldN g' m j b) := by
  intro m
  induction m with
  | zero => intro j a b h _; exact h
  | succ m ih =>
    intro j a b h hs
    have := ih (j + 1) (g j a) (g' j b) (hs j a b (Nat.le_refl _) (by omega) h) (fun k a b h1 h2 => hs k a b (by omega) (by omega))
    rw [foldN, foldN, show j + (m + 1) = j + 1 + m by omega]
    exact this
theorem nIx {a b : Nat} : nI a + nI b = nI (a + b) := nI_add a b
/-- sums are small numbers -/
theorem light_n {t : Nat} {wh r : Nat → Int32} (hr : RR t r) (x : Int32) : ∃ s, s ≤ 999 * t ∧ foldN (gLight wh r x) t 0 0 = nI s := by
  have := foldN_inv (g := gLight wh r x) (fun k a => ∃ s, s ≤ 999 * k ∧ a = nI s) t 0 0 ⟨0, by omega, rfl⟩ (fun k a _ hk ⟨s, h1, h2⟩ => by
    obtain ⟨⟨v, hv, ev⟩, -⟩ := hr.1 k (by omega)
    unfold gLight
    rw [h2, ev]
    by_cases c1 : r (24 + k) = 1
    · rw [if_pos c1]
      by_cases c2 : x = 16 ∨ wh k = x
      · rw [if_pos c2]; exact ⟨s + v, by omega, nIx⟩
      · rw [if_neg c2]; exact ⟨s, by omega, rfl⟩
    · rw [if_neg c1]; exact ⟨s, by omega, rfl⟩)
  simpa using this
theorem days_n {t : Nat} {wh r : Nat → Int32} (hr : RR t r) (x : Int32) : ∃ s, s ≤ 9999 * t ∧ foldN (gDays wh r x) t 0 0 = nI s := by
  have := foldN_inv (g := gDays wh r x) (fun k a => ∃ s, s ≤ 9999 * k ∧ a = nI s) t 0 0 ⟨0, by omega, rfl⟩ (fun k a _ hk ⟨s, h1, h2⟩ => by
    obtain ⟨-, -, ⟨v, hv, ev⟩, -⟩ := hr.1 k (by omega)
    unfold gDays
    rw [h2, ev]
    by_cases c1 : wh k = x
    · rw [if_pos c1]
      by_cases c2 : r (72 + k) = 0
      · rw [if_pos c2]; exact ⟨s + v, by omega, nIx⟩
      · rw [if_neg c2]; exact ⟨s, by omega, rfl⟩
    · rw [if_neg c1]; exact ⟨s, by omega, rfl⟩)
  simpa using this
/-- how many are left: 0 or not -/
theorem left_n {t : Nat} {wh r : Nat → Int32} (x : Int32) : ∃ s, s ≤ t ∧ foldN (gLeft wh r x) t 0 0 = nI s ∧ (s = 0 ↔ ∀ k, k < t → ¬ (wh k = x ∧ r (72 + k) = 0)) := by
  have := foldN_inv (g := gLeft wh r x) (fun k a => ∃ s, s ≤ k ∧ a = nI s ∧ (s = 0 ↔ ∀ i, i < k → ¬ (wh i = x ∧ r (72 + i) = 0))) t 0 0 ⟨0, by omega, rfl, by simp⟩ (fun k a _ hk ⟨s, h1, h2, h3⟩ => by
    unfold gLeft
    rw [h2]
    by_cases c1 : wh k = x
    · rw [if_pos c1]
      by_cases c2 : r (72 + k) = 0
      · rw [if_pos c2]
        exact ⟨s + 1, by omega, nI_1 s, ⟨fun h => by omega, fun h => absurd ⟨c1, c2⟩ (h k (by omega))⟩⟩
      · rw [if_neg c2]
        refine ⟨s, by omega, rfl, h3.trans ⟨fun h i hi => ?_, fun h i hi => h i (by omega)⟩⟩
        rcases Nat.lt_or_ge i k with q | q
        · exact h i q
        · have : i = k := by omega
          subst this
          exact fun z => c2 z.2
    · rw [if_neg c1]
      refine ⟨s, by omega, rfl, h3.trans ⟨fun h i hi => ?_, fun h i hi => h i (by omega)⟩⟩
      rcases Nat.lt_or_ge i k with q | q
      · exact h i q
      · have : i = k := by omega
        subst this
        exact fun z => c1 z.1)
  simpa using this
theorem bt_shl1 {k i : Nat} (hk : k < 32) (hi : i < 32) : bt (jshl 1 (nI k)) i = decide (i = k) := by
  unfold jshl
  rw [b_shl k hk 1 hi]
  by_cases h : i = k
  · subst h
    have : bt 1 0 = true := by decide
    simp [this]
  · by_cases h2 : k ≤ i
    · have : ∀ i, i < 32 → i ≠ 0 → bt 1 i = false := by decide
      rw [this (i - k) (by omega) (by omega)]
      simp [h]
    · simp [h, h2]
/-- whose are left, as bits -/
theorem own_bt {t : Nat} {wh r : Nat → Int32} (hw : ∀ k, k < t → ∃ a, a < 16 ∧ wh k = nI a) {i : Nat} (hi : i < 32) : bt (foldN (gOwn wh r) t 0 0) i = true ↔ ∃ k, k < t ∧ wh k = nI i ∧ r (72 + k) = 0 := by
  have := foldN_inv (g := gOwn wh r) (fun k a => bt a i = true ↔ ∃ j, j < k ∧ wh j = nI i ∧ r (72 + j) = 0) t 0 0 (by rw [b_0]; simp) (fun k a _ hk h3 => by
    unfold gOwn
    obtain ⟨v, hv, ev⟩ := hw k (by omega)
    by_cases c2 : r (72 + k) = 0
    · rw [if_pos c2, b_or, ev, bt_shl1 (by omega) hi]
      constructor
      · intro h
        rcases Bool.or_eq_true_iff.mp h with q | q
        · obtain ⟨j, h1, h2⟩ := h3.mp q
          exact ⟨j, by omega, h2⟩
        · exact ⟨k, by omega, by rw [ev, of_decide_eq_true q], c2⟩
      · rintro ⟨j, h1, h2, h4⟩
        rcases Nat.lt_or_ge j k with q | q
        · rw [h3.mpr ⟨j, q, h2, h4⟩]; rfl
        · have : j = k := by omega
          subst this
          rw [ev] at h2
          have : i = v := (nI_inj (by omega) (by omega) h2).symm
          simp [this]
    · rw [if_neg c2, h3]
      constructor
      · rintro ⟨j, h1, h2⟩; exact ⟨j, by omega, h2⟩
      · rintro ⟨j, h1, h2, h4⟩
        rcases Nat.lt_or_ge j k with q | q
        · exact ⟨j, q, h2, h4⟩
        · have : j = k := by omega
          subst this
          exact absurd h4 c2)
  simpa using this
section STP
variable {LR : St → St → Prop}
theorem n16 {k : Nat} (h : k < 16) : ¬ (16 : Int32) ≤ nI k := nle (b := 16) h
theorem y16 : (16 : Int32) ≤ nI 16 := by decide
def bestX (L : Int32 → Int32) (k : Nat) (a : Int32 × Int32) : Int32 × Int32 := if L (nI k) ≤ a.2 then a else (nI k, L (nI k))
def bestM (L : Int32 → Int32) (k : Nat) (a : Int32) : Int32 := if L (nI k) ≤ L a then a else nI k
theorem fold_s {α : Type} (g : Nat → α → α) (m j : Nat) (a : α) : foldN g (m + 1) j a = foldN g m (j + 1) (g j a) := rfl
def bestI (L : Int32 → Int32) (p : Int32 × Int32) (q : Int32) : Prop := p.2 = L q ∧ ((p.1 = -2 ∧ p.2 = 0) ∨ (p.1 = q ∧ ¬ p.2 = 0 ∧ 0 ≤ q))
theorem best_rel {L : Int32 → Int32} (hL : ∀ x, 0 ≤ L x) (m : Nat) (hm : m < 1000) : bestI L (foldN (bestX L) (m + 1) 0 (-2, 0)) (foldN (bestM L) m 1 0) := by
  rw [fold_s]
  refine foldN_rel (fun (_ : Nat) p q => bestI L p q) m 1 _ _ ?_ ?_
  · unfold bestI bestX
    have h0 := hL (nI 0)
    by_cases c : L (nI 0) ≤ (-2, (0 : Int32)).2
    · rw [if_pos c]
      have c : L (nI 0) ≤ 0 := c
      have e : L (nI 0) = 0 := (fa_eq _ _).mpr (by have a1 := (fa_le _ _).mp c; have a2 := (fa_le _ _).mp h0; show (L (nI 0)).toInt = (0 : Int32).toInt; omega)
      exact ⟨e.symm, Or.inl ⟨rfl, rfl⟩⟩
    · rw [if_neg c]
      refine ⟨rfl, Or.inr ⟨rfl, fun e => c ?_, by decide⟩⟩
      show L (nI 0) ≤ 0
      rw [show L (nI 0) = 0 from e]; decide
  · intro k p q hk1 hk2 ⟨e1, e2⟩
    unfold bestI bestX bestM
    rw [e1]
    by_cases c : L (nI k) ≤ L q
    · rw [if_pos c, if_pos c]; exact ⟨e1, e2⟩
    · rw [if_neg c, if_neg c]
      refine ⟨rfl, Or.inr ⟨rfl, fun e => c ?_, nI_pos' (by omega)⟩⟩
      rw [show L (nI k) = 0 from e]; exact hL q
theorem x_bright {S : St} {P t : Nat} {r wh wa : Nat → Int32} (h : NP S P t r wh wa) : f_Parish_brightestOwner S P = some (foldN (bestX (fun x => foldN (gLight wh r x) t 0 0)) 16 0 (-2, 0)).1 := by
  have key := loopN (fun n j (a : Int32 × Int32) => f_Parish_brightestOwner_7 P n S a.1 a.2 (nI j)) (fun a => some a.1) (bestX (fun x => foldN (gLight wh r x) t 0 0)) 16 ?_ ?_ 16 FU 0 (-2, 0) (by omega) (FU_gt (by omega))
  · exact key
  · intro n a
    show f_Parish_brightestOwner_7 P (n + 1) S a.1 a.2 (nI 16) = _
    rw [f_Parish_brightestOwner_7, if_pos y16]
  · intro n j a hj
    show f_Parish_brightestOwner_7 P (n + 1) S a.1 a.2 (nI j) = f_Parish_brightestOwner_7 P n S _ _ (nI (j + 1))
    rw [f_Parish_brightestOwner_7, if_neg (n16 hj), x_lightOf h]
    unfold f_Parish_brightestOwner_31 bestX
    simp only [Option.bind_some, nI_1]
    by_cases c : foldN (gLight wh r (nI j)) t 0 0 ≤ a.2
    · simp only [c, ↓reduceIte]
    · simp only [c, ↓reduceIte]
def finW (L : Int32 → Int32) (what best : Int32) : Option Int32 := if what = 1 then some (L best) else if L best = 0 then some (-2) else some best
theorem m_worst {M : St} {t : Nat} (h : NM M t) (hr : ∀ k, k < t → M 1 (24 + k) = 0 ∨ M 1 (24 + k) = 1) (what : Int32) : f_Mo_worstNews_15 FU M what 0 1 = finW (fun x => foldN (gLight (M 4) (M 1) x) t 0 0) what (foldN (bestM (fun x => foldN (gLight (M 4) (M 1) x) t 0 0)) 15 1 0) := by
  have key := loopN (fun n j (a : Int32) => f_Mo_worstNews_15 n M what a (nI j)) (fun a => finW (fun x => foldN (gLight (M 4) (M 1) x) t 0 0) what a) (bestM (fun x => foldN (gLight (M 4) (M 1) x) t 0 0)) 16 ?_ ?_ 15 FU 1 0 (by omega) (FU_gt (by omega))
  · exact key
  · intro n a
    show f_Mo_worstNews_15 (n + 1) M what a (nI 16) = _
    rw [f_Mo_worstNews_15, if_pos y16, m_lightOf h hr]
    rfl
  · intro n j a hj
    show f_Mo_worstNews_15 (n + 1) M what a (nI j) = f_Mo_worstNews_15 n M what _ (nI (j + 1))
    rw [f_Mo_worstNews_15, if_neg (n16 hj), m_lightOf h hr, m_lightOf h hr]
    unfold f_Mo_worstNews_36 bestM
    simp only [Option.bind_some, nI_1]
    by_cases c : foldN (gLight (M 4) (M 1) (nI j)) t 0 0 ≤ foldN (gLight (M 4) (M 1) a) t 0 0
    · simp only [c, ↓reduceIte]
    · simp only [c, ↓reduceIte]
theorem in01 {a : Int32} (h1 : ¬ a < 0) (h2 : ¬ (1 : Int32) < a) : a = 0 ∨ a = 1 := by
  have := fb_rng a
  have n1 : ¬ a.toInt < (0 : Int32).toInt := fun z => h1 ((fa_lt a 0).mpr z)
  have n2 : ¬ (1 : Int32).toInt < a.toInt := fun z => h2 ((fa_lt 1 a).mpr z)
  have z0 : (0 : Int32).toInt = 0 := by decide
  have z1 : (1 : Int32).toInt = 1 := by decide
  rw [z0] at n1
  rw [z1] at n2
  rcases (show a.toInt = 0 ∨ a.toInt = 1 by omega) with e | e
  · exact Or.inl ((fa_eq a 0).mpr (by rw [e, z0]))
  · exact Or.inr ((fa_eq a 1).mpr (by rw [e, z1]))
theorem wn_m {M : St} {t : Nat} (h : NM M t) (hr : ∀ k, k < t → M 1 (24 + k) = 0 ∨ M 1 (24 + k) = 1) {a : Int32} (h1 : ¬ a < 0) (h2 : ¬ (1 : Int32) < a) : f_Mo_worstNews M a = finW (fun x => foldN (gLight (M 4) (M 1) x) t 0 0) a (foldN (bestM (fun x => foldN (gLight (M 4) (M 1) x) t 0 0)) 15 1 0) := by
  rw [← m_worst h hr]
  unfold f_Mo_worstNews f_Mo_in
  rw [if_neg h1, if_neg h2]
  rfl
theorem wn_m0 {M : St} {a : Int32} (h1 : a < 0 ∨ (1 : Int32) < a) : f_Mo_worstNews M a = some (-1) := by
  unfold f_Mo_worstNews f_Mo_in
  by_cases h : a < 0
  · rw [if_pos h]; rfl
  · rw [if_neg h, if_pos (h1.resolve_left h)]; rfl
theorem wn_x0 {S : St} {a : Int32} (h1 : a < 0 ∨ (1 : Int32) < a) : f_W_worstNews S a = some (-1) := by
  unfold f_W_worstNews f_W_within
  by_cases h : a < 0
  · rw [if_pos h]; rfl
  · rw [if_neg h, if_pos (h1.resolve_left h)]; rfl
theorem wn_x {S : St} {t : Nat} {r wh wa : Nat → Int32} (h : NP S 4 t r wh wa) {a : Int32} (h1 : ¬ a < 0) (h2 : ¬ (1 : Int32) < a) : f_W_worstNews S a = if a = 0 then some (foldN (bestX (fun x => foldN (gLight wh r x) t 0 0)) 16 0 (-2, 0)).1 else if 0 ≤ (foldN (bestX (fun x => foldN (gLight wh r x) t 0 0)) 16 0 (-2, 0)).1 then some (foldN (gLight wh r (foldN (bestX (fun x => foldN (gLight wh r x) t 0 0)) 16 0 (-2, 0)).1) t 0 0) else some 0 := by
  unfold f_W_worstNews f_W_within
  rw [if_neg h1, if_neg h2, x_bright h]
  generalize (foldN (bestX (fun x => foldN (gLight wh r x) t 0 0)) 16 0 (-2, 0)).1 = v
  simp only [Option.bind_some, i10, ↓reduceIte, x_lightOf h]
theorem st_worstNews (a : Int32) : STEP (RelL LR) m_W_worstNews m_Mo_worstNews 4 2 [a] := by
  intro Sx Sm hR
  obtain ⟨t, h, hm⟩ := hR.2.1.np
  have hrr := h.2.2.2.2
  have ht := h.1
  have rel : bestI (fun x => foldN (gLight (Sm 4) (Sm 1) x) t 0 0) (foldN (bestX (fun x => foldN (gLight (Sm 4) (Sm 1) x) t 0 0)) 16 0 (-2, 0)) (foldN (bestM (fun x => foldN (gLight (Sm 4) (Sm 1) x) t 0 0)) 15 1 0) := best_rel (fun x => by obtain ⟨s, h1, h2⟩ := light_n (wh := Sm 4) hrr x; show 0 ≤ foldN _ _ _ _; rw [h2]; exact nI_pos' (by omega)) 15 (by omega)
  have key : ∃ r, f_W_worstNews Sx a = some r ∧ f_Mo_worstNews Sm a = some r := by
    by_cases h1 : a < 0
    · exact ⟨_, wn_x0 (Or.inl h1), wn_m0 (Or.inl h1)⟩
    by_cases h2 : (1 : Int32) < a
    · exact ⟨_, wn_x0 (Or.inr h2), wn_m0 (Or.inr h2)⟩
    rw [wn_x h h1 h2, wn_m hm (fun k hk => h.lt hk) h1 h2]
    obtain ⟨e1, e2⟩ := rel
    generalize foldN (bestX (fun x => foldN (gLight (Sm 4) (Sm 1) x) t 0 0)) 16 0 (-2, 0) = p at e1 e2 ⊢
    generalize foldN (bestM (fun x => foldN (gLight (Sm 4) (Sm 1) x) t 0 0)) 15 1 0 = q at e1 e2 ⊢
    unfold finW
    dsimp only at e1 ⊢
    rcases in01 h1 h2 with rfl | rfl
    · rw [if_pos rfl, if_neg i01]
      rcases e2 with ⟨e2, e3⟩ | ⟨e2, e3, e4⟩
      · rw [if_pos (e1.symm.trans e3), e2]; exact ⟨_, rfl, rfl⟩
      · rw [if_neg (fun z => e3 (e1.trans z)), e2]; exact ⟨_, rfl, rfl⟩
    · rw [if_neg i10, if_pos rfl]
      rcases e2 with ⟨e2, e3⟩ | ⟨e2, e3, e4⟩
      · rw [e2, ← e1, e3, if_neg (by decide)]; exact ⟨_, rfl, rfl⟩
      · rw [e2, if_pos e4]; exact ⟨_, rfl, rfl⟩
  obtain ⟨r, hx, hm⟩ := key
  exact ⟨r, Sx, Sm, t_W_worstNews hx, t_Mo_worstNews hm, hR⟩
end STP
