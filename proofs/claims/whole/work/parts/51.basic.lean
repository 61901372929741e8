/-! LOOPS that count up, as folds -/
def foldN {α : Type} (g : Nat → α → α) : Nat → Nat → α → α
  | 0, _, a => a
  | m + 1, j, a => foldN g m (j + 1) (g j a)
theorem loopN {α R : Type} (F : Nat → Nat → α → Option R) (K : α → Option R) (g : Nat → α → α) (t : Nat) (hx : ∀ n a, F (n + 1) t a = K a) (hs : ∀ n j a, j < t → F (n + 1) j a = F n (j + 1) (g j a)) : ∀ m n j a, j + m = t → m < n → F n j a = K (foldN g m j a) := by
  intro m
  induction m with
  | zero =>
    intro n j a hj hn
    obtain ⟨n, rfl⟩ : ∃ z, n = z + 1 := ⟨n - 1, by omega⟩
    have : j = t := by omega
    subst this
    exact hx n a
  | succ m ih =>
    intro n j a hj hn
    obtain ⟨n, rfl⟩ : ∃ z, n = z + 1 := ⟨n - 1, by omega⟩
    rw [hs n j a (by omega)]
    exact ih n (j + 1) (g j a) (by omega) (by omega)
/-- the same with an invariant -/
theorem loopI {α R : Type} (F : Nat → Nat → α → Option R) (K : α → Option R) (g : Nat → α → α) (t : Nat) (I : Nat → α → Prop) (hx : ∀ n a, I t a → F (n + 1) t a = K a) (hs : ∀ n j a, j < t → I j a → F (n + 1) j a = F n (j + 1) (g j a) ∧ I (j + 1) (g j a)) : ∀ m n j a, j + m = t → m < n → I j a → F n j a = K (foldN g m j a) ∧ I t (foldN g m j a) := by
  intro m
  induction m with
  | zero =>
    intro n j a hj hn hI
    obtain ⟨n, rfl⟩ : ∃ z, n = z + 1 := ⟨n - 1, by omega⟩
    have : j = t := by omega
    subst this
    exact ⟨hx n a hI, hI⟩
  | succ m ih =>
    intro n j a hj hn hI
    obtain ⟨n, rfl⟩ : ∃ z, n = z + 1 := ⟨n - 1, by omega⟩
    obtain ⟨h1, h2⟩ := hs n j a (by omega) hI
    rw [h1]
    exact ih n (j + 1) (g j a) (by omega) (by omega) h2
/-- a loop that may end early -/
def foldE {α R : Type} (g : Nat → α → R ⊕ α) (K : α → R) : Nat → Nat → α → R
  | 0, _, a => K a
  | m + 1, j, a => match g j a with
    | .inl r => r
    | .inr b => foldE g K m (j + 1) b
theorem loopE {α R : Type} (F : Nat → Nat → α → Option R) (K : α → Option R) (g : Nat → α → Option R ⊕ α) (t : Nat) (hx : ∀ n a, F (n + 1) t a = K a) (hs : ∀ n j a, j < t → F (n + 1) j a = match g j a with
    | .inl r => r
    | .inr b => F n (j + 1) b) : ∀ m n j a, j + m = t → m < n → F n j a = foldE g K m j a := by
  intro m
  induction m with
  | zero =>
    intro n j a hj hn
    obtain ⟨n, rfl⟩ : ∃ z, n = z + 1 := ⟨n - 1, by omega⟩
    have : j = t := by omega
    subst this
    exact hx n a
  | succ m ih =>
    intro n j a hj hn
    obtain ⟨n, rfl⟩ : ∃ z, n = z + 1 := ⟨n - 1, by omega⟩
    rw [hs n j a (by omega), foldE]
    cases g j a with
    | inl r => rfl
    | inr b => exact ih n (j + 1) b (by omega) (by omega)
theorem foldN_cong {α : Type} {g g' : Nat → α → α} : ∀ (m j : Nat) (a : α), (∀ k a, j ≤ k → k < j + m → g k a = g' k a) → foldN g m j a = foldN g' m j a := by
  intro m
  induction m with
  | zero => intro j a _; rfl
  | succ m ih =>
    intro j a h
    rw [foldN, foldN, h j a (Nat.le_refl _) (by omega)]
    exact ih (j + 1) _ (fun k a h1 h2 => h k a (by omega) (by omega))
theorem foldN_inv {α : Type} {g : Nat → α → α} (I : Nat → α → Prop) : ∀ (m j : Nat) (a : α), I j a → (∀ k a, j ≤ k → k < j + m → I k a → I (k + 1) (g k a)) → I (j + m) (foldN g m j a) := by
  intro m
  induction m with
  | zero => intro j a h _; exact h
  | succ m ih =>
    intro j a h hs
    have := ih (j + 1) (g j a) (hs j a (Nat.le_refl _) (by omega) h) (fun k a h1 h2 => hs k a (by omega) (by omega))
    rw [foldN]
    rw [show j + (m + 1) = j + 1 + m by omega]
    exact this
theorem FU_gt {n : Nat} (h : n < 1000000) : n < FU := h
theorem nle {a b : Nat} (h : a < b) (hb : b < 2 ^ 31 := by omega) : ¬ nI b ≤ nI a := nI_ge h hb
theorem yle {a b : Nat} (h : a ≤ b) (hb : b < 2 ^ 31 := by omega) : nI a ≤ nI b := nI_le h hb
theorem nlt' {a b : Nat} (h : b ≤ a) (ha : a < 2 ^ 31 := by omega) : ¬ nI a < nI b := nI_nlt h ha
theorem ylt {a b : Nat} (h : a < b) (hb : b < 2 ^ 31 := by omega) : nI a < nI b := nI_lt h hb
theorem cl {n : Nat} (h : n < 2 ^ 31 := by omega) : (nI n).toNatClampNeg = n := nI_clamp h
theorem i01 : ¬ (0 : Int32) = 1 := by decide
theorem nI_m2 {n : Nat} (h : n < 2 ^ 31) : ¬ nI n = -2 := by
  intro e
  have := congrArg Int32.toInt e
  rw [nI_toInt h] at this
  have h2 : (-2 : Int32).toInt = -2 := by decide
  omega
theorem i10 : ¬ (1 : Int32) = 0 := by decide
theorem n24 {k : Nat} (h : k < 24) : ¬ (24 : Int32) ≤ nI k := nle (b := 24) h
theorem z0I (x : Int32) : 0 + x = x := Int32.zero_add x
theorem a24 (k : Nat) : (24 : Int32) + nI k = nI (24 + k) := nI_add 24 k
theorem a48 (k : Nat) : (48 : Int32) + nI k = nI (48 + k) := nI_add 48 k
theorem a72 (k : Nat) : (72 : Int32) + nI k = nI (72 + k) := nI_add 72 k
/-! small methods of both sides -/
section Q
variable {S : St} {P t : Nat}
theorem has_y (hT : S P 6 = nI t) (ht : t ≤ 24) {k : Nat} (hk : k < t) : f_Parish_has S P (nI k) = some 1 := by
  unfold f_Parish_has
  rw [if_neg (nI_pos (by omega)), hT, if_neg (nle hk), if_neg (n24 (show k < 24 by omega))]
theorem has_n (hT : S P 6 = nI t) {x : Int32} (hx : x < 0 ∨ nI t ≤ x) : f_Parish_has S P x = some 0 := by
  unfold f_Parish_has
  by_cases h : x < 0
  · rw [if_pos h]
  · rw [if_neg h, hT, if_pos (hx.resolve_left h)]
theorem isT_y (hT : S 0 5 = nI t) (ht : t ≤ 24) {k : Nat} (hk : k < t) : f_Mo_isThing S (nI k) = some 1 := by
  unfold f_Mo_isThing f_Mo_in
  rw [hT, if_neg (nI_pos (by omega)), show nI t - 1 = nI (t - 1) from pk_sub (a := t) (b := 1) (by omega), if_neg (nlt' (show k ≤ t - 1 by omega))]
  rfl
theorem isT_n (hT : S 0 5 = nI t) (ht : t ≤ 24) {x : Int32} (hx : x < 0 ∨ nI t ≤ x) : f_Mo_isThing S x = some 0 := by
  unfold f_Mo_isThing f_Mo_in
  by_cases h : x < 0
  · rw [if_pos h]; rfl
  · have h2 := hx.resolve_left h
    have h3 : nI t - 1 < x := by
      apply Int32.lt_iff_toInt_lt.mpr
      have := Int32.le_iff_toInt_le.mp h2
      rw [nI_toInt (by omega)] at this
      rw [show nI t - 1 = nI t - nI 1 from rfl, pk_sub_toInt (by omega) (by omega)]
      omega
    rw [if_neg h, hT, if_pos h3]; rfl
theorem done_e {k : Nat} (hk : k < 32) : f_Parish_isDone S P (nI k) = some (if bt (S P 5) k then 1 else 0) := by
  unfold f_Parish_isDone
  cases h : bt (S P 5) k with
  | false => rw [if_pos ((bt1 hk).mpr h)]; rfl
  | true => rw [if_neg (fun q => by rw [(bt1 hk).mp q] at h; cases h)]; rfl
theorem lit_e {k : Nat} (hk : k < 32) : f_Parish_isLit S P (nI k) = some (if bt (S P 4) k then 1 else 0) := by
  unfold f_Parish_isLit
  cases h : bt (S P 4) k with
  | false => rw [if_pos ((bt1 hk).mpr h)]; rfl
  | true => rw [if_neg (fun q => by rw [(bt1 hk).mp q] at h; cases h)]; rfl
theorem isL_y (hT : S 0 5 = nI t) (ht : t ≤ 24) {k : Nat} (hk : k < t) : f_Mo_isLeft S (nI k) = some (if S 1 (72 + k) = 0 then 1 else 0) := by
  unfold f_Mo_isLeft
  have g4 : ig (nI (72 + k)) 99 = true := gn (by omega) (by omega)
  have c4 : (nI (72 + k)).toNatClampNeg = 72 + k := cl
  rw [isT_y hT ht hk]
  simp only [Option.bind_some, i10, ↓reduceIte, a72, g4, c4]
  by_cases h : S 1 (72 + k) = 0
  · simp only [h, ↓reduceIte]
  · simp only [h, ↓reduceIte]
theorem isL_n (hT : S 0 5 = nI t) (ht : t ≤ 24) {x : Int32} (hx : x < 0 ∨ nI t ≤ x) : f_Mo_isLeft S x = some 0 := by
  unfold f_Mo_isLeft
  rw [isT_n hT ht hx]
  rfl
end Q
theorem ix3 (x : Int32) {t : Nat} (ht : t ≤ 24) : (x < 0 ∨ nI t ≤ x) ∨ ∃ k, k < t ∧ x = nI k := by
  rcases pk_ix x (n := t) (by omega) with h | h | h
  · exact Or.inl (Or.inl h)
  · exact Or.inl (Or.inr h)
  · exact Or.inr h
section STP
variable {LR : St → St → Prop}
theorem st_thingIs (a b : Int32) : STEP (RelL LR) m_W_thingIs m_Mo_thingIs 2 3 [a, b] := by
  intro Sx Sm hR
  obtain ⟨t, ht, h1, ⟨h2, h3⟩, h4, ⟨p1, p2, p3, p4, p5, p6⟩, r1, r2, r3⟩ := hR.2.1
  have key : ∃ r, f_W_thingIs Sx a b = some r ∧ f_Mo_thingIs Sm a b = some r := by
    unfold f_W_thingIs f_Mo_thingIs
    rcases ix3 a ht with hx | ⟨k, hk, rfl⟩
    · rw [has_n h2 hx, isT_n h1 ht hx]
      exact ⟨_, rfl, rfl⟩
    · rw [has_y h2 ht hk, isT_y h1 ht hk]
      obtain ⟨q1, q2⟩ := h3 k hk
      obtain ⟨q3, q4⟩ := p1 k hk
      obtain ⟨q5, q6⟩ := p2 k hk
      obtain ⟨-, l1, -, l2⟩ := r1 k hk
      have g1 : ig (nI k) 24 = true := gn (by omega) (by omega)
      have g2 : ig (nI (24 + k)) 99 = true := gn (by omega) (by omega)
      have g3 : ig (nI (48 + k)) 99 = true := gn (by omega) (by omega)
      have g4 : ig (nI (72 + k)) 99 = true := gn (by omega) (by omega)
      have g5 : ig (nI k) 99 = true := gn (by omega) (by omega)
      have c1 : (nI k).toNatClampNeg = k := cl
      have c2 : (nI (24 + k)).toNatClampNeg = 24 + k := cl
      have c3 : (nI (48 + k)).toNatClampNeg = 48 + k := cl
      have c4 : (nI (72 + k)).toNatClampNeg = 72 + k := cl
      simp only [Option.bind_some, i10, ↓reduceIte, z0I, a24, a48, a72, g1, g2, g3, g4, g5, c1, c2, c3, c4, lit_e (show k < 32 by omega), done_e (show k < 32 by omega), q1, q2, q3, q4, q5, q6]
      by_cases b0 : b = 0
      · simp only [b0, ↓reduceIte]; exact ⟨_, rfl, rfl⟩
      by_cases b1 : b = 1
      · simp only [b1, i10, ↓reduceIte]; exact ⟨_, rfl, rfl⟩
      simp only [b0, b1, ↓reduceIte]
      by_cases b2 : b = 2
      · simp only [b2, ↓reduceIte]
        rcases l1 with l | l <;> rw [l]
        · exact ⟨0, rfl, rfl⟩
        · exact ⟨1, rfl, rfl⟩
      simp only [b2, ↓reduceIte]
      by_cases b3 : b = 3
      · simp only [b3, ↓reduceIte]; exact ⟨_, rfl, rfl⟩
      simp only [b3, ↓reduceIte]
      by_cases b4 : b = 4
      · simp only [b4, ↓reduceIte]
        rcases l2 with l | l <;> rw [l]
        · exact ⟨0, rfl, rfl⟩
        · exact ⟨1, rfl, rfl⟩
      simp only [b4, ↓reduceIte]
      by_cases b5 : b = 5
      · simp only [b5, ↓reduceIte, pw]
        by_cases hm : Sm 5 k = -1
        · simp only [hm, ↓reduceIte]; exact ⟨_, rfl, rfl⟩
        · simp only [hm, ↓reduceIte]; exact ⟨_, rfl, rfl⟩
      · simp only [b5, ↓reduceIte]; exact ⟨_, rfl, rfl⟩
  obtain ⟨r, hx, hm⟩ := key
  exact ⟨r, Sx, Sm, t_W_thingIs hx, t_Mo_thingIs hm, hR⟩
end STP
