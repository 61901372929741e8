/-! THE TAPE; COUNT, FEED, CHECK, FORGIVEN -/
def tX (S : St) (c : Nat) : St := sF (sF S 1 1 (nI c)) 1 2 0
def tM (S : St) : St := sF S 0 7 0
def XB (S : St) (c : Nat) (b : Nat → Nat) : Prop := S 1 1 = nI c ∧ c ≤ 260 ∧ ∀ i, i < c → S 2 i = nI (b i) ∧ b i < 256
def MB (S : St) (c : Nat) (b : Nat → Nat) : Prop := c ≤ 260 ∧ ∀ i, i < c → S 6 i &&& 255 = nI (b i) ∧ b i < 256
theorem rngN {x : Int32} {a b : Nat} (hb : b < 2 ^ 31) (h1 : ¬ x < nI a) (h2 : ¬ nI b < x) (ha : a < 2 ^ 31 := by omega) : ∃ n, a ≤ n ∧ n ≤ b ∧ x = nI n := by
  have q1 := (fa_le (nI a) x).mp (Int32.not_lt.mp h1)
  have q2 := (fa_le x (nI b)).mp (Int32.not_lt.mp h2)
  rw [nI_toInt ha] at q1
  rw [nI_toInt hb] at q2
  refine ⟨x.toInt.toNat, by omega, by omega, (fa_eq _ _).mpr ?_⟩
  rw [nI_toInt (by omega)]
  omega
theorem tk {Sx Sm : St} (hT : TR Sx Sm) (c : Nat) (hc : c ≤ 260) : (∃ b, f_Tape_take Sx (nI c) = some (1, tX Sx c) ∧ nI c ≤ Sm 0 7 ∧ XB (tX Sx c) c b ∧ MB (tM Sm) c b) ∨ (f_Tape_take Sx (nI c) = some (0, Sx) ∧ ¬ nI c ≤ Sm 0 7) := by
  obtain ⟨n, h1, h2, h3, h4⟩ := hT
  by_cases hcn : c ≤ n
  · refine Or.inl ⟨fun i => (Sx 2 i).toNatClampNeg, ?_, ?_, ⟨?_, hc, fun i hi => ?_⟩, hc, fun i hi => ?_⟩
    · unfold f_Tape_take
      rw [if_neg (nI_pos (by omega)), h2, if_pos (yle hcn)]; rfl
    · rw [h3]; exact yle hcn
    · unfold tX; rw [sF_ne (by omega), sF_at]
    · obtain ⟨j, hj, e⟩ := pk_andE (Sm 6 i) (m := 255) 8 (by decide)
      have e2 := h4 i (by omega)
      rw [e] at e2
      have c1 : (Sx 2 i).toNatClampNeg = j := by rw [e2]; exact cl
      unfold tX
      rw [sF_ne (by omega), sF_ne (by omega)]
      show Sx 2 i = nI (Sx 2 i).toNatClampNeg ∧ (Sx 2 i).toNatClampNeg < 256
      rw [c1]
      exact ⟨e2, hj⟩
    · obtain ⟨j, hj, e⟩ := pk_andE (Sm 6 i) (m := 255) 8 (by decide)
      have e2 := h4 i (by omega)
      rw [e] at e2
      have c1 : (Sx 2 i).toNatClampNeg = j := by rw [e2]; exact cl
      unfold tM
      rw [sF_ne (by omega), e]
      show nI j = nI (Sx 2 i).toNatClampNeg ∧ (Sx 2 i).toNatClampNeg < 256
      rw [c1]
      exact ⟨rfl, hj⟩
  · refine Or.inr ⟨?_, by rw [h3]; exact nle (by omega)⟩
    unfold f_Tape_take
    rw [if_neg (nI_pos (by omega)), h2, if_neg (nle (by omega))]
theorem XB.at {S : St} {c : Nat} {b : Nat → Nat} (h : XB S c b) {i : Nat} (hi : i < c) : f_Tape_at S (nI i) = some (nI (b i)) := by
  obtain ⟨h1, h2, h3⟩ := h
  unfold f_Tape_at
  rw [if_neg (nI_pos (by omega)), h1, if_neg (nle hi), if_neg (show ¬ (260 : Int32) ≤ nI i from nle (b := 260) (by omega)), if_pos (gn (by omega) (by omega)), cl, (h3 i hi).1]
theorem MB.oct {S : St} {c : Nat} {b : Nat → Nat} (h : MB S c b) {i : Nat} (hi : i < c) : f_Mo_octet S (nI i) = some (nI (b i)) := by
  obtain ⟨h2, h3⟩ := h
  unfold f_Mo_octet
  rw [if_pos (gn (by omega) (by omega)), cl, (h3 i hi).1]
section STP
variable {LR : St → St → Prop}
theorem RelL.taken (hL : LRc LR) {Sx Sm Sx' Sm' : St} (h : RelL LR Sx Sm) (hx : ∀ k j, RX k j → Sx' k j = Sx k j) (hm : ∀ k j, RM k j → Sm' k j = Sm k j) (e1 : Sx' 1 2 = 0) (e2 : Sm' 0 7 = 0) : RelL LR Sx' Sm' := ⟨⟨0, by omega, e1, e2, fun i hi => absurd hi (by omega)⟩, h.2.congr hL hx hm⟩
theorem RelL.tt (hL : LRc LR) {Sx Sm : St} (h : RelL LR Sx Sm) (c : Nat) : RelL LR (tX Sx c) (tM Sm) := h.taken hL (fun k j hk => by unfold RX at hk; unfold tX; rw [sF_ne (by omega), sF_ne (by omega)]) (fun k j hk => by unfold RM at hk; unfold tM; rw [sF_ne (by omega)]) (by unfold tX; exact sF_at) (by unfold tM; exact sF_at)
theorem m2 {n : Nat} : (2 : Int32) * nI n = nI (2 * n) := pk_mul 2 n
/-! FORGIVEN -/
def bet (b : Nat → Nat) (o k : Nat) : Bool := decide (b (2 * o) ≤ b (2 * k) ∧ b (2 * k + 1) ≤ b (2 * o + 1) ∧ (b (2 * o) < b (2 * k) ∨ b (2 * k + 1) < b (2 * o + 1)))
theorem bet_e {p q r s : Nat} (hp : p < 256) (hq : q < 256) (hr : r < 256) (hs : s < 256) : (if nI p - nI q < 0 then some (0 : Int32) else if nI r - nI s < 0 then some 0 else if (nI p - nI q) + (nI r - nI s) ≤ 0 then some 0 else some 1) = some (if decide (q ≤ p ∧ s ≤ r ∧ (q < p ∨ s < r)) then (1 : Int32) else 0) := by
  have e1 := pk_sub_toInt (a := p) (b := q) (by omega) (by omega)
  have e2 := pk_sub_toInt (a := r) (b := s) (by omega) (by omega)
  have z0 : (0 : Int32).toInt = 0 := by decide
  have e3 : ((nI p - nI q) + (nI r - nI s)).toInt = (p : Int) - q + (r - s) := by rw [fb_addI (by omega) (by omega), e1, e2]
  by_cases c1 : nI p - nI q < 0
  · rw [if_pos c1]
    have := (fa_lt _ _).mp c1
    rw [if_neg (by simp; omega)]
  · rw [if_neg c1]
    have d1 : ¬ (nI p - nI q).toInt < (0 : Int32).toInt := fun z => c1 ((fa_lt _ _).mpr z)
    by_cases c2 : nI r - nI s < 0
    · rw [if_pos c2]
      have := (fa_lt _ _).mp c2
      rw [if_neg (by simp; omega)]
    · rw [if_neg c2]
      have d2 : ¬ (nI r - nI s).toInt < (0 : Int32).toInt := fun z => c2 ((fa_lt _ _).mpr z)
      by_cases c3 : (nI p - nI q) + (nI r - nI s) ≤ 0
      · rw [if_pos c3]
        have := (fa_le _ _).mp c3
        rw [if_neg (by simp; omega)]
      · rw [if_neg c3]
        have d3 : ¬ ((nI p - nI q) + (nI r - nI s)).toInt ≤ (0 : Int32).toInt := fun z => c3 ((fa_le _ _).mpr z)
        rw [if_pos (by simp; omega)]
theorem x_beats {S : St} {n : Nat} {b : Nat → Nat} (h : XB S (2 * n) b) {o k : Nat} (ho : o < n) (hk : k < n) : f_Rows_beats S (nI o) (nI k) = some (if bet b o k then 1 else 0) := by
  have hn := h.2.1
  unfold f_Rows_beats
  rw [m2, m2, nI_1, nI_1, h.at (by omega), h.at (by omega), h.at (by omega), h.at (by omega)]
  simp only [Option.bind_some]
  exact bet_e (h.2.2 (2 * k) (by omega)).2 (h.2.2 (2 * o) (by omega)).2 (h.2.2 (2 * o + 1) (by omega)).2 (h.2.2 (2 * k + 1) (by omega)).2
theorem m_better {S : St} {n : Nat} {b : Nat → Nat} (h : MB S (2 * n) b) {o k : Nat} (ho : o < n) (hk : k < n) : f_Mo_isBetter S (nI o) (nI k) = some (if bet b o k then 1 else 0) := by
  have hn := h.1
  unfold f_Mo_isBetter
  rw [m2, m2, nI_1, nI_1, h.oct (by omega), h.oct (by omega), h.oct (by omega), h.oct (by omega)]
  simp only [Option.bind_some]
  exact bet_e (h.2 (2 * k) (by omega)).2 (h.2 (2 * o) (by omega)).2 (h.2 (2 * o + 1) (by omega)).2 (h.2 (2 * k + 1) (by omega)).2
/-- somebody below m beats k -/
def anyB (b : Nat → Nat) (k : Nat) : Nat → Bool
  | 0 => false
  | m + 1 => anyB b k m || bet b m k
theorem anyB_ex {b : Nat → Nat} {k : Nat} : ∀ {m : Nat}, anyB b k m = true ↔ ∃ o, o < m ∧ bet b o k = true
  | 0 => by simp [anyB]
  | m + 1 => by
    rw [anyB, Bool.or_eq_true, anyB_ex (m := m)]
    constructor
    · rintro (⟨o, h1, h2⟩ | h)
      · exact ⟨o, by omega, h2⟩
      · exact ⟨m, by omega, h⟩
    · rintro ⟨o, h1, h2⟩
      rcases Nat.lt_or_ge o m with q | q
      · exact Or.inl ⟨o, q, h2⟩
      · have : o = m := by omega
        subst this
        exact Or.inr h2
def gF (b : Nat → Nat) (n k : Nat) (a : Int32) : Int32 := if anyB b k n then a else a + 1
theorem x_unb15 {S : St} {n : Nat} {b : Nat → Nat} (h : XB S (2 * n) b) {k : Nat} (hk : k < n) (K : St → Int32 → Int32 → Int32 → Option Int32) (a : Int32) : ∀ (m o F : Nat), o + m = n → m < F → f_Rows_unbeaten_15 K F S (nI n) a (nI k) (if anyB b k o then 1 else 0) (nI o) = K S (nI n) (gF b n k a) (nI (k + 1)) := by
  have hn := h.2.1
  intro m
  induction m with
  | zero =>
    intro o F ho hF
    obtain ⟨F, rfl⟩ : ∃ z, F = z + 1 := ⟨F - 1, by omega⟩
    have : o = n := by omega
    subst this
    rw [f_Rows_unbeaten_15, if_pos (yle (Nat.le_refl _))]
    unfold f_Rows_unbeaten_41 f_Rows_unbeaten_49 gF
    simp only [Option.bind_some, nI_1]
    cases anyB b k o with
    | true => simp only [↓reduceIte, i10]
    | false => simp
  | succ m ih =>
    intro o F ho hF
    obtain ⟨F, rfl⟩ : ∃ z, F = z + 1 := ⟨F - 1, by omega⟩
    rw [f_Rows_unbeaten_15, if_neg (nle (by omega))]
    cases hb : anyB b k o with
    | true =>
      rw [if_neg (by decide)]
      unfold f_Rows_unbeaten_41 f_Rows_unbeaten_49 gF
      have : anyB b k n = true := by
        obtain ⟨i, h1, h2⟩ := anyB_ex.mp hb
        exact anyB_ex.mpr ⟨i, by omega, h2⟩
      simp only [Option.bind_some, nI_1, this, ↓reduceIte, i10]
    | false =>
      rw [if_pos (by decide), x_beats h (by omega) hk]
      simp only [Option.bind_some, nI_1]
      have := ih (o + 1) F (by omega) (by omega)
      rw [anyB, hb, Bool.false_or] at this
      exact this
theorem x_unb {S : St} {n : Nat} {b : Nat → Nat} (h : XB S (2 * n) b) : f_Rows_unbeaten S (nI n) = some (foldN (gF b n) n 0 0) := by
  have hn := h.2.1
  obtain ⟨F, hF⟩ : ∃ F, FU = F := ⟨_, rfl⟩
  have hF' : 300 < F := by rw [← hF]; exact FU_gt (by omega)
  have key := loopN (fun f j (a : Int32) => f_Rows_unbeaten_4 f S (nI n) a (nI j)) (fun a => some a) (gF b n) n ?_ ?_ n F 0 0 (by omega) (by omega)
  · unfold f_Rows_unbeaten
    rw [hF]
    exact key
  · intro f a
    show f_Rows_unbeaten_4 (f + 1) S (nI n) a (nI n) = _
    rw [f_Rows_unbeaten_4, if_pos (yle (Nat.le_refl _))]
  · intro f j a hj
    show f_Rows_unbeaten_4 (f + 1) S (nI n) a (nI j) = f_Rows_unbeaten_4 f S (nI n) _ (nI (j + 1))
    rw [f_Rows_unbeaten_4, if_neg (nle hj), Option.bind_some, Option.bind_some, hF]
    exact x_unb15 h hj _ a n 0 F (by omega) (by omega)
theorem m_forg42 {S : St} {n : Nat} {b : Nat → Nat} (h : MB S (2 * n) b) {k : Nat} (hk : k < n) (K : St → Int32 → Int32 → Int32 → Option (Int32 × St)) (a : Int32) : ∀ (m o F : Nat), o + m = n → m < F → f_Mo_forgiven_42 K F S (nI n) a (nI k) (if anyB b k o then 0 else 1) (nI o) = K S (nI n) (gF b n k a) (nI (k + 1)) := by
  have hn := h.1
  intro m
  induction m with
  | zero =>
    intro o F ho hF
    obtain ⟨F, rfl⟩ : ∃ z, F = z + 1 := ⟨F - 1, by omega⟩
    have : o = n := by omega
    subst this
    rw [f_Mo_forgiven_42, if_pos (yle (Nat.le_refl _))]
    unfold f_Mo_forgiven_85 gF
    simp only [Option.bind_some, nI_1]
    cases anyB b k o with
    | true => simp
    | false => simp only [Bool.false_eq_true, ↓reduceIte, i10]
  | succ m ih =>
    intro o F ho hF
    obtain ⟨F, rfl⟩ : ∃ z, F = z + 1 := ⟨F - 1, by omega⟩
    rw [f_Mo_forgiven_42, if_neg (nle (by omega))]
    have ih := ih (o + 1) F (by omega) (by omega)
    cases hb : anyB b k o with
    | true =>
      rw [if_pos (by decide)]
      unfold f_Mo_forgiven_67 f_Mo_forgiven_68
      rw [anyB, hb, Bool.true_or] at ih
      rw [Option.bind_some, nI_1]
      exact ih
    | false =>
      rw [if_neg (by decide), m_better h (by omega) hk, Option.bind_some]
      unfold f_Mo_forgiven_67 f_Mo_forgiven_68
      rw [anyB, hb, Bool.false_or] at ih
      cases hq : bet b o k with
      | true =>
        rw [if_neg (by decide), Option.bind_some, nI_1]
        rw [hq] at ih
        exact ih
      | false =>
        rw [if_pos (by decide), Option.bind_some, nI_1]
        rw [hq] at ih
        exact ih
theorem m_forg {S : St} {n : Nat} {b : Nat → Nat} (h : MB S (2 * n) b) {F : Nat} (hF : FU = F) : f_Mo_forgiven_31 F S (nI n) 0 0 = some (foldN (gF b n) n 0 0, S) := by
  have hn := h.1
  have hF' : 300 < F := by rw [← hF]; exact FU_gt (by omega)
  have key := loopN (fun f j (a : Int32) => f_Mo_forgiven_31 f S (nI n) a (nI j)) (fun a => some (a, S)) (gF b n) n ?_ ?_ n F 0 0 (by omega) (by omega)
  · exact key
  · intro f a
    show f_Mo_forgiven_31 (f + 1) S (nI n) a (nI n) = _
    rw [f_Mo_forgiven_31, if_pos (yle (Nat.le_refl _))]
  · intro f j a hj
    show f_Mo_forgiven_31 (f + 1) S (nI n) a (nI j) = f_Mo_forgiven_31 f S (nI n) _ (nI (j + 1))
    rw [f_Mo_forgiven_31, if_neg (nle hj), Option.bind_some, Option.bind_some, hF]
    exact m_forg42 h hj _ a n 0 F (by omega) (by omega)
theorem st_forgiven (hL : LRc LR) (a : Int32) : STEP (RelL LR) m_W_forgiven m_Mo_forgiven 4 3 [a] := by
  intro Sx Sm hR
  obtain ⟨F, hF⟩ : ∃ F, FU = F := ⟨_, rfl⟩
  by_cases hc : a < 1 ∨ (16 : Int32) < a
  · have h1 : f_W_forgiven Sx a = some (-1, Sx) := by unfold f_W_forgiven; rw [wi_n hc]; rfl
    have h2 : f_Mo_forgiven Sm a = some (-1, Sm) := by unfold f_Mo_forgiven; rw [in_n hc]; rfl
    exact ⟨-1, Sx, Sm, t_W_forgiven h1, t_Mo_forgiven h2, hR⟩
  · have n1 : ¬ a < 1 := fun z => hc (Or.inl z)
    have n2 : ¬ (16 : Int32) < a := fun z => hc (Or.inr z)
    obtain ⟨n, q1, q2, rfl⟩ := rngN (a := 1) (b := 16) (by omega) n1 n2
    rcases tk hR.1 (2 * n) (by omega) with ⟨b, t1, t2, t3, t4⟩ | ⟨t1, t2⟩
    · have h1 : f_W_forgiven Sx (nI n) = some (foldN (gF b n) n 0 0, tX Sx (2 * n)) := by
        unfold f_W_forgiven
        rw [wi_y n1 n2, Option.bind_some, if_neg i10, m2, t1, Option.bind_some, if_neg i10, x_unb t3]; rfl
      have h2 : f_Mo_forgiven Sm (nI n) = some (foldN (gF b n) n 0 0, tM Sm) := by
        unfold f_Mo_forgiven
        rw [in_y n1 n2, Option.bind_some, if_neg i10, m2, if_pos t2, Option.bind_some, Option.bind_some, Option.bind_some, hF]
        exact m_forg t4 hF
      generalize foldN (gF b n) n 0 0 = r at h1 h2
      exact ⟨r, tX Sx (2 * n), tM Sm, t_W_forgiven h1, t_Mo_forgiven h2, hR.tt hL _⟩
    · have h1 : f_W_forgiven Sx (nI n) = some (-1, Sx) := by
        unfold f_W_forgiven
        rw [wi_y n1 n2, Option.bind_some, if_neg i10, m2, t1]; rfl
      have h2 : f_Mo_forgiven Sm (nI n) = some (-1, Sm) := by
        unfold f_Mo_forgiven
        rw [in_y n1 n2, Option.bind_some, if_neg i10, m2, if_neg t2]
      exact ⟨-1, Sx, Sm, t_W_forgiven h1, t_Mo_forgiven h2, hR⟩
end STP
