/-! ONE WHO PUTS OFF -/
section STP
variable {LR : St → St → Prop}
def kn (b : Nat → Nat) (tn : Nat) : Nat → Nat → Nat
  | 0, d => d
  | m + 1, d => kn b tn m (if tn * b d < 10 * b m then d else m)
theorem kn_lt {b : Nat → Nat} {tn n : Nat} : ∀ (m d : Nat), m ≤ n → d < n → kn b tn m d < n
  | 0, d, _, h => h
  | m + 1, d, hm, h => by
    rw [kn]
    apply kn_lt m _ (by omega)
    by_cases c : tn * b d < 10 * b m
    · rw [if_pos c]; exact h
    · rw [if_neg c]; omega
theorem m10 {n : Nat} : (10 : Int32) * nI n = nI (10 * n) := pk_mul 10 n
theorem mulB {a b : Nat} (ha : a ≤ 10) (hb : b < 256) : a * b ≤ 2550 := by
  have := Nat.mul_le_mul ha (show b ≤ 255 by omega)
  omega
theorem pm1 (m : Nat) : nI (m + 1) + (-1) = nI m := pk_m1 m
theorem x_know {S : St} {n tn : Nat} {b : Nat → Nat} (h : XB S n b) (hn : n ≤ 16) (ht : tn ≤ 10) : ∀ (m d F : Nat), m < n → d < n → m < F → f_Rows_dayIfKnowing_9 F S (nI tn) (nI d) (nI m + (-1)) = some (nI (kn b tn m d)) := by
  intro m
  induction m with
  | zero =>
    intro d F _ _ hF
    obtain ⟨F, rfl⟩ : ∃ z, F = z + 1 := ⟨F - 1, by omega⟩
    rw [f_Rows_dayIfKnowing_9, if_pos (by decide)]; rfl
  | succ m ih =>
    intro d F hm hd hF
    obtain ⟨F, rfl⟩ : ∃ z, F = z + 1 := ⟨F - 1, by omega⟩
    rw [pm1, f_Rows_dayIfKnowing_9, if_neg (nI_pos (by omega)), h.at (show m < n by omega), h.at hd, Option.bind_some, Option.bind_some, m10, pk_mul, kn]
    have b1 := (h.2.2 m (by omega)).2
    have b2 := mulB ht (h.2.2 d hd).2
    unfold f_Rows_dayIfKnowing_42
    by_cases c : tn * b d < 10 * b m
    · rw [if_pos (ylt c), if_pos c, Option.bind_some]; exact ih d F (by omega) hd (by omega)
    · rw [if_neg (nlt' (by omega)), if_neg c, Option.bind_some]; exact ih m F (by omega) (by omega) (by omega)
theorem m_know {S : St} {n tn : Nat} {b : Nat → Nat} (h : MB S n b) (hn : n ≤ 16) (ht : tn ≤ 10) : ∀ (m d F : Nat), m < n → d < n → m < F → f_Mo_knowing_9 F S (nI tn) (nI d) (nI m + (-1)) = some (nI (kn b tn m d)) := by
  intro m
  induction m with
  | zero =>
    intro d F _ _ hF
    obtain ⟨F, rfl⟩ : ∃ z, F = z + 1 := ⟨F - 1, by omega⟩
    rw [f_Mo_knowing_9, if_pos (by decide)]; rfl
  | succ m ih =>
    intro d F hm hd hF
    obtain ⟨F, rfl⟩ : ∃ z, F = z + 1 := ⟨F - 1, by omega⟩
    rw [pm1, f_Mo_knowing_9, if_neg (nI_pos (by omega)), h.oct (show m < n by omega), h.oct hd, Option.bind_some, Option.bind_some, m10, pk_mul, kn]
    have b1 := (h.2 m (by omega)).2
    have b2 := mulB ht (h.2 d hd).2
    unfold f_Mo_knowing_36
    by_cases c : tn * b d < 10 * b m
    · rw [if_pos (ylt c), if_pos c, Option.bind_some]; exact ih d F (by omega) hd (by omega)
    · rw [if_neg (nlt' (by omega)), if_neg c, Option.bind_some]; exact ih m F (by omega) (by omega) (by omega)
theorem sb1 {n : Nat} (h : 1 ≤ n) : nI n - 1 = nI (n - 1) := pk_sub (a := n) (b := 1) h
theorem sb2 {n : Nat} (h : 1 ≤ n) (hn : n ≤ 16) : nI n - 2 = nI (n - 1) + (-1) := by
  apply (fa_eq _ _).mpr
  have z1 : (-1 : Int32).toInt = -1 := by decide
  have e := nI_toInt (n := n - 1) (by omega)
  rw [show nI n - 2 = nI n - nI 2 from rfl, pk_sub_toInt (by omega) (by omega), fb_addI (by omega) (by omega), e, z1]
  omega
/-- the least of the later ones -/
def isMin (b : Nat → Nat) (n i l : Nat) : Prop := (∀ k, i < k → k < n → l ≤ b k) ∧ ∃ k, i < k ∧ k < n ∧ l = b k
theorem isMin_u {b : Nat → Nat} {n i l l' : Nat} (h : isMin b n i l) (h' : isMin b n i l') : l = l' := by
  obtain ⟨h1, k, k1, k2, k3⟩ := h
  obtain ⟨h1', k', k1', k2', k3'⟩ := h'
  have a1 := h1 k' k1' k2'
  have a2 := h1' k k1 k2
  omega
/-- day d is the first on which he does it -/
def unk (b : Nat → Nat) (n tn d : Nat) : Prop := (d = n - 1 ∨ (d < n - 1 ∧ ∃ l, isMin b n d l ∧ 10 * b d ≤ tn * l)) ∧ ∀ i, i < d → i < n - 1 → ∃ l, isMin b n i l ∧ ¬ 10 * b i ≤ tn * l
theorem unk_u {b : Nat → Nat} {n tn d d' : Nat} (h : unk b n tn d) (h' : unk b n tn d') (hd : d ≤ n - 1) (hd' : d' ≤ n - 1) : d = d' := by
  have key : ∀ {d d' : Nat}, unk b n tn d → unk b n tn d' → d ≤ n - 1 → d' ≤ n - 1 → ¬ d < d' := by
    intro d d' h h' _ hd' hlt
    obtain ⟨l, m1, m2⟩ := h'.2 d hlt (by omega)
    rcases h.1 with e | ⟨-, l', m1', m2'⟩
    · omega
    · rw [isMin_u m1 m1'] at m2
      exact m2 m2'
  have a := key h h' hd hd'
  have b := key h' h hd' hd
  omega
theorem x_unk {S : St} {n tn : Nat} {b : Nat → Nat} (h : XB S n b) (hn : n ≤ 16) (ht : tn ≤ 10) : ∀ (m d l F : Nat), m < n → d ≤ n - 1 → m < F → (∀ k, m ≤ k → k < n → l ≤ b k) → (∃ k, m ≤ k ∧ k < n ∧ l = b k) → (d = n - 1 ∨ (d < n - 1 ∧ ∃ l, isMin b n d l ∧ 10 * b d ≤ tn * l)) → (∀ i, m ≤ i → i < d → i < n - 1 → ∃ l, isMin b n i l ∧ ¬ 10 * b i ≤ tn * l) → ∃ d', d' ≤ n - 1 ∧ f_Rows_dayIfNotKnowing_21 F S (nI tn) (nI d) (nI l) (nI m + (-1)) = some (nI d') ∧ unk b n tn d' := by
  intro m
  induction m with
  | zero =>
    intro d l F _ hd hF _ _ h1 h2
    obtain ⟨F, rfl⟩ : ∃ z, F = z + 1 := ⟨F - 1, by omega⟩
    refine ⟨d, hd, ?_, h1, fun i hi hi2 => h2 i (by omega) hi hi2⟩
    rw [f_Rows_dayIfNotKnowing_21, if_pos (by decide)]
  | succ m ih =>
    intro d l F hm hd hF l1 l2 h1 h2
    have mm1 : m ≤ n - 1 := by clear h1 h2 l2; omega
    have mm2 : m < n - 1 := by clear h1 h2 l2; omega
    obtain ⟨F, rfl⟩ : ∃ z, F = z + 1 := ⟨F - 1, by omega⟩
    have b1 := (h.2.2 m (by omega)).2
    obtain ⟨kl, kl1, kl2, kl3⟩ := l2
    have bl := (h.2.2 kl kl2).2
    have b2 := mulB ht (show l < 256 by omega)
    have hmin : isMin b n m l := ⟨fun k q1 q2 => l1 k (by omega) q2, kl, by omega, kl2, kl3⟩
    have e : jmin (nI l) (nI (b m)) = nI (min l (b m)) := by
      unfold jmin
      by_cases c : b m < l
      · rw [if_pos (ylt c), Nat.min_eq_right (by omega)]
      · rw [if_neg (nlt' (by omega)), Nat.min_eq_left (by omega)]
    have l1' : ∀ k, m ≤ k → k < n → min l (b m) ≤ b k := fun k q1 q2 => by
      rcases Nat.eq_or_lt_of_le q1 with q | q
      · subst q; exact Nat.min_le_right _ _
      · exact Nat.le_trans (Nat.min_le_left _ _) (l1 k q q2)
    have l2' : ∃ k, m ≤ k ∧ k < n ∧ min l (b m) = b k := by
      by_cases c : b m < l
      · exact ⟨m, by omega, by omega, Nat.min_eq_right (by omega)⟩
      · exact ⟨kl, by omega, kl2, by rw [Nat.min_eq_left (by omega)]; exact kl3⟩
    rw [pm1, f_Rows_dayIfNotKnowing_21, if_neg (nI_pos (by omega)), h.at (show m < n by omega), Option.bind_some, m10, pk_mul]
    unfold f_Rows_dayIfNotKnowing_48
    rw [h.at (show m < n by omega), Option.bind_some, Option.bind_some, Option.bind_some, Option.bind_some, Option.bind_some, Option.bind_some, e]
    by_cases c : tn * l < 10 * b m
    · rw [if_pos (ylt c)]
      refine ih d (min l (b m)) F (by omega) hd (by omega) l1' l2' h1 (fun i q1 q2 q3 => ?_)
      rcases Nat.eq_or_lt_of_le q1 with q | q
      · subst q; exact ⟨l, hmin, by omega⟩
      · exact h2 i q q2 q3
    · rw [if_neg (nlt' (by omega))]
      refine ih m (min l (b m)) F (by omega) mm1 (by omega) l1' l2' (Or.inr ⟨mm2, l, hmin, by omega⟩) (fun i q1 q2 q3 => by omega)
theorem m_least {S : St} {n : Nat} {b : Nat → Nat} (h : MB S n b) (hn : n ≤ 16) {i : Nat} (hi : i < n - 1) : ∃ l, f_Mo_leastLater S (nI i) (nI n) = some (nI l) ∧ isMin b n i l := by
  obtain ⟨F, hF⟩ : ∃ F, FU = F := ⟨_, rfl⟩
  have hF' : 300 < F := by rw [← hF]; exact FU_gt (by omega)
  have key : ∀ m j l F, j + m = n → m < F → l ≤ 1000000 → (∀ k, i < k → k < j → l ≤ b k) → (j = i + 1 ∧ l = 1000000 ∨ ∃ k, i < k ∧ k < j ∧ l = b k) → i < j → ∃ l', f_Mo_leastLater_9 F S (nI n) (nI l) (nI j) = some (nI l') ∧ (∀ k, i < k → k < n → l' ≤ b k) ∧ (j = n ∧ l' = l ∨ ∃ k, i < k ∧ k < n ∧ l' = b k) := by
    intro m
    induction m with
    | zero =>
      intro j l F hj hF hl h1 h2 _
      obtain ⟨F, rfl⟩ : ∃ z, F = z + 1 := ⟨F - 1, by omega⟩
      have : j = n := by omega
      subst this
      refine ⟨l, ?_, h1, Or.inl ⟨rfl, rfl⟩⟩
      rw [f_Mo_leastLater_9, if_pos (yle (Nat.le_refl _))]
    | succ m ih =>
      intro j l F hj hF hl h1 h2 hij
      obtain ⟨F, rfl⟩ : ∃ z, F = z + 1 := ⟨F - 1, by omega⟩
      have b1 := (h.2 j (by omega)).2
      have e : f_Mo_min S (nI l) (nI (b j)) = some (nI (min l (b j))) := by
        unfold f_Mo_min
        by_cases c : b j ≤ l
        · rw [if_pos (yle c), Nat.min_eq_right c]
        · rw [if_neg (nle (by omega)), Nat.min_eq_left (by omega)]
      rw [f_Mo_leastLater_9, if_neg (nle (by omega)), h.oct (by omega), Option.bind_some, e, Option.bind_some, Option.bind_some, nI_1]
      obtain ⟨l', e1, e2, e3⟩ := ih (j + 1) (min l (b j)) F (by omega) (by omega) (by omega) (fun k q1 q2 => by
        rcases Nat.lt_or_ge k j with q | q
        · exact Nat.le_trans (Nat.min_le_left _ _) (h1 k q1 q)
        · have : k = j := by omega
          subst this; exact Nat.min_le_right _ _) (Or.inr (by
        by_cases c : b j ≤ l
        · exact ⟨j, hij, by omega, Nat.min_eq_right c⟩
        · rcases h2 with ⟨q1, q2⟩ | ⟨k, q1, q2, q3⟩
          · omega
          · exact ⟨k, q1, by omega, by rw [Nat.min_eq_left (by omega)]; exact q3⟩)) (by omega)
      refine ⟨l', e1, e2, Or.inr ?_⟩
      rcases e3 with ⟨q1, q2⟩ | q
      · by_cases c : b j ≤ l
        · exact ⟨j, hij, by omega, by rw [q2]; exact Nat.min_eq_right c⟩
        · rcases h2 with ⟨z1, z2⟩ | ⟨k, z1, z2, z3⟩
          · omega
          · exact ⟨k, z1, by omega, by rw [q2, Nat.min_eq_left (by omega)]; exact z3⟩
      · exact q
  obtain ⟨l', e1, e2, e3⟩ := key (n - (i + 1)) (i + 1) 1000000 F (by omega) (by omega) (Nat.le_refl _) (fun k q1 q2 => by omega) (Or.inl ⟨rfl, rfl⟩) (by omega)
  refine ⟨l', ?_, e2, ?_⟩
  · unfold f_Mo_leastLater
    rw [Option.bind_some, Option.bind_some, nI_1, hF]
    exact e1
  · rcases e3 with ⟨q, -⟩ | q
    · omega
    · exact q
theorem m_unk {S : St} {n tn : Nat} {b : Nat → Nat} (h : MB S n b) (hn1 : 1 ≤ n) (hn : n ≤ 16) (ht : tn ≤ 10) : ∀ (m j F : Nat), j + m = n - 1 → m < F → (∀ i, i < j → ∃ l, isMin b n i l ∧ ¬ 10 * b i ≤ tn * l) → ∃ d, d ≤ n - 1 ∧ f_Mo_unknowing_2 F S (nI n) (nI tn) (nI j) = some (nI d) ∧ unk b n tn d := by
  intro m
  induction m with
  | zero =>
    intro j F hj hF h1
    obtain ⟨F, rfl⟩ : ∃ z, F = z + 1 := ⟨F - 1, by omega⟩
    refine ⟨j, by omega, ?_, Or.inl (by omega), fun i hi _ => h1 i hi⟩
    rw [f_Mo_unknowing_2, sb1 hn1, if_pos (yle (by omega))]
  | succ m ih =>
    intro j F hj hF h1
    obtain ⟨F, rfl⟩ : ∃ z, F = z + 1 := ⟨F - 1, by omega⟩
    obtain ⟨l, e1, e2⟩ := m_least h hn (show j < n - 1 by omega)
    have b1 := (h.2 j (by omega)).2
    have bl : l < 256 := by
      obtain ⟨k, k1, k2, k3⟩ := e2.2
      rw [k3]; exact (h.2 k k2).2
    have b2 := mulB ht bl
    rw [f_Mo_unknowing_2, sb1 hn1, if_neg (nle (by omega)), h.oct (by omega), Option.bind_some, e1, Option.bind_some, m10, pk_mul]
    by_cases c : 10 * b j ≤ tn * l
    · rw [if_pos (yle c)]
      exact ⟨j, by omega, rfl, Or.inr ⟨by omega, l, e2, c⟩, fun i hi _ => h1 i hi⟩
    · rw [if_neg (nle (by omega)), Option.bind_some, nI_1]
      refine ih (j + 1) F (by omega) (by omega) (fun i hi => ?_)
      rcases Nat.lt_or_ge i j with q | q
      · exact h1 i q
      · have : i = j := by omega
        subst this
        exact ⟨l, e2, c⟩
theorem st_putsOff (hL : LRc LR) (a b' c d : Int32) (_ : c = 0 ∨ c = 1) : STEP (RelL LR) m_W_putsOff m_Mo_putsOff 3 4 [a, b', c, d] := by
  intro Sx Sm hR
  obtain ⟨F, hF⟩ : ∃ F, FU = F := ⟨_, rfl⟩
  have hF' : 300 < F := by rw [← hF]; exact FU_gt (by omega)
  have no : f_W_putsOff Sx a b' c d = some (-1, Sx) → f_Mo_putsOff Sm a b' c d = some (-1, Sm) → ∃ r Sx' Sm', Ct SX m_W_putsOff 3 (.ref 0 :: [a, b', c, d].map Value.int) Sx (some r) Sx' ∧ Ct SM m_Mo_putsOff 4 (.ref 0 :: [a, b', c, d].map Value.int) Sm (some r) Sm' ∧ RelL LR Sx' Sm' := fun e1 e2 => ⟨-1, Sx, Sm, t_W_putsOff e1, t_Mo_putsOff e2, hR⟩
  by_cases hc : a < 1 ∨ (16 : Int32) < a
  · exact no (by unfold f_W_putsOff; rw [wi_n hc]; rfl) (by unfold f_Mo_putsOff; rw [in_n hc]; rfl)
  have n1 : ¬ a < 1 := fun z => hc (Or.inl z)
  have n2 : ¬ (16 : Int32) < a := fun z => hc (Or.inr z)
  by_cases hc2 : b' < 1 ∨ (10 : Int32) < b'
  · exact no (by unfold f_W_putsOff; rw [wi_y n1 n2, wi_n hc2]; rfl) (by unfold f_Mo_putsOff; rw [in_y n1 n2, in_n hc2]; rfl)
  have n3 : ¬ b' < 1 := fun z => hc2 (Or.inl z)
  have n4 : ¬ (10 : Int32) < b' := fun z => hc2 (Or.inr z)
  by_cases hc3 : d < 0 ∨ (1 : Int32) < d
  · exact no (by unfold f_W_putsOff; rw [wi_y n1 n2, wi_y n3 n4, wi_n hc3]; rfl) (by unfold f_Mo_putsOff; rw [in_y n1 n2, in_y n3 n4, in_n hc3]; rfl)
  have n5 : ¬ d < 0 := fun z => hc3 (Or.inl z)
  have n6 : ¬ (1 : Int32) < d := fun z => hc3 (Or.inr z)
  obtain ⟨n, q1, q2, rfl⟩ := rngN (a := 1) (b := 16) (by omega) n1 n2
  obtain ⟨tn, q3, q4, rfl⟩ := rngN (a := 1) (b := 10) (by omega) n3 n4
  rcases tk hR.1 n (by omega) with ⟨b, t1, t2, t3, t4⟩ | ⟨t1, t2⟩
  · -- the day, on both sides
    have day : ∃ dd, dd < n ∧ (if c = 0 then f_Rows_dayIfNotKnowing (tX Sx n) (nI n) (nI tn) else f_Rows_dayIfKnowing (tX Sx n) (nI n) (nI tn)) = some (nI dd) ∧ (if c = 0 then f_Mo_unknowing (tM Sm) (nI n) (nI tn) else f_Mo_knowing (tM Sm) (nI n) (nI tn)) = some (nI dd) := by
      by_cases hz : c = 0
      · rw [if_pos hz, if_pos hz]
        obtain ⟨d1, e1, e2, e3⟩ := x_unk t3 q2 q4 (n - 1) (n - 1) (b (n - 1)) F (by omega) (by omega) (by omega) (fun k z1 z2 => by rw [show k = n - 1 by omega]; exact Nat.le_refl _) ⟨n - 1, by omega, by omega, rfl⟩ (Or.inl rfl) (fun i z1 z2 z3 => by omega)
        obtain ⟨d2, e4, e5, e6⟩ := m_unk t4 q1 q2 q4 (n - 1) 0 F (by omega) (by omega) (fun i hi => by omega)
        have := unk_u e3 e6 e1 e4
        subst this
        refine ⟨d1, by omega, ?_, ?_⟩
        · unfold f_Rows_dayIfNotKnowing
          rw [Option.bind_some, sb1 q1, t3.at (by omega), Option.bind_some, Option.bind_some, sb2 q1 q2, hF]
          exact e2
        · unfold f_Mo_unknowing
          rw [Option.bind_some, hF]
          exact e5
      · rw [if_neg hz, if_neg hz]
        refine ⟨kn b tn (n - 1) (n - 1), kn_lt _ _ (by omega) (by omega), ?_, ?_⟩
        · unfold f_Rows_dayIfKnowing
          rw [Option.bind_some, Option.bind_some, sb1 q1, sb2 q1 q2, hF]
          exact x_know t3 q2 q4 (n - 1) (n - 1) F (by omega) (by omega) (by omega)
        · unfold f_Mo_knowing
          rw [Option.bind_some, Option.bind_some, sb1 q1, sb2 q1 q2, hF]
          exact m_know t4 q2 q4 (n - 1) (n - 1) F (by omega) (by omega) (by omega)
    obtain ⟨dd, z1, z2, z3⟩ := day
    have h1 : f_W_putsOff Sx (nI n) (nI tn) c d = some (if d = 0 then nI dd else nI (b dd), tX Sx n) := by
      unfold f_W_putsOff f_W_putsOff_68
      rw [wi_y n1 n2, Option.bind_some, if_neg i10, wi_y n3 n4, Option.bind_some, if_neg i10, wi_y n5 n6, Option.bind_some, if_neg i10, t1, Option.bind_some, if_neg i10]
      by_cases hz : c = 0
      · rw [if_pos hz] at z2
        rw [if_pos hz, z2, Option.bind_some, t3.at z1]
        by_cases hd : d = 0
        · rw [if_pos hd, if_pos hd]
        · rw [if_neg hd, if_neg hd]; rfl
      · rw [if_neg hz] at z2
        rw [if_neg hz, z2, Option.bind_some, t3.at z1]
        by_cases hd : d = 0
        · rw [if_pos hd, if_pos hd]
        · rw [if_neg hd, if_neg hd]; rfl
    have h2 : f_Mo_putsOff Sm (nI n) (nI tn) c d = some (if d = 0 then nI dd else nI (b dd), tM Sm) := by
      unfold f_Mo_putsOff f_Mo_putsOff_64
      rw [in_y n1 n2, Option.bind_some, if_neg i10, in_y n3 n4, Option.bind_some, if_neg i10, in_y n5 n6, Option.bind_some, if_neg i10, if_pos t2, Option.bind_some]
      show (if c = 0 then (f_Mo_unknowing (tM Sm) (nI n) (nI tn)).bind _ else (f_Mo_knowing (tM Sm) (nI n) (nI tn)).bind _) = _
      by_cases hz : c = 0
      · rw [if_pos hz] at z3
        rw [if_pos hz, z3, Option.bind_some]
        show (if d = 0 then some (nI dd, tM Sm) else (f_Mo_octet (tM Sm) (nI dd)).bind fun v => some (v, tM Sm)) = _
        rw [t4.oct z1]
        by_cases hd : d = 0
        · rw [if_pos hd, if_pos hd]
        · rw [if_neg hd, if_neg hd]; rfl
      · rw [if_neg hz] at z3
        rw [if_neg hz, z3, Option.bind_some]
        show (if d = 0 then some (nI dd, tM Sm) else (f_Mo_octet (tM Sm) (nI dd)).bind fun v => some (v, tM Sm)) = _
        rw [t4.oct z1]
        by_cases hd : d = 0
        · rw [if_pos hd, if_pos hd]
        · rw [if_neg hd, if_neg hd]; rfl
    generalize (if d = 0 then nI dd else nI (b dd)) = r at h1 h2
    exact ⟨r, tX Sx n, tM Sm, t_W_putsOff h1, t_Mo_putsOff h2, hR.tt hL _⟩
  · refine no ?_ ?_
    · unfold f_W_putsOff
      rw [wi_y n1 n2, Option.bind_some, if_neg i10, wi_y n3 n4, Option.bind_some, if_neg i10, wi_y n5 n6, Option.bind_some, if_neg i10, t1]; rfl
    · unfold f_Mo_putsOff
      rw [in_y n1 n2, Option.bind_some, if_neg i10, in_y n3 n4, Option.bind_some, if_neg i10, in_y n5 n6, Option.bind_some, if_neg i10, if_neg t2]
end STP
