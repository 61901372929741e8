/-! SEEN, CORD, HALVES -/
theorem m_size (S : St) (x : Int32) : f_Mo_size S x = some (jabs x) := by
  unfold f_Mo_size jabs
  by_cases h : 0 ≤ x
  · rw [if_pos h, if_pos h]
  · rw [if_neg h, if_neg h, Int32.zero_sub]
theorem m_max (S : St) (x y : Int32) : f_Mo_max S x y = some (jmax x y) := by
  unfold f_Mo_max jmax
  by_cases h : x < y
  · rw [if_pos h, if_pos (fa_of_lt h).1]
  · rw [if_neg h]
    by_cases h2 : x ≤ y
    · rw [if_pos h2]
      rcases fa_three x y with q | q | q
      · exact absurd q h
      · rw [q]
      · exact absurd h2 (fa_of_lt q).2.1
    · rw [if_neg h2]
theorem m_min (S : St) (x y : Int32) : f_Mo_min S x y = some (jmin x y) := by
  unfold f_Mo_min jmin
  by_cases h : y < x
  · rw [if_pos h, if_pos (fa_of_lt h).1]
  · rw [if_neg h]
    by_cases h2 : y ≤ x
    · rw [if_pos h2]
      rcases fa_three y x with q | q | q
      · exact absurd q h
      · rw [q]
      · exact absurd h2 (fa_of_lt q).2.1
    · rw [if_neg h2]
theorem foldN_map {α β : Type} {g : Nat → α → α} {g' : Nat → β → β} (p : α → β) (h : ∀ k a, p (g k a) = g' k (p a)) : ∀ (m j : Nat) (a : α), p (foldN g m j a) = foldN g' m j (p a)
  | 0, _, _ => rfl
  | m + 1, j, a => by
    rw [foldN, foldN, foldN_map p h m (j + 1) (g j a), h]
def vis (b : Nat → Nat) (p : Int32) (i : Nat) : Int32 := if nI (b (2 * i + 1)) < jabs (nI (b (2 * i)) - p) then 0 else 1
def gS (b : Nat → Nat) (p : Int32) (i : Nat) (a : Int32) : Int32 := if vis b p i = 0 then a else a + 1
def cntS (b : Nat → Nat) (n : Nat) (p : Int32) : Int32 := foldN (gS b p) n 0 0
theorem x_isSeen {S : St} {n : Nat} {b : Nat → Nat} (h : XB S (2 * n) b) {i : Nat} (hi : i < n) (p : Int32) : f_Shore_isSeen S (nI i) p = some (vis b p i) := by
  have hn := h.2.1
  unfold f_Shore_isSeen vis
  rw [m2, nI_1, h.at (by omega), h.at (by omega), Option.bind_some, Option.bind_some]
  split <;> rfl
theorem m_isSeen {S : St} {n : Nat} {b : Nat → Nat} (h : MB S (2 * n) b) {i : Nat} (hi : i < n) (p : Int32) : f_Mo_isSeen S (nI i) p = some (vis b p i) := by
  have hn := h.1
  unfold f_Mo_isSeen vis
  rw [m2, nI_1, h.oct (by omega), h.oct (by omega), Option.bind_some, m_size, Option.bind_some, Option.bind_some]
  split <;> rfl
theorem x_sees {S : St} {n : Nat} {b : Nat → Nat} (h : XB S (2 * n) b) (p m : Int32) : f_Shore_sees S p (nI n) m = some (if cntS b n p < m then 0 else 1) := by
  have hn := h.2.1
  obtain ⟨F, hF⟩ : ∃ F, FU = F := ⟨_, rfl⟩
  have hF' : 300 < F := by rw [← hF]; exact FU_gt (by omega)
  have key := loopN (fun f j (a : Int32) => f_Shore_sees_6 f S p (nI n) m a (nI j)) (fun a => some (if a < m then (0 : Int32) else 1)) (gS b p) n ?_ ?_ n F 0 0 (by omega) (by omega)
  · unfold f_Shore_sees
    rw [Option.bind_some, Option.bind_some, hF]
    exact key
  · intro f a
    show f_Shore_sees_6 (f + 1) S p (nI n) m a (nI n) = _
    rw [f_Shore_sees_6, if_pos (yle (Nat.le_refl n))]
    split <;> rfl
  · intro f j a hj
    show f_Shore_sees_6 (f + 1) S p (nI n) m a (nI j) = f_Shore_sees_6 f S p (nI n) m _ (nI (j + 1))
    rw [f_Shore_sees_6, if_neg (nle hj), x_isSeen h hj, Option.bind_some]
    unfold gS f_Shore_sees_25
    rw [nI_1]
    by_cases c : vis b p j = 0
    · simp only [c, ↓reduceIte, Option.bind_some]
    · simp only [c, ↓reduceIte, Option.bind_some]
theorem m_seenAt {S : St} {n : Nat} {b : Nat → Nat} (h : MB S (2 * n) b) (p : Int32) : f_Mo_seenAt S (nI n) p = some (cntS b n p) := by
  have hn := h.1
  obtain ⟨F, hF⟩ : ∃ F, FU = F := ⟨_, rfl⟩
  have hF' : 300 < F := by rw [← hF]; exact FU_gt (by omega)
  have key := loopN (fun f j (a : Int32) => f_Mo_seenAt_5 f S (nI n) p a (nI j)) (fun a => some a) (gS b p) n ?_ ?_ n F 0 0 (by omega) (by omega)
  · unfold f_Mo_seenAt
    rw [Option.bind_some, Option.bind_some, hF]
    exact key
  · intro f a
    show f_Mo_seenAt_5 (f + 1) S (nI n) p a (nI n) = _
    rw [f_Mo_seenAt_5, if_pos (yle (Nat.le_refl n))]
  · intro f j a hj
    show f_Mo_seenAt_5 (f + 1) S (nI n) p a (nI j) = f_Mo_seenAt_5 f S (nI n) p _ (nI (j + 1))
    rw [f_Mo_seenAt_5, if_neg (nle hj), m_isSeen h hj, Option.bind_some]
    unfold gS f_Mo_seenAt_25
    rw [nI_1]
    by_cases c : vis b p j = 0
    · simp only [c, ↓reduceIte, Option.bind_some]
    · simp only [c, ↓reduceIte, Option.bind_some]
def gP3 (b : Nat → Nat) (n : Nat) (m : Int32) (j : Nat) (a : Int32 × Int32 × Int32) : Int32 × Int32 × Int32 := if cntS b n (nI j) < m then (a.1, jmax a.2.1 0, 0) else (a.1 + 1, jmax a.2.1 (a.2.2 + 1), a.2.2 + 1)
def gP1 (b : Nat → Nat) (n : Nat) (m : Int32) (j : Nat) (a : Int32) : Int32 := if cntS b n (nI j) < m then a else a + 1
def gP2 (b : Nat → Nat) (n : Nat) (m : Int32) (j : Nat) (a : Int32 × Int32) : Int32 × Int32 := if cntS b n (nI j) < m then (jmax a.1 0, 0) else (jmax a.1 (a.2 + 1), a.2 + 1)
theorem g31 (b : Nat → Nat) (n : Nat) (m : Int32) (q : Nat) : (foldN (gP3 b n m) q 0 (0, 0, 0)).1 = foldN (gP1 b n m) q 0 0 := foldN_map (g := gP3 b n m) (g' := gP1 b n m) (fun a => a.1) (fun k a => by
  unfold gP3 gP1
  by_cases c : cntS b n (nI k) < m
  · simp only [c, ↓reduceIte]
  · simp only [c, ↓reduceIte]) q 0 (0, 0, 0)
theorem g32 (b : Nat → Nat) (n : Nat) (m : Int32) (q : Nat) : (foldN (gP3 b n m) q 0 (0, 0, 0)).2 = foldN (gP2 b n m) q 0 (0, 0) := foldN_map (g := gP3 b n m) (g' := gP2 b n m) (fun a => a.2) (fun k a => by
  unfold gP3 gP2
  by_cases c : cntS b n (nI k) < m
  · simp only [c, ↓reduceIte]
  · simp only [c, ↓reduceIte]) q 0 (0, 0, 0)
theorem x_places {S : St} {n : Nat} {b : Nat → Nat} (h : XB S (2 * n) b) (m : Int32) : f_Shore_placesSeeing S (nI n) m = some (foldN (gP1 b n m) 256 0 0) := by
  have hn := h.2.1
  obtain ⟨F, hF⟩ : ∃ F, FU = F := ⟨_, rfl⟩
  have hF' : 300 < F := by rw [← hF]; exact FU_gt (by omega)
  have key := loopN (fun f j (a : Int32) => f_Shore_placesSeeing_5 f S (nI n) m a (nI j)) (fun a => some a) (gP1 b n m) 256 ?_ ?_ 256 F 0 0 (by omega) (by omega)
  · unfold f_Shore_placesSeeing
    rw [Option.bind_some, Option.bind_some, hF]
    exact key
  · intro f a
    show f_Shore_placesSeeing_5 (f + 1) S (nI n) m a (nI 256) = _
    rw [f_Shore_placesSeeing_5, if_pos (show (256 : Int32) ≤ nI 256 from yle (Nat.le_refl 256))]
  · intro f j a hj
    show f_Shore_placesSeeing_5 (f + 1) S (nI n) m a (nI j) = f_Shore_placesSeeing_5 f S (nI n) m _ (nI (j + 1))
    rw [f_Shore_placesSeeing_5, if_neg (show ¬ (256 : Int32) ≤ nI j from nle (b := 256) hj), x_sees h, Option.bind_some]
    unfold gP1 f_Shore_placesSeeing_27
    rw [nI_1]
    by_cases c : cntS b n (nI j) < m
    · simp only [c, ↓reduceIte, Option.bind_some]
    · simp only [c, ↓reduceIte, i10, Option.bind_some]
theorem x_longRow {S : St} {n : Nat} {b : Nat → Nat} (h : XB S (2 * n) b) (m : Int32) : f_Shore_longestRow S (nI n) m = some (foldN (gP2 b n m) 256 0 (0, 0)).1 := by
  have hn := h.2.1
  obtain ⟨F, hF⟩ : ∃ F, FU = F := ⟨_, rfl⟩
  have hF' : 300 < F := by rw [← hF]; exact FU_gt (by omega)
  have key := loopN (fun f j (a : Int32 × Int32) => f_Shore_longestRow_8 f S (nI n) m a.1 a.2 (nI j)) (fun a => some a.1) (gP2 b n m) 256 ?_ ?_ 256 F 0 (0, 0) (by omega) (by omega)
  · unfold f_Shore_longestRow
    rw [Option.bind_some, Option.bind_some, Option.bind_some, hF]
    exact key
  · intro f a
    show f_Shore_longestRow_8 (f + 1) S (nI n) m a.1 a.2 (nI 256) = _
    rw [f_Shore_longestRow_8, if_pos (show (256 : Int32) ≤ nI 256 from yle (Nat.le_refl 256))]
  · intro f j a hj
    show f_Shore_longestRow_8 (f + 1) S (nI n) m a.1 a.2 (nI j) = f_Shore_longestRow_8 f S (nI n) m _ _ (nI (j + 1))
    rw [f_Shore_longestRow_8, if_neg (show ¬ (256 : Int32) ≤ nI j from nle (b := 256) hj), x_sees h, Option.bind_some]
    unfold gP2 f_Shore_longestRow_35
    rw [nI_1]
    by_cases c : cntS b n (nI j) < m
    · simp only [c, ↓reduceIte, Option.bind_some]
    · simp only [c, ↓reduceIte, i10, Option.bind_some]
theorem m_seen58 {S : St} {n : Nat} {b : Nat → Nat} (h : MB S (2 * n) b) (m d : Int32) {F : Nat} (hF' : 300 < F) : f_Mo_seen_58 F S (nI n) m d 0 0 0 0 = some (if d = 0 then (foldN (gP3 b n m) 256 0 (0, 0, 0)).1 else (foldN (gP3 b n m) 256 0 (0, 0, 0)).2.1, S) := by
  have hn := h.1
  have key := loopN (fun f j (a : Int32 × Int32 × Int32) => f_Mo_seen_58 f S (nI n) m d a.1 a.2.1 a.2.2 (nI j)) (fun a => some (if d = 0 then a.1 else a.2.1, S)) (gP3 b n m) 256 ?_ ?_ 256 F 0 (0, 0, 0) (by omega) (by omega)
  · exact key
  · intro f a
    show f_Mo_seen_58 (f + 1) S (nI n) m d a.1 a.2.1 a.2.2 (nI 256) = _
    rw [f_Mo_seen_58, if_pos (show (256 : Int32) ≤ nI 256 from yle (Nat.le_refl 256))]
    by_cases hd : d = 0
    · rw [if_pos hd, if_pos hd]
    · rw [if_neg hd, if_neg hd]
  · intro f j a hj
    show f_Mo_seen_58 (f + 1) S (nI n) m d a.1 a.2.1 a.2.2 (nI j) = f_Mo_seen_58 f S (nI n) m d _ _ _ (nI (j + 1))
    rw [f_Mo_seen_58, if_neg (show ¬ (256 : Int32) ≤ nI j from nle (b := 256) hj), m_seenAt h, Option.bind_some]
    unfold gP3 f_Mo_seen_82 f_Mo_seen_97 f_Mo_seen_110
    rw [nI_1]
    by_cases c : cntS b n (nI j) < m
    · simp only [c, ↓reduceIte, Option.bind_some, m_max]
    · simp only [c, ↓reduceIte, i10, Option.bind_some, m_max]
section STP
variable {LR : St → St → Prop}
theorem st_seen (hL : LRc LR) (a b' d : Int32) : STEP (RelL LR) m_W_seen m_Mo_seen 5 4 [a, b', d] := by
  intro Sx Sm hR
  obtain ⟨F, hF⟩ : ∃ F, FU = F := ⟨_, rfl⟩
  have hF' : 300 < F := by rw [← hF]; exact FU_gt (by omega)
  have no : f_W_seen Sx a b' d = some (-1, Sx) → f_Mo_seen Sm a b' d = some (-1, Sm) → ∃ r Sx' Sm', Ct SX m_W_seen 5 (.ref 0 :: [a, b', d].map Value.int) Sx (some r) Sx' ∧ Ct SM m_Mo_seen 4 (.ref 0 :: [a, b', d].map Value.int) Sm (some r) Sm' ∧ RelL LR Sx' Sm' := fun e1 e2 => ⟨-1, Sx, Sm, t_W_seen e1, t_Mo_seen e2, hR⟩
  by_cases hc : a < 1 ∨ (12 : Int32) < a
  · exact no (by unfold f_W_seen; rw [wi_n hc]; rfl) (by unfold f_Mo_seen; rw [in_n hc]; rfl)
  have n1 : ¬ a < 1 := fun z => hc (Or.inl z)
  have n2 : ¬ (12 : Int32) < a := fun z => hc (Or.inr z)
  by_cases hc2 : b' < 1 ∨ (12 : Int32) < b'
  · exact no (by unfold f_W_seen; rw [wi_y n1 n2, wi_n hc2]; rfl) (by unfold f_Mo_seen; rw [in_y n1 n2, in_n hc2]; rfl)
  have n3 : ¬ b' < 1 := fun z => hc2 (Or.inl z)
  have n4 : ¬ (12 : Int32) < b' := fun z => hc2 (Or.inr z)
  by_cases hc3 : d < 0 ∨ (1 : Int32) < d
  · exact no (by unfold f_W_seen; rw [wi_y n1 n2, wi_y n3 n4, wi_n hc3]; rfl) (by unfold f_Mo_seen; rw [in_y n1 n2, in_y n3 n4, in_n hc3]; rfl)
  have n5 : ¬ d < 0 := fun z => hc3 (Or.inl z)
  have n6 : ¬ (1 : Int32) < d := fun z => hc3 (Or.inr z)
  obtain ⟨n, q1, q2, rfl⟩ := rngN (a := 1) (b := 12) (by omega) n1 n2
  rcases tk hR.1 (2 * n) (by omega) with ⟨b, t1, t2, t3, t4⟩ | ⟨t1, t2⟩
  · have e1 := g31 b n b' 256
    have e2 := g32 b n b' 256
    have h2 : f_Mo_seen Sm (nI n) b' d = some (if d = 0 then (foldN (gP3 b n b') 256 0 (0, 0, 0)).1 else (foldN (gP3 b n b') 256 0 (0, 0, 0)).2.1, tM Sm) := by
      unfold f_Mo_seen
      rw [in_y n1 n2, Option.bind_some, if_neg i10, in_y n3 n4, Option.bind_some, if_neg i10, in_y n5 n6, Option.bind_some, if_neg i10, m2, if_pos t2, Option.bind_some, Option.bind_some, Option.bind_some, Option.bind_some, Option.bind_some, hF]
      exact m_seen58 t4 b' d hF'
    have h1 : f_W_seen Sx (nI n) b' d = some (if d = 0 then (foldN (gP3 b n b') 256 0 (0, 0, 0)).1 else (foldN (gP3 b n b') 256 0 (0, 0, 0)).2.1, tX Sx (2 * n)) := by
      unfold f_W_seen
      rw [wi_y n1 n2, Option.bind_some, if_neg i10, wi_y n3 n4, Option.bind_some, if_neg i10, wi_y n5 n6, Option.bind_some, if_neg i10, m2, t1, Option.bind_some, if_neg i10, x_places t3, x_longRow t3, e1, e2]
      by_cases hd : d = 0
      · rw [if_pos hd, if_pos hd]; rfl
      · rw [if_neg hd, if_neg hd]; rfl
    generalize (if d = 0 then (foldN (gP3 b n b') 256 0 (0, 0, 0)).1 else (foldN (gP3 b n b') 256 0 (0, 0, 0)).2.1) = r at h1 h2
    exact ⟨r, tX Sx (2 * n), tM Sm, t_W_seen h1, t_Mo_seen h2, hR.tt hL _⟩
  · refine no ?_ ?_
    · unfold f_W_seen
      rw [wi_y n1 n2, Option.bind_some, if_neg i10, wi_y n3 n4, Option.bind_some, if_neg i10, wi_y n5 n6, Option.bind_some, if_neg i10, m2, t1]; rfl
    · unfold f_Mo_seen
      rw [in_y n1 n2, Option.bind_some, if_neg i10, in_y n3 n4, Option.bind_some, if_neg i10, in_y n5 n6, Option.bind_some, if_neg i10, m2, if_neg t2]
end STP
/-! CORD -/
def su (b : Nat → Nat) (n L : Nat) : Nat := fb_sm (fun k => min (b k) L) n
def okC (b : Nat → Nat) (n m L : Nat) : Prop := m * L ≤ su b n L
theorem su_scale (b : Nat → Nat) {L L' : Nat} (h : L ≤ L') : ∀ n, su b n L' * L ≤ su b n L * L'
  | 0 => by simp [su, fb_sm]
  | n + 1 => by
    have ih := su_scale b h n
    unfold su at ih ⊢
    rw [fb_sm_succ, fb_sm_succ, Nat.add_mul, Nat.add_mul]
    apply Nat.add_le_add ih
    by_cases c : b n ≤ L
    · rw [Nat.min_eq_left c, Nat.min_eq_left (by omega)]
      exact Nat.mul_le_mul_left _ h
    · rw [Nat.min_eq_right (show L ≤ b n by omega), Nat.mul_comm]
      exact Nat.mul_le_mul_left _ (Nat.min_le_right _ _)
theorem okC_down {b : Nat → Nat} {n m L L' : Nat} (h : L ≤ L') (hL : 0 < L') (hk : okC b n m L') : okC b n m L := by
  unfold okC at hk ⊢
  have h1 := su_scale b h n
  have h2 : m * L' * L ≤ su b n L' * L := Nat.mul_le_mul_right _ hk
  have h3 : m * L * L' ≤ su b n L * L' := by
    rw [Nat.mul_assoc, Nat.mul_comm L L', ← Nat.mul_assoc]
    exact Nat.le_trans h2 h1
  exact Nat.le_of_mul_le_mul_right h3 hL
theorem su_b {b : Nat → Nat} {n L : Nat} (hb : ∀ i, i < n → b i < 256) : su b n L ≤ n * 255 := fb_sm_bound (fun k hk => by
  have := hb k hk
  have := Nat.min_le_left (b k) L
  show min (b k) L ≤ 255
  omega)
theorem jmin_n {a b : Nat} (ha : a < 2 ^ 31) (hb : b < 2 ^ 31) : jmin (nI a) (nI b) = nI (min a b) := by
  unfold jmin
  by_cases c : b < a
  · rw [if_pos (ylt c), Nat.min_eq_right (by omega)]
  · rw [if_neg (nlt' (by omega)), Nat.min_eq_left (by omega)]
theorem jmax_n {a b : Nat} (ha : a < 2 ^ 31) (hb : b < 2 ^ 31) : jmax (nI a) (nI b) = nI (max a b) := by
  unfold jmax
  by_cases c : a < b
  · rw [if_pos (ylt c), Nat.max_eq_right (by omega)]
  · rw [if_neg (nlt' (by omega)), Nat.max_eq_left (by omega)]
theorem x_suff {S : St} {n m L : Nat} {b : Nat → Nat} (h : XB S n b) (hn : n ≤ 12) (hm : m ≤ 8) (hL : L ≤ 5000) : f_Rows_sufficesFor S (nI n) (nI m) (nI L) = some (if su b n L < m * L then 0 else 1) := by
  obtain ⟨F, hF⟩ : ∃ F, FU = F := ⟨_, rfl⟩
  have hF' : 300 < F := by rw [← hF]; exact FU_gt (by omega)
  have hs := su_b (b := b) (n := n) (L := L) (fun i hi => (h.2.2 i hi).2)
  have hml : m * L ≤ 8 * 5000 := Nat.mul_le_mul hm hL
  have key : ∀ k j F, j + k = n → k < F → f_Rows_sufficesFor_6 F S (nI n) (nI m) (nI L) (nI (su b j L)) (nI j) = some (if su b n L < m * L then 0 else 1) := by
    intro k
    induction k with
    | zero =>
      intro j F hj hF
      obtain ⟨F, rfl⟩ : ∃ z, F = z + 1 := ⟨F - 1, by omega⟩
      have : j = n := by omega
      subst this
      rw [f_Rows_sufficesFor_6, if_pos (yle (Nat.le_refl _)), pk_mul]
      by_cases c : su b j L < m * L
      · rw [if_pos (ylt c), if_pos c]
      · rw [if_neg (nlt' (by omega)), if_neg c]
    | succ k ih =>
      intro j F hj hF
      obtain ⟨F, rfl⟩ : ∃ z, F = z + 1 := ⟨F - 1, by omega⟩
      have hb := (h.2.2 j (by omega)).2
      rw [f_Rows_sufficesFor_6, if_neg (nle (by omega)), h.at (by omega), Option.bind_some, Option.bind_some, Option.bind_some, jmin_n (by omega) (by omega), nI_add, nI_1]
      exact ih (j + 1) F (by omega) (by omega)
  unfold f_Rows_sufficesFor
  rw [Option.bind_some, Option.bind_some, hF]
  exact key n 0 F (by omega) (by omega)
theorem half2 (k : Nat) (hk : k ≤ 12) : jshr (nI (2 ^ (k + 1))) 1 = nI (2 ^ k) := by
  have : ∀ k, k ≤ 12 → jshr (nI (2 ^ (k + 1))) 1 = nI (2 ^ k) := by decide
  exact this k hk
theorem x_cord7 {S : St} {n m : Nat} {b : Nat → Nat} (h : XB S n b) (hn : n ≤ 12) (hm1 : 1 ≤ m) (hm : m ≤ 8) : ∀ k a F, k ≤ 11 → k + 1 < F → a + 2 ^ (k + 1) ≤ 4096 → okC b n m a → ¬ okC b n m (a + 2 ^ (k + 1)) → ∃ a', f_Rows_longestCord_7 F S (nI n) (nI m) (nI a) (nI (2 ^ k)) = some (nI a') ∧ a' < 4096 ∧ okC b n m a' ∧ ¬ okC b n m (a' + 1) := by
  intro k
  induction k with
  | zero =>
    intro a F hk hF ha h1 h2
    obtain ⟨F, rfl⟩ : ∃ z, F = z + 2 := ⟨F - 2, by omega⟩
    rw [f_Rows_longestCord_7, if_neg (by decide), nI_add, x_suff h hn hm (by simp at ha ⊢; omega), Option.bind_some]
    unfold f_Rows_longestCord_30
    have e : jshr (nI (2 ^ 0)) 1 = nI 0 := by decide
    by_cases c : su b n (a + 2 ^ 0) < m * (a + 2 ^ 0)
    · rw [if_pos c, if_pos rfl, Option.bind_some, e, f_Rows_longestCord_7, if_pos (by decide)]
      exact ⟨a, rfl, by simp at ha; omega, h1, fun z => by unfold okC at z; simp at c; omega⟩
    · rw [if_neg c, if_neg i10, Option.bind_some, Option.bind_some, e, f_Rows_longestCord_7, if_pos (by decide)]
      refine ⟨a + 2 ^ 0, rfl, by simp at ha ⊢; omega, ?_, h2⟩
      unfold okC; omega
  | succ k ih =>
    intro a F hk hF ha h1 h2
    obtain ⟨F, rfl⟩ : ∃ z, F = z + 1 := ⟨F - 1, by omega⟩
    have hp : 2 ^ (k + 2) = 2 ^ (k + 1) + 2 ^ (k + 1) := by rw [Nat.pow_succ 2 (k + 1)]; omega
    have hp0 : 0 < 2 ^ (k + 1) := Nat.two_pow_pos _
    have hz : ¬ nI (2 ^ (k + 1)) ≤ 0 := nle (a := 0) hp0 (by omega)
    rw [f_Rows_longestCord_7, if_neg hz, nI_add, x_suff h hn hm (by omega), Option.bind_some]
    unfold f_Rows_longestCord_30
    by_cases c : su b n (a + 2 ^ (k + 1)) < m * (a + 2 ^ (k + 1))
    · rw [if_pos c, if_pos rfl, Option.bind_some, half2 k (by omega)]
      exact ih a F (by omega) (by omega) (by omega) h1 (fun z => by unfold okC at z; omega)
    · rw [if_neg c, if_neg i10, Option.bind_some, Option.bind_some, half2 k (by omega)]
      refine ih (a + 2 ^ (k + 1)) F (by omega) (by omega) (by omega) (by unfold okC; omega) ?_
      rw [Nat.add_assoc, ← hp]; exact h2
theorem m_cord54 {S : St} {n m L : Nat} {b : Nat → Nat} (h : MB S n b) (hn : n ≤ 12) (hm : m ≤ 8) (hL : L ≤ 5000) (a : Nat) (K : St → Int32 → Int32 → Int32 → Int32 → Option (Int32 × St)) {F : Nat} (hF' : 300 < F) : f_Mo_cord_54 K F S (nI n) (nI m) (nI a) (nI L) 0 0 = K S (nI n) (nI m) (nI (if su b n L < m * L then a else L)) (nI (L + 1)) := by
  have hs := su_b (b := b) (n := n) (L := L) (fun i hi => (h.2 i hi).2)
  have hml : m * L ≤ 8 * 5000 := Nat.mul_le_mul hm hL
  have key : ∀ k j F, j + k = n → k < F → f_Mo_cord_54 K F S (nI n) (nI m) (nI a) (nI L) (nI (su b j L)) (nI j) = K S (nI n) (nI m) (nI (if su b n L < m * L then a else L)) (nI (L + 1)) := by
    intro k
    induction k with
    | zero =>
      intro j F hj hF
      obtain ⟨F, rfl⟩ : ∃ z, F = z + 1 := ⟨F - 1, by omega⟩
      have : j = n := by omega
      subst this
      rw [f_Mo_cord_54, if_pos (yle (Nat.le_refl _)), pk_mul]
      unfold f_Mo_cord_94
      rw [nI_1, Option.bind_some, Option.bind_some]
      by_cases c : su b j L < m * L
      · rw [if_pos (ylt c), if_pos c]
      · rw [if_neg (nlt' (by omega)), if_neg c]
    | succ k ih =>
      intro j F hj hF
      obtain ⟨F, rfl⟩ : ∃ z, F = z + 1 := ⟨F - 1, by omega⟩
      have hb := (h.2 j (by omega)).2
      rw [f_Mo_cord_54, if_neg (nle (by omega)), h.oct (by omega), Option.bind_some, m_min, Option.bind_some, Option.bind_some, Option.bind_some, jmin_n (by omega) (by omega), nI_add, nI_1]
      exact ih (j + 1) F (by omega) (by omega)
  exact key n 0 F (by omega) (by omega)
theorem m_cord40 {S : St} {n m : Nat} {b : Nat → Nat} (h : MB S n b) (hn : n ≤ 12) (hm1 : 1 ≤ m) (hm : m ≤ 8) : ∀ k L a F, L + k = 3061 → k < F → a < L → okC b n m a → (∀ c, a < c → c < L → ¬ okC b n m c) → ∃ a', f_Mo_cord_40 F S (nI n) (nI m) (nI a) (nI L) = some (nI a', S) ∧ okC b n m a' ∧ ¬ okC b n m (a' + 1) := by
  intro k
  obtain ⟨F0, hF0⟩ : ∃ F, FU = F := ⟨_, rfl⟩
  have hF0' : 300 < F0 := by rw [← hF0]; exact FU_gt (by omega)
  induction k with
  | zero =>
    intro L a F hL hF ha h1 h2
    obtain ⟨F, rfl⟩ : ∃ z, F = z + 1 := ⟨F - 1, by omega⟩
    rw [f_Mo_cord_40, if_pos (show (3060 : Int32) < nI L from ylt (a := 3060) (by omega))]
    refine ⟨a, rfl, h1, ?_⟩
    by_cases c : a + 1 < L
    · exact h2 (a + 1) (by omega) c
    · have := su_b (b := b) (n := n) (L := a + 1) (fun i hi => (h.2 i hi).2)
      intro z
      unfold okC at z
      have z2 : 1 * (a + 1) ≤ m * (a + 1) := Nat.mul_le_mul_right _ hm1
      have z3 : n * 255 ≤ 12 * 255 := Nat.mul_le_mul_right _ hn
      omega
  | succ k ih =>
    intro L a F hL hF ha h1 h2
    obtain ⟨F, rfl⟩ : ∃ z, F = z + 1 := ⟨F - 1, by omega⟩
    rw [f_Mo_cord_40, if_neg (show ¬ (3060 : Int32) < nI L from nlt' (b := L) (a := 3060) (by omega)), Option.bind_some, Option.bind_some, hF0, m_cord54 h hn hm (by omega) a _ hF0']
    by_cases c : su b n L < m * L
    · rw [if_pos c]
      refine ih (L + 1) a F (by omega) (by omega) (by omega) h1 (fun c' z1 z2 => ?_)
      by_cases e : c' = L
      · subst e; unfold okC; omega
      · exact h2 c' z1 (by omega)
    · rw [if_neg c]
      exact ih (L + 1) L F (by omega) (by omega) (by omega) (by unfold okC; omega) (fun c' z1 z2 => by omega)
section STP
variable {LR : St → St → Prop}
theorem st_cord (hL : LRc LR) (a b' : Int32) : STEP (RelL LR) m_W_cord m_Mo_cord 4 2 [a, b'] := by
  intro Sx Sm hR
  obtain ⟨F, hF⟩ : ∃ F, FU = F := ⟨_, rfl⟩
  have hF' : 4000 < F := by rw [← hF]; exact FU_gt (by omega)
  have no : f_W_cord Sx a b' = some (-1, Sx) → f_Mo_cord Sm a b' = some (-1, Sm) → ∃ r Sx' Sm', Ct SX m_W_cord 4 (.ref 0 :: [a, b'].map Value.int) Sx (some r) Sx' ∧ Ct SM m_Mo_cord 2 (.ref 0 :: [a, b'].map Value.int) Sm (some r) Sm' ∧ RelL LR Sx' Sm' := fun e1 e2 => ⟨-1, Sx, Sm, t_W_cord e1, t_Mo_cord e2, hR⟩
  by_cases hc : a < 2 ∨ (12 : Int32) < a
  · exact no (by unfold f_W_cord; rw [wi_n hc]; rfl) (by unfold f_Mo_cord; rw [in_n hc]; rfl)
  have n1 : ¬ a < 2 := fun z => hc (Or.inl z)
  have n2 : ¬ (12 : Int32) < a := fun z => hc (Or.inr z)
  by_cases hc2 : b' < 1 ∨ (8 : Int32) < b'
  · exact no (by unfold f_W_cord; rw [wi_y n1 n2, wi_n hc2]; rfl) (by unfold f_Mo_cord; rw [in_y n1 n2, in_n hc2]; rfl)
  have n3 : ¬ b' < 1 := fun z => hc2 (Or.inl z)
  have n4 : ¬ (8 : Int32) < b' := fun z => hc2 (Or.inr z)
  obtain ⟨n, q1, q2, rfl⟩ := rngN (a := 2) (b := 12) (by omega) n1 n2
  obtain ⟨m, q3, q4, rfl⟩ := rngN (a := 1) (b := 8) (by omega) n3 n4
  rcases tk hR.1 n (by omega) with ⟨b, t1, t2, t3, t4⟩ | ⟨t1, t2⟩
  · have ok0 : okC b n m 0 := Nat.zero_le _
    have no4 : ¬ okC b n m (0 + 2 ^ (11 + 1)) := by
      intro z
      unfold okC at z
      have z1 := su_b (b := b) (n := n) (L := 0 + 2 ^ (11 + 1)) (fun i hi => (t4.2 i hi).2)
      have z2 : 1 * (0 + 2 ^ (11 + 1)) ≤ m * (0 + 2 ^ (11 + 1)) := Nat.mul_le_mul_right _ q3
      have z3 : n * 255 ≤ 12 * 255 := Nat.mul_le_mul_right _ q2
      omega
    obtain ⟨a1, e1, e0, e2, e3⟩ := x_cord7 t3 q2 q3 q4 11 0 F (by omega) (by omega) (by omega) ok0 no4
    obtain ⟨a2, e4, e5, e6⟩ := m_cord40 t4 q2 q3 q4 3060 1 0 F (by omega) (by omega) (by omega) ok0 (fun c z1 z2 => by omega)
    have ee : a1 = a2 := by
      rcases Nat.lt_trichotomy a1 a2 with q | q | q
      · exact absurd (okC_down (show a1 + 1 ≤ a2 by omega) (by omega) e5) e3
      · exact q
      · exact absurd (okC_down (show a2 + 1 ≤ a1 by omega) (by omega) e2) e6
    subst ee
    have h1 : f_W_cord Sx (nI n) (nI m) = some (nI a1, tX Sx n) := by
      unfold f_W_cord f_Rows_longestCord
      rw [wi_y n1 n2, Option.bind_some, if_neg i10, wi_y n3 n4, Option.bind_some, if_neg i10, t1, Option.bind_some, if_neg i10, Option.bind_some, Option.bind_some, hF]
      have e1' : f_Rows_longestCord_7 F (tX Sx n) (nI n) (nI m) 0 2048 = some (nI a1) := e1
      rw [e1', Option.bind_some]
    have h2 : f_Mo_cord Sm (nI n) (nI m) = some (nI a1, tM Sm) := by
      unfold f_Mo_cord
      rw [in_y n1 n2, Option.bind_some, if_neg i10, in_y n3 n4, Option.bind_some, if_neg i10, if_pos t2, Option.bind_some, Option.bind_some, Option.bind_some, hF]
      exact e4
    exact ⟨nI a1, tX Sx n, tM Sm, t_W_cord h1, t_Mo_cord h2, hR.tt hL _⟩
  · refine no ?_ ?_
    · unfold f_W_cord
      rw [wi_y n1 n2, Option.bind_some, if_neg i10, wi_y n3 n4, Option.bind_some, if_neg i10, t1]; rfl
    · unfold f_Mo_cord
      rw [in_y n1 n2, Option.bind_some, if_neg i10, in_y n3 n4, Option.bind_some, if_neg i10, if_neg t2]
end STP
