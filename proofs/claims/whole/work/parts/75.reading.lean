/-! READING a text: both hold the same place in the same bytes -/
def sg (b : Nat → Nat) (n p : Nat) : Int32 := if p < n then nI (b p) else -1
def XD (S : St) (n : Nat) (b : Nat → Nat) (p : Nat) : Prop := XB S n b ∧ S 3 1 = nI p ∧ S 3 2 = 0 ∧ p ≤ n ∧ n ≤ 240
def MD (S : St) (n : Nat) (b : Nat → Nat) (p : Nat) : Prop := MB S n b ∧ S 0 9 = nI n ∧ S 0 8 = nI p
def dg (x : Int32) : Bool := decide (¬ x < 48 ∧ ¬ (57 : Int32) < x)
section RD
variable {S T : St} {n p : Nat} {b : Nat → Nat}
theorem XB.sgn (h : XB S n b) (hp : p ≤ n) (hn : n ≤ 240) : f_Tape_at S (nI p) = some (sg b n p) := by
  unfold sg
  by_cases c : p < n
  · rw [if_pos c]; exact h.at c
  · rw [if_neg c]
    unfold f_Tape_at
    rw [if_neg (nI_lt0 (by omega)), h.1, if_pos (yle (by omega))]
theorem XD.sgn (h : XD S n b p) : f_Tape_at S (S 3 1) = some (sg b n p) := by rw [h.2.1]; exact h.1.sgn h.2.2.2.1 h.2.2.2.2
theorem XD.sign (h : XD S n b p) : f_Reading_sign S = some (sg b n p) := by
  unfold f_Reading_sign
  rw [h.sgn, Option.bind_some]
theorem MD.here (h : MD S n b p) (hp : p ≤ n) (hn : n ≤ 240) : f_Mo_here S = some (sg b n p) := by
  unfold f_Mo_here sg
  have c1 : (nI p).toNatClampNeg = p := cl
  rw [h.2.1, h.2.2, c1]
  by_cases c : p < n
  · rw [if_neg (nle c), if_pos (gn (by omega) (by omega)), if_pos c, (h.1.2 p c).1]
  · rw [if_pos (yle (by omega)), if_neg c]
theorem XD.set (h : XD S n b p) {k j : Nat} {v : Int32} (hk : ¬ (k = 1 ∧ j = 1) ∧ k ≠ 2 ∧ ¬ (k = 3 ∧ (j = 1 ∨ j = 2))) : XD (sF S k j v) n b p := by
  obtain ⟨⟨h1, h2, h3⟩, h4, h5, h6⟩ := h
  refine ⟨⟨by rw [sF_ne (by omega)]; exact h1, h2, fun i hi => by rw [sF_ne (by omega)]; exact h3 i hi⟩, by rw [sF_ne (by omega)]; exact h4, by rw [sF_ne (by omega)]; exact h5, h6⟩
theorem MD.set (h : MD S n b p) {k j : Nat} {v : Int32} (hk : ¬ (k = 0 ∧ (j = 8 ∨ j = 9)) ∧ k ≠ 6) : MD (sF S k j v) n b p := by
  obtain ⟨⟨h1, h2⟩, h4, h5⟩ := h
  exact ⟨⟨h1, fun i hi => by rw [sF_ne (by omega)]; exact h2 i hi⟩, by rw [sF_ne (by omega)]; exact h4, by rw [sF_ne (by omega)]; exact h5⟩
theorem XD.on (h : XD S n b p) (hp : p < n) : XD (sF S 3 1 (nI (p + 1))) n b (p + 1) := by
  obtain ⟨⟨h1, h2, h3⟩, h4, h5, h6, h7⟩ := h
  exact ⟨⟨by rw [sF_ne (by omega)]; exact h1, h2, fun i hi => by rw [sF_ne (by omega)]; exact h3 i hi⟩, sF_at, by rw [sF_ne (by omega)]; exact h5, by omega, h7⟩
theorem MD.on (h : MD S n b p) : MD (sF S 0 8 (nI (p + 1))) n b (p + 1) := by
  obtain ⟨⟨h1, h2⟩, h4, h5⟩ := h
  exact ⟨⟨h1, fun i hi => by rw [sF_ne (by omega)]; exact h2 i hi⟩, by rw [sF_ne (by omega)]; exact h4, sF_at⟩
theorem XD.cong (h : XD S n b p) (h1 : T 1 1 = S 1 1) (h2 : T 2 = S 2) (h3 : T 3 1 = S 3 1) (h4 : T 3 2 = S 3 2) : XD T n b p := by
  obtain ⟨⟨q1, q2, q3⟩, q4, q5, q6⟩ := h
  exact ⟨⟨by rw [h1]; exact q1, q2, fun i hi => by rw [h2]; exact q3 i hi⟩, by rw [h3]; exact q4, by rw [h4]; exact q5, q6⟩
theorem MD.cong (h : MD S n b p) (h1 : T 6 = S 6) (h2 : T 0 8 = S 0 8) (h3 : T 0 9 = S 0 9) : MD T n b p := by
  obtain ⟨⟨q1, q2⟩, q3, q4⟩ := h
  exact ⟨⟨q1, fun i hi => by rw [h1]; exact q2 i hi⟩, by rw [h3]; exact q3, by rw [h2]; exact q4⟩
/-! faults -/
theorem fl_ne {w q : Nat} (h1 : 1 ≤ w) (h2 : w ≤ 9) (hq : q ≤ 300) : ¬ (-1000) * nI w - nI q = 0 := by
  intro z
  have e0 : (-1000 : Int32).toInt = -1000 := by decide
  have e1 : (nI w).toInt = w := nI_toInt (by omega)
  have e2 : (nI q).toInt = q := nI_toInt (by omega)
  have e3 : ((-1000) * nI w).toInt = -1000 * (w : Int) := by rw [fb_mulI (by rw [e0, e1]; omega) (by rw [e0, e1]; omega), e0, e1]
  have e4 : ((-1000) * nI w - nI q).toInt = -1000 * (w : Int) - q := by rw [fb_subI (by rw [e3, e2]; omega) (by rw [e3, e2]; omega), e3, e2]
  rw [z] at e4
  have e5 : (0 : Int32).toInt = 0 := rfl
  omega
theorem x_fail (h : S 3 2 = 0) (l1 l2 : Int32) : f_Reading_fail S l1 l2 = some (sF S 3 2 ((-1000) * l1 - l2)) := by
  unfold f_Reading_fail
  rw [if_pos h, Option.bind_some]
theorem x_fail0 (h : ¬ S 3 2 = 0) (l1 l2 : Int32) : f_Reading_fail S l1 l2 = some S := by
  unfold f_Reading_fail
  rw [if_neg h]
theorem m_wrong (l1 l2 : Int32) : f_Mo_wrongAt S l1 l2 = some (0, sF S 0 10 ((-1000) * l1 - l2)) := by
  unfold f_Mo_wrongAt
  rw [Option.bind_some]
theorem x_takes0 (h : ¬ S 3 2 = 0) (l : Int32) : f_Reading_takes S l = some (0, S) := by
  unfold f_Reading_takes
  rw [if_neg h]
theorem x_takes (h : XD S n b p) (l : Int32) : f_Reading_takes S l = if sg b n p = l then some (1, sF S 3 1 (nI (p + 1))) else some (0, S) := by
  unfold f_Reading_takes
  rw [if_pos h.2.2.1, h.sgn, Option.bind_some, h.2.1, nI_1, Option.bind_some]
theorem sg_lt {c : Nat} (hc : c < 256) (h : sg b n p = nI c) : p < n := by
  unfold sg at h
  by_cases q : p < n
  · exact q
  · rw [if_neg q] at h
    exact absurd h.symm (nI_m1 (by omega))
theorem sg_n (h : ¬ p < n) : sg b n p = -1 := by unfold sg; rw [if_neg h]
theorem sg_y (h : p < n) : sg b n p = nI (b p) := by unfold sg; rw [if_pos h]
/-! digits -/
theorem x_dig (x : Int32) : f_Reading_isDigit S x = some (if dg x then 1 else 0) := by
  unfold f_Reading_isDigit dg
  by_cases c1 : x < 48
  · rw [if_pos c1, decide_eq_false (fun z => z.1 c1)]; rfl
  · rw [if_neg c1]
    by_cases c2 : (57 : Int32) < x
    · rw [if_pos c2, decide_eq_false (fun z => z.2 c2)]; rfl
    · rw [if_neg c2, decide_eq_true ⟨c1, c2⟩]; rfl
theorem m_dig (h : MD S n b p) (hp : p ≤ n) (hn : n ≤ 240) : f_Mo_isDigit S = some (if dg (sg b n p) then 1 else 0) := by
  unfold f_Mo_isDigit dg
  rw [h.here hp hn, Option.bind_some]
  by_cases c1 : sg b n p < 48
  · rw [if_pos c1, decide_eq_false (fun z => z.1 c1)]; rfl
  · rw [if_neg c1, Option.bind_some]
    by_cases c2 : (57 : Int32) < sg b n p
    · rw [if_pos c2, decide_eq_false (fun z => z.2 c2)]; rfl
    · rw [if_neg c2, decide_eq_true ⟨c1, c2⟩]; rfl
theorem dg_y (h : dg (sg b n p) = true) : p < n ∧ ∃ c, c ≤ 9 ∧ sg b n p = nI (48 + c) := by
  have h' := of_decide_eq_true h
  by_cases q : p < n
  · refine ⟨q, ?_⟩
    obtain ⟨m, a1, a2, a3⟩ := rngN (x := sg b n p) (a := 48) (b := 57) (by omega) h'.1 h'.2
    exact ⟨m - 48, by omega, by rw [a3]; congr 1; omega⟩
  · rw [sg_n q] at h'
    exact absurd (show (-1 : Int32) < 48 by decide) h'.1
theorem dig_val {a c : Nat} : (10 : Int32) * nI a + nI (48 + c) - 48 = nI (10 * a + c) := by
  rw [show (10 : Int32) * nI a = nI (10 * a) from pk_mul 10 a, nI_add]
  rw [show nI (10 * a + (48 + c)) - 48 = nI (10 * a + (48 + c) - 48) from pk_sub (b := 48) (by omega)]
  congr 1; omega
theorem ib0' {α : Type} {x y : α} : (if (if (false = true) then (1 : Int32) else 0) = 0 then x else y) = x := if_pos rfl
theorem ib1' {α : Type} {x y : α} : (if (if (true = true) then (1 : Int32) else 0) = 0 then x else y) = y := if_neg ib1
theorem num_loop {md : Nat} (hmd : md ≤ 5) (hmd0 : 1 ≤ md) : ∀ d i F F' (S T : St) (a : Nat), i + d = md → d < F → d < F' → XD S n b (p + i) → MD T n b (p + i) → T 0 11 = nI a → a < 10 ^ i → (1 ≤ i ∨ dg (sg b n (p + i)) = true) → (∃ q a' S' T', p < q ∧ q ≤ p + md ∧ a' < 10 ^ md ∧ f_Reading_number_13 F S (nI md) (nI a) (nI i) = some (nI a', S') ∧ f_Mo_readsAmount_27 F' T (nI md) (nI p) = some (1, T') ∧ XD S' n b q ∧ MD T' n b q ∧ T' 0 11 = nI a') ∨ (∃ f v S' T', ¬ f = 0 ∧ f_Reading_number_13 F S (nI md) (nI a) (nI i) = some (v, S') ∧ f_Mo_readsAmount_27 F' T (nI md) (nI p) = some (0, T') ∧ S' 3 2 = f ∧ T' 0 10 = f) := by
  intro d
  induction d with
  | zero =>
    intro i F F' S T a hi hF hF' hX hM h11 ha hd
    obtain ⟨F, rfl⟩ : ∃ z, F = z + 1 := ⟨F - 1, by omega⟩
    obtain ⟨F', rfl⟩ : ∃ z, F' = z + 1 := ⟨F' - 1, by omega⟩
    have im : i = md := by omega
    subst im
    have hp := hX.2.2.2.1
    have hn := hX.2.2.2.2
    have hi0 : ¬ nI i = 0 := nI_ne0 (by omega) (by omega)
    have eX : f_Reading_number_13 (F + 1) S (nI i) (nI a) (nI i) = if dg (sg b n (p + i)) then some (nI a, sF S 3 2 ((-1000) * 2 - nI (p + i))) else some (nI a, S) := by
      rw [f_Reading_number_13, if_pos (yle (Nat.le_refl _))]
      unfold f_Reading_number_71
      rw [if_neg hi0, hX.sgn, Option.bind_some, x_dig, Option.bind_some, x_fail hX.2.2.1, Option.bind_some, hX.2.1]
      cases dg (sg b n (p + i)) with
      | false => rw [ib0', if_neg (by decide)]
      | true => rw [ib1', if_pos rfl]
    have eM : f_Mo_readsAmount_27 (F' + 1) T (nI i) (nI p) = if dg (sg b n (p + i)) then some (0, sF T 0 10 ((-1000) * 2 - nI (p + i))) else some (1, T) := by
      have e1 : nI (p + i) = nI p + nI i := (nI_add p i).symm
      rw [f_Mo_readsAmount_27, m_dig hM hp hn, Option.bind_some, hM.2.2, if_pos e1, m_wrong, Option.bind_some, if_pos (Or.inl rfl)]
      cases dg (sg b n (p + i)) with
      | false => rw [ib0', if_neg (by decide)]
      | true => rw [ib1', if_pos rfl]
    rw [eX, eM]
    cases hdg : dg (sg b n (p + i)) with
    | false =>
      rw [if_neg (by decide), if_neg (by decide)]
      exact Or.inl ⟨p + i, a, S, T, by omega, by omega, ha, rfl, rfl, hX, hM, h11⟩
    | true =>
      rw [if_pos rfl, if_pos rfl]
      obtain ⟨f, hf⟩ : ∃ f : Int32, (-1000) * 2 - nI (p + i) = f := ⟨_, rfl⟩
      have f0 : ¬ (-1000) * nI 2 - nI (p + i) = 0 := fl_ne (by omega) (by omega) (by omega)
      have f1 : ¬ f = 0 := by rw [← hf]; exact f0
      rw [hf]
      exact Or.inr ⟨f, nI a, _, _, f1, rfl, rfl, sF_at, sF_at⟩
  | succ d ih =>
    intro i F F' S T a hi hF hF' hX hM h11 ha hd
    obtain ⟨F, rfl⟩ : ∃ z, F = z + 1 := ⟨F - 1, by omega⟩
    obtain ⟨F', rfl⟩ : ∃ z, F' = z + 1 := ⟨F' - 1, by omega⟩
    have hp := hX.2.2.2.1
    have hn := hX.2.2.2.2
    have eX : f_Reading_number_13 (F + 1) S (nI md) (nI a) (nI i) = if dg (sg b n (p + i)) then f_Reading_number_13 F (sF S 3 1 (nI (p + i + 1))) (nI md) (10 * nI a + sg b n (p + i) - 48) (nI (i + 1)) else f_Reading_number_71 S (nI a) (nI i) := by
      rw [f_Reading_number_13, if_neg (nle (by omega)), hX.sgn, Option.bind_some, x_dig, Option.bind_some, Option.bind_some, Option.bind_some, hX.2.1, nI_1, Option.bind_some, Option.bind_some, nI_1]
      cases dg (sg b n (p + i)) with
      | false => rw [ib0', if_neg (by decide)]
      | true => rw [ib1', if_pos rfl]
    have e1 : ¬ nI (p + i) = nI p + nI md := fun z => by
      rw [nI_add] at z
      have := nI_inj (by omega) (by omega) z
      omega
    have eM : f_Mo_readsAmount_27 (F' + 1) T (nI md) (nI p) = if dg (sg b n (p + i)) then f_Mo_readsAmount_27 F' (sF (sF T 0 11 (10 * nI a + sg b n (p + i) - 48)) 0 8 (nI (p + i + 1))) (nI md) (nI p) else some (1, T) := by
      have t8 : ∀ v, sF T 0 11 v 0 8 = nI (p + i) := fun v => by rw [sF_ne (by omega)]; exact hM.2.2
      rw [f_Mo_readsAmount_27, m_dig hM hp hn, Option.bind_some, hM.2.2, if_neg e1, hM.here hp hn, Option.bind_some, Option.bind_some, Option.bind_some, t8, nI_1, h11]
      cases dg (sg b n (p + i)) with
      | false => rw [ib0', if_neg (by decide)]
      | true => rw [ib1', if_pos rfl]
    rw [eX, eM]
    cases hdg : dg (sg b n (p + i)) with
    | false =>
      have i1 : 1 ≤ i := by
        rcases hd with z | z
        · exact z
        · rw [hdg] at z; cases z
      have hi0 : ¬ nI i = 0 := nI_ne0 (by omega) (by omega)
      rw [if_neg (by decide), if_neg (by decide)]
      have e71 : f_Reading_number_71 S (nI a) (nI i) = some (nI a, S) := by
        unfold f_Reading_number_71
        rw [if_neg hi0, hX.sgn, Option.bind_some, x_dig, Option.bind_some, hdg, ib0']
      rw [e71]
      exact Or.inl ⟨p + i, a, S, T, by omega, by omega, Nat.lt_of_lt_of_le ha (Nat.pow_le_pow_right (by omega) (by omega)), rfl, rfl, hX, hM, h11⟩
    | true =>
      obtain ⟨pn, c, hc, ec⟩ := dg_y hdg
      rw [if_pos rfl, if_pos rfl, ec, dig_val]
      have p10 : 10 ^ (i + 1) = 10 * 10 ^ i := by rw [Nat.pow_succ, Nat.mul_comm]
      have hX' : XD (sF S 3 1 (nI (p + i + 1))) n b (p + (i + 1)) := hX.on pn
      have hM' : MD (sF (sF T 0 11 (nI (10 * a + c))) 0 8 (nI (p + i + 1))) n b (p + (i + 1)) := (hM.set (by omega)).on
      exact ih (i + 1) F F' _ _ (10 * a + c) (by omega) (by omega) (by omega) hX' hM' (by rw [sF_ne (by omega), sF_at]) (by omega) (Or.inl (by omega))
/-- an amount: its digits, or a fault -/
theorem rd_amount {md : Nat} (hmd : md ≤ 5) (hmd0 : 1 ≤ md) (hX : XD S n b p) (hM : MD T n b p) : (∃ q a' S' T', p < q ∧ q ≤ p + md ∧ a' < 10 ^ md ∧ f_Reading_number S (nI md) = some (nI a', S') ∧ f_Mo_readsAmount T (nI md) = some (1, T') ∧ XD S' n b q ∧ MD T' n b q ∧ T' 0 11 = nI a') ∨ (∃ f v S' T', ¬ f = 0 ∧ f_Reading_number S (nI md) = some (v, S') ∧ f_Mo_readsAmount T (nI md) = some (0, T') ∧ S' 3 2 = f ∧ T' 0 10 = f) := by
  obtain ⟨F, hF⟩ : ∃ F, FU = F := ⟨_, rfl⟩
  have hF' : 300 < F := by rw [← hF]; exact FU_gt (by omega)
  have hp := hX.2.2.2.1
  have hn := hX.2.2.2.2
  unfold f_Reading_number f_Mo_readsAmount
  rw [if_pos hX.2.2.1, Option.bind_some, Option.bind_some, Option.bind_some, m_dig hM hp hn, Option.bind_some, hM.2.2]
  cases hdg : dg (sg b n p) with
  | false =>
    rw [ib0', m_wrong, Option.bind_some, if_pos (Or.inl rfl), hF]
    obtain ⟨F1, rfl⟩ : ∃ z, F = z + 1 := ⟨F - 1, by omega⟩
    have eX : f_Reading_number_13 (F1 + 1) S (nI md) 0 0 = some (0, sF S 3 2 ((-1000) * 1 - nI p)) := by
      rw [f_Reading_number_13, if_neg (show ¬ nI md ≤ 0 from nle (a := 0) (by omega)), hX.sgn, Option.bind_some, x_dig, Option.bind_some, hdg, ib0']
      unfold f_Reading_number_71
      rw [if_pos rfl, x_fail hX.2.2.1, Option.bind_some, hX.2.1]
    rw [eX]
    obtain ⟨f, hf⟩ : ∃ f : Int32, (-1000) * 1 - nI p = f := ⟨_, rfl⟩
    have f0 : ¬ (-1000) * nI 1 - nI p = 0 := fl_ne (by omega) (by omega) (by omega)
    have f1 : ¬ f = 0 := by rw [← hf]; exact f0
    rw [hf]
    exact Or.inr ⟨f, 0, sF S 3 2 f, sF T 0 10 f, f1, rfl, rfl, sF_at, sF_at⟩
  | true =>
    rw [ib1', Option.bind_some, hF]
    exact num_loop hmd hmd0 md 0 F F S (sF T 0 11 0) 0 (by omega) (by omega) (by omega) hX (hM.set (by omega)) sF_at (by omega) (Or.inr hdg)
end RD
