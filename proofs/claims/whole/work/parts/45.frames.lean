theorem ob_i {α : Type} {c : Prop} [Decidable c] {a b : Option α} {x : α} (h : (if c then a else b) = some x) : (c ∧ a = some x) ∨ (¬ c ∧ b = some x) := by
  by_cases hc : c
  · rw [if_pos hc] at h; exact Or.inl ⟨hc, h⟩
  · rw [if_neg hc] at h; exact Or.inr ⟨hc, h⟩
theorem sF_o {S : St} {r i : Nat} {v : Int32} {k j : Nat} (h : k ≠ r ∨ j ≠ i) : sF S r i v k j = S k j := by
  unfold sF sR
  by_cases hk : k = r
  · subst hk
    rcases h with h | h
    · exact absurd rfl h
    · simp [upd, h]
  · simp [hk]
theorem sF_w {S S1 : St} {r i : Nat} {v : Int32} {k j : Nat} {x : Int32} (e : sF S r i v = S1) (q : S k j = x) (h : k ≠ r ∨ j ≠ i) : S1 k j = x := by
  rw [← e, sF_o h]; exact q
theorem sF_wL {S S1 : St} {r i : Nat} {v : Int64} {k j : Nat} {x : Int32} (e : sL S r i v = S1) (q : S k j = x) (h : k ≠ r) : S1 k j = x := by
  rw [← e]; unfold sL sR; simp [h]; exact q
theorem sC_w {S S1 : St} {a b x y z : Nat} {k j : Nat} {v : Int32} (e : sC S a b x y z = S1) (q : S k j = v) (h : k ≠ b) : S1 k j = v := by
  rw [← e]; unfold sC sR; simp [h]; exact q
set_option maxHeartbeats 4000000 in
theorem w_JA_fillI_5 {kr jr : Nat}  (k : Nat) : ∀ (n : Nat) (S : St) (l1 : Int32) (l2 : Int32) (l3 : Int32) (w : St), f_JA_fillI_5 k n S l1 l2 l3 = some w → ¬ (kr = k) → w kr jr = S kr jr := by
  intro n
  induction n with
  | zero =>
    intro S l1 l2 l3 w h hw
    rw [f_JA_fillI_5] at h
    cases h
  | succ n ih =>
    intro S l1 l2 l3 w h hw
    replace ih := fun S l1 l2 l3 w h => ih S l1 l2 l3 w h hw
    rw [f_JA_fillI_5] at h
    have q : S kr jr = S kr jr := rfl
    rcases ob_i h with ⟨c_7, h⟩ | ⟨c_7, h⟩
    · skip
      cases h
      exact q
    · skip
      obtain ⟨g_13, h⟩ := ob_g h
      obtain ⟨S_13, e_13, h⟩ := ob_s h
      replace q := sF_w e_13 q (Or.inl (fun z => hw (z)))
      obtain ⟨l2_14, e_14, h⟩ := ob_s h
      exact (ih S_13 l1 l2_14 l3 _ h).trans q
set_option maxHeartbeats 4000000 in
theorem w_JA_fillI  {k : Nat} {S : St} {l1 : Int32} {w : St} (h : f_JA_fillI S k l1 = some w) {kr jr : Nat} (hw : ¬ (kr = k)) : w kr jr = S kr jr := by
  unfold f_JA_fillI at h
  have q : S kr jr = S kr jr := rfl
  obtain ⟨l2_1, e_1, h⟩ := ob_s h
  obtain ⟨l3_4, e_4, h⟩ := ob_s h
  exact (w_JA_fillI_5 k FU S l1 l2_1 l3_4 _ h hw).trans q
set_option maxHeartbeats 4000000 in
theorem w_JA_fillJ_6 {kr jr : Nat}  : ∀ (n : Nat) (S : St) (l1 : Int64) (l3 : Int32) (l4 : Int32) (w : St), f_JA_fillJ_6 n S l1 l3 l4 = some w → ¬ (kr = 55) → w kr jr = S kr jr := by
  intro n
  induction n with
  | zero =>
    intro S l1 l3 l4 w h hw
    rw [f_JA_fillJ_6] at h
    cases h
  | succ n ih =>
    intro S l1 l3 l4 w h hw
    replace ih := fun S l1 l3 l4 w h => ih S l1 l3 l4 w h hw
    rw [f_JA_fillJ_6] at h
    have q : S kr jr = S kr jr := rfl
    rcases ob_i h with ⟨c_9, h⟩ | ⟨c_9, h⟩
    · skip
      cases h
      exact q
    · skip
      obtain ⟨g_15, h⟩ := ob_g h
      obtain ⟨S_15, e_15, h⟩ := ob_s h
      replace q := sF_wL e_15 q (fun z => hw (z))
      obtain ⟨l3_16, e_16, h⟩ := ob_s h
      exact (ih S_15 l1 l3_16 l4 _ h).trans q
set_option maxHeartbeats 4000000 in
theorem w_JA_fillJ  {S : St} {l1 : Int64} {w : St} (h : f_JA_fillJ S l1 = some w) {kr jr : Nat} (hw : ¬ (kr = 55)) : w kr jr = S kr jr := by
  unfold f_JA_fillJ at h
  have q : S kr jr = S kr jr := rfl
  obtain ⟨l3_1, e_1, h⟩ := ob_s h
  obtain ⟨l4_4, e_4, h⟩ := ob_s h
  exact (w_JA_fillJ_6 FU S l1 l3_1 l4_4 _ h hw).trans q
set_option maxHeartbeats 4000000 in
theorem w_Tape_put_3 {kr jr : Nat}  : ∀ (n : Nat) (S : St) (l1 : Int32) (l2 : Int32) (w : St), f_Tape_put_3 n S l1 l2 = some w → ¬ ((kr = 1 ∧ (jr = 2)) ∨ kr = 2) → w kr jr = S kr jr := by
  intro n
  induction n with
  | zero =>
    intro S l1 l2 w h hw
    rw [f_Tape_put_3] at h
    cases h
  | succ n ih =>
    intro S l1 l2 w h hw
    replace ih := fun S l1 l2 w h => ih S l1 l2 w h hw
    rw [f_Tape_put_3] at h
    have q : S kr jr = S kr jr := rfl
    rcases ob_i h with ⟨c_4, h⟩ | ⟨c_4, h⟩
    · skip
      cases h
      exact q
    · skip
      rcases ob_i h with ⟨c_14, h⟩ | ⟨c_14, h⟩
      · skip
        cases h
        exact q
      · skip
        obtain ⟨g_32, h⟩ := ob_g h
        obtain ⟨S_32, e_32, h⟩ := ob_s h
        replace q := sF_w e_32 q (Or.inl (fun z => hw (Or.inr (z))))
        obtain ⟨S_40, e_40, h⟩ := ob_s h
        replace q := sF_w e_40 q (Decidable.not_and_iff_or_not.mp (fun z => hw (Or.inl (⟨(z).1, (z).2⟩))))
        obtain ⟨l2_43, e_43, h⟩ := ob_s h
        exact (ih S_40 l1 l2_43 _ h).trans q
set_option maxHeartbeats 4000000 in
theorem w_Tape_put  {S : St} {l1 : Int32} {w : St} (h : f_Tape_put S l1 = some w) {kr jr : Nat} (hw : ¬ ((kr = 1 ∧ (jr = 2)) ∨ kr = 2)) : w kr jr = S kr jr := by
  unfold f_Tape_put at h
  have q : S kr jr = S kr jr := rfl
  obtain ⟨l2_2, e_2, h⟩ := ob_s h
  exact (w_Tape_put_3 FU S l1 l2_2 _ h hw).trans q
set_option maxHeartbeats 4000000 in
theorem w_Tape_take  {S : St} {l1 : Int32} {w : Int32 × St} (h : f_Tape_take S l1 = some w) {kr jr : Nat} (hw : ¬ ((kr = 1 ∧ (jr = 1 ∨ jr = 2)))) : w.2 kr jr = S kr jr := by
  unfold f_Tape_take at h
  have q : S kr jr = S kr jr := rfl
  rcases ob_i h with ⟨c_1, h⟩ | ⟨c_1, h⟩
  · skip
    cases h
    exact q
  · skip
    rcases ob_i h with ⟨c_9, h⟩ | ⟨c_9, h⟩
    · skip
      obtain ⟨S_16, e_16, h⟩ := ob_s h
      replace q := sF_w e_16 q (Decidable.not_and_iff_or_not.mp (fun z => hw (⟨(z).1, Or.inl ((z).2)⟩)))
      obtain ⟨S_21, e_21, h⟩ := ob_s h
      replace q := sF_w e_21 q (Decidable.not_and_iff_or_not.mp (fun z => hw (⟨(z).1, Or.inr ((z).2)⟩)))
      cases h
      exact q
    · skip
      cases h
      exact q
set_option maxHeartbeats 4000000 in
theorem w_Reading_begin  {S : St} {w : St} (h : f_Reading_begin S = some w) {kr jr : Nat} (hw : ¬ ((kr = 3 ∧ (jr = 1 ∨ jr = 2)))) : w kr jr = S kr jr := by
  unfold f_Reading_begin at h
  have q : S kr jr = S kr jr := rfl
  obtain ⟨S_2, e_2, h⟩ := ob_s h
  replace q := sF_w e_2 q (Decidable.not_and_iff_or_not.mp (fun z => hw (⟨(z).1, Or.inl ((z).2)⟩)))
  obtain ⟨S_7, e_7, h⟩ := ob_s h
  replace q := sF_w e_7 q (Decidable.not_and_iff_or_not.mp (fun z => hw (⟨(z).1, Or.inr ((z).2)⟩)))
  cases h
  exact q
set_option maxHeartbeats 4000000 in
theorem w_Reading_fail  {S : St} {l1 : Int32} {l2 : Int32} {w : St} (h : f_Reading_fail S l1 l2 = some w) {kr jr : Nat} (hw : ¬ ((kr = 3 ∧ (jr = 2)))) : w kr jr = S kr jr := by
  unfold f_Reading_fail at h
  have q : S kr jr = S kr jr := rfl
  rcases ob_i h with ⟨c_4, h⟩ | ⟨c_4, h⟩
  · skip
    obtain ⟨S_15, e_15, h⟩ := ob_s h
    replace q := sF_w e_15 q (Decidable.not_and_iff_or_not.mp (fun z => hw (⟨(z).1, (z).2⟩)))
    cases h
    exact q
  · skip
    cases h
    exact q
set_option maxHeartbeats 4000000 in
theorem w_Reading_takes  {S : St} {l1 : Int32} {w : Int32 × St} (h : f_Reading_takes S l1 = some w) {kr jr : Nat} (hw : ¬ ((kr = 3 ∧ (jr = 1)))) : w.2 kr jr = S kr jr := by
  unfold f_Reading_takes at h
  have q : S kr jr = S kr jr := rfl
  rcases ob_i h with ⟨c_4, h⟩ | ⟨c_4, h⟩
  · skip
    obtain ⟨v_15, q_15, h⟩ := ob_b h
    rcases ob_i h with ⟨c_19, h⟩ | ⟨c_19, h⟩
    · skip
      obtain ⟨S_31, e_31, h⟩ := ob_s h
      replace q := sF_w e_31 q (Decidable.not_and_iff_or_not.mp (fun z => hw (⟨(z).1, (z).2⟩)))
      cases h
      exact q
    · skip
      cases h
      exact q
  · skip
    cases h
    exact q
set_option maxHeartbeats 4000000 in
theorem w_Reading_needs  {S : St} {l1 : Int32} {w : St} (h : f_Reading_needs S l1 = some w) {kr jr : Nat} (hw : ¬ ((kr = 3 ∧ (jr = 1 ∨ jr = 2)))) : w kr jr = S kr jr := by
  unfold f_Reading_needs at h
  have q : S kr jr = S kr jr := rfl
  obtain ⟨v_8, q_8, h⟩ := ob_b h
  rcases ob_i h with ⟨c_12, h⟩ | ⟨c_12, h⟩
  · skip
    rcases ob_i h with ⟨c_31, h⟩ | ⟨c_31, h⟩
    · skip
      obtain ⟨S_41, e_41, h⟩ := ob_s h
      replace q := sF_w e_41 q (Decidable.not_and_iff_or_not.mp (fun z => hw (⟨(z).1, Or.inl ((z).2)⟩)))
      cases h
      exact q
    · skip
      cases h
      exact q
  · skip
    obtain ⟨w_21, q_21, h⟩ := ob_b h
    replace q := (w_Reading_fail q_21 (fun z => hw (⟨(z).1, Or.inr ((z).2)⟩))).trans q
    cases h
    exact q
set_option maxHeartbeats 4000000 in
theorem w_Reading_goesOn  {S : St} {w : Int32 × St} (h : f_Reading_goesOn S = some w) {kr jr : Nat} (hw : ¬ ((kr = 3 ∧ (jr = 1 ∨ jr = 2)))) : w.2 kr jr = S kr jr := by
  unfold f_Reading_goesOn at h
  have q : S kr jr = S kr jr := rfl
  rcases ob_i h with ⟨c_4, h⟩ | ⟨c_4, h⟩
  · skip
    obtain ⟨v_15, q_15, h⟩ := ob_b h
    rcases ob_i h with ⟨c_19, h⟩ | ⟨c_19, h⟩
    · skip
      cases h
      exact q
    · skip
      obtain ⟨w_27, q_27, h⟩ := ob_b h
      replace q := (w_Reading_needs q_27 (fun z => hw (⟨(z).1, ((z).2).elim (fun a0 => Or.inl (a0)) (fun z0 => Or.inr (z0))⟩))).trans q
      rcases ob_i h with ⟨c_34, h⟩ | ⟨c_34, h⟩
      · skip
        cases h
        exact q
      · skip
        cases h
        exact q
  · skip
    cases h
    exact q
set_option maxHeartbeats 4000000 in
theorem w_Reading_number_71 {kr jr : Nat}  (S : St) (l2 : Int32) (l3 : Int32) (w : Int32 × St) (h : f_Reading_number_71 S l2 l3 = some w) (hw : ¬ ((kr = 3 ∧ (jr = 1 ∨ jr = 2)))) : w.2 kr jr = S kr jr := by
  unfold f_Reading_number_71 at h
  have q : S kr jr = S kr jr := rfl
  rcases ob_i h with ⟨c_72, h⟩ | ⟨c_72, h⟩
  · skip
    obtain ⟨w_81, q_81, h⟩ := ob_b h
    replace q := (w_Reading_fail q_81 (fun z => hw (⟨(z).1, Or.inr ((z).2)⟩))).trans q
    cases h
    exact q
  · skip
    obtain ⟨v_95, q_95, h⟩ := ob_b h
    obtain ⟨v_98, q_98, h⟩ := ob_b h
    rcases ob_i h with ⟨c_101, h⟩ | ⟨c_101, h⟩
    · skip
      cases h
      exact q
    · skip
      obtain ⟨w_110, q_110, h⟩ := ob_b h
      replace q := (w_Reading_fail q_110 (fun z => hw (⟨(z).1, Or.inr ((z).2)⟩))).trans q
      cases h
      exact q
set_option maxHeartbeats 4000000 in
theorem w_Reading_number_13 {kr jr : Nat}  : ∀ (n : Nat) (S : St) (l1 : Int32) (l2 : Int32) (l3 : Int32) (w : Int32 × St), f_Reading_number_13 n S l1 l2 l3 = some w → ¬ ((kr = 3 ∧ (jr = 1 ∨ jr = 2))) → w.2 kr jr = S kr jr := by
  intro n
  induction n with
  | zero =>
    intro S l1 l2 l3 w h hw
    rw [f_Reading_number_13] at h
    cases h
  | succ n ih =>
    intro S l1 l2 l3 w h hw
    replace ih := fun S l1 l2 l3 w h => ih S l1 l2 l3 w h hw
    rw [f_Reading_number_13] at h
    have q : S kr jr = S kr jr := rfl
    rcases ob_i h with ⟨c_15, h⟩ | ⟨c_15, h⟩
    · skip
      exact (w_Reading_number_71 S l2 l3 _ h hw).trans q
    · skip
      obtain ⟨v_26, q_26, h⟩ := ob_b h
      obtain ⟨v_29, q_29, h⟩ := ob_b h
      rcases ob_i h with ⟨c_32, h⟩ | ⟨c_32, h⟩
      · skip
        exact (w_Reading_number_71 S l2 l3 _ h hw).trans q
      · skip
        obtain ⟨v_47, q_47, h⟩ := ob_b h
        obtain ⟨l2_54, e_54, h⟩ := ob_s h
        obtain ⟨S_62, e_62, h⟩ := ob_s h
        replace q := sF_w e_62 q (Decidable.not_and_iff_or_not.mp (fun z => hw (⟨(z).1, Or.inl ((z).2)⟩)))
        obtain ⟨l3_65, e_65, h⟩ := ob_s h
        exact (ih S_62 l1 l2_54 l3_65 _ h).trans q
set_option maxHeartbeats 4000000 in
theorem w_Reading_number  {S : St} {l1 : Int32} {w : Int32 × St} (h : f_Reading_number S l1 = some w) {kr jr : Nat} (hw : ¬ ((kr = 3 ∧ (jr = 1 ∨ jr = 2)))) : w.2 kr jr = S kr jr := by
  unfold f_Reading_number at h
  have q : S kr jr = S kr jr := rfl
  rcases ob_i h with ⟨c_4, h⟩ | ⟨c_4, h⟩
  · skip
    obtain ⟨l2_10, e_10, h⟩ := ob_s h
    obtain ⟨l3_12, e_12, h⟩ := ob_s h
    exact (w_Reading_number_13 FU S l1 l2_10 l3_12 _ h hw).trans q
  · skip
    cases h
    exact q
set_option maxHeartbeats 4000000 in
theorem w_Parish_putLight_26 {kr jr : Nat}  (P : Nat) (S : St) (s0 : Int32) (w : St) (h : f_Parish_putLight_26 P S s0 = some w) (hw : ¬ ((kr = P ∧ (jr = 4)))) : w kr jr = S kr jr := by
  unfold f_Parish_putLight_26 at h
  have q : S kr jr = S kr jr := rfl
  obtain ⟨S_26, e_26, h⟩ := ob_s h
  replace q := sF_w e_26 q (Decidable.not_and_iff_or_not.mp (fun z => hw (⟨(z).1, (z).2⟩)))
  cases h
  exact q
set_option maxHeartbeats 4000000 in
theorem w_Parish_putLight  {P : Nat} {S : St} {l1 : Int32} {l2 : Int32} {w : St} (h : f_Parish_putLight S P l1 l2 = some w) {kr jr : Nat} (hw : ¬ ((kr = P ∧ (jr = 4)))) : w kr jr = S kr jr := by
  unfold f_Parish_putLight at h
  have q : S kr jr = S kr jr := rfl
  rcases ob_i h with ⟨c_2, h⟩ | ⟨c_2, h⟩
  · skip
    exact (w_Parish_putLight_26 P S ((S P 4) &&& ((jshl 1 l1) ^^^ (-1))) _ h hw).trans q
  · skip
    exact (w_Parish_putLight_26 P S ((S P 4) ||| (jshl 1 l1)) _ h hw).trans q
set_option maxHeartbeats 4000000 in
theorem w_Parish_copyFrom  {P : Nat} {Q : Nat} {S : St} {w : St} (h : f_Parish_copyFrom S P Q = some w) {kr jr : Nat} (hw : ¬ ((kr = P ∧ (jr = 4 ∨ jr = 5 ∨ jr = 6 ∨ jr = 7 ∨ jr = 8 ∨ jr = 9)) ∨ kr = (P + 1) ∨ kr = (P + 2) ∨ kr = (P + 3) ∨ kr = (P + 4))) : w kr jr = S kr jr := by
  unfold f_Parish_copyFrom at h
  have q : S kr jr = S kr jr := rfl
  obtain ⟨S_12, e_12, h⟩ := ob_s h
  replace q := sC_w e_12 q (fun z => hw (Or.inr (Or.inl (z))))
  obtain ⟨S_27, e_27, h⟩ := ob_s h
  replace q := sC_w e_27 q (fun z => hw (Or.inr (Or.inr (Or.inl (z)))))
  obtain ⟨S_42, e_42, h⟩ := ob_s h
  replace q := sC_w e_42 q (fun z => hw (Or.inr (Or.inr (Or.inr (Or.inl (z))))))
  obtain ⟨S_57, e_57, h⟩ := ob_s h
  replace q := sC_w e_57 q (fun z => hw (Or.inr (Or.inr (Or.inr (Or.inr (z))))))
  obtain ⟨S_65, e_65, h⟩ := ob_s h
  replace q := sF_w e_65 q (Decidable.not_and_iff_or_not.mp (fun z => hw (Or.inl (⟨(z).1, Or.inl ((z).2)⟩))))
  obtain ⟨S_73, e_73, h⟩ := ob_s h
  replace q := sF_w e_73 q (Decidable.not_and_iff_or_not.mp (fun z => hw (Or.inl (⟨(z).1, Or.inr (Or.inl ((z).2))⟩))))
  obtain ⟨S_81, e_81, h⟩ := ob_s h
  replace q := sF_w e_81 q (Decidable.not_and_iff_or_not.mp (fun z => hw (Or.inl (⟨(z).1, Or.inr (Or.inr (Or.inl ((z).2)))⟩))))
  obtain ⟨S_89, e_89, h⟩ := ob_s h
  replace q := sF_w e_89 q (Decidable.not_and_iff_or_not.mp (fun z => hw (Or.inl (⟨(z).1, Or.inr (Or.inr (Or.inr (Or.inl ((z).2))))⟩))))
  obtain ⟨S_97, e_97, h⟩ := ob_s h
  replace q := sF_w e_97 q (Decidable.not_and_iff_or_not.mp (fun z => hw (Or.inl (⟨(z).1, Or.inr (Or.inr (Or.inr (Or.inr (Or.inl ((z).2)))))⟩))))
  obtain ⟨S_105, e_105, h⟩ := ob_s h
  replace q := sF_w e_105 q (Decidable.not_and_iff_or_not.mp (fun z => hw (Or.inl (⟨(z).1, Or.inr (Or.inr (Or.inr (Or.inr (Or.inr ((z).2)))))⟩))))
  cases h
  exact q
set_option maxHeartbeats 4000000 in
theorem w_Parish_beginAs  {P : Nat} {Q : Nat} {S : St} {w : St} (h : f_Parish_beginAs S P Q = some w) {kr jr : Nat} (hw : ¬ ((kr = P ∧ (jr = 4 ∨ jr = 5 ∨ jr = 6 ∨ jr = 7 ∨ jr = 8 ∨ jr = 9)) ∨ kr = (P + 1) ∨ kr = (P + 2) ∨ kr = (P + 3) ∨ kr = (P + 4))) : w kr jr = S kr jr := by
  unfold f_Parish_beginAs at h
  have q : S kr jr = S kr jr := rfl
  obtain ⟨l2_4, e_4, h⟩ := ob_s h
  obtain ⟨l3_9, e_9, h⟩ := ob_s h
  obtain ⟨w_12, q_12, h⟩ := ob_b h
  replace q := (w_Parish_copyFrom q_12 (fun z => hw ((z).elim (fun a0 => Or.inl (⟨(a0).1, ((a0).2).elim (fun a0 => Or.inl (a0)) (fun z0 => (z0).elim (fun a1 => Or.inr (Or.inl (a1))) (fun z1 => (z1).elim (fun a2 => Or.inr (Or.inr (Or.inl (a2)))) (fun z2 => (z2).elim (fun a3 => Or.inr (Or.inr (Or.inr (Or.inl (a3))))) (fun z3 => (z3).elim (fun a4 => Or.inr (Or.inr (Or.inr (Or.inr (Or.inl (a4)))))) (fun z4 => Or.inr (Or.inr (Or.inr (Or.inr (Or.inr (z4))))))))))⟩)) (fun z0 => (z0).elim (fun a1 => Or.inr (Or.inl (a1))) (fun z1 => (z1).elim (fun a2 => Or.inr (Or.inr (Or.inl (a2)))) (fun z2 => (z2).elim (fun a3 => Or.inr (Or.inr (Or.inr (Or.inl (a3))))) (fun z3 => Or.inr (Or.inr (Or.inr (Or.inr (z3))))))))))).trans q
  obtain ⟨S_17, e_17, h⟩ := ob_s h
  replace q := sF_w e_17 q (Decidable.not_and_iff_or_not.mp (fun z => hw (Or.inl (⟨(z).1, Or.inr (Or.inr (Or.inr (Or.inr (Or.inl ((z).2)))))⟩))))
  obtain ⟨S_22, e_22, h⟩ := ob_s h
  replace q := sF_w e_22 q (Decidable.not_and_iff_or_not.mp (fun z => hw (Or.inl (⟨(z).1, Or.inr (Or.inr (Or.inr (Or.inr (Or.inr ((z).2)))))⟩))))
  cases h
  exact q
set_option maxHeartbeats 4000000 in
theorem w_Parish_comeBackTo_55 {kr jr : Nat}  (P : Nat) (Q : Nat) (S : St) (l2 : Int32) (w : St) (h : f_Parish_comeBackTo_55 P Q S l2 = some w) (hw : ¬ ((kr = P ∧ (jr = 4 ∨ jr = 5 ∨ jr = 7 ∨ jr = 8 ∨ jr = 9)) ∨ kr = (P + 3) ∨ kr = (P + 4))) : w kr jr = S kr jr := by
  unfold f_Parish_comeBackTo_55 at h
  have q : S kr jr = S kr jr := rfl
  obtain ⟨l3_60, e_60, h⟩ := ob_s h
  obtain ⟨S_77, e_77, h⟩ := ob_s h
  replace q := sF_w e_77 q (Decidable.not_and_iff_or_not.mp (fun z => hw (Or.inl (⟨(z).1, Or.inl ((z).2)⟩))))
  obtain ⟨S_96, e_96, h⟩ := ob_s h
  replace q := sF_w e_96 q (Decidable.not_and_iff_or_not.mp (fun z => hw (Or.inl (⟨(z).1, Or.inr (Or.inl ((z).2))⟩))))
  obtain ⟨S_104, e_104, h⟩ := ob_s h
  replace q := sF_w e_104 q (Decidable.not_and_iff_or_not.mp (fun z => hw (Or.inl (⟨(z).1, Or.inr (Or.inr (Or.inl ((z).2)))⟩))))
  obtain ⟨S_112, e_112, h⟩ := ob_s h
  replace q := sF_w e_112 q (Decidable.not_and_iff_or_not.mp (fun z => hw (Or.inl (⟨(z).1, Or.inr (Or.inr (Or.inr (Or.inl ((z).2))))⟩))))
  obtain ⟨S_120, e_120, h⟩ := ob_s h
  replace q := sF_w e_120 q (Decidable.not_and_iff_or_not.mp (fun z => hw (Or.inl (⟨(z).1, Or.inr (Or.inr (Or.inr (Or.inr ((z).2))))⟩))))
  cases h
  exact q
set_option maxHeartbeats 4000000 in
theorem w_Parish_comeBackTo_14 {kr jr : Nat}  (P : Nat) (Q : Nat) : ∀ (n : Nat) (S : St) (l2 : Int32) (l3 : Int32) (w : St), f_Parish_comeBackTo_14 P Q n S l2 l3 = some w → ¬ ((kr = P ∧ (jr = 4 ∨ jr = 5 ∨ jr = 7 ∨ jr = 8 ∨ jr = 9)) ∨ kr = (P + 3) ∨ kr = (P + 4)) → w kr jr = S kr jr := by
  intro n
  induction n with
  | zero =>
    intro S l2 l3 w h hw
    rw [f_Parish_comeBackTo_14] at h
    cases h
  | succ n ih =>
    intro S l2 l3 w h hw
    replace ih := fun S l2 l3 w h => ih S l2 l3 w h hw
    rw [f_Parish_comeBackTo_14] at h
    have q : S kr jr = S kr jr := rfl
    rcases ob_i h with ⟨c_16, h⟩ | ⟨c_16, h⟩
    · skip
      exact (w_Parish_comeBackTo_55 P Q S l2 _ h hw).trans q
    · skip
      rcases ob_i h with ⟨c_22, h⟩ | ⟨c_22, h⟩
      · skip
        exact (w_Parish_comeBackTo_55 P Q S l2 _ h hw).trans q
      · skip
        obtain ⟨g_35, h⟩ := ob_g h
        obtain ⟨g_36, h⟩ := ob_g h
        obtain ⟨S_36, e_36, h⟩ := ob_s h
        replace q := sF_w e_36 q (Or.inl (fun z => hw (Or.inr (Or.inl (z)))))
        obtain ⟨g_47, h⟩ := ob_g h
        obtain ⟨g_48, h⟩ := ob_g h
        obtain ⟨S_48, e_48, h⟩ := ob_s h
        replace q := sF_w e_48 q (Or.inl (fun z => hw (Or.inr (Or.inr (z)))))
        obtain ⟨l3_49, e_49, h⟩ := ob_s h
        exact (ih S_48 l2 l3_49 _ h).trans q
set_option maxHeartbeats 4000000 in
theorem w_Parish_comeBackTo  {P : Nat} {Q : Nat} {S : St} {w : St} (h : f_Parish_comeBackTo S P Q = some w) {kr jr : Nat} (hw : ¬ ((kr = P ∧ (jr = 4 ∨ jr = 5 ∨ jr = 7 ∨ jr = 8 ∨ jr = 9)) ∨ kr = (P + 3) ∨ kr = (P + 4))) : w kr jr = S kr jr := by
  unfold f_Parish_comeBackTo at h
  have q : S kr jr = S kr jr := rfl
  obtain ⟨l2_11, e_11, h⟩ := ob_s h
  obtain ⟨l3_13, e_13, h⟩ := ob_s h
  exact (w_Parish_comeBackTo_14 P Q FU S l2_11 l3_13 _ h hw).trans q
set_option maxHeartbeats 4000000 in
theorem w_Parish_draw  {P : Nat} {S : St} {w : Int32 × St} (h : f_Parish_draw S P = some w) {kr jr : Nat} (hw : ¬ ((kr = P ∧ (jr = 9)))) : w.2 kr jr = S kr jr := by
  unfold f_Parish_draw at h
  have q : S kr jr = S kr jr := rfl
  obtain ⟨S_16, e_16, h⟩ := ob_s h
  replace q := sF_w e_16 q (Decidable.not_and_iff_or_not.mp (fun z => hw (⟨(z).1, (z).2⟩)))
  cases h
  exact q
set_option maxHeartbeats 4000000 in
theorem w_Parish_burn  {P : Nat} {S : St} {l1 : Int32} {l2 : Int32} {w : St} (h : f_Parish_burn S P l1 l2 = some w) {kr jr : Nat} (hw : ¬ ((kr = P ∧ (jr = 4)) ∨ kr = (P + 3))) : w kr jr = S kr jr := by
  unfold f_Parish_burn at h
  have q : S kr jr = S kr jr := rfl
  obtain ⟨g_11, h⟩ := ob_g h
  obtain ⟨g_17, h⟩ := ob_g h
  obtain ⟨S_17, e_17, h⟩ := ob_s h
  replace q := sF_w e_17 q (Or.inl (fun z => hw (Or.inr (z))))
  obtain ⟨g_23, h⟩ := ob_g h
  rcases ob_i h with ⟨c_24, h⟩ | ⟨c_24, h⟩
  · skip
    obtain ⟨w_30, q_30, h⟩ := ob_b h
    replace q := (w_Parish_putLight q_30 (fun z => hw (Or.inl (⟨(z).1, (z).2⟩)))).trans q
    cases h
    exact q
  · skip
    cases h
    exact q
set_option maxHeartbeats 4000000 in
theorem w_Parish_finish  {P : Nat} {S : St} {l1 : Int32} {w : St} (h : f_Parish_finish S P l1 = some w) {kr jr : Nat} (hw : ¬ ((kr = P ∧ (jr = 4 ∨ jr = 5 ∨ jr = 7)))) : w kr jr = S kr jr := by
  unfold f_Parish_finish at h
  have q : S kr jr = S kr jr := rfl
  obtain ⟨S_9, e_9, h⟩ := ob_s h
  replace q := sF_w e_9 q (Decidable.not_and_iff_or_not.mp (fun z => hw (⟨(z).1, Or.inr (Or.inl ((z).2))⟩)))
  obtain ⟨v_14, q_14, h⟩ := ob_b h
  rcases ob_i h with ⟨c_17, h⟩ | ⟨c_17, h⟩
  · skip
    cases h
    exact q
  · skip
    obtain ⟨S_27, e_27, h⟩ := ob_s h
    replace q := sF_w e_27 q (Decidable.not_and_iff_or_not.mp (fun z => hw (⟨(z).1, Or.inr (Or.inr ((z).2))⟩)))
    obtain ⟨w_33, q_33, h⟩ := ob_b h
    replace q := (w_Parish_putLight q_33 (fun z => hw (⟨(z).1, Or.inl ((z).2)⟩))).trans q
    cases h
    exact q
set_option maxHeartbeats 4000000 in
theorem w_Parish_putItOff  {P : Nat} {S : St} {l1 : Int32} {w : St} (h : f_Parish_putItOff S P l1 = some w) {kr jr : Nat} (hw : ¬ (kr = (P + 3) ∨ kr = (P + 4))) : w kr jr = S kr jr := by
  unfold f_Parish_putItOff at h
  have q : S kr jr = S kr jr := rfl
  obtain ⟨g_13, h⟩ := ob_g h
  obtain ⟨g_19, h⟩ := ob_g h
  obtain ⟨S_19, e_19, h⟩ := ob_s h
  replace q := sF_w e_19 q (Or.inl (fun z => hw (Or.inr (z))))
  obtain ⟨v_22, q_22, h⟩ := ob_b h
  rcases ob_i h with ⟨c_25, h⟩ | ⟨c_25, h⟩
  · skip
    obtain ⟨g_41, h⟩ := ob_g h
    obtain ⟨g_47, h⟩ := ob_g h
    obtain ⟨S_47, e_47, h⟩ := ob_s h
    replace q := sF_w e_47 q (Or.inl (fun z => hw (Or.inl (z))))
    cases h
    exact q
  · skip
    cases h
    exact q
set_option maxHeartbeats 4000000 in
theorem w_ParishReader_readOther  {S : St} {l1 : Int32} {w : Int32 × St} (h : f_ParishReader_readOther S l1 = some w) {kr jr : Nat} (hw : ¬ ((kr = 3 ∧ (jr = 1 ∨ jr = 2)))) : w.2 kr jr = S kr jr := by
  unfold f_ParishReader_readOther at h
  have q : S kr jr = S kr jr := rfl
  obtain ⟨l2_7, e_7, h⟩ := ob_s h
  obtain ⟨w_13, q_13, h⟩ := ob_b h
  replace q := (w_Reading_number q_13 (fun z => hw (⟨(z).1, ((z).2).elim (fun a0 => Or.inl (a0)) (fun z0 => Or.inr (z0))⟩))).trans q
  obtain ⟨l3_16, e_16, h⟩ := ob_s h
  rcases ob_i h with ⟨c_19, h⟩ | ⟨c_19, h⟩
  · skip
    cases h
    exact q
  · skip
    obtain ⟨w_28, q_28, h⟩ := ob_b h
    replace q := (w_Reading_fail q_28 (fun z => hw (⟨(z).1, Or.inr ((z).2)⟩))).trans q
    cases h
    exact q
set_option maxHeartbeats 4000000 in
theorem w_ParishReader_readLine_20 {kr jr : Nat}  (S : St) (w : St) (h : f_ParishReader_readLine_20 S = some w) (hw : ¬ ((kr = 3 ∧ (jr = 1 ∨ jr = 2)) ∨ (kr = 20 ∧ (jr = 4 ∨ jr = 6)) ∨ kr = 21 ∨ kr = 22 ∨ kr = 23)) : w kr jr = S kr jr := by
  unfold f_ParishReader_readLine_20 at h
  have q : S kr jr = S kr jr := rfl
  obtain ⟨w_32, q_32, h⟩ := ob_b h
  replace q := (w_Reading_fail q_32 (fun z => hw (Or.inl (⟨(z).1, Or.inr ((z).2)⟩)))).trans q
  cases h
  exact q
set_option maxHeartbeats 4000000 in
theorem w_ParishReader_readLine_157 {kr jr : Nat}  (S : St) (l1 : Int32) (l5 : Int32) (s0 : Int32) (s1 : Int32) (w : St) (h : f_ParishReader_readLine_157 S l1 l5 s0 s1 = some w) (hw : ¬ ((kr = 3 ∧ (jr = 1 ∨ jr = 2)) ∨ (kr = 20 ∧ (jr = 4 ∨ jr = 6)) ∨ kr = 21 ∨ kr = 22 ∨ kr = 23)) : w kr jr = S kr jr := by
  unfold f_ParishReader_readLine_157 at h
  have q : S kr jr = S kr jr := rfl
  obtain ⟨w_157, q_157, h⟩ := ob_b h
  replace q := (w_Parish_putLight q_157 (fun z => hw (Or.inr (Or.inl (⟨(z).1, Or.inl ((z).2)⟩))))).trans q
  obtain ⟨g_170, h⟩ := ob_g h
  obtain ⟨S_170, e_170, h⟩ := ob_s h
  replace q := sF_w e_170 q (Or.inl (fun z => hw (Or.inr (Or.inr (Or.inr (Or.inl (z)))))))
  obtain ⟨S_178, e_178, h⟩ := ob_s h
  replace q := sF_w e_178 q (Decidable.not_and_iff_or_not.mp (fun z => hw (Or.inr (Or.inl (⟨(z).1, Or.inr ((z).2)⟩)))))
  cases h
  exact q
set_option maxHeartbeats 4000000 in
theorem w_ParishReader_readLine_156 {kr jr : Nat}  (S : St) (l1 : Int32) (l5 : Int32) (s0 : Int32) (w : St) (h : f_ParishReader_readLine_156 S l1 l5 s0 = some w) (hw : ¬ ((kr = 3 ∧ (jr = 1 ∨ jr = 2)) ∨ (kr = 20 ∧ (jr = 4 ∨ jr = 6)) ∨ kr = 21 ∨ kr = 22 ∨ kr = 23)) : w kr jr = S kr jr := by
  unfold f_ParishReader_readLine_156 at h
  have q : S kr jr = S kr jr := rfl
  exact (w_ParishReader_readLine_157 S l1 l5 (0 : Int32) s0 _ h hw).trans q
set_option maxHeartbeats 4000000 in
theorem w_ParishReader_readLine_113 {kr jr : Nat}  (S : St) (l1 : Int32) (l2 : Int32) (l3 : Int32) (l4 : Int32) (s0 : Int32) (w : St) (h : f_ParishReader_readLine_113 S l1 l2 l3 l4 s0 = some w) (hw : ¬ ((kr = 3 ∧ (jr = 1 ∨ jr = 2)) ∨ (kr = 20 ∧ (jr = 4 ∨ jr = 6)) ∨ kr = 21 ∨ kr = 22 ∨ kr = 23)) : w kr jr = S kr jr := by
  unfold f_ParishReader_readLine_113 at h
  have q : S kr jr = S kr jr := rfl
  obtain ⟨g_127, h⟩ := ob_g h
  obtain ⟨S_127, e_127, h⟩ := ob_s h
  replace q := sF_w e_127 q (Or.inl (fun z => hw (Or.inr (Or.inr (Or.inl (z))))))
  obtain ⟨g_137, h⟩ := ob_g h
  obtain ⟨S_137, e_137, h⟩ := ob_s h
  replace q := sF_w e_137 q (Or.inl (fun z => hw (Or.inr (Or.inr (Or.inr (Or.inr (z)))))))
  rcases ob_i h with ⟨c_145, h⟩ | ⟨c_145, h⟩
  · skip
    exact (w_ParishReader_readLine_156 S_137 l1 s0 l1 _ h hw).trans q
  · skip
    rcases ob_i h with ⟨c_149, h⟩ | ⟨c_149, h⟩
    · skip
      exact (w_ParishReader_readLine_156 S_137 l1 s0 l1 _ h hw).trans q
    · skip
      exact (w_ParishReader_readLine_157 S_137 l1 s0 (1 : Int32) l1 _ h hw).trans q
set_option maxHeartbeats 4000000 in
theorem w_ParishReader_readLine  {S : St} {l1 : Int32} {w : St} (h : f_ParishReader_readLine S l1 = some w) {kr jr : Nat} (hw : ¬ ((kr = 3 ∧ (jr = 1 ∨ jr = 2)) ∨ (kr = 20 ∧ (jr = 4 ∨ jr = 6)) ∨ kr = 21 ∨ kr = 22 ∨ kr = 23)) : w kr jr = S kr jr := by
  unfold f_ParishReader_readLine at h
  have q : S kr jr = S kr jr := rfl
  obtain ⟨v_4, q_4, h⟩ := ob_b h
  rcases ob_i h with ⟨c_11, h⟩ | ⟨c_11, h⟩
  · skip
    exact (w_ParishReader_readLine_20 S _ h hw).trans q
  · skip
    rcases ob_i h with ⟨c_17, h⟩ | ⟨c_17, h⟩
    · skip
      rcases ob_i h with ⟨c_39, h⟩ | ⟨c_39, h⟩
      · skip
        obtain ⟨S_68, e_68, h⟩ := ob_s h
        replace q := sF_w e_68 q (Decidable.not_and_iff_or_not.mp (fun z => hw (Or.inl (⟨(z).1, Or.inl ((z).2)⟩))))
        obtain ⟨w_76, q_76, h⟩ := ob_b h
        replace q := (w_Reading_number q_76 (fun z => hw (Or.inl (⟨(z).1, ((z).2).elim (fun a0 => Or.inl (a0)) (fun z0 => Or.inr (z0))⟩)))).trans q
        obtain ⟨l3_79, e_79, h⟩ := ob_s h
        obtain ⟨w_86, q_86, h⟩ := ob_b h
        replace q := (w_Reading_takes q_86 (fun z => hw (Or.inl (⟨(z).1, Or.inl ((z).2)⟩)))).trans q
        obtain ⟨l4_89, e_89, h⟩ := ob_s h
        obtain ⟨w_97, q_97, h⟩ := ob_b h
        replace q := (w_Reading_takes q_97 (fun z => hw (Or.inl (⟨(z).1, Or.inl ((z).2)⟩)))).trans q
        rcases ob_i h with ⟨c_100, h⟩ | ⟨c_100, h⟩
        · skip
          exact (w_ParishReader_readLine_113 w_97.2 l1 v_4 l3_79 l4_89 ((-2) : Int32) _ h hw).trans q
        · skip
          obtain ⟨w_105, q_105, h⟩ := ob_b h
          replace q := (w_ParishReader_readOther q_105 (fun z => hw (Or.inl (⟨(z).1, ((z).2).elim (fun a0 => Or.inl (a0)) (fun z0 => Or.inr (z0))⟩)))).trans q
          exact (w_ParishReader_readLine_113 w_105.2 l1 v_4 l3_79 l4_89 w_105.1 _ h hw).trans q
      · skip
        obtain ⟨w_54, q_54, h⟩ := ob_b h
        replace q := (w_Reading_fail q_54 (fun z => hw (Or.inl (⟨(z).1, Or.inr ((z).2)⟩)))).trans q
        cases h
        exact q
    · skip
      exact (w_ParishReader_readLine_20 S _ h hw).trans q
set_option maxHeartbeats 4000000 in
theorem w_ParishReader_read_27 {kr jr : Nat}  : ∀ (n : Nat) (S : St) (l1 : Int32) (l2 : Int32) (w : Int32 × St), f_ParishReader_read_27 n S l1 l2 = some w → ¬ ((kr = 3 ∧ (jr = 1 ∨ jr = 2)) ∨ (kr = 20 ∧ (jr = 4 ∨ jr = 6)) ∨ kr = 21 ∨ kr = 22 ∨ kr = 23) → w.2 kr jr = S kr jr := by
  intro n
  induction n with
  | zero =>
    intro S l1 l2 w h hw
    rw [f_ParishReader_read_27] at h
    cases h
  | succ n ih =>
    intro S l1 l2 w h hw
    replace ih := fun S l1 l2 w h => ih S l1 l2 w h hw
    rw [f_ParishReader_read_27] at h
    have q : S kr jr = S kr jr := rfl
    rcases ob_i h with ⟨c_30, h⟩ | ⟨c_30, h⟩
    · skip
      cases h
      exact q
    · skip
      rcases ob_i h with ⟨c_34, h⟩ | ⟨c_34, h⟩
      · skip
        cases h
        exact q
      · skip
        obtain ⟨w_39, q_39, h⟩ := ob_b h
        replace q := (w_ParishReader_readLine q_39 (fun z => hw ((z).elim (fun a0 => Or.inl (⟨(a0).1, ((a0).2).elim (fun a0 => Or.inl (a0)) (fun z0 => Or.inr (z0))⟩)) (fun z0 => (z0).elim (fun a1 => Or.inr (Or.inl (⟨(a1).1, ((a1).2).elim (fun a0 => Or.inl (a0)) (fun z0 => Or.inr (z0))⟩))) (fun z1 => (z1).elim (fun a2 => Or.inr (Or.inr (Or.inl (a2)))) (fun z2 => (z2).elim (fun a3 => Or.inr (Or.inr (Or.inr (Or.inl (a3))))) (fun z3 => Or.inr (Or.inr (Or.inr (Or.inr (z3))))))))))).trans q
        obtain ⟨w_46, q_46, h⟩ := ob_b h
        replace q := (w_Reading_goesOn q_46 (fun z => hw (Or.inl (⟨(z).1, ((z).2).elim (fun a0 => Or.inl (a0)) (fun z0 => Or.inr (z0))⟩)))).trans q
        obtain ⟨l1_49, e_49, h⟩ := ob_s h
        obtain ⟨l2_50, e_50, h⟩ := ob_s h
        exact (ih w_46.2 l1_49 l2_50 _ h).trans q
set_option maxHeartbeats 4000000 in
theorem w_ParishReader_read  {S : St} {w : Int32 × St} (h : f_ParishReader_read S = some w) {kr jr : Nat} (hw : ¬ ((kr = 3 ∧ (jr = 1 ∨ jr = 2)) ∨ (kr = 20 ∧ (jr = 4 ∨ jr = 6)) ∨ kr = 21 ∨ kr = 22 ∨ kr = 23)) : w.2 kr jr = S kr jr := by
  unfold f_ParishReader_read at h
  have q : S kr jr = S kr jr := rfl
  obtain ⟨w_4, q_4, h⟩ := ob_b h
  replace q := (w_Reading_begin q_4 (fun z => hw (Or.inl (⟨(z).1, ((z).2).elim (fun a0 => Or.inl (a0)) (fun z0 => Or.inr (z0))⟩)))).trans q
  obtain ⟨S_12, e_12, h⟩ := ob_s h
  replace q := sF_w e_12 q (Decidable.not_and_iff_or_not.mp (fun z => hw (Or.inr (Or.inl (⟨(z).1, Or.inl ((z).2)⟩)))))
  obtain ⟨S_20, e_20, h⟩ := ob_s h
  replace q := sF_w e_20 q (Decidable.not_and_iff_or_not.mp (fun z => hw (Or.inr (Or.inl (⟨(z).1, Or.inr ((z).2)⟩)))))
  obtain ⟨l1_24, e_24, h⟩ := ob_s h
  obtain ⟨l2_26, e_26, h⟩ := ob_s h
  exact (w_ParishReader_read_27 FU S_20 l1_24 l2_26 _ h hw).trans q
set_option maxHeartbeats 4000000 in
theorem w_Law_copyFrom  {S : St} {w : St} (h : f_Law_copyFrom S = some w) {kr jr : Nat} (hw : ¬ ((kr = 25 ∧ (jr = 7 ∨ jr = 8)) ∨ kr = 26 ∨ kr = 27 ∨ kr = 28 ∨ kr = 29 ∨ kr = 30 ∨ kr = 31)) : w kr jr = S kr jr := by
  unfold f_Law_copyFrom at h
  have q : S kr jr = S kr jr := rfl
  obtain ⟨S_13, e_13, h⟩ := ob_s h
  replace q := sC_w e_13 q (fun z => hw (Or.inr (Or.inl (z))))
  obtain ⟨S_29, e_29, h⟩ := ob_s h
  replace q := sC_w e_29 q (fun z => hw (Or.inr (Or.inr (Or.inl (z)))))
  obtain ⟨S_44, e_44, h⟩ := ob_s h
  replace q := sC_w e_44 q (fun z => hw (Or.inr (Or.inr (Or.inr (Or.inl (z))))))
  obtain ⟨S_59, e_59, h⟩ := ob_s h
  replace q := sC_w e_59 q (fun z => hw (Or.inr (Or.inr (Or.inr (Or.inr (Or.inl (z)))))))
  obtain ⟨S_74, e_74, h⟩ := ob_s h
  replace q := sC_w e_74 q (fun z => hw (Or.inr (Or.inr (Or.inr (Or.inr (Or.inr (Or.inl (z))))))))
  obtain ⟨S_89, e_89, h⟩ := ob_s h
  replace q := sC_w e_89 q (fun z => hw (Or.inr (Or.inr (Or.inr (Or.inr (Or.inr (Or.inr (z))))))))
  obtain ⟨S_97, e_97, h⟩ := ob_s h
  replace q := sF_w e_97 q (Decidable.not_and_iff_or_not.mp (fun z => hw (Or.inl (⟨(z).1, Or.inl ((z).2)⟩))))
  obtain ⟨S_105, e_105, h⟩ := ob_s h
  replace q := sF_w e_105 q (Decidable.not_and_iff_or_not.mp (fun z => hw (Or.inl (⟨(z).1, Or.inr ((z).2)⟩))))
  cases h
  exact q
set_option maxHeartbeats 4000000 in
theorem w_Law_add  {S : St} {l1 : Int32} {l2 : Int32} {w : Int32 × St} (h : f_Law_add S l1 l2 = some w) {kr jr : Nat} (hw : ¬ ((kr = 32 ∧ (jr = 7)) ∨ kr = 33 ∨ kr = 34)) : w.2 kr jr = S kr jr := by
  unfold f_Law_add at h
  have q : S kr jr = S kr jr := rfl
  rcases ob_i h with ⟨c_7, h⟩ | ⟨c_7, h⟩
  · skip
    obtain ⟨g_21, h⟩ := ob_g h
    obtain ⟨S_21, e_21, h⟩ := ob_s h
    replace q := sF_w e_21 q (Or.inl (fun z => hw (Or.inr (Or.inl (z)))))
    obtain ⟨g_31, h⟩ := ob_g h
    obtain ⟨S_31, e_31, h⟩ := ob_s h
    replace q := sF_w e_31 q (Or.inl (fun z => hw (Or.inr (Or.inr (z)))))
    obtain ⟨S_39, e_39, h⟩ := ob_s h
    replace q := sF_w e_39 q (Decidable.not_and_iff_or_not.mp (fun z => hw (Or.inl (⟨(z).1, (z).2⟩))))
    cases h
    exact q
  · skip
    cases h
    exact q
set_option maxHeartbeats 4000000 in
theorem w_Law_opens  {S : St} {l1 : Int32} {w : Int32 × St} (h : f_Law_opens S l1 = some w) {kr jr : Nat} (hw : ¬ ((kr = 3 ∧ (jr = 1 ∨ jr = 2)))) : w.2 kr jr = S kr jr := by
  unfold f_Law_opens at h
  have q : S kr jr = S kr jr := rfl
  rcases ob_i h with ⟨c_3, h⟩ | ⟨c_3, h⟩
  · skip
    obtain ⟨S_33, e_33, h⟩ := ob_s h
    replace q := sF_w e_33 q (Decidable.not_and_iff_or_not.mp (fun z => hw (⟨(z).1, Or.inl ((z).2)⟩)))
    cases h
    exact q
  · skip
    obtain ⟨w_18, q_18, h⟩ := ob_b h
    replace q := (w_Reading_fail q_18 (fun z => hw (⟨(z).1, Or.inr ((z).2)⟩))).trans q
    cases h
    exact q
set_option maxHeartbeats 4000000 in
theorem w_Law_land  {S : St} {l1 : Int32} {w : St} (h : f_Law_land S l1 = some w) {kr jr : Nat} (hw : ¬ (kr = 34)) : w kr jr = S kr jr := by
  unfold f_Law_land at h
  have q : S kr jr = S kr jr := rfl
  rcases ob_i h with ⟨c_1, h⟩ | ⟨c_1, h⟩
  · skip
    cases h
    exact q
  · skip
    rcases ob_i h with ⟨c_9, h⟩ | ⟨c_9, h⟩
    · skip
      cases h
      exact q
    · skip
      obtain ⟨g_21, h⟩ := ob_g h
      obtain ⟨S_21, e_21, h⟩ := ob_s h
      replace q := sF_w e_21 q (Or.inl (fun z => hw (z)))
      cases h
      exact q
set_option maxHeartbeats 4000000 in
theorem w_Reckoner_face  {P : Nat} {S : St} {l2 : Int32} {l3 : Int32} {w : St} (h : f_Reckoner_face S P l2 l3 = some w) {kr jr : Nat} (hw : ¬ ((kr = 40 ∧ (jr = 4 ∨ jr = 5 ∨ jr = 6)))) : w kr jr = S kr jr := by
  unfold f_Reckoner_face at h
  have q : S kr jr = S kr jr := rfl
  obtain ⟨S_2, e_2, h⟩ := ob_s h
  replace q := sF_w e_2 q (Decidable.not_and_iff_or_not.mp (fun z => hw (⟨(z).1, Or.inl ((z).2)⟩)))
  obtain ⟨S_7, e_7, h⟩ := ob_s h
  replace q := sF_w e_7 q (Decidable.not_and_iff_or_not.mp (fun z => hw (⟨(z).1, Or.inr (Or.inl ((z).2))⟩)))
  obtain ⟨S_12, e_12, h⟩ := ob_s h
  replace q := sF_w e_12 q (Decidable.not_and_iff_or_not.mp (fun z => hw (⟨(z).1, Or.inr (Or.inr ((z).2))⟩)))
  cases h
  exact q
set_option maxHeartbeats 4000000 in
theorem w_Reckoner_push  {S : St} {l1 : Int32} {w : St} (h : f_Reckoner_push S l1 = some w) {kr jr : Nat} (hw : ¬ ((kr = 40 ∧ (jr = 2)) ∨ kr = 41)) : w kr jr = S kr jr := by
  unfold f_Reckoner_push at h
  have q : S kr jr = S kr jr := rfl
  rcases ob_i h with ⟨c_6, h⟩ | ⟨c_6, h⟩
  · skip
    cases h
    exact q
  · skip
    obtain ⟨g_18, h⟩ := ob_g h
    obtain ⟨S_18, e_18, h⟩ := ob_s h
    replace q := sF_w e_18 q (Or.inl (fun z => hw (Or.inr (z))))
    obtain ⟨S_26, e_26, h⟩ := ob_s h
    replace q := sF_w e_26 q (Decidable.not_and_iff_or_not.mp (fun z => hw (Or.inl (⟨(z).1, (z).2⟩))))
    cases h
    exact q
set_option maxHeartbeats 4000000 in
theorem w_Reckoner_pop  {S : St} {w : Int32 × St} (h : f_Reckoner_pop S = some w) {kr jr : Nat} (hw : ¬ ((kr = 40 ∧ (jr = 2)))) : w.2 kr jr = S kr jr := by
  unfold f_Reckoner_pop at h
  have q : S kr jr = S kr jr := rfl
  rcases ob_i h with ⟨c_4, h⟩ | ⟨c_4, h⟩
  · skip
    obtain ⟨S_16, e_16, h⟩ := ob_s h
    replace q := sF_w e_16 q (Decidable.not_and_iff_or_not.mp (fun z => hw (⟨(z).1, (z).2⟩)))
    obtain ⟨g_27, h⟩ := ob_g h
    cases h
    exact q
  · skip
    cases h
    exact q
set_option maxHeartbeats 4000000 in
theorem w_Reckoner_joined_23 {kr jr : Nat}  (S : St) (l1 : Int32) (l2 : Int32) (l3 : Int32) (w : Int32 × St) (h : f_Reckoner_joined_23 S l1 l2 l3 = some w) (hw : ¬ ((kr = 40 ∧ (jr = 3)))) : w.2 kr jr = S kr jr := by
  unfold f_Reckoner_joined_23 at h
  have q : S kr jr = S kr jr := rfl
  rcases ob_i h with ⟨c_24_0, h⟩ | ⟨c_24_0, h⟩
  · skip
    rcases ob_i h with ⟨c_117, h⟩ | ⟨c_117, h⟩
    · skip
      cases h
      exact q
    · skip
      obtain ⟨g_126, h⟩ := ob_g h
      cases h
      exact q
  rcases ob_i h with ⟨c_24_1, h⟩ | ⟨c_24_1, h⟩
  · skip
    cases h
    exact q
  rcases ob_i h with ⟨c_24_2, h⟩ | ⟨c_24_2, h⟩
  · skip
    cases h
    exact q
  rcases ob_i h with ⟨c_24_3, h⟩ | ⟨c_24_3, h⟩
  · skip
    cases h
    exact q
  rcases ob_i h with ⟨c_24_4, h⟩ | ⟨c_24_4, h⟩
  · skip
    rcases ob_i h with ⟨c_105, h⟩ | ⟨c_105, h⟩
    · skip
      cases h
      exact q
    · skip
      obtain ⟨g_114, h⟩ := ob_g h
      cases h
      exact q
  rcases ob_i h with ⟨c_24_5, h⟩ | ⟨c_24_5, h⟩
  · skip
    rcases ob_i h with ⟨c_130, h⟩ | ⟨c_130, h⟩
    · skip
      cases h
      exact q
    · skip
      cases h
      exact q
  rcases ob_i h with ⟨c_24_6, h⟩ | ⟨c_24_6, h⟩
  · skip
    rcases ob_i h with ⟨c_141, h⟩ | ⟨c_141, h⟩
    · skip
      cases h
      exact q
    · skip
      cases h
      exact q
  rcases ob_i h with ⟨c_152, h⟩ | ⟨c_152, h⟩
  · skip
    cases h
    exact q
  · skip
    cases h
    exact q
set_option maxHeartbeats 4000000 in
theorem w_Reckoner_joined_12 {kr jr : Nat}  (S : St) (l1 : Int32) (l2 : Int32) (l3 : Int32) (w : Int32 × St) (h : f_Reckoner_joined_12 S l1 l2 l3 = some w) (hw : ¬ ((kr = 40 ∧ (jr = 3)))) : w.2 kr jr = S kr jr := by
  unfold f_Reckoner_joined_12 at h
  have q : S kr jr = S kr jr := rfl
  rcases ob_i h with ⟨c_13, h⟩ | ⟨c_13, h⟩
  · skip
    obtain ⟨S_18, e_18, h⟩ := ob_s h
    replace q := sF_w e_18 q (Decidable.not_and_iff_or_not.mp (fun z => hw (⟨(z).1, (z).2⟩)))
    cases h
    exact q
  · skip
    exact (w_Reckoner_joined_23 S l1 l2 l3 _ h hw).trans q
set_option maxHeartbeats 4000000 in
theorem w_Reckoner_joined  {S : St} {l1 : Int32} {l2 : Int32} {l3 : Int32} {w : Int32 × St} (h : f_Reckoner_joined S l1 l2 l3 = some w) {kr jr : Nat} (hw : ¬ ((kr = 40 ∧ (jr = 3)))) : w.2 kr jr = S kr jr := by
  unfold f_Reckoner_joined at h
  have q : S kr jr = S kr jr := rfl
  rcases ob_i h with ⟨c_3, h⟩ | ⟨c_3, h⟩
  · skip
    exact (w_Reckoner_joined_12 S l1 l2 l3 _ h hw).trans q
  · skip
    rcases ob_i h with ⟨c_9, h⟩ | ⟨c_9, h⟩
    · skip
      exact (w_Reckoner_joined_12 S l1 l2 l3 _ h hw).trans q
    · skip
      exact (w_Reckoner_joined_23 S l1 l2 l3 _ h hw).trans q
set_option maxHeartbeats 4000000 in
theorem w_Reckoner_reckon_190 {kr jr : Nat}  (k_15 : St → Int32 → Int32 → Int32 → Option (Int32 × St)) (hk_15 : ∀ (S : St) (l2 : Int32) (l3 : Int32) (l4 : Int32) (w : Int32 × St), k_15 S l2 l3 l4 = some w → w.2 kr jr = S kr jr) (S : St) (l2 : Int32) (l3 : Int32) (l4 : Int32) (w : Int32 × St) (h : f_Reckoner_reckon_190 k_15 S l2 l3 l4 = some w) (hw : ¬ ((kr = 40 ∧ (jr = 2 ∨ jr = 3)) ∨ kr = 41)) : w.2 kr jr = S kr jr := by
  unfold f_Reckoner_reckon_190 at h
  have q : S kr jr = S kr jr := rfl
  rcases ob_i h with ⟨c_194, h⟩ | ⟨c_194, h⟩
  · skip
    obtain ⟨l4_199, e_199, h⟩ := ob_s h
    exact (hk_15 S l2 l3 l4_199 _ h).trans q
  · skip
    cases h
    exact q
set_option maxHeartbeats 4000000 in
theorem w_Reckoner_reckon_120 {kr jr : Nat}  (k_15 : St → Int32 → Int32 → Int32 → Option (Int32 × St)) (hk_15 : ∀ (S : St) (l2 : Int32) (l3 : Int32) (l4 : Int32) (w : Int32 × St), k_15 S l2 l3 l4 = some w → w.2 kr jr = S kr jr) (S : St) (l2 : Int32) (l3 : Int32) (l4 : Int32) (s0 : Int32) (w : Int32 × St) (h : f_Reckoner_reckon_120 k_15 S l2 l3 l4 s0 = some w) (hw : ¬ ((kr = 40 ∧ (jr = 2 ∨ jr = 3)) ∨ kr = 41)) : w.2 kr jr = S kr jr := by
  unfold f_Reckoner_reckon_120 at h
  have q : S kr jr = S kr jr := rfl
  obtain ⟨w_120, q_120, h⟩ := ob_b h
  replace q := (w_Reckoner_push q_120 (fun z => hw ((z).elim (fun a0 => Or.inl (⟨(a0).1, Or.inl ((a0).2)⟩)) (fun z0 => Or.inr (z0))))).trans q
  exact (w_Reckoner_reckon_190 k_15 hk_15 w_120 l2 l3 l4 _ h hw).trans q
set_option maxHeartbeats 4000000 in
theorem w_Reckoner_reckon_178 {kr jr : Nat}  (k_15 : St → Int32 → Int32 → Int32 → Option (Int32 × St)) (hk_15 : ∀ (S : St) (l2 : Int32) (l3 : Int32) (l4 : Int32) (w : Int32 × St), k_15 S l2 l3 l4 = some w → w.2 kr jr = S kr jr) (S : St) (l2 : Int32) (l3 : Int32) (l4 : Int32) (l6 : Int32) (l7 : Int32) (s0 : Int32) (s1 : Int32) (w : Int32 × St) (h : f_Reckoner_reckon_178 k_15 S l2 l3 l4 l6 l7 s0 s1 = some w) (hw : ¬ ((kr = 40 ∧ (jr = 2 ∨ jr = 3)) ∨ kr = 41)) : w.2 kr jr = S kr jr := by
  unfold f_Reckoner_reckon_178 at h
  have q : S kr jr = S kr jr := rfl
  rcases ob_i h with ⟨c_178, h⟩ | ⟨c_178, h⟩
  · skip
    obtain ⟨w_184, q_184, h⟩ := ob_b h
    replace q := (w_Reckoner_push q_184 (fun z => hw ((z).elim (fun a0 => Or.inl (⟨(a0).1, Or.inl ((a0).2)⟩)) (fun z0 => Or.inr (z0))))).trans q
    exact (w_Reckoner_reckon_190 k_15 hk_15 w_184 l2 l6 l4 _ h hw).trans q
  · skip
    exact (w_Reckoner_reckon_190 k_15 hk_15 S l2 l3 l4 _ h hw).trans q
set_option maxHeartbeats 4000000 in
theorem w_Reckoner_reckon_167 {kr jr : Nat}  (k_15 : St → Int32 → Int32 → Int32 → Option (Int32 × St)) (hk_15 : ∀ (S : St) (l2 : Int32) (l3 : Int32) (l4 : Int32) (w : Int32 × St), k_15 S l2 l3 l4 = some w → w.2 kr jr = S kr jr) (S : St) (l2 : Int32) (l3 : Int32) (l4 : Int32) (l5 : Int32) (l6 : Int32) (l7 : Int32) (s0 : Int32) (w : Int32 × St) (h : f_Reckoner_reckon_167 k_15 S l2 l3 l4 l5 l6 l7 s0 = some w) (hw : ¬ ((kr = 40 ∧ (jr = 2 ∨ jr = 3)) ∨ kr = 41)) : w.2 kr jr = S kr jr := by
  unfold f_Reckoner_reckon_167 at h
  have q : S kr jr = S kr jr := rfl
  rcases ob_i h with ⟨c_170, h⟩ | ⟨c_170, h⟩
  · skip
    exact (w_Reckoner_reckon_178 k_15 hk_15 S l2 l3 l4 l6 l7 (1 : Int32) s0 _ h hw).trans q
  · skip
    exact (w_Reckoner_reckon_178 k_15 hk_15 S l2 l3 l4 l6 l7 (0 : Int32) s0 _ h hw).trans q
set_option maxHeartbeats 4000000 in
theorem w_Reckoner_reckon_157 {kr jr : Nat}  (k_15 : St → Int32 → Int32 → Int32 → Option (Int32 × St)) (hk_15 : ∀ (S : St) (l2 : Int32) (l3 : Int32) (l4 : Int32) (w : Int32 × St), k_15 S l2 l3 l4 = some w → w.2 kr jr = S kr jr) (S : St) (l2 : Int32) (l3 : Int32) (l4 : Int32) (l5 : Int32) (l6 : Int32) (l7 : Int32) (w : Int32 × St) (h : f_Reckoner_reckon_157 k_15 S l2 l3 l4 l5 l6 l7 = some w) (hw : ¬ ((kr = 40 ∧ (jr = 2 ∨ jr = 3)) ∨ kr = 41)) : w.2 kr jr = S kr jr := by
  unfold f_Reckoner_reckon_157 at h
  have q : S kr jr = S kr jr := rfl
  rcases ob_i h with ⟨c_159, h⟩ | ⟨c_159, h⟩
  · skip
    exact (w_Reckoner_reckon_167 k_15 hk_15 S l2 l3 l4 l5 l6 l7 (0 : Int32) _ h hw).trans q
  · skip
    exact (w_Reckoner_reckon_167 k_15 hk_15 S l2 l3 l4 l5 l6 l7 (1 : Int32) _ h hw).trans q
set_option maxHeartbeats 4000000 in
theorem w_Reckoner_reckon_205 {kr jr : Nat}  (S : St) (w : Int32 × St) (h : f_Reckoner_reckon_205 S = some w) (hw : ¬ ((kr = 40 ∧ (jr = 2 ∨ jr = 3)) ∨ kr = 41)) : w.2 kr jr = S kr jr := by
  unfold f_Reckoner_reckon_205 at h
  have q : S kr jr = S kr jr := rfl
  obtain ⟨w_206, q_206, h⟩ := ob_b h
  replace q := (w_Reckoner_pop q_206 (fun z => hw (Or.inl (⟨(z).1, Or.inl ((z).2)⟩)))).trans q
  cases h
  exact q
set_option maxHeartbeats 4000000 in
theorem w_Reckoner_reckon_15 {kr jr : Nat}  : ∀ (n : Nat) (S : St) (l2 : Int32) (l3 : Int32) (l4 : Int32) (w : Int32 × St), f_Reckoner_reckon_15 n S l2 l3 l4 = some w → ¬ ((kr = 40 ∧ (jr = 2 ∨ jr = 3)) ∨ kr = 41) → w.2 kr jr = S kr jr := by
  intro n
  induction n with
  | zero =>
    intro S l2 l3 l4 w h hw
    rw [f_Reckoner_reckon_15] at h
    cases h
  | succ n ih =>
    intro S l2 l3 l4 w h hw
    replace ih := fun S l2 l3 l4 w h => ih S l2 l3 l4 w h hw
    rw [f_Reckoner_reckon_15] at h
    have q : S kr jr = S kr jr := rfl
    rcases ob_i h with ⟨c_20, h⟩ | ⟨c_20, h⟩
    · skip
      exact (w_Reckoner_reckon_205 S _ h hw).trans q
    · skip
      rcases ob_i h with ⟨c_24, h⟩ | ⟨c_24, h⟩
      · skip
        exact (w_Reckoner_reckon_205 S _ h hw).trans q
      · skip
        rcases ob_i h with ⟨c_29, h⟩ | ⟨c_29, h⟩
        · skip
          exact (w_Reckoner_reckon_205 S _ h hw).trans q
        · skip
          rcases ob_i h with ⟨c_36, h⟩ | ⟨c_36, h⟩
          · skip
            exact (w_Reckoner_reckon_205 S _ h hw).trans q
          · skip
            obtain ⟨g_47, h⟩ := ob_g h
            obtain ⟨l5_48, e_48, h⟩ := ob_s h
            obtain ⟨g_58, h⟩ := ob_g h
            obtain ⟨l6_59, e_59, h⟩ := ob_s h
            obtain ⟨l3_61, e_61, h⟩ := ob_s h
            rcases ob_i h with ⟨c_66, h⟩ | ⟨c_66, h⟩
            · skip
              obtain ⟨w_72, q_72, h⟩ := ob_b h
              replace q := (w_Reckoner_push q_72 (fun z => hw ((z).elim (fun a0 => Or.inl (⟨(a0).1, Or.inl ((a0).2)⟩)) (fun z0 => Or.inr (z0))))).trans q
              exact (w_Reckoner_reckon_190 (f_Reckoner_reckon_15 n) ih w_72 l2 l3_61 l4 _ h hw).trans q
            · skip
              rcases ob_i h with ⟨c_81, h⟩ | ⟨c_81, h⟩
              · skip
                obtain ⟨v_88, q_88, h⟩ := ob_b h
                obtain ⟨w_91, q_91, h⟩ := ob_b h
                replace q := (w_Reckoner_push q_91 (fun z => hw ((z).elim (fun a0 => Or.inl (⟨(a0).1, Or.inl ((a0).2)⟩)) (fun z0 => Or.inr (z0))))).trans q
                exact (w_Reckoner_reckon_190 (f_Reckoner_reckon_15 n) ih w_91 l2 l3_61 l4 _ h hw).trans q
              · skip
                obtain ⟨w_98, q_98, h⟩ := ob_b h
                replace q := (w_Reckoner_pop q_98 (fun z => hw (Or.inl (⟨(z).1, Or.inl ((z).2)⟩)))).trans q
                obtain ⟨l7_101, e_101, h⟩ := ob_s h
                rcases ob_i h with ⟨c_106, h⟩ | ⟨c_106, h⟩
                · skip
                  rcases ob_i h with ⟨c_112, h⟩ | ⟨c_112, h⟩
                  · skip
                    exact (w_Reckoner_reckon_120 (f_Reckoner_reckon_15 n) ih w_98.2 l2 l3_61 l4 (1 : Int32) _ h hw).trans q
                  · skip
                    exact (w_Reckoner_reckon_120 (f_Reckoner_reckon_15 n) ih w_98.2 l2 l3_61 l4 (0 : Int32) _ h hw).trans q
                · skip
                  rcases ob_i h with ⟨c_129, h⟩ | ⟨c_129, h⟩
                  · skip
                    exact (w_Reckoner_reckon_157 (f_Reckoner_reckon_15 n) ih w_98.2 l2 l3_61 l4 l5_48 l6_59 l7_101 _ h hw).trans q
                  · skip
                    rcases ob_i h with ⟨c_135, h⟩ | ⟨c_135, h⟩
                    · skip
                      exact (w_Reckoner_reckon_157 (f_Reckoner_reckon_15 n) ih w_98.2 l2 l3_61 l4 l5_48 l6_59 l7_101 _ h hw).trans q
                    · skip
                      obtain ⟨w_143, q_143, h⟩ := ob_b h
                      replace q := (w_Reckoner_pop q_143 (fun z => hw (Or.inl (⟨(z).1, Or.inl ((z).2)⟩)))).trans q
                      obtain ⟨w_148, q_148, h⟩ := ob_b h
                      replace q := (w_Reckoner_joined q_148 (fun z => hw (Or.inl (⟨(z).1, Or.inr ((z).2)⟩)))).trans q
                      obtain ⟨w_151, q_151, h⟩ := ob_b h
                      replace q := (w_Reckoner_push q_151 (fun z => hw ((z).elim (fun a0 => Or.inl (⟨(a0).1, Or.inl ((a0).2)⟩)) (fun z0 => Or.inr (z0))))).trans q
                      exact (w_Reckoner_reckon_190 (f_Reckoner_reckon_15 n) ih w_151 l2 l3_61 l4 _ h hw).trans q
set_option maxHeartbeats 4000000 in
theorem w_Reckoner_reckon  {S : St} {l1 : Int32} {l2 : Int32} {w : Int32 × St} (h : f_Reckoner_reckon S l1 l2 = some w) {kr jr : Nat} (hw : ¬ ((kr = 40 ∧ (jr = 2 ∨ jr = 3)) ∨ kr = 41)) : w.2 kr jr = S kr jr := by
  unfold f_Reckoner_reckon at h
  have q : S kr jr = S kr jr := rfl
  obtain ⟨S_2, e_2, h⟩ := ob_s h
  replace q := sF_w e_2 q (Decidable.not_and_iff_or_not.mp (fun z => hw (Or.inl (⟨(z).1, Or.inl ((z).2)⟩))))
  obtain ⟨S_7, e_7, h⟩ := ob_s h
  replace q := sF_w e_7 q (Decidable.not_and_iff_or_not.mp (fun z => hw (Or.inl (⟨(z).1, Or.inr ((z).2)⟩))))
  obtain ⟨l4_13, e_13, h⟩ := ob_s h
  exact (w_Reckoner_reckon_15 FU S_7 l2 l1 l4_13 _ h hw).trans q
set_option maxHeartbeats 4000000 in
theorem w_Reckoner_ask_96 {kr jr : Nat}  (k_3 : St → Int32 → Int32 → Int32 → Int32 → Option (Int32 × St)) (hk_3 : ∀ (S : St) (l1 : Int32) (l2 : Int32) (l3 : Int32) (l4 : Int32) (w : Int32 × St), k_3 S l1 l2 l3 l4 = some w → w.2 kr jr = S kr jr) (S : St) (l1 : Int32) (l2 : Int32) (l3 : Int32) (l4 : Int32) (w : Int32 × St) (h : f_Reckoner_ask_96 k_3 S l1 l2 l3 l4 = some w) (hw : ¬ ((kr = 40 ∧ (jr = 2 ∨ jr = 3)) ∨ kr = 41)) : w.2 kr jr = S kr jr := by
  unfold f_Reckoner_ask_96 at h
  have q : S kr jr = S kr jr := rfl
  obtain ⟨l4_96, e_96, h⟩ := ob_s h
  exact (hk_3 S l1 l2 l3 l4_96 _ h).trans q
set_option maxHeartbeats 4000000 in
theorem w_Reckoner_ask_3 {kr jr : Nat}  : ∀ (n : Nat) (S : St) (l1 : Int32) (l2 : Int32) (l3 : Int32) (l4 : Int32) (w : Int32 × St), f_Reckoner_ask_3 n S l1 l2 l3 l4 = some w → ¬ ((kr = 40 ∧ (jr = 2 ∨ jr = 3)) ∨ kr = 41) → w.2 kr jr = S kr jr := by
  intro n
  induction n with
  | zero =>
    intro S l1 l2 l3 l4 w h hw
    rw [f_Reckoner_ask_3] at h
    cases h
  | succ n ih =>
    intro S l1 l2 l3 l4 w h hw
    replace ih := fun S l1 l2 l3 l4 w h => ih S l1 l2 l3 l4 w h hw
    rw [f_Reckoner_ask_3] at h
    have q : S kr jr = S kr jr := rfl
    rcases ob_i h with ⟨c_12, h⟩ | ⟨c_12, h⟩
    · skip
      cases h
      exact q
    · skip
      rcases ob_i h with ⟨c_19, h⟩ | ⟨c_19, h⟩
      · skip
        cases h
        exact q
      · skip
        obtain ⟨g_31, h⟩ := ob_g h
        rcases ob_i h with ⟨c_33, h⟩ | ⟨c_33, h⟩
        · skip
          obtain ⟨g_46, h⟩ := ob_g h
          obtain ⟨g_56, h⟩ := ob_g h
          obtain ⟨w_57, q_57, h⟩ := ob_b h
          replace q := (w_Reckoner_reckon q_57 (fun z => hw ((z).elim (fun a0 => Or.inl (⟨(a0).1, ((a0).2).elim (fun a0 => Or.inl (a0)) (fun z0 => Or.inr (z0))⟩)) (fun z0 => Or.inr (z0))))).trans q
          rcases ob_i h with ⟨c_60, h⟩ | ⟨c_60, h⟩
          · skip
            exact (w_Reckoner_ask_96 (f_Reckoner_ask_3 n) ih w_57.2 l1 l2 l3 l4 _ h hw).trans q
          · skip
            obtain ⟨g_75, h⟩ := ob_g h
            obtain ⟨g_85, h⟩ := ob_g h
            obtain ⟨w_86, q_86, h⟩ := ob_b h
            replace q := (w_Reckoner_reckon q_86 (fun z => hw ((z).elim (fun a0 => Or.inl (⟨(a0).1, ((a0).2).elim (fun a0 => Or.inl (a0)) (fun z0 => Or.inr (z0))⟩)) (fun z0 => Or.inr (z0))))).trans q
            cases h
            exact q
        · skip
          exact (w_Reckoner_ask_96 (f_Reckoner_ask_3 n) ih S l1 l2 l3 l4 _ h hw).trans q
set_option maxHeartbeats 4000000 in
theorem w_Reckoner_ask  {S : St} {l1 : Int32} {l2 : Int32} {l3 : Int32} {w : Int32 × St} (h : f_Reckoner_ask S l1 l2 l3 = some w) {kr jr : Nat} (hw : ¬ ((kr = 40 ∧ (jr = 2 ∨ jr = 3)) ∨ kr = 41)) : w.2 kr jr = S kr jr := by
  unfold f_Reckoner_ask at h
  have q : S kr jr = S kr jr := rfl
  obtain ⟨l4_1, e_1, h⟩ := ob_s h
  exact (w_Reckoner_ask_3 FU S l1 l2 l3 l4_1 _ h hw).trans q
set_option maxHeartbeats 4000000 in
theorem w_Almanac_passOver_124 {kr jr : Nat}  (P : Nat) (S : St) (l2 : Int32) (w : St) (h : f_Almanac_passOver_124 P S l2 = some w) (hw : ¬ ((kr = P ∧ (jr = 4 ∨ jr = 5 ∨ jr = 7 ∨ jr = 9)) ∨ (kr = 40 ∧ (jr = 2 ∨ jr = 3 ∨ jr = 4 ∨ jr = 5 ∨ jr = 6)) ∨ kr = 41 ∨ kr = (P + 3) ∨ kr = (P + 4))) : w kr jr = S kr jr := by
  unfold f_Almanac_passOver_124 at h
  have q : S kr jr = S kr jr := rfl
  obtain ⟨w_126, q_126, h⟩ := ob_b h
  replace q := (w_Parish_putItOff q_126 (fun z => hw ((z).elim (fun a0 => Or.inr (Or.inr (Or.inr (Or.inl (a0))))) (fun z0 => Or.inr (Or.inr (Or.inr (Or.inr (z0)))))))).trans q
  cases h
  exact q
set_option maxHeartbeats 4000000 in
theorem w_Almanac_passOver_101 {kr jr : Nat}  (P : Nat) (S : St) (l2 : Int32) (s0 : Int32) (w : St) (h : f_Almanac_passOver_101 P S l2 s0 = some w) (hw : ¬ ((kr = P ∧ (jr = 4 ∨ jr = 5 ∨ jr = 7 ∨ jr = 9)) ∨ (kr = 40 ∧ (jr = 2 ∨ jr = 3 ∨ jr = 4 ∨ jr = 5 ∨ jr = 6)) ∨ kr = 41 ∨ kr = (P + 3) ∨ kr = (P + 4))) : w kr jr = S kr jr := by
  unfold f_Almanac_passOver_101 at h
  have q : S kr jr = S kr jr := rfl
  rcases ob_i h with ⟨c_105, h⟩ | ⟨c_105, h⟩
  · skip
    exact (w_Almanac_passOver_124 P S l2 _ h hw).trans q
  · skip
    obtain ⟨v_110, q_110, h⟩ := ob_b h
    rcases ob_i h with ⟨c_113, h⟩ | ⟨c_113, h⟩
    · skip
      exact (w_Almanac_passOver_124 P S l2 _ h hw).trans q
    · skip
      obtain ⟨w_118, q_118, h⟩ := ob_b h
      replace q := (w_Parish_finish q_118 (fun z => hw (Or.inl (⟨(z).1, ((z).2).elim (fun a0 => Or.inl (a0)) (fun z0 => (z0).elim (fun a1 => Or.inr (Or.inl (a1))) (fun z1 => Or.inr (Or.inr (Or.inl (z1)))))⟩)))).trans q
      cases h
      exact q
set_option maxHeartbeats 4000000 in
theorem w_Almanac_passOver_87 {kr jr : Nat}  (P : Nat) (S : St) (l2 : Int32) (l5 : Int32) (w : St) (h : f_Almanac_passOver_87 P S l2 l5 = some w) (hw : ¬ ((kr = P ∧ (jr = 4 ∨ jr = 5 ∨ jr = 7 ∨ jr = 9)) ∨ (kr = 40 ∧ (jr = 2 ∨ jr = 3 ∨ jr = 4 ∨ jr = 5 ∨ jr = 6)) ∨ kr = 41 ∨ kr = (P + 3) ∨ kr = (P + 4))) : w kr jr = S kr jr := by
  unfold f_Almanac_passOver_87 at h
  have q : S kr jr = S kr jr := rfl
  obtain ⟨w_88, q_88, h⟩ := ob_b h
  replace q := (w_Parish_draw q_88 (fun z => hw (Or.inl (⟨(z).1, Or.inr (Or.inr (Or.inr ((z).2)))⟩)))).trans q
  rcases ob_i h with ⟨c_93, h⟩ | ⟨c_93, h⟩
  · skip
    exact (w_Almanac_passOver_101 P w_88.2 l2 (0 : Int32) _ h hw).trans q
  · skip
    exact (w_Almanac_passOver_101 P w_88.2 l2 (1 : Int32) _ h hw).trans q
set_option maxHeartbeats 4000000 in
theorem w_Almanac_passOver_72 {kr jr : Nat}  (P : Nat) (S : St) (l2 : Int32) (l4 : Int32) (l5 : Int32) (w : St) (h : f_Almanac_passOver_72 P S l2 l4 l5 = some w) (hw : ¬ ((kr = P ∧ (jr = 4 ∨ jr = 5 ∨ jr = 7 ∨ jr = 9)) ∨ (kr = 40 ∧ (jr = 2 ∨ jr = 3 ∨ jr = 4 ∨ jr = 5 ∨ jr = 6)) ∨ kr = 41 ∨ kr = (P + 3) ∨ kr = (P + 4))) : w kr jr = S kr jr := by
  unfold f_Almanac_passOver_72 at h
  have q : S kr jr = S kr jr := rfl
  obtain ⟨v_74, q_74, h⟩ := ob_b h
  rcases ob_i h with ⟨c_77, h⟩ | ⟨c_77, h⟩
  · skip
    exact (w_Almanac_passOver_87 P S l2 l5 _ h hw).trans q
  · skip
    obtain ⟨w_84, q_84, h⟩ := ob_b h
    replace q := (w_Parish_burn q_84 (fun z => hw ((z).elim (fun a0 => Or.inl (⟨(a0).1, Or.inl ((a0).2)⟩)) (fun z0 => Or.inr (Or.inr (Or.inr (Or.inl (z0)))))))).trans q
    exact (w_Almanac_passOver_87 P w_84 l2 l5 _ h hw).trans q
set_option maxHeartbeats 4000000 in
theorem w_Almanac_passOver  {P : Nat} {S : St} {l2 : Int32} {w : St} (h : f_Almanac_passOver S P l2 = some w) {kr jr : Nat} (hw : ¬ ((kr = P ∧ (jr = 4 ∨ jr = 5 ∨ jr = 7 ∨ jr = 9)) ∨ (kr = 40 ∧ (jr = 2 ∨ jr = 3 ∨ jr = 4 ∨ jr = 5 ∨ jr = 6)) ∨ kr = 41 ∨ kr = (P + 3) ∨ kr = (P + 4))) : w kr jr = S kr jr := by
  unfold f_Almanac_passOver at h
  have q : S kr jr = S kr jr := rfl
  obtain ⟨w_7, q_7, h⟩ := ob_b h
  replace q := (w_Parish_draw q_7 (fun z => hw (Or.inl (⟨(z).1, Or.inr (Or.inr (Or.inr ((z).2)))⟩)))).trans q
  obtain ⟨w_10, q_10, h⟩ := ob_b h
  replace q := (w_Reckoner_face q_10 (fun z => hw (Or.inr (Or.inl (⟨(z).1, ((z).2).elim (fun a0 => Or.inr (Or.inr (Or.inl (a0)))) (fun z0 => (z0).elim (fun a1 => Or.inr (Or.inr (Or.inr (Or.inl (a1))))) (fun z1 => Or.inr (Or.inr (Or.inr (Or.inr (z1))))))⟩))))).trans q
  obtain ⟨w_21, q_21, h⟩ := ob_b h
  replace q := (w_Reckoner_ask q_21 (fun z => hw ((z).elim (fun a0 => Or.inr (Or.inl (⟨(a0).1, ((a0).2).elim (fun a0 => Or.inl (a0)) (fun z0 => Or.inr (Or.inl (z0)))⟩))) (fun z0 => Or.inr (Or.inr (Or.inl (z0))))))).trans q
  obtain ⟨l3_24, e_24, h⟩ := ob_s h
  obtain ⟨w_34, q_34, h⟩ := ob_b h
  replace q := (w_Reckoner_ask q_34 (fun z => hw ((z).elim (fun a0 => Or.inr (Or.inl (⟨(a0).1, ((a0).2).elim (fun a0 => Or.inl (a0)) (fun z0 => Or.inr (Or.inl (z0)))⟩))) (fun z0 => Or.inr (Or.inr (Or.inl (z0))))))).trans q
  obtain ⟨l4_37, e_37, h⟩ := ob_s h
  obtain ⟨w_48, q_48, h⟩ := ob_b h
  replace q := (w_Reckoner_ask q_48 (fun z => hw ((z).elim (fun a0 => Or.inr (Or.inl (⟨(a0).1, ((a0).2).elim (fun a0 => Or.inl (a0)) (fun z0 => Or.inr (Or.inl (z0)))⟩))) (fun z0 => Or.inr (Or.inr (Or.inl (z0))))))).trans q
  obtain ⟨l5_51, e_51, h⟩ := ob_s h
  rcases ob_i h with ⟨c_54, h⟩ | ⟨c_54, h⟩
  · skip
    exact (w_Almanac_passOver_72 P w_48.2 l2 l4_37 l5_51 _ h hw).trans q
  · skip
    obtain ⟨g_62, h⟩ := ob_g h
    rcases ob_i h with ⟨c_63, h⟩ | ⟨c_63, h⟩
    · skip
      exact (w_Almanac_passOver_72 P w_48.2 l2 l4_37 l5_51 _ h hw).trans q
    · skip
      obtain ⟨w_69, q_69, h⟩ := ob_b h
      replace q := (w_Parish_putLight q_69 (fun z => hw (Or.inl (⟨(z).1, Or.inl ((z).2)⟩)))).trans q
      exact (w_Almanac_passOver_72 P w_69 l2 l4_37 l5_51 _ h hw).trans q
set_option maxHeartbeats 4000000 in
theorem w_Almanac_pass_62 {kr jr : Nat}  (P : Nat) (k_11 : St → Int32 → Int32 → Int32 → Option (Int32 × St)) (k_30 : St → Int32 → Int32 → Int32 → Int32 → Option (Int32 × St)) (hk_11 : ∀ (S : St) (l2 : Int32) (l3 : Int32) (l4 : Int32) (w : Int32 × St), k_11 S l2 l3 l4 = some w → w.2 kr jr = S kr jr) (hk_30 : ∀ (S : St) (l2 : Int32) (l3 : Int32) (l4 : Int32) (l5 : Int32) (w : Int32 × St), k_30 S l2 l3 l4 l5 = some w → w.2 kr jr = S kr jr) (S : St) (l2 : Int32) (l3 : Int32) (l4 : Int32) (l5 : Int32) (w : Int32 × St) (h : f_Almanac_pass_62 P k_11 k_30 S l2 l3 l4 l5 = some w) (hw : ¬ ((kr = P ∧ (jr = 4 ∨ jr = 5 ∨ jr = 7 ∨ jr = 8 ∨ jr = 9)) ∨ (kr = 40 ∧ (jr = 2 ∨ jr = 3 ∨ jr = 4 ∨ jr = 5 ∨ jr = 6)) ∨ kr = 41 ∨ kr = (P + 3) ∨ kr = (P + 4))) : w.2 kr jr = S kr jr := by
  unfold f_Almanac_pass_62 at h
  have q : S kr jr = S kr jr := rfl
  obtain ⟨l5_62, e_62, h⟩ := ob_s h
  exact (hk_30 S l2 l3 l4 l5_62 _ h).trans q
set_option maxHeartbeats 4000000 in
theorem w_Almanac_pass_68 {kr jr : Nat}  (P : Nat) (k_11 : St → Int32 → Int32 → Int32 → Option (Int32 × St)) (hk_11 : ∀ (S : St) (l2 : Int32) (l3 : Int32) (l4 : Int32) (w : Int32 × St), k_11 S l2 l3 l4 = some w → w.2 kr jr = S kr jr) (S : St) (l2 : Int32) (l3 : Int32) (l4 : Int32) (w : Int32 × St) (h : f_Almanac_pass_68 P k_11 S l2 l3 l4 = some w) (hw : ¬ ((kr = P ∧ (jr = 4 ∨ jr = 5 ∨ jr = 7 ∨ jr = 8 ∨ jr = 9)) ∨ (kr = 40 ∧ (jr = 2 ∨ jr = 3 ∨ jr = 4 ∨ jr = 5 ∨ jr = 6)) ∨ kr = 41 ∨ kr = (P + 3) ∨ kr = (P + 4))) : w.2 kr jr = S kr jr := by
  unfold f_Almanac_pass_68 at h
  have q : S kr jr = S kr jr := rfl
  obtain ⟨S_75, e_75, h⟩ := ob_s h
  replace q := sF_w e_75 q (Decidable.not_and_iff_or_not.mp (fun z => hw (Or.inl (⟨(z).1, Or.inr (Or.inr (Or.inr (Or.inl ((z).2))))⟩))))
  obtain ⟨l4_78, e_78, h⟩ := ob_s h
  exact (hk_11 S_75 l2 l3 l4_78 _ h).trans q
set_option maxHeartbeats 4000000 in
theorem w_Almanac_pass_30 {kr jr : Nat}  (P : Nat) (k_11 : St → Int32 → Int32 → Int32 → Option (Int32 × St)) (hk_11 : ∀ (S : St) (l2 : Int32) (l3 : Int32) (l4 : Int32) (w : Int32 × St), k_11 S l2 l3 l4 = some w → w.2 kr jr = S kr jr) : ∀ (n : Nat) (S : St) (l2 : Int32) (l3 : Int32) (l4 : Int32) (l5 : Int32) (w : Int32 × St), f_Almanac_pass_30 P k_11 n S l2 l3 l4 l5 = some w → ¬ ((kr = P ∧ (jr = 4 ∨ jr = 5 ∨ jr = 7 ∨ jr = 8 ∨ jr = 9)) ∨ (kr = 40 ∧ (jr = 2 ∨ jr = 3 ∨ jr = 4 ∨ jr = 5 ∨ jr = 6)) ∨ kr = 41 ∨ kr = (P + 3) ∨ kr = (P + 4)) → w.2 kr jr = S kr jr := by
  intro n
  induction n with
  | zero =>
    intro S l2 l3 l4 l5 w h hw
    rw [f_Almanac_pass_30] at h
    cases h
  | succ n ih =>
    intro S l2 l3 l4 l5 w h hw
    replace ih := fun S l2 l3 l4 l5 w h => ih S l2 l3 l4 l5 w h hw
    rw [f_Almanac_pass_30] at h
    have q : S kr jr = S kr jr := rfl
    rcases ob_i h with ⟨c_36, h⟩ | ⟨c_36, h⟩
    · skip
      exact (w_Almanac_pass_68 P k_11 hk_11 S l2 l3 l4 _ h hw).trans q
    · skip
      rcases ob_i h with ⟨c_43, h⟩ | ⟨c_43, h⟩
      · skip
        exact (w_Almanac_pass_68 P k_11 hk_11 S l2 l3 l4 _ h hw).trans q
      · skip
        obtain ⟨v_49, q_49, h⟩ := ob_b h
        rcases ob_i h with ⟨c_52, h⟩ | ⟨c_52, h⟩
        · skip
          obtain ⟨w_59, q_59, h⟩ := ob_b h
          replace q := (w_Almanac_passOver q_59 (fun z => hw ((z).elim (fun a0 => Or.inl (⟨(a0).1, ((a0).2).elim (fun a0 => Or.inl (a0)) (fun z0 => (z0).elim (fun a1 => Or.inr (Or.inl (a1))) (fun z1 => (z1).elim (fun a2 => Or.inr (Or.inr (Or.inl (a2)))) (fun z2 => Or.inr (Or.inr (Or.inr (Or.inr (z2)))))))⟩)) (fun z0 => (z0).elim (fun a1 => Or.inr (Or.inl (⟨(a1).1, ((a1).2).elim (fun a0 => Or.inl (a0)) (fun z0 => (z0).elim (fun a1 => Or.inr (Or.inl (a1))) (fun z1 => (z1).elim (fun a2 => Or.inr (Or.inr (Or.inl (a2)))) (fun z2 => (z2).elim (fun a3 => Or.inr (Or.inr (Or.inr (Or.inl (a3))))) (fun z3 => Or.inr (Or.inr (Or.inr (Or.inr (z3))))))))⟩))) (fun z1 => (z1).elim (fun a2 => Or.inr (Or.inr (Or.inl (a2)))) (fun z2 => (z2).elim (fun a3 => Or.inr (Or.inr (Or.inr (Or.inl (a3))))) (fun z3 => Or.inr (Or.inr (Or.inr (Or.inr (z3))))))))))).trans q
          exact (w_Almanac_pass_62 P k_11 (f_Almanac_pass_30 P k_11 n) hk_11 ih w_59 l2 l3 l4 l5 _ h hw).trans q
        · skip
          exact (w_Almanac_pass_62 P k_11 (f_Almanac_pass_30 P k_11 n) hk_11 ih S l2 l3 l4 l5 _ h hw).trans q
set_option maxHeartbeats 4000000 in
theorem w_Almanac_pass_84 {kr jr : Nat}  (P : Nat) (S : St) (l3 : Int32) (w : Int32 × St) (h : f_Almanac_pass_84 P S l3 = some w) (hw : ¬ ((kr = P ∧ (jr = 4 ∨ jr = 5 ∨ jr = 7 ∨ jr = 8 ∨ jr = 9)) ∨ (kr = 40 ∧ (jr = 2 ∨ jr = 3 ∨ jr = 4 ∨ jr = 5 ∨ jr = 6)) ∨ kr = 41 ∨ kr = (P + 3) ∨ kr = (P + 4))) : w.2 kr jr = S kr jr := by
  unfold f_Almanac_pass_84 at h
  have q : S kr jr = S kr jr := rfl
  obtain ⟨v_88, q_88, h⟩ := ob_b h
  cases h
  exact q
set_option maxHeartbeats 4000000 in
theorem w_Almanac_pass_11 {kr jr : Nat}  (P : Nat) : ∀ (n : Nat) (S : St) (l2 : Int32) (l3 : Int32) (l4 : Int32) (w : Int32 × St), f_Almanac_pass_11 P n S l2 l3 l4 = some w → ¬ ((kr = P ∧ (jr = 4 ∨ jr = 5 ∨ jr = 7 ∨ jr = 8 ∨ jr = 9)) ∨ (kr = 40 ∧ (jr = 2 ∨ jr = 3 ∨ jr = 4 ∨ jr = 5 ∨ jr = 6)) ∨ kr = 41 ∨ kr = (P + 3) ∨ kr = (P + 4)) → w.2 kr jr = S kr jr := by
  intro n
  induction n with
  | zero =>
    intro S l2 l3 l4 w h hw
    rw [f_Almanac_pass_11] at h
    cases h
  | succ n ih =>
    intro S l2 l3 l4 w h hw
    replace ih := fun S l2 l3 l4 w h => ih S l2 l3 l4 w h hw
    rw [f_Almanac_pass_11] at h
    have q : S kr jr = S kr jr := rfl
    rcases ob_i h with ⟨c_14, h⟩ | ⟨c_14, h⟩
    · skip
      exact (w_Almanac_pass_84 P S l3 _ h hw).trans q
    · skip
      rcases ob_i h with ⟨c_24, h⟩ | ⟨c_24, h⟩
      · skip
        exact (w_Almanac_pass_84 P S l3 _ h hw).trans q
      · skip
        obtain ⟨l5_28, e_28, h⟩ := ob_s h
        exact (w_Almanac_pass_30 P (f_Almanac_pass_11 P n) ih FU S l2 l3 l4 l5_28 _ h hw).trans q
set_option maxHeartbeats 4000000 in
theorem w_Almanac_pass  {P : Nat} {S : St} {l2 : Int32} {w : Int32 × St} (h : f_Almanac_pass S P l2 = some w) {kr jr : Nat} (hw : ¬ ((kr = P ∧ (jr = 4 ∨ jr = 5 ∨ jr = 7 ∨ jr = 8 ∨ jr = 9)) ∨ (kr = 40 ∧ (jr = 2 ∨ jr = 3 ∨ jr = 4 ∨ jr = 5 ∨ jr = 6)) ∨ kr = 41 ∨ kr = (P + 3) ∨ kr = (P + 4))) : w.2 kr jr = S kr jr := by
  unfold f_Almanac_pass at h
  have q : S kr jr = S kr jr := rfl
  obtain ⟨v_4, q_4, h⟩ := ob_b h
  obtain ⟨l4_9, e_9, h⟩ := ob_s h
  exact (w_Almanac_pass_11 P FU S l2 v_4 l4_9 _ h hw).trans q
set_option maxHeartbeats 4000000 in
theorem w_Twist_readTimes  {S : St} {w : Int32 × St} (h : f_Twist_readTimes S = some w) {kr jr : Nat} (hw : ¬ ((kr = 3 ∧ (jr = 1)))) : w.2 kr jr = S kr jr := by
  unfold f_Twist_readTimes at h
  have q : S kr jr = S kr jr := rfl
  obtain ⟨v_4, q_4, h⟩ := ob_b h
  rcases ob_i h with ⟨c_11, h⟩ | ⟨c_11, h⟩
  · skip
    cases h
    exact q
  · skip
    rcases ob_i h with ⟨c_17, h⟩ | ⟨c_17, h⟩
    · skip
      obtain ⟨S_32, e_32, h⟩ := ob_s h
      replace q := sF_w e_32 q (Decidable.not_and_iff_or_not.mp (fun z => hw (⟨(z).1, (z).2⟩)))
      cases h
      exact q
    · skip
      cases h
      exact q
set_option maxHeartbeats 4000000 in
theorem w_Twist_readTurn_68 {kr jr : Nat}  (S : St) (w : St) (h : f_Twist_readTurn_68 S = some w) (hw : ¬ ((kr = 3 ∧ (jr = 1 ∨ jr = 2)) ∨ (kr = 42 ∧ (jr = 8)) ∨ kr = 43)) : w kr jr = S kr jr := by
  unfold f_Twist_readTurn_68 at h
  have q : S kr jr = S kr jr := rfl
  obtain ⟨S_75, e_75, h⟩ := ob_s h
  replace q := sF_w e_75 q (Decidable.not_and_iff_or_not.mp (fun z => hw (Or.inr (Or.inl (⟨(z).1, (z).2⟩)))))
  cases h
  exact q
set_option maxHeartbeats 4000000 in
theorem w_Twist_readTurn_67 {kr jr : Nat}  (S : St) (s0 : Int32) (s1 : Int32) (w : St) (h : f_Twist_readTurn_67 S s0 s1 = some w) (hw : ¬ ((kr = 3 ∧ (jr = 1 ∨ jr = 2)) ∨ (kr = 42 ∧ (jr = 8)) ∨ kr = 43)) : w kr jr = S kr jr := by
  unfold f_Twist_readTurn_67 at h
  have q : S kr jr = S kr jr := rfl
  obtain ⟨g_67, h⟩ := ob_g h
  obtain ⟨S_67, e_67, h⟩ := ob_s h
  replace q := sF_w e_67 q (Or.inl (fun z => hw (Or.inr (Or.inr (z)))))
  exact (w_Twist_readTurn_68 S_67 _ h hw).trans q
set_option maxHeartbeats 4000000 in
theorem w_Twist_readTurn  {S : St} {l1 : Int32} {l2 : Int32} {l3 : Int32} {w : St} (h : f_Twist_readTurn S l1 l2 l3 = some w) {kr jr : Nat} (hw : ¬ ((kr = 3 ∧ (jr = 1 ∨ jr = 2)) ∨ (kr = 42 ∧ (jr = 8)) ∨ kr = 43)) : w kr jr = S kr jr := by
  unfold f_Twist_readTurn at h
  have q : S kr jr = S kr jr := rfl
  rcases ob_i h with ⟨c_4, h⟩ | ⟨c_4, h⟩
  · skip
    obtain ⟨S_33, e_33, h⟩ := ob_s h
    replace q := sF_w e_33 q (Decidable.not_and_iff_or_not.mp (fun z => hw (Or.inl (⟨(z).1, Or.inl ((z).2)⟩))))
    rcases ob_i h with ⟨c_42, h⟩ | ⟨c_42, h⟩
    · skip
      exact (w_Twist_readTurn_68 S_33 _ h hw).trans q
    · skip
      rcases ob_i h with ⟨c_54, h⟩ | ⟨c_54, h⟩
      · skip
        exact (w_Twist_readTurn_67 S_33 ((-l1) - 1) (S_33 42 8) _ h hw).trans q
      · skip
        exact (w_Twist_readTurn_67 S_33 (l1 + 1) (S_33 42 8) _ h hw).trans q
  · skip
    obtain ⟨w_19, q_19, h⟩ := ob_b h
    replace q := (w_Reading_fail q_19 (fun z => hw (Or.inl (⟨(z).1, Or.inr ((z).2)⟩)))).trans q
    cases h
    exact q
set_option maxHeartbeats 4000000 in
theorem w_Twist_repeat_92 {kr jr : Nat}  (k_51 : St → Int32 → Int32 → Int32 → Option (St)) (hk_51 : ∀ (S : St) (l4 : Int32) (l5 : Int32) (l6 : Int32) (w : St), k_51 S l4 l5 l6 = some w → w kr jr = S kr jr) (S : St) (l4 : Int32) (l5 : Int32) (l6 : Int32) (w : St) (h : f_Twist_repeat_92 k_51 S l4 l5 l6 = some w) (hw : ¬ ((kr = 3 ∧ (jr = 2)) ∨ (kr = 42 ∧ (jr = 8)) ∨ kr = 43)) : w kr jr = S kr jr := by
  unfold f_Twist_repeat_92 at h
  have q : S kr jr = S kr jr := rfl
  obtain ⟨l6_92, e_92, h⟩ := ob_s h
  exact (hk_51 S l4 l5 l6_92 _ h).trans q
set_option maxHeartbeats 4000000 in
theorem w_Twist_repeat_51 {kr jr : Nat}  : ∀ (n : Nat) (S : St) (l4 : Int32) (l5 : Int32) (l6 : Int32) (w : St), f_Twist_repeat_51 n S l4 l5 l6 = some w → ¬ ((kr = 3 ∧ (jr = 2)) ∨ (kr = 42 ∧ (jr = 8)) ∨ kr = 43) → w kr jr = S kr jr := by
  intro n
  induction n with
  | zero =>
    intro S l4 l5 l6 w h hw
    rw [f_Twist_repeat_51] at h
    cases h
  | succ n ih =>
    intro S l4 l5 l6 w h hw
    replace ih := fun S l4 l5 l6 w h => ih S l4 l5 l6 w h hw
    rw [f_Twist_repeat_51] at h
    have q : S kr jr = S kr jr := rfl
    rcases ob_i h with ⟨c_55, h⟩ | ⟨c_55, h⟩
    · skip
      obtain ⟨S_101, e_101, h⟩ := ob_s h
      replace q := sF_w e_101 q (Decidable.not_and_iff_or_not.mp (fun z => hw (Or.inr (Or.inl (⟨(z).1, (z).2⟩)))))
      cases h
      exact q
    · skip
      rcases ob_i h with ⟨c_62, h⟩ | ⟨c_62, h⟩
      · skip
        exact (w_Twist_repeat_92 (f_Twist_repeat_51 n) ih S l4 l5 l6 _ h hw).trans q
      · skip
        rcases ob_i h with ⟨c_72, h⟩ | ⟨c_72, h⟩
        · skip
          exact (w_Twist_repeat_92 (f_Twist_repeat_51 n) ih S l4 l5 l6 _ h hw).trans q
        · skip
          obtain ⟨g_90, h⟩ := ob_g h
          obtain ⟨g_91, h⟩ := ob_g h
          obtain ⟨S_91, e_91, h⟩ := ob_s h
          replace q := sF_w e_91 q (Or.inl (fun z => hw (Or.inr (Or.inr (z)))))
          exact (w_Twist_repeat_92 (f_Twist_repeat_51 n) ih S_91 l4 l5 l6 _ h hw).trans q
set_option maxHeartbeats 4000000 in
theorem w_Twist_repeat  {S : St} {l1 : Int32} {l2 : Int32} {l3 : Int32} {w : St} (h : f_Twist_repeat S l1 l2 l3 = some w) {kr jr : Nat} (hw : ¬ ((kr = 3 ∧ (jr = 2)) ∨ (kr = 42 ∧ (jr = 8)) ∨ kr = 43)) : w kr jr = S kr jr := by
  unfold f_Twist_repeat at h
  have q : S kr jr = S kr jr := rfl
  obtain ⟨v_4, q_4, h⟩ := ob_b h
  rcases ob_i h with ⟨c_7, h⟩ | ⟨c_7, h⟩
  · skip
    obtain ⟨l4_17, e_17, h⟩ := ob_s h
    obtain ⟨l5_25, e_25, h⟩ := ob_s h
    rcases ob_i h with ⟨c_31, h⟩ | ⟨c_31, h⟩
    · skip
      obtain ⟨l6_49, e_49, h⟩ := ob_s h
      exact (w_Twist_repeat_51 FU S l4_17 l5_25 l6_49 _ h hw).trans q
    · skip
      obtain ⟨w_41, q_41, h⟩ := ob_b h
      replace q := (w_Reading_fail q_41 (fun z => hw (Or.inl (⟨(z).1, (z).2⟩)))).trans q
      cases h
      exact q
  · skip
    cases h
    exact q
set_option maxHeartbeats 4000000 in
theorem w_Twist_openGroup  {S : St} {l1 : Int32} {l2 : Int32} {w : St} (h : f_Twist_openGroup S l1 l2 = some w) {kr jr : Nat} (hw : ¬ ((kr = 3 ∧ (jr = 1 ∨ jr = 2)) ∨ (kr = 42 ∧ (jr = 7)) ∨ kr = 45 ∨ kr = 46 ∨ kr = 47)) : w kr jr = S kr jr := by
  unfold f_Twist_openGroup at h
  have q : S kr jr = S kr jr := rfl
  rcases ob_i h with ⟨c_5, h⟩ | ⟨c_5, h⟩
  · skip
    obtain ⟨g_33, h⟩ := ob_g h
    obtain ⟨S_33, e_33, h⟩ := ob_s h
    replace q := sF_w e_33 q (Or.inl (fun z => hw (Or.inr (Or.inr (Or.inl (z))))))
    obtain ⟨g_43, h⟩ := ob_g h
    obtain ⟨S_43, e_43, h⟩ := ob_s h
    replace q := sF_w e_43 q (Or.inl (fun z => hw (Or.inr (Or.inr (Or.inr (Or.inl (z)))))))
    obtain ⟨g_56, h⟩ := ob_g h
    obtain ⟨S_56, e_56, h⟩ := ob_s h
    replace q := sF_w e_56 q (Or.inl (fun z => hw (Or.inr (Or.inr (Or.inr (Or.inr (z)))))))
    obtain ⟨S_64, e_64, h⟩ := ob_s h
    replace q := sF_w e_64 q (Decidable.not_and_iff_or_not.mp (fun z => hw (Or.inr (Or.inl (⟨(z).1, (z).2⟩)))))
    obtain ⟨S_77, e_77, h⟩ := ob_s h
    replace q := sF_w e_77 q (Decidable.not_and_iff_or_not.mp (fun z => hw (Or.inl (⟨(z).1, Or.inl ((z).2)⟩))))
    cases h
    exact q
  · skip
    obtain ⟨w_20, q_20, h⟩ := ob_b h
    replace q := (w_Reading_fail q_20 (fun z => hw (Or.inl (⟨(z).1, Or.inr ((z).2)⟩)))).trans q
    cases h
    exact q
set_option maxHeartbeats 4000000 in
theorem w_Twist_closeGroup_29 {kr jr : Nat}  (S : St) (w : St) (h : f_Twist_closeGroup_29 S = some w) (hw : ¬ ((kr = 3 ∧ (jr = 1 ∨ jr = 2)) ∨ (kr = 42 ∧ (jr = 7 ∨ jr = 8)) ∨ kr = 43)) : w kr jr = S kr jr := by
  unfold f_Twist_closeGroup_29 at h
  have q : S kr jr = S kr jr := rfl
  obtain ⟨w_41, q_41, h⟩ := ob_b h
  replace q := (w_Reading_fail q_41 (fun z => hw (Or.inl (⟨(z).1, Or.inr ((z).2)⟩)))).trans q
  cases h
  exact q
set_option maxHeartbeats 4000000 in
theorem w_Twist_closeGroup  {S : St} {w : St} (h : f_Twist_closeGroup S = some w) {kr jr : Nat} (hw : ¬ ((kr = 3 ∧ (jr = 1 ∨ jr = 2)) ∨ (kr = 42 ∧ (jr = 7 ∨ jr = 8)) ∨ kr = 43)) : w kr jr = S kr jr := by
  unfold f_Twist_closeGroup at h
  have q : S kr jr = S kr jr := rfl
  obtain ⟨l1_6, e_6, h⟩ := ob_s h
  rcases ob_i h with ⟨c_8, h⟩ | ⟨c_8, h⟩
  · skip
    exact (w_Twist_closeGroup_29 S _ h hw).trans q
  · skip
    rcases ob_i h with ⟨c_13, h⟩ | ⟨c_13, h⟩
    · skip
      exact (w_Twist_closeGroup_29 S _ h hw).trans q
    · skip
      obtain ⟨g_21, h⟩ := ob_g h
      rcases ob_i h with ⟨c_26, h⟩ | ⟨c_26, h⟩
      · skip
        exact (w_Twist_closeGroup_29 S _ h hw).trans q
      · skip
        obtain ⟨S_52, e_52, h⟩ := ob_s h
        replace q := sF_w e_52 q (Decidable.not_and_iff_or_not.mp (fun z => hw (Or.inr (Or.inl (⟨(z).1, Or.inl ((z).2)⟩)))))
        obtain ⟨S_65, e_65, h⟩ := ob_s h
        replace q := sF_w e_65 q (Decidable.not_and_iff_or_not.mp (fun z => hw (Or.inl (⟨(z).1, Or.inl ((z).2)⟩))))
        obtain ⟨g_74, h⟩ := ob_g h
        obtain ⟨g_80, h⟩ := ob_g h
        obtain ⟨g_86, h⟩ := ob_g h
        obtain ⟨w_87, q_87, h⟩ := ob_b h
        replace q := (w_Twist_repeat q_87 (fun z => hw ((z).elim (fun a0 => Or.inl (⟨(a0).1, Or.inr ((a0).2)⟩)) (fun z0 => (z0).elim (fun a1 => Or.inr (Or.inl (⟨(a1).1, Or.inr ((a1).2)⟩))) (fun z1 => Or.inr (Or.inr (z1))))))).trans q
        cases h
        exact q
set_option maxHeartbeats 4000000 in
theorem w_Twist_read_209 {kr jr : Nat}  (k_19 : St → Int32 → Int32 → Option (Int32 × St)) (hk_19 : ∀ (S : St) (l1 : Int32) (l2 : Int32) (w : Int32 × St), k_19 S l1 l2 = some w → w.2 kr jr = S kr jr) (S : St) (l1 : Int32) (l2 : Int32) (w : Int32 × St) (h : f_Twist_read_209 k_19 S l1 l2 = some w) (hw : ¬ ((kr = 3 ∧ (jr = 1 ∨ jr = 2)) ∨ (kr = 42 ∧ (jr = 7 ∨ jr = 8)) ∨ kr = 43 ∨ kr = 45 ∨ kr = 46 ∨ kr = 47)) : w.2 kr jr = S kr jr := by
  unfold f_Twist_read_209 at h
  have q : S kr jr = S kr jr := rfl
  obtain ⟨l2_209, e_209, h⟩ := ob_s h
  exact (hk_19 S l1 l2_209 _ h).trans q
set_option maxHeartbeats 4000000 in
theorem w_Twist_read_122 {kr jr : Nat}  (k_19 : St → Int32 → Int32 → Option (Int32 × St)) (hk_19 : ∀ (S : St) (l1 : Int32) (l2 : Int32) (w : Int32 × St), k_19 S l1 l2 = some w → w.2 kr jr = S kr jr) (S : St) (l1 : Int32) (l2 : Int32) (l3 : Int32) (l4 : Int32) (l6 : Int32) (s0 : Int32) (s1 : Int32) (w : Int32 × St) (h : f_Twist_read_122 k_19 S l1 l2 l3 l4 l6 s0 s1 = some w) (hw : ¬ ((kr = 3 ∧ (jr = 1 ∨ jr = 2)) ∨ (kr = 42 ∧ (jr = 7 ∨ jr = 8)) ∨ kr = 43 ∨ kr = 45 ∨ kr = 46 ∨ kr = 47)) : w.2 kr jr = S kr jr := by
  unfold f_Twist_read_122 at h
  have q : S kr jr = S kr jr := rfl
  obtain ⟨w_126, q_126, h⟩ := ob_b h
  replace q := (w_Twist_readTurn q_126 (fun z => hw ((z).elim (fun a0 => Or.inl (⟨(a0).1, ((a0).2).elim (fun a0 => Or.inl (a0)) (fun z0 => Or.inr (z0))⟩)) (fun z0 => (z0).elim (fun a1 => Or.inr (Or.inl (⟨(a1).1, Or.inr ((a1).2)⟩))) (fun z1 => Or.inr (Or.inr (Or.inl (z1)))))))).trans q
  obtain ⟨w_139, q_139, h⟩ := ob_b h
  replace q := (w_Twist_repeat q_139 (fun z => hw ((z).elim (fun a0 => Or.inl (⟨(a0).1, Or.inr ((a0).2)⟩)) (fun z0 => (z0).elim (fun a1 => Or.inr (Or.inl (⟨(a1).1, Or.inr ((a1).2)⟩))) (fun z1 => Or.inr (Or.inr (Or.inl (z1)))))))).trans q
  exact (w_Twist_read_209 k_19 hk_19 w_139 l1 l2 _ h hw).trans q
set_option maxHeartbeats 4000000 in
theorem w_Twist_read_107 {kr jr : Nat}  (k_19 : St → Int32 → Int32 → Option (Int32 × St)) (hk_19 : ∀ (S : St) (l1 : Int32) (l2 : Int32) (w : Int32 × St), k_19 S l1 l2 = some w → w.2 kr jr = S kr jr) (S : St) (l1 : Int32) (l2 : Int32) (l3 : Int32) (l4 : Int32) (l5 : Int32) (l6 : Int32) (w : Int32 × St) (h : f_Twist_read_107 k_19 S l1 l2 l3 l4 l5 l6 = some w) (hw : ¬ ((kr = 3 ∧ (jr = 1 ∨ jr = 2)) ∨ (kr = 42 ∧ (jr = 7 ∨ jr = 8)) ∨ kr = 43 ∨ kr = 45 ∨ kr = 46 ∨ kr = 47)) : w.2 kr jr = S kr jr := by
  unfold f_Twist_read_107 at h
  have q : S kr jr = S kr jr := rfl
  rcases ob_i h with ⟨c_112, h⟩ | ⟨c_112, h⟩
  · skip
    exact (w_Twist_read_122 k_19 hk_19 S l1 l2 l3 l4 l6 (65 : Int32) l5 _ h hw).trans q
  · skip
    exact (w_Twist_read_122 k_19 hk_19 S l1 l2 l3 l4 l6 (97 : Int32) l5 _ h hw).trans q
set_option maxHeartbeats 4000000 in
theorem w_Twist_read_194 {kr jr : Nat}  (k_19 : St → Int32 → Int32 → Option (Int32 × St)) (hk_19 : ∀ (S : St) (l1 : Int32) (l2 : Int32) (w : Int32 × St), k_19 S l1 l2 = some w → w.2 kr jr = S kr jr) (S : St) (l1 : Int32) (l2 : Int32) (w : Int32 × St) (h : f_Twist_read_194 k_19 S l1 l2 = some w) (hw : ¬ ((kr = 3 ∧ (jr = 1 ∨ jr = 2)) ∨ (kr = 42 ∧ (jr = 7 ∨ jr = 8)) ∨ kr = 43 ∨ kr = 45 ∨ kr = 46 ∨ kr = 47)) : w.2 kr jr = S kr jr := by
  unfold f_Twist_read_194 at h
  have q : S kr jr = S kr jr := rfl
  obtain ⟨w_206, q_206, h⟩ := ob_b h
  replace q := (w_Reading_fail q_206 (fun z => hw (Or.inl (⟨(z).1, Or.inr ((z).2)⟩)))).trans q
  exact (w_Twist_read_209 k_19 hk_19 w_206 l1 l2 _ h hw).trans q
set_option maxHeartbeats 4000000 in
theorem w_Twist_read_95 {kr jr : Nat}  (k_19 : St → Int32 → Int32 → Option (Int32 × St)) (hk_19 : ∀ (S : St) (l1 : Int32) (l2 : Int32) (w : Int32 × St), k_19 S l1 l2 = some w → w.2 kr jr = S kr jr) (S : St) (l1 : Int32) (l2 : Int32) (l3 : Int32) (l4 : Int32) (l5 : Int32) (l6 : Int32) (s0 : Int32) (w : Int32 × St) (h : f_Twist_read_95 k_19 S l1 l2 l3 l4 l5 l6 s0 = some w) (hw : ¬ ((kr = 3 ∧ (jr = 1 ∨ jr = 2)) ∨ (kr = 42 ∧ (jr = 7 ∨ jr = 8)) ∨ kr = 43 ∨ kr = 45 ∨ kr = 46 ∨ kr = 47)) : w.2 kr jr = S kr jr := by
  unfold f_Twist_read_95 at h
  have q : S kr jr = S kr jr := rfl
  rcases ob_i h with ⟨c_99, h⟩ | ⟨c_99, h⟩
  · skip
    rcases ob_i h with ⟨c_104, h⟩ | ⟨c_104, h⟩
    · skip
      rcases ob_i h with ⟨c_149, h⟩ | ⟨c_149, h⟩
      · skip
        obtain ⟨w_156, q_156, h⟩ := ob_b h
        replace q := (w_Twist_openGroup q_156 (fun z => hw ((z).elim (fun a0 => Or.inl (⟨(a0).1, ((a0).2).elim (fun a0 => Or.inl (a0)) (fun z0 => Or.inr (z0))⟩)) (fun z0 => (z0).elim (fun a1 => Or.inr (Or.inl (⟨(a1).1, Or.inl ((a1).2)⟩))) (fun z1 => (z1).elim (fun a2 => Or.inr (Or.inr (Or.inr (Or.inl (a2))))) (fun z2 => (z2).elim (fun a3 => Or.inr (Or.inr (Or.inr (Or.inr (Or.inl (a3)))))) (fun z3 => Or.inr (Or.inr (Or.inr (Or.inr (Or.inr (z3)))))))))))).trans q
        exact (w_Twist_read_209 k_19 hk_19 w_156 l1 l2 _ h hw).trans q
      · skip
        rcases ob_i h with ⟨c_166, h⟩ | ⟨c_166, h⟩
        · skip
          rcases ob_i h with ⟨c_177, h⟩ | ⟨c_177, h⟩
          · skip
            rcases ob_i h with ⟨c_184, h⟩ | ⟨c_184, h⟩
            · skip
              exact (w_Twist_read_194 k_19 hk_19 S l1 l2 _ h hw).trans q
            · skip
              obtain ⟨w_188, q_188, h⟩ := ob_b h
              replace q := (w_Twist_closeGroup q_188 (fun z => hw ((z).elim (fun a0 => Or.inl (⟨(a0).1, ((a0).2).elim (fun a0 => Or.inl (a0)) (fun z0 => Or.inr (z0))⟩)) (fun z0 => (z0).elim (fun a1 => Or.inr (Or.inl (⟨(a1).1, ((a1).2).elim (fun a0 => Or.inl (a0)) (fun z0 => Or.inr (z0))⟩))) (fun z1 => Or.inr (Or.inr (Or.inl (z1)))))))).trans q
              exact (w_Twist_read_209 k_19 hk_19 w_188 l1 l2 _ h hw).trans q
          · skip
            exact (w_Twist_read_194 k_19 hk_19 S l1 l2 _ h hw).trans q
        · skip
          exact (w_Twist_read_194 k_19 hk_19 S l1 l2 _ h hw).trans q
    · skip
      exact (w_Twist_read_107 k_19 hk_19 S l1 l2 l3 l4 l5 l6 _ h hw).trans q
  · skip
    exact (w_Twist_read_107 k_19 hk_19 S l1 l2 l3 l4 l5 l6 _ h hw).trans q
set_option maxHeartbeats 4000000 in
theorem w_Twist_read_94 {kr jr : Nat}  (k_19 : St → Int32 → Int32 → Option (Int32 × St)) (hk_19 : ∀ (S : St) (l1 : Int32) (l2 : Int32) (w : Int32 × St), k_19 S l1 l2 = some w → w.2 kr jr = S kr jr) (S : St) (l1 : Int32) (l2 : Int32) (l3 : Int32) (l4 : Int32) (l5 : Int32) (l6 : Int32) (w : Int32 × St) (h : f_Twist_read_94 k_19 S l1 l2 l3 l4 l5 l6 = some w) (hw : ¬ ((kr = 3 ∧ (jr = 1 ∨ jr = 2)) ∨ (kr = 42 ∧ (jr = 7 ∨ jr = 8)) ∨ kr = 43 ∨ kr = 45 ∨ kr = 46 ∨ kr = 47)) : w.2 kr jr = S kr jr := by
  unfold f_Twist_read_94 at h
  have q : S kr jr = S kr jr := rfl
  exact (w_Twist_read_95 k_19 hk_19 S l1 l2 l3 l4 l5 l6 (0 : Int32) _ h hw).trans q
set_option maxHeartbeats 4000000 in
theorem w_Twist_read_74 {kr jr : Nat}  (k_19 : St → Int32 → Int32 → Option (Int32 × St)) (hk_19 : ∀ (S : St) (l1 : Int32) (l2 : Int32) (w : Int32 × St), k_19 S l1 l2 = some w → w.2 kr jr = S kr jr) (S : St) (l1 : Int32) (l2 : Int32) (l3 : Int32) (l4 : Int32) (l5 : Int32) (s0 : Int32) (w : Int32 × St) (h : f_Twist_read_74 k_19 S l1 l2 l3 l4 l5 s0 = some w) (hw : ¬ ((kr = 3 ∧ (jr = 1 ∨ jr = 2)) ∨ (kr = 42 ∧ (jr = 7 ∨ jr = 8)) ∨ kr = 43 ∨ kr = 45 ∨ kr = 46 ∨ kr = 47)) : w.2 kr jr = S kr jr := by
  unfold f_Twist_read_74 at h
  have q : S kr jr = S kr jr := rfl
  rcases ob_i h with ⟨c_80, h⟩ | ⟨c_80, h⟩
  · skip
    exact (w_Twist_read_94 k_19 hk_19 S l1 l2 l3 l4 l5 s0 _ h hw).trans q
  · skip
    rcases ob_i h with ⟨c_87, h⟩ | ⟨c_87, h⟩
    · skip
      exact (w_Twist_read_94 k_19 hk_19 S l1 l2 l3 l4 l5 s0 _ h hw).trans q
    · skip
      exact (w_Twist_read_95 k_19 hk_19 S l1 l2 l3 l4 l5 s0 (1 : Int32) _ h hw).trans q
set_option maxHeartbeats 4000000 in
theorem w_Twist_read_73 {kr jr : Nat}  (k_19 : St → Int32 → Int32 → Option (Int32 × St)) (hk_19 : ∀ (S : St) (l1 : Int32) (l2 : Int32) (w : Int32 × St), k_19 S l1 l2 = some w → w.2 kr jr = S kr jr) (S : St) (l1 : Int32) (l2 : Int32) (l3 : Int32) (l4 : Int32) (l5 : Int32) (w : Int32 × St) (h : f_Twist_read_73 k_19 S l1 l2 l3 l4 l5 = some w) (hw : ¬ ((kr = 3 ∧ (jr = 1 ∨ jr = 2)) ∨ (kr = 42 ∧ (jr = 7 ∨ jr = 8)) ∨ kr = 43 ∨ kr = 45 ∨ kr = 46 ∨ kr = 47)) : w.2 kr jr = S kr jr := by
  unfold f_Twist_read_73 at h
  have q : S kr jr = S kr jr := rfl
  exact (w_Twist_read_74 k_19 hk_19 S l1 l2 l3 l4 l5 (0 : Int32) _ h hw).trans q
set_option maxHeartbeats 4000000 in
theorem w_Twist_read_215 {kr jr : Nat}  (S : St) (w : Int32 × St) (h : f_Twist_read_215 S = some w) (hw : ¬ ((kr = 3 ∧ (jr = 1 ∨ jr = 2)) ∨ (kr = 42 ∧ (jr = 7 ∨ jr = 8)) ∨ kr = 43 ∨ kr = 45 ∨ kr = 46 ∨ kr = 47)) : w.2 kr jr = S kr jr := by
  unfold f_Twist_read_215 at h
  have q : S kr jr = S kr jr := rfl
  rcases ob_i h with ⟨c_219, h⟩ | ⟨c_219, h⟩
  · skip
    cases h
    exact q
  · skip
    obtain ⟨w_234, q_234, h⟩ := ob_b h
    replace q := (w_Reading_fail q_234 (fun z => hw (Or.inl (⟨(z).1, Or.inr ((z).2)⟩)))).trans q
    cases h
    exact q
set_option maxHeartbeats 4000000 in
theorem w_Twist_read_19 {kr jr : Nat}  : ∀ (n : Nat) (S : St) (l1 : Int32) (l2 : Int32) (w : Int32 × St), f_Twist_read_19 n S l1 l2 = some w → ¬ ((kr = 3 ∧ (jr = 1 ∨ jr = 2)) ∨ (kr = 42 ∧ (jr = 7 ∨ jr = 8)) ∨ kr = 43 ∨ kr = 45 ∨ kr = 46 ∨ kr = 47) → w.2 kr jr = S kr jr := by
  intro n
  induction n with
  | zero =>
    intro S l1 l2 w h hw
    rw [f_Twist_read_19] at h
    cases h
  | succ n ih =>
    intro S l1 l2 w h hw
    replace ih := fun S l1 l2 w h => ih S l1 l2 w h hw
    rw [f_Twist_read_19] at h
    have q : S kr jr = S kr jr := rfl
    rcases ob_i h with ⟨c_22, h⟩ | ⟨c_22, h⟩
    · skip
      exact (w_Twist_read_215 S _ h hw).trans q
    · skip
      obtain ⟨v_26, q_26, h⟩ := ob_b h
      rcases ob_i h with ⟨c_29, h⟩ | ⟨c_29, h⟩
      · skip
        obtain ⟨l3_39, e_39, h⟩ := ob_s h
        obtain ⟨w_41, q_41, h⟩ := ob_b h
        replace q := (w_Twist_readTimes q_41 (fun z => hw (Or.inl (⟨(z).1, Or.inl ((z).2)⟩)))).trans q
        obtain ⟨l4_44, e_44, h⟩ := ob_s h
        obtain ⟨v_50, q_50, h⟩ := ob_b h
        rcases ob_i h with ⟨c_59, h⟩ | ⟨c_59, h⟩
        · skip
          exact (w_Twist_read_73 (f_Twist_read_19 n) ih w_41.2 l1 l2 l3_39 l4_44 v_50 _ h hw).trans q
        · skip
          rcases ob_i h with ⟨c_66, h⟩ | ⟨c_66, h⟩
          · skip
            exact (w_Twist_read_73 (f_Twist_read_19 n) ih w_41.2 l1 l2 l3_39 l4_44 v_50 _ h hw).trans q
          · skip
            exact (w_Twist_read_74 (f_Twist_read_19 n) ih w_41.2 l1 l2 l3_39 l4_44 v_50 (1 : Int32) _ h hw).trans q
      · skip
        exact (w_Twist_read_215 S _ h hw).trans q
set_option maxHeartbeats 4000000 in
theorem w_Twist_read  {S : St} {l1 : Int32} {w : Int32 × St} (h : f_Twist_read S l1 = some w) {kr jr : Nat} (hw : ¬ ((kr = 3 ∧ (jr = 1 ∨ jr = 2)) ∨ (kr = 42 ∧ (jr = 7 ∨ jr = 8)) ∨ kr = 43 ∨ kr = 45 ∨ kr = 46 ∨ kr = 47)) : w.2 kr jr = S kr jr := by
  unfold f_Twist_read at h
  have q : S kr jr = S kr jr := rfl
  obtain ⟨w_4, q_4, h⟩ := ob_b h
  replace q := (w_Reading_begin q_4 (fun z => hw (Or.inl (⟨(z).1, ((z).2).elim (fun a0 => Or.inl (a0)) (fun z0 => Or.inr (z0))⟩)))).trans q
  obtain ⟨S_9, e_9, h⟩ := ob_s h
  replace q := sF_w e_9 q (Decidable.not_and_iff_or_not.mp (fun z => hw (Or.inr (Or.inl (⟨(z).1, Or.inr ((z).2)⟩)))))
  obtain ⟨S_14, e_14, h⟩ := ob_s h
  replace q := sF_w e_14 q (Decidable.not_and_iff_or_not.mp (fun z => hw (Or.inr (Or.inl (⟨(z).1, Or.inl ((z).2)⟩)))))
  obtain ⟨l2_18, e_18, h⟩ := ob_s h
  exact (w_Twist_read_19 FU S_14 l1 l2_18 _ h hw).trans q
set_option maxHeartbeats 4000000 in
theorem w_Twist_turnsLeft_61 {kr jr : Nat}  (k_4 : St → Int32 → Int32 → Option (Int32 × St)) (hk_4 : ∀ (S : St) (l1 : Int32) (l2 : Int32) (w : Int32 × St), k_4 S l1 l2 = some w → w.2 kr jr = S kr jr) (S : St) (l1 : Int32) (l2 : Int32) (w : Int32 × St) (h : f_Twist_turnsLeft_61 k_4 S l1 l2 = some w) (hw : ¬ (kr = 44)) : w.2 kr jr = S kr jr := by
  unfold f_Twist_turnsLeft_61 at h
  have q : S kr jr = S kr jr := rfl
  obtain ⟨l2_61, e_61, h⟩ := ob_s h
  exact (hk_4 S l1 l2_61 _ h).trans q
set_option maxHeartbeats 4000000 in
theorem w_Twist_turnsLeft_46 {kr jr : Nat}  (k_4 : St → Int32 → Int32 → Option (Int32 × St)) (hk_4 : ∀ (S : St) (l1 : Int32) (l2 : Int32) (w : Int32 × St), k_4 S l1 l2 = some w → w.2 kr jr = S kr jr) (S : St) (l1 : Int32) (l2 : Int32) (w : Int32 × St) (h : f_Twist_turnsLeft_46 k_4 S l1 l2 = some w) (hw : ¬ (kr = 44)) : w.2 kr jr = S kr jr := by
  unfold f_Twist_turnsLeft_46 at h
  have q : S kr jr = S kr jr := rfl
  obtain ⟨g_56, h⟩ := ob_g h
  obtain ⟨g_57, h⟩ := ob_g h
  obtain ⟨S_57, e_57, h⟩ := ob_s h
  replace q := sF_w e_57 q (Or.inl (fun z => hw (z)))
  obtain ⟨l1_58, e_58, h⟩ := ob_s h
  exact (w_Twist_turnsLeft_61 k_4 hk_4 S_57 l1_58 l2 _ h hw).trans q
set_option maxHeartbeats 4000000 in
theorem w_Twist_turnsLeft_4 {kr jr : Nat}  : ∀ (n : Nat) (S : St) (l1 : Int32) (l2 : Int32) (w : Int32 × St), f_Twist_turnsLeft_4 n S l1 l2 = some w → ¬ (kr = 44) → w.2 kr jr = S kr jr := by
  intro n
  induction n with
  | zero =>
    intro S l1 l2 w h hw
    rw [f_Twist_turnsLeft_4] at h
    cases h
  | succ n ih =>
    intro S l1 l2 w h hw
    replace ih := fun S l1 l2 w h => ih S l1 l2 w h hw
    rw [f_Twist_turnsLeft_4] at h
    have q : S kr jr = S kr jr := rfl
    rcases ob_i h with ⟨c_9, h⟩ | ⟨c_9, h⟩
    · skip
      cases h
      exact q
    · skip
      rcases ob_i h with ⟨c_15, h⟩ | ⟨c_15, h⟩
      · skip
        cases h
        exact q
      · skip
        rcases ob_i h with ⟨c_19, h⟩ | ⟨c_19, h⟩
        · skip
          exact (w_Twist_turnsLeft_46 (f_Twist_turnsLeft_4 n) ih S l1 l2 _ h hw).trans q
        · skip
          obtain ⟨g_29, h⟩ := ob_g h
          obtain ⟨g_35, h⟩ := ob_g h
          rcases ob_i h with ⟨c_37, h⟩ | ⟨c_37, h⟩
          · skip
            obtain ⟨l1_40, e_40, h⟩ := ob_s h
            exact (w_Twist_turnsLeft_61 (f_Twist_turnsLeft_4 n) ih S l1_40 l2 _ h hw).trans q
          · skip
            exact (w_Twist_turnsLeft_46 (f_Twist_turnsLeft_4 n) ih S l1 l2 _ h hw).trans q
set_option maxHeartbeats 4000000 in
theorem w_Twist_turnsLeft  {S : St} {w : Int32 × St} (h : f_Twist_turnsLeft S = some w) {kr jr : Nat} (hw : ¬ (kr = 44)) : w.2 kr jr = S kr jr := by
  unfold f_Twist_turnsLeft at h
  have q : S kr jr = S kr jr := rfl
  obtain ⟨l1_1, e_1, h⟩ := ob_s h
  obtain ⟨l2_3, e_3, h⟩ := ob_s h
  exact (w_Twist_turnsLeft_4 FU S l1_1 l2_3 _ h hw).trans q
set_option maxHeartbeats 4000000 in
theorem w_Twist_timesTillHome_100 {kr jr : Nat}  (k_30 : St → Int32 → Int32 → Int32 → Option (Int32 × St)) (k_48 : St → Int32 → Int32 → Int32 → Int32 → Option (Int32 × St)) (hk_30 : ∀ (S : St) (l1 : Int32) (l2 : Int32) (l3 : Int32) (w : Int32 × St), k_30 S l1 l2 l3 = some w → w.2 kr jr = S kr jr) (hk_48 : ∀ (S : St) (l1 : Int32) (l2 : Int32) (l3 : Int32) (l4 : Int32) (w : Int32 × St), k_48 S l1 l2 l3 l4 = some w → w.2 kr jr = S kr jr) (S : St) (l1 : Int32) (l2 : Int32) (l4 : Int32) (s0 : Int32) (w : Int32 × St) (h : f_Twist_timesTillHome_100 k_30 k_48 S l1 l2 l4 s0 = some w) (hw : ¬ (kr = 48)) : w.2 kr jr = S kr jr := by
  unfold f_Twist_timesTillHome_100 at h
  have q : S kr jr = S kr jr := rfl
  obtain ⟨l4_101, e_101, h⟩ := ob_s h
  exact (hk_48 S l1 l2 s0 l4_101 _ h).trans q
set_option maxHeartbeats 4000000 in
theorem w_Twist_timesTillHome_99 {kr jr : Nat}  (k_30 : St → Int32 → Int32 → Int32 → Option (Int32 × St)) (k_48 : St → Int32 → Int32 → Int32 → Int32 → Option (Int32 × St)) (hk_30 : ∀ (S : St) (l1 : Int32) (l2 : Int32) (l3 : Int32) (w : Int32 × St), k_30 S l1 l2 l3 = some w → w.2 kr jr = S kr jr) (hk_48 : ∀ (S : St) (l1 : Int32) (l2 : Int32) (l3 : Int32) (l4 : Int32) (w : Int32 × St), k_48 S l1 l2 l3 l4 = some w → w.2 kr jr = S kr jr) (S : St) (l1 : Int32) (l2 : Int32) (l4 : Int32) (w : Int32 × St) (h : f_Twist_timesTillHome_99 k_30 k_48 S l1 l2 l4 = some w) (hw : ¬ (kr = 48)) : w.2 kr jr = S kr jr := by
  unfold f_Twist_timesTillHome_99 at h
  have q : S kr jr = S kr jr := rfl
  exact (w_Twist_timesTillHome_100 k_30 k_48 hk_30 hk_48 S l1 l2 l4 (0 : Int32) _ h hw).trans q
set_option maxHeartbeats 4000000 in
theorem w_Twist_timesTillHome_107 {kr jr : Nat}  (k_30 : St → Int32 → Int32 → Int32 → Option (Int32 × St)) (hk_30 : ∀ (S : St) (l1 : Int32) (l2 : Int32) (l3 : Int32) (w : Int32 × St), k_30 S l1 l2 l3 = some w → w.2 kr jr = S kr jr) (S : St) (l1 : Int32) (l2 : Int32) (l3 : Int32) (w : Int32 × St) (h : f_Twist_timesTillHome_107 k_30 S l1 l2 l3 = some w) (hw : ¬ (kr = 48)) : w.2 kr jr = S kr jr := by
  unfold f_Twist_timesTillHome_107 at h
  have q : S kr jr = S kr jr := rfl
  exact (hk_30 S l1 l2 l3 _ h).trans q
set_option maxHeartbeats 4000000 in
theorem w_Twist_timesTillHome_48 {kr jr : Nat}  (k_30 : St → Int32 → Int32 → Int32 → Option (Int32 × St)) (hk_30 : ∀ (S : St) (l1 : Int32) (l2 : Int32) (l3 : Int32) (w : Int32 × St), k_30 S l1 l2 l3 = some w → w.2 kr jr = S kr jr) : ∀ (n : Nat) (S : St) (l1 : Int32) (l2 : Int32) (l3 : Int32) (l4 : Int32) (w : Int32 × St), f_Twist_timesTillHome_48 k_30 n S l1 l2 l3 l4 = some w → ¬ (kr = 48) → w.2 kr jr = S kr jr := by
  intro n
  induction n with
  | zero =>
    intro S l1 l2 l3 l4 w h hw
    rw [f_Twist_timesTillHome_48] at h
    cases h
  | succ n ih =>
    intro S l1 l2 l3 l4 w h hw
    replace ih := fun S l1 l2 l3 l4 w h => ih S l1 l2 l3 l4 w h hw
    rw [f_Twist_timesTillHome_48] at h
    have q : S kr jr = S kr jr := rfl
    rcases ob_i h with ⟨c_51, h⟩ | ⟨c_51, h⟩
    · skip
      exact (w_Twist_timesTillHome_107 k_30 hk_30 S l1 l2 l3 _ h hw).trans q
    · skip
      rcases ob_i h with ⟨c_58, h⟩ | ⟨c_58, h⟩
      · skip
        exact (w_Twist_timesTillHome_107 k_30 hk_30 S l1 l2 l3 _ h hw).trans q
      · skip
        obtain ⟨g_74, h⟩ := ob_g h
        obtain ⟨v_75, q_75, h⟩ := ob_b h
        obtain ⟨g_78, h⟩ := ob_g h
        obtain ⟨S_78, e_78, h⟩ := ob_s h
        replace q := sF_w e_78 q (Or.inl (fun z => hw (z)))
        rcases ob_i h with ⟨c_80, h⟩ | ⟨c_80, h⟩
        · skip
          exact (w_Twist_timesTillHome_99 k_30 (f_Twist_timesTillHome_48 k_30 n) hk_30 ih S_78 l1 l2 l4 _ h hw).trans q
        · skip
          obtain ⟨g_89, h⟩ := ob_g h
          rcases ob_i h with ⟨c_92, h⟩ | ⟨c_92, h⟩
          · skip
            exact (w_Twist_timesTillHome_100 k_30 (f_Twist_timesTillHome_48 k_30 n) hk_30 ih S_78 l1 l2 l4 (1 : Int32) _ h hw).trans q
          · skip
            exact (w_Twist_timesTillHome_99 k_30 (f_Twist_timesTillHome_48 k_30 n) hk_30 ih S_78 l1 l2 l4 _ h hw).trans q
set_option maxHeartbeats 4000000 in
theorem w_Twist_timesTillHome_30 {kr jr : Nat}  : ∀ (n : Nat) (S : St) (l1 : Int32) (l2 : Int32) (l3 : Int32) (w : Int32 × St), f_Twist_timesTillHome_30 n S l1 l2 l3 = some w → ¬ (kr = 48) → w.2 kr jr = S kr jr := by
  intro n
  induction n with
  | zero =>
    intro S l1 l2 l3 w h hw
    rw [f_Twist_timesTillHome_30] at h
    cases h
  | succ n ih =>
    intro S l1 l2 l3 w h hw
    replace ih := fun S l1 l2 l3 w h => ih S l1 l2 l3 w h hw
    rw [f_Twist_timesTillHome_30] at h
    have q : S kr jr = S kr jr := rfl
    rcases ob_i h with ⟨c_33, h⟩ | ⟨c_33, h⟩
    · skip
      cases h
      exact q
    · skip
      rcases ob_i h with ⟨c_37, h⟩ | ⟨c_37, h⟩
      · skip
        obtain ⟨l2_40, e_40, h⟩ := ob_s h
        obtain ⟨l3_44, e_44, h⟩ := ob_s h
        obtain ⟨l4_46, e_46, h⟩ := ob_s h
        exact (w_Twist_timesTillHome_48 (f_Twist_timesTillHome_30 n) ih FU S l1 l2_40 l3_44 l4_46 _ h hw).trans q
      · skip
        cases h
        exact q
set_option maxHeartbeats 4000000 in
theorem w_Twist_timesTillHome_26 {kr jr : Nat}  (S : St) (l1 : Int32) (w : Int32 × St) (h : f_Twist_timesTillHome_26 S l1 = some w) (hw : ¬ (kr = 48)) : w.2 kr jr = S kr jr := by
  unfold f_Twist_timesTillHome_26 at h
  have q : S kr jr = S kr jr := rfl
  obtain ⟨l2_27, e_27, h⟩ := ob_s h
  obtain ⟨l3_29, e_29, h⟩ := ob_s h
  exact (w_Twist_timesTillHome_30 FU S l1 l2_27 l3_29 _ h hw).trans q
set_option maxHeartbeats 4000000 in
theorem w_Twist_timesTillHome_2 {kr jr : Nat}  : ∀ (n : Nat) (S : St) (l1 : Int32) (l2 : Int32) (w : Int32 × St), f_Twist_timesTillHome_2 n S l1 l2 = some w → ¬ (kr = 48) → w.2 kr jr = S kr jr := by
  intro n
  induction n with
  | zero =>
    intro S l1 l2 w h hw
    rw [f_Twist_timesTillHome_2] at h
    cases h
  | succ n ih =>
    intro S l1 l2 w h hw
    replace ih := fun S l1 l2 w h => ih S l1 l2 w h hw
    rw [f_Twist_timesTillHome_2] at h
    have q : S kr jr = S kr jr := rfl
    rcases ob_i h with ⟨c_4, h⟩ | ⟨c_4, h⟩
    · skip
      exact (w_Twist_timesTillHome_26 S l1 _ h hw).trans q
    · skip
      rcases ob_i h with ⟨c_10, h⟩ | ⟨c_10, h⟩
      · skip
        exact (w_Twist_timesTillHome_26 S l1 _ h hw).trans q
      · skip
        obtain ⟨g_19, h⟩ := ob_g h
        obtain ⟨S_19, e_19, h⟩ := ob_s h
        replace q := sF_w e_19 q (Or.inl (fun z => hw (z)))
        obtain ⟨l2_20, e_20, h⟩ := ob_s h
        exact (ih S_19 l1 l2_20 _ h).trans q
set_option maxHeartbeats 4000000 in
theorem w_Twist_timesTillHome  {S : St} {l1 : Int32} {w : Int32 × St} (h : f_Twist_timesTillHome S l1 = some w) {kr jr : Nat} (hw : ¬ (kr = 48)) : w.2 kr jr = S kr jr := by
  unfold f_Twist_timesTillHome at h
  have q : S kr jr = S kr jr := rfl
  obtain ⟨l2_1, e_1, h⟩ := ob_s h
  exact (w_Twist_timesTillHome_2 FU S l1 l2_1 _ h hw).trans q
set_option maxHeartbeats 4000000 in
theorem w_Waits_read_18 {kr jr : Nat}  : ∀ (n : Nat) (S : St) (l1 : Int32) (l2 : Int32) (w : Int32 × St), f_Waits_read_18 n S l1 l2 = some w → ¬ (kr = 50 ∨ kr = 51) → w.2 kr jr = S kr jr := by
  intro n
  induction n with
  | zero =>
    intro S l1 l2 w h hw
    rw [f_Waits_read_18] at h
    cases h
  | succ n ih =>
    intro S l1 l2 w h hw
    replace ih := fun S l1 l2 w h => ih S l1 l2 w h hw
    rw [f_Waits_read_18] at h
    have q : S kr jr = S kr jr := rfl
    rcases ob_i h with ⟨c_20, h⟩ | ⟨c_20, h⟩
    · skip
      cases h
      exact q
    · skip
      obtain ⟨v_30, q_30, h⟩ := ob_b h
      obtain ⟨v_43, q_43, h⟩ := ob_b h
      obtain ⟨v_52, q_52, h⟩ := ob_b h
      rcases ob_i h with ⟨c_55, h⟩ | ⟨c_55, h⟩
      · skip
        cases h
        exact q
      · skip
        obtain ⟨v_63, q_63, h⟩ := ob_b h
        rcases ob_i h with ⟨c_66, h⟩ | ⟨c_66, h⟩
        · skip
          cases h
          exact q
        · skip
          rcases ob_i h with ⟨c_72, h⟩ | ⟨c_72, h⟩
          · skip
            cases h
            exact q
          · skip
            obtain ⟨g_83, h⟩ := ob_g h
            obtain ⟨g_89, h⟩ := ob_g h
            obtain ⟨S_89, e_89, h⟩ := ob_s h
            replace q := sF_w e_89 q (Or.inl (fun z => hw (Or.inl (z))))
            obtain ⟨l2_90, e_90, h⟩ := ob_s h
            exact (ih S_89 l1 l2_90 _ h).trans q
set_option maxHeartbeats 4000000 in
theorem w_Waits_read  {S : St} {l1 : Int32} {w : Int32 × St} (h : f_Waits_read S l1 = some w) {kr jr : Nat} (hw : ¬ (kr = 50 ∨ kr = 51)) : w.2 kr jr = S kr jr := by
  unfold f_Waits_read at h
  have q : S kr jr = S kr jr := rfl
  obtain ⟨w_5, q_5, h⟩ := ob_b h
  replace q := (w_JA_fillI q_5 (fun z => hw (Or.inl (z)))).trans q
  obtain ⟨w_13, q_13, h⟩ := ob_b h
  replace q := (w_JA_fillI q_13 (fun z => hw (Or.inr (z)))).trans q
  obtain ⟨l2_17, e_17, h⟩ := ob_s h
  exact (w_Waits_read_18 FU w_13 l1 l2_17 _ h hw).trans q
set_option maxHeartbeats 4000000 in
theorem w_Waits_writeRing_41 {kr jr : Nat}  (k_8 : St → Int32 → Int32 → Int32 → Option (St)) (hk_8 : ∀ (S : St) (l3 : Int32) (l4 : Int32) (l5 : Int32) (w : St), k_8 S l3 l4 l5 = some w → w kr jr = S kr jr) (S : St) (l3 : Int32) (l4 : Int32) (l5 : Int32) (w : St) (h : f_Waits_writeRing_41 k_8 S l3 l4 l5 = some w) (hw : ¬ (kr = 53)) : w kr jr = S kr jr := by
  unfold f_Waits_writeRing_41 at h
  have q : S kr jr = S kr jr := rfl
  obtain ⟨g_47, h⟩ := ob_g h
  obtain ⟨l4_48, e_48, h⟩ := ob_s h
  obtain ⟨l5_50, e_50, h⟩ := ob_s h
  exact (hk_8 S l3 l4_48 l5_50 _ h).trans q
set_option maxHeartbeats 4000000 in
theorem w_Waits_writeRing_8 {kr jr : Nat}  : ∀ (n : Nat) (S : St) (l3 : Int32) (l4 : Int32) (l5 : Int32) (w : St), f_Waits_writeRing_8 n S l3 l4 l5 = some w → ¬ (kr = 53) → w kr jr = S kr jr := by
  intro n
  induction n with
  | zero =>
    intro S l3 l4 l5 w h hw
    rw [f_Waits_writeRing_8] at h
    cases h
  | succ n ih =>
    intro S l3 l4 l5 w h hw
    replace ih := fun S l3 l4 l5 w h => ih S l3 l4 l5 w h hw
    rw [f_Waits_writeRing_8] at h
    have q : S kr jr = S kr jr := rfl
    rcases ob_i h with ⟨c_10, h⟩ | ⟨c_10, h⟩
    · skip
      cases h
      exact q
    · skip
      obtain ⟨l6_20, e_20, h⟩ := ob_s h
      rcases ob_i h with ⟨c_29, h⟩ | ⟨c_29, h⟩
      · skip
        exact (w_Waits_writeRing_41 (f_Waits_writeRing_8 n) ih S l3 l4 l5 _ h hw).trans q
      · skip
        obtain ⟨g_40, h⟩ := ob_g h
        obtain ⟨S_40, e_40, h⟩ := ob_s h
        replace q := sF_w e_40 q (Or.inl (fun z => hw (z)))
        exact (w_Waits_writeRing_41 (f_Waits_writeRing_8 n) ih S_40 l3 l4 l5 _ h hw).trans q
set_option maxHeartbeats 4000000 in
theorem w_Waits_writeRing  {S : St} {l1 : Int32} {l2 : Int32} {l3 : Int32} {w : St} (h : f_Waits_writeRing S l1 l2 l3 = some w) {kr jr : Nat} (hw : ¬ (kr = 53)) : w kr jr = S kr jr := by
  unfold f_Waits_writeRing at h
  have q : S kr jr = S kr jr := rfl
  obtain ⟨l5_6, e_6, h⟩ := ob_s h
  exact (w_Waits_writeRing_8 FU S l3 l1 l5_6 _ h hw).trans q
set_option maxHeartbeats 4000000 in
theorem w_Waits_markFrom_23 {kr jr : Nat}  (k_2 : St → Int32 → Int32 → Int32 → Option (St)) (hk_2 : ∀ (S : St) (l1 : Int32) (l2 : Int32) (l3 : Int32) (w : St), k_2 S l1 l2 l3 = some w → w kr jr = S kr jr) (S : St) (l1 : Int32) (l2 : Int32) (l3 : Int32) (w : St) (h : f_Waits_markFrom_23 k_2 S l1 l2 l3 = some w) (hw : ¬ (kr = 52)) : w kr jr = S kr jr := by
  unfold f_Waits_markFrom_23 at h
  have q : S kr jr = S kr jr := rfl
  obtain ⟨l3_23, e_23, h⟩ := ob_s h
  exact (hk_2 S l1 l2 l3_23 _ h).trans q
set_option maxHeartbeats 4000000 in
theorem w_Waits_markFrom_2 {kr jr : Nat}  : ∀ (n : Nat) (S : St) (l1 : Int32) (l2 : Int32) (l3 : Int32) (w : St), f_Waits_markFrom_2 n S l1 l2 l3 = some w → ¬ (kr = 52) → w kr jr = S kr jr := by
  intro n
  induction n with
  | zero =>
    intro S l1 l2 l3 w h hw
    rw [f_Waits_markFrom_2] at h
    cases h
  | succ n ih =>
    intro S l1 l2 l3 w h hw
    replace ih := fun S l1 l2 l3 w h => ih S l1 l2 l3 w h hw
    rw [f_Waits_markFrom_2] at h
    have q : S kr jr = S kr jr := rfl
    rcases ob_i h with ⟨c_5, h⟩ | ⟨c_5, h⟩
    · skip
      cases h
      exact q
    · skip
      rcases ob_i h with ⟨c_13, h⟩ | ⟨c_13, h⟩
      · skip
        exact (w_Waits_markFrom_23 (f_Waits_markFrom_2 n) ih S l1 l2 l3 _ h hw).trans q
      · skip
        obtain ⟨g_22, h⟩ := ob_g h
        obtain ⟨S_22, e_22, h⟩ := ob_s h
        replace q := sF_w e_22 q (Or.inl (fun z => hw (z)))
        exact (w_Waits_markFrom_23 (f_Waits_markFrom_2 n) ih S_22 l1 l2 l3 _ h hw).trans q
set_option maxHeartbeats 4000000 in
theorem w_Waits_markFrom  {S : St} {l1 : Int32} {l2 : Int32} {w : St} (h : f_Waits_markFrom S l1 l2 = some w) {kr jr : Nat} (hw : ¬ (kr = 52)) : w kr jr = S kr jr := by
  unfold f_Waits_markFrom at h
  have q : S kr jr = S kr jr := rfl
  obtain ⟨l3_1, e_1, h⟩ := ob_s h
  exact (w_Waits_markFrom_2 FU S l1 l2 l3_1 _ h hw).trans q
set_option maxHeartbeats 4000000 in
theorem w_Waits_findRingOf_108 {kr jr : Nat}  (k_12 : St → Int32 → Int32 → Int32 → Int32 → Int32 → Int32 → Option (Int32 × St)) (k_29 : St → Int32 → Int32 → Int32 → Int32 → Int32 → Int32 → Int32 → Int32 → Option (Int32 × St)) (hk_12 : ∀ (S : St) (l1 : Int32) (l2 : Int32) (l3 : Int32) (l4 : Int32) (l5 : Int32) (l6 : Int32) (w : Int32 × St), k_12 S l1 l2 l3 l4 l5 l6 = some w → w.2 kr jr = S kr jr) (hk_29 : ∀ (S : St) (l1 : Int32) (l2 : Int32) (l3 : Int32) (l4 : Int32) (l5 : Int32) (l6 : Int32) (l7 : Int32) (l8 : Int32) (w : Int32 × St), k_29 S l1 l2 l3 l4 l5 l6 l7 l8 = some w → w.2 kr jr = S kr jr) (S : St) (l1 : Int32) (l2 : Int32) (l3 : Int32) (l4 : Int32) (l5 : Int32) (l6 : Int32) (l7 : Int32) (l8 : Int32) (w : Int32 × St) (h : f_Waits_findRingOf_108 k_12 k_29 S l1 l2 l3 l4 l5 l6 l7 l8 = some w) (hw : ¬ (kr = 52 ∨ kr = 53)) : w.2 kr jr = S kr jr := by
  unfold f_Waits_findRingOf_108 at h
  have q : S kr jr = S kr jr := rfl
  obtain ⟨l8_108, e_108, h⟩ := ob_s h
  exact (hk_29 S l1 l2 l3 l4 l5 l6 l7 l8_108 _ h).trans q
set_option maxHeartbeats 4000000 in
theorem w_Waits_findRingOf_29 {kr jr : Nat}  (k_12 : St → Int32 → Int32 → Int32 → Int32 → Int32 → Int32 → Option (Int32 × St)) (hk_12 : ∀ (S : St) (l1 : Int32) (l2 : Int32) (l3 : Int32) (l4 : Int32) (l5 : Int32) (l6 : Int32) (w : Int32 × St), k_12 S l1 l2 l3 l4 l5 l6 = some w → w.2 kr jr = S kr jr) : ∀ (n : Nat) (S : St) (l1 : Int32) (l2 : Int32) (l3 : Int32) (l4 : Int32) (l5 : Int32) (l6 : Int32) (l7 : Int32) (l8 : Int32) (w : Int32 × St), f_Waits_findRingOf_29 k_12 n S l1 l2 l3 l4 l5 l6 l7 l8 = some w → ¬ (kr = 52 ∨ kr = 53) → w.2 kr jr = S kr jr := by
  intro n
  induction n with
  | zero =>
    intro S l1 l2 l3 l4 l5 l6 l7 l8 w h hw
    rw [f_Waits_findRingOf_29] at h
    cases h
  | succ n ih =>
    intro S l1 l2 l3 l4 l5 l6 l7 l8 w h hw
    replace ih := fun S l1 l2 l3 l4 l5 l6 l7 l8 w h => ih S l1 l2 l3 l4 l5 l6 l7 l8 w h hw
    rw [f_Waits_findRingOf_29] at h
    have q : S kr jr = S kr jr := rfl
    rcases ob_i h with ⟨c_33, h⟩ | ⟨c_33, h⟩
    · skip
      obtain ⟨l6_118, e_118, h⟩ := ob_s h
      exact (hk_12 S l1 l2 l3 l4 l7 l6_118 _ h).trans q
    · skip
      rcases ob_i h with ⟨c_43, h⟩ | ⟨c_43, h⟩
      · skip
        exact (w_Waits_findRingOf_108 k_12 (f_Waits_findRingOf_29 k_12 n) hk_12 ih S l1 l2 l3 l4 l5 l6 l7 l8 _ h hw).trans q
      · skip
        obtain ⟨g_52, h⟩ := ob_g h
        rcases ob_i h with ⟨c_57, h⟩ | ⟨c_57, h⟩
        · skip
          obtain ⟨g_78, h⟩ := ob_g h
          obtain ⟨l9_84, e_84, h⟩ := ob_s h
          obtain ⟨l4_91, e_91, h⟩ := ob_s h
          obtain ⟨l7_98, e_98, h⟩ := ob_s h
          obtain ⟨w_105, q_105, h⟩ := ob_b h
          replace q := (w_Waits_markFrom q_105 (fun z => hw (Or.inl (z)))).trans q
          exact (w_Waits_findRingOf_108 k_12 (f_Waits_findRingOf_29 k_12 n) hk_12 ih w_105 l1 l2 l3 l4_91 l5 l6 l7_98 l8 _ h hw).trans q
        · skip
          obtain ⟨w_66, q_66, h⟩ := ob_b h
          replace q := (w_Waits_writeRing q_66 (fun z => hw (Or.inr (z)))).trans q
          cases h
          exact q
set_option maxHeartbeats 4000000 in
theorem w_Waits_findRingOf_12 {kr jr : Nat}  : ∀ (n : Nat) (S : St) (l1 : Int32) (l2 : Int32) (l3 : Int32) (l4 : Int32) (l5 : Int32) (l6 : Int32) (w : Int32 × St), f_Waits_findRingOf_12 n S l1 l2 l3 l4 l5 l6 = some w → ¬ (kr = 52 ∨ kr = 53) → w.2 kr jr = S kr jr := by
  intro n
  induction n with
  | zero =>
    intro S l1 l2 l3 l4 l5 l6 w h hw
    rw [f_Waits_findRingOf_12] at h
    cases h
  | succ n ih =>
    intro S l1 l2 l3 l4 l5 l6 w h hw
    replace ih := fun S l1 l2 l3 l4 l5 l6 w h => ih S l1 l2 l3 l4 l5 l6 w h hw
    rw [f_Waits_findRingOf_12] at h
    have q : S kr jr = S kr jr := rfl
    rcases ob_i h with ⟨c_15, h⟩ | ⟨c_15, h⟩
    · skip
      cases h
      exact q
    · skip
      rcases ob_i h with ⟨c_20, h⟩ | ⟨c_20, h⟩
      · skip
        cases h
        exact q
      · skip
        obtain ⟨l7_24, e_24, h⟩ := ob_s h
        obtain ⟨l8_27, e_27, h⟩ := ob_s h
        exact (w_Waits_findRingOf_29 (f_Waits_findRingOf_12 n) ih FU S l1 l2 l3 l4 l5 l6 l7_24 l8_27 _ h hw).trans q
set_option maxHeartbeats 4000000 in
theorem w_Waits_findRingOf  {S : St} {l1 : Int32} {l2 : Int32} {l3 : Int32} {w : Int32 × St} (h : f_Waits_findRingOf S l1 l2 l3 = some w) {kr jr : Nat} (hw : ¬ (kr = 52 ∨ kr = 53)) : w.2 kr jr = S kr jr := by
  unfold f_Waits_findRingOf at h
  have q : S kr jr = S kr jr := rfl
  obtain ⟨l4_3, e_3, h⟩ := ob_s h
  obtain ⟨l6_10, e_10, h⟩ := ob_s h
  exact (w_Waits_findRingOf_12 FU S l1 l2 l3 l4_3 l4_3 l6_10 _ h hw).trans q
set_option maxHeartbeats 4000000 in
theorem w_Waits_findShortestRing_64 {kr jr : Nat}  (k_10 : St → Int32 → Int32 → Int32 → Int32 → Option (Int32 × St)) (hk_10 : ∀ (S : St) (l1 : Int32) (l2 : Int32) (l3 : Int32) (l4 : Int32) (w : Int32 × St), k_10 S l1 l2 l3 l4 = some w → w.2 kr jr = S kr jr) (S : St) (l1 : Int32) (l2 : Int32) (l3 : Int32) (l4 : Int32) (w : Int32 × St) (h : f_Waits_findShortestRing_64 k_10 S l1 l2 l3 l4 = some w) (hw : ¬ (kr = 52 ∨ kr = 53)) : w.2 kr jr = S kr jr := by
  unfold f_Waits_findShortestRing_64 at h
  have q : S kr jr = S kr jr := rfl
  obtain ⟨l4_64, e_64, h⟩ := ob_s h
  exact (hk_10 S l1 l2 l3 l4_64 _ h).trans q
set_option maxHeartbeats 4000000 in
theorem w_Waits_findShortestRing_63 {kr jr : Nat}  (k_10 : St → Int32 → Int32 → Int32 → Int32 → Option (Int32 × St)) (hk_10 : ∀ (S : St) (l1 : Int32) (l2 : Int32) (l3 : Int32) (l4 : Int32) (w : Int32 × St), k_10 S l1 l2 l3 l4 = some w → w.2 kr jr = S kr jr) (S : St) (l1 : Int32) (l3 : Int32) (l4 : Int32) (s0 : Int32) (w : Int32 × St) (h : f_Waits_findShortestRing_63 k_10 S l1 l3 l4 s0 = some w) (hw : ¬ (kr = 52 ∨ kr = 53)) : w.2 kr jr = S kr jr := by
  unfold f_Waits_findShortestRing_63 at h
  have q : S kr jr = S kr jr := rfl
  exact (w_Waits_findShortestRing_64 k_10 hk_10 S l1 s0 l3 l4 _ h hw).trans q
set_option maxHeartbeats 4000000 in
theorem w_Waits_findShortestRing_46 {kr jr : Nat}  (k_10 : St → Int32 → Int32 → Int32 → Int32 → Option (Int32 × St)) (hk_10 : ∀ (S : St) (l1 : Int32) (l2 : Int32) (l3 : Int32) (l4 : Int32) (w : Int32 × St), k_10 S l1 l2 l3 l4 = some w → w.2 kr jr = S kr jr) (S : St) (l1 : Int32) (l2 : Int32) (l3 : Int32) (l4 : Int32) (s0 : Int32) (s1 : Int32) (w : Int32 × St) (h : f_Waits_findShortestRing_46 k_10 S l1 l2 l3 l4 s0 s1 = some w) (hw : ¬ (kr = 52 ∨ kr = 53)) : w.2 kr jr = S kr jr := by
  unfold f_Waits_findShortestRing_46 at h
  have q : S kr jr = S kr jr := rfl
  obtain ⟨w_47, q_47, h⟩ := ob_b h
  replace q := (w_Waits_findRingOf q_47 (fun z => hw ((z).elim (fun a0 => Or.inl (a0)) (fun z0 => Or.inr (z0))))).trans q
  obtain ⟨l5_50, e_50, h⟩ := ob_s h
  rcases ob_i h with ⟨c_54, h⟩ | ⟨c_54, h⟩
  · skip
    exact (w_Waits_findShortestRing_63 k_10 hk_10 w_47.2 l1 l3 l4 l2 _ h hw).trans q
  · skip
    exact (w_Waits_findShortestRing_63 k_10 hk_10 w_47.2 l1 l3 l4 l5_50 _ h hw).trans q
set_option maxHeartbeats 4000000 in
theorem w_Waits_findShortestRing_10 {kr jr : Nat}  : ∀ (n : Nat) (S : St) (l1 : Int32) (l2 : Int32) (l3 : Int32) (l4 : Int32) (w : Int32 × St), f_Waits_findShortestRing_10 n S l1 l2 l3 l4 = some w → ¬ (kr = 52 ∨ kr = 53) → w.2 kr jr = S kr jr := by
  intro n
  induction n with
  | zero =>
    intro S l1 l2 l3 l4 w h hw
    rw [f_Waits_findShortestRing_10] at h
    cases h
  | succ n ih =>
    intro S l1 l2 l3 l4 w h hw
    replace ih := fun S l1 l2 l3 l4 w h => ih S l1 l2 l3 l4 w h hw
    rw [f_Waits_findShortestRing_10] at h
    have q : S kr jr = S kr jr := rfl
    rcases ob_i h with ⟨c_14, h⟩ | ⟨c_14, h⟩
    · skip
      cases h
      exact q
    · skip
      rcases ob_i h with ⟨c_19, h⟩ | ⟨c_19, h⟩
      · skip
        cases h
        exact q
      · skip
        rcases ob_i h with ⟨c_28, h⟩ | ⟨c_28, h⟩
        · skip
          exact (w_Waits_findShortestRing_64 (f_Waits_findShortestRing_10 n) ih S l1 l2 l3 l4 _ h hw).trans q
        · skip
          rcases ob_i h with ⟨c_35, h⟩ | ⟨c_35, h⟩
          · skip
            exact (w_Waits_findShortestRing_46 (f_Waits_findShortestRing_10 n) ih S l1 l2 l3 l4 (16 : Int32) l4 _ h hw).trans q
          · skip
            exact (w_Waits_findShortestRing_46 (f_Waits_findShortestRing_10 n) ih S l1 l2 l3 l4 (l2 - 1) l4 _ h hw).trans q
set_option maxHeartbeats 4000000 in
theorem w_Waits_findShortestRing  {S : St} {l1 : Int32} {w : Int32 × St} (h : f_Waits_findShortestRing S l1 = some w) {kr jr : Nat} (hw : ¬ (kr = 52 ∨ kr = 53)) : w.2 kr jr = S kr jr := by
  unfold f_Waits_findShortestRing at h
  have q : S kr jr = S kr jr := rfl
  obtain ⟨l2_1, e_1, h⟩ := ob_s h
  obtain ⟨v_3, q_3, h⟩ := ob_b h
  obtain ⟨l4_8, e_8, h⟩ := ob_s h
  exact (w_Waits_findShortestRing_10 FU S l1 l2_1 v_3 l4_8 _ h hw).trans q
set_option maxHeartbeats 4000000 in
theorem w_Shore_fillView_61 {kr jr : Nat}  (k_10 : St → Int32 → Int32 → Option (St)) (k_23 : St → Int32 → Int32 → Int32 → Option (St)) (hk_10 : ∀ (S : St) (l1 : Int32) (l2 : Int32) (w : St), k_10 S l1 l2 = some w → w kr jr = S kr jr) (hk_23 : ∀ (S : St) (l1 : Int32) (l2 : Int32) (l3 : Int32) (w : St), k_23 S l1 l2 l3 = some w → w kr jr = S kr jr) (S : St) (l1 : Int32) (l2 : Int32) (l3 : Int32) (w : St) (h : f_Shore_fillView_61 k_10 k_23 S l1 l2 l3 = some w) (hw : ¬ (kr = 55)) : w kr jr = S kr jr := by
  unfold f_Shore_fillView_61 at h
  have q : S kr jr = S kr jr := rfl
  obtain ⟨l3_61, e_61, h⟩ := ob_s h
  exact (hk_23 S l1 l2 l3_61 _ h).trans q
set_option maxHeartbeats 4000000 in
theorem w_Shore_fillView_23 {kr jr : Nat}  (k_10 : St → Int32 → Int32 → Option (St)) (hk_10 : ∀ (S : St) (l1 : Int32) (l2 : Int32) (w : St), k_10 S l1 l2 = some w → w kr jr = S kr jr) : ∀ (n : Nat) (S : St) (l1 : Int32) (l2 : Int32) (l3 : Int32) (w : St), f_Shore_fillView_23 k_10 n S l1 l2 l3 = some w → ¬ (kr = 55) → w kr jr = S kr jr := by
  intro n
  induction n with
  | zero =>
    intro S l1 l2 l3 w h hw
    rw [f_Shore_fillView_23] at h
    cases h
  | succ n ih =>
    intro S l1 l2 l3 w h hw
    replace ih := fun S l1 l2 l3 w h => ih S l1 l2 l3 w h hw
    rw [f_Shore_fillView_23] at h
    have q : S kr jr = S kr jr := rfl
    rcases ob_i h with ⟨c_27, h⟩ | ⟨c_27, h⟩
    · skip
      obtain ⟨l2_67, e_67, h⟩ := ob_s h
      exact (hk_10 S l1 l2_67 _ h).trans q
    · skip
      obtain ⟨v_33, q_33, h⟩ := ob_b h
      rcases ob_i h with ⟨c_36, h⟩ | ⟨c_36, h⟩
      · skip
        exact (w_Shore_fillView_61 k_10 (f_Shore_fillView_23 k_10 n) hk_10 ih S l1 l2 l3 _ h hw).trans q
      · skip
        obtain ⟨g_52, h⟩ := ob_g h
        obtain ⟨g_60, h⟩ := ob_g h
        obtain ⟨S_60, e_60, h⟩ := ob_s h
        replace q := sF_wL e_60 q (fun z => hw (z))
        exact (w_Shore_fillView_61 k_10 (f_Shore_fillView_23 k_10 n) hk_10 ih S_60 l1 l2 l3 _ h hw).trans q
set_option maxHeartbeats 4000000 in
theorem w_Shore_fillView_10 {kr jr : Nat}  : ∀ (n : Nat) (S : St) (l1 : Int32) (l2 : Int32) (w : St), f_Shore_fillView_10 n S l1 l2 = some w → ¬ (kr = 55) → w kr jr = S kr jr := by
  intro n
  induction n with
  | zero =>
    intro S l1 l2 w h hw
    rw [f_Shore_fillView_10] at h
    cases h
  | succ n ih =>
    intro S l1 l2 w h hw
    replace ih := fun S l1 l2 w h => ih S l1 l2 w h hw
    rw [f_Shore_fillView_10] at h
    have q : S kr jr = S kr jr := rfl
    rcases ob_i h with ⟨c_12, h⟩ | ⟨c_12, h⟩
    · skip
      cases h
      exact q
    · skip
      rcases ob_i h with ⟨c_18, h⟩ | ⟨c_18, h⟩
      · skip
        cases h
        exact q
      · skip
        obtain ⟨l3_22, e_22, h⟩ := ob_s h
        exact (w_Shore_fillView_23 (f_Shore_fillView_10 n) ih FU S l1 l2 l3_22 _ h hw).trans q
set_option maxHeartbeats 4000000 in
theorem w_Shore_fillView  {S : St} {l1 : Int32} {w : St} (h : f_Shore_fillView S l1 = some w) {kr jr : Nat} (hw : ¬ (kr = 55)) : w kr jr = S kr jr := by
  unfold f_Shore_fillView at h
  have q : S kr jr = S kr jr := rfl
  obtain ⟨w_5, q_5, h⟩ := ob_b h
  replace q := (w_JA_fillJ q_5 (fun z => hw (z))).trans q
  obtain ⟨l2_9, e_9, h⟩ := ob_s h
  exact (w_Shore_fillView_10 FU w_5 l1 l2_9 _ h hw).trans q
set_option maxHeartbeats 4000000 in
theorem w_Shore_bestLights_53 {kr jr : Nat}  (k_13 : St → Int32 → Int32 → Int32 → Int32 → Int32 → Option (Int32 × St)) (hk_13 : ∀ (S : St) (l1 : Int32) (l2 : Int32) (l3 : Int32) (l4 : Int32) (l5 : Int32) (w : Int32 × St), k_13 S l1 l2 l3 l4 l5 = some w → w.2 kr jr = S kr jr) (S : St) (l1 : Int32) (l2 : Int32) (l3 : Int32) (l4 : Int32) (l5 : Int32) (w : Int32 × St) (h : f_Shore_bestLights_53 k_13 S l1 l2 l3 l4 l5 = some w) (hw : ¬ (kr = 55)) : w.2 kr jr = S kr jr := by
  unfold f_Shore_bestLights_53 at h
  have q : S kr jr = S kr jr := rfl
  obtain ⟨l5_53, e_53, h⟩ := ob_s h
  exact (hk_13 S l1 l2 l3 l4 l5_53 _ h).trans q
set_option maxHeartbeats 4000000 in
theorem w_Shore_bestLights_13 {kr jr : Nat}  : ∀ (n : Nat) (S : St) (l1 : Int32) (l2 : Int32) (l3 : Int32) (l4 : Int32) (l5 : Int32) (w : Int32 × St), f_Shore_bestLights_13 n S l1 l2 l3 l4 l5 = some w → ¬ (kr = 55) → w.2 kr jr = S kr jr := by
  intro n
  induction n with
  | zero =>
    intro S l1 l2 l3 l4 l5 w h hw
    rw [f_Shore_bestLights_13] at h
    cases h
  | succ n ih =>
    intro S l1 l2 l3 l4 l5 w h hw
    replace ih := fun S l1 l2 l3 l4 l5 w h => ih S l1 l2 l3 l4 l5 w h hw
    rw [f_Shore_bestLights_13] at h
    have q : S kr jr = S kr jr := rfl
    rcases ob_i h with ⟨c_18, h⟩ | ⟨c_18, h⟩
    · skip
      cases h
      exact q
    · skip
      obtain ⟨v_23, q_23, h⟩ := ob_b h
      rcases ob_i h with ⟨c_27, h⟩ | ⟨c_27, h⟩
      · skip
        obtain ⟨v_34, q_34, h⟩ := ob_b h
        rcases ob_i h with ⟨c_43, h⟩ | ⟨c_43, h⟩
        · skip
          exact (w_Shore_bestLights_53 (f_Shore_bestLights_13 n) ih S l1 l2 l3 l4 l5 _ h hw).trans q
        · skip
          exact (w_Shore_bestLights_53 (f_Shore_bestLights_13 n) ih S l1 l2 l5 v_34 l5 _ h hw).trans q
      · skip
        exact (w_Shore_bestLights_53 (f_Shore_bestLights_13 n) ih S l1 l2 l3 l4 l5 _ h hw).trans q
set_option maxHeartbeats 4000000 in
theorem w_Shore_bestLights  {S : St} {l1 : Int32} {l2 : Int32} {w : Int32 × St} (h : f_Shore_bestLights S l1 l2 = some w) {kr jr : Nat} (hw : ¬ (kr = 55)) : w.2 kr jr = S kr jr := by
  unfold f_Shore_bestLights at h
  have q : S kr jr = S kr jr := rfl
  obtain ⟨w_2, q_2, h⟩ := ob_b h
  replace q := (w_Shore_fillView q_2 (fun z => hw (z))).trans q
  obtain ⟨l3_6, e_6, h⟩ := ob_s h
  obtain ⟨l4_8, e_8, h⟩ := ob_s h
  obtain ⟨l5_11, e_11, h⟩ := ob_s h
  exact (w_Shore_bestLights_13 FU w_2 l1 l2 l3_6 l4_8 l5_11 _ h hw).trans q
set_option maxHeartbeats 4000000 in
theorem w_W_lit_40 {kr jr : Nat}  (S : St) (l1 : Int32) (l2 : Int32) (w : Int32 × St) (h : f_W_lit_40 S l1 l2 = some w) (hw : ¬ ((kr = 4 ∧ (jr = 4)))) : w.2 kr jr = S kr jr := by
  unfold f_W_lit_40 at h
  have q : S kr jr = S kr jr := rfl
  obtain ⟨w_46, q_46, h⟩ := ob_b h
  replace q := (w_Parish_putLight q_46 (fun z => hw (⟨(z).1, (z).2⟩))).trans q
  cases h
  exact q
set_option maxHeartbeats 4000000 in
theorem w_W_lit  {S : St} {l1 : Int32} {l2 : Int32} {w : Int32 × St} (h : f_W_lit S l1 l2 = some w) {kr jr : Nat} (hw : ¬ ((kr = 4 ∧ (jr = 4)))) : w.2 kr jr = S kr jr := by
  unfold f_W_lit at h
  have q : S kr jr = S kr jr := rfl
  obtain ⟨v_5, q_5, h⟩ := ob_b h
  rcases ob_i h with ⟨c_8, h⟩ | ⟨c_8, h⟩
  · skip
    cases h
    exact q
  · skip
    obtain ⟨v_16, q_16, h⟩ := ob_b h
    rcases ob_i h with ⟨c_19, h⟩ | ⟨c_19, h⟩
    · skip
      rcases ob_i h with ⟨c_23, h⟩ | ⟨c_23, h⟩
      · skip
        exact (w_W_lit_40 S l1 l2 _ h hw).trans q
      · skip
        obtain ⟨g_34, h⟩ := ob_g h
        rcases ob_i h with ⟨c_35, h⟩ | ⟨c_35, h⟩
        · skip
          cases h
          exact q
        · skip
          exact (w_W_lit_40 S l1 l2 _ h hw).trans q
    · skip
      cases h
      exact q
set_option maxHeartbeats 4000000 in
theorem w_W_feed  {S : St} {l1 : Int32} {l2 : Int32} {l3 : Int32} {l4 : Int32} {l5 : Int32} {w : Int32 × St} (h : f_W_feed S l1 l2 l3 l4 l5 = some w) {kr jr : Nat} (hw : ¬ ((kr = 1 ∧ (jr = 2)) ∨ kr = 2)) : w.2 kr jr = S kr jr := by
  unfold f_W_feed at h
  have q : S kr jr = S kr jr := rfl
  obtain ⟨v_4, q_4, h⟩ := ob_b h
  rcases ob_i h with ⟨c_7, h⟩ | ⟨c_7, h⟩
  · skip
    cases h
    exact q
  · skip
    obtain ⟨w_17, q_17, h⟩ := ob_b h
    replace q := (w_Tape_put q_17 (fun z => hw ((z).elim (fun a0 => Or.inl (⟨(a0).1, (a0).2⟩)) (fun z0 => Or.inr (z0))))).trans q
    obtain ⟨w_25, q_25, h⟩ := ob_b h
    replace q := (w_Tape_put q_25 (fun z => hw ((z).elim (fun a0 => Or.inl (⟨(a0).1, (a0).2⟩)) (fun z0 => Or.inr (z0))))).trans q
    obtain ⟨w_33, q_33, h⟩ := ob_b h
    replace q := (w_Tape_put q_33 (fun z => hw ((z).elim (fun a0 => Or.inl (⟨(a0).1, (a0).2⟩)) (fun z0 => Or.inr (z0))))).trans q
    obtain ⟨w_42, q_42, h⟩ := ob_b h
    replace q := (w_Tape_put q_42 (fun z => hw ((z).elim (fun a0 => Or.inl (⟨(a0).1, (a0).2⟩)) (fun z0 => Or.inr (z0))))).trans q
    obtain ⟨w_51, q_51, h⟩ := ob_b h
    replace q := (w_Tape_put q_51 (fun z => hw ((z).elim (fun a0 => Or.inl (⟨(a0).1, (a0).2⟩)) (fun z0 => Or.inr (z0))))).trans q
    cases h
    exact q
set_option maxHeartbeats 4000000 in
theorem w_W_parish  {S : St} {l1 : Int32} {w : Int32 × St} (h : f_W_parish S l1 = some w) {kr jr : Nat} (hw : ¬ ((kr = 1 ∧ (jr = 1 ∨ jr = 2)) ∨ (kr = 3 ∧ (jr = 1 ∨ jr = 2)) ∨ (kr = 4 ∧ (jr = 4 ∨ jr = 5 ∨ jr = 6 ∨ jr = 7 ∨ jr = 8 ∨ jr = 9)) ∨ kr = 5 ∨ kr = 6 ∨ kr = 7 ∨ kr = 8 ∨ (kr = 20 ∧ (jr = 4 ∨ jr = 6)) ∨ kr = 21 ∨ kr = 22 ∨ kr = 23)) : w.2 kr jr = S kr jr := by
  unfold f_W_parish at h
  have q : S kr jr = S kr jr := rfl
  obtain ⟨v_5, q_5, h⟩ := ob_b h
  rcases ob_i h with ⟨c_8, h⟩ | ⟨c_8, h⟩
  · skip
    cases h
    exact q
  · skip
    obtain ⟨w_16, q_16, h⟩ := ob_b h
    replace q := (w_Tape_take q_16 (fun z => hw (Or.inl (⟨(z).1, ((z).2).elim (fun a0 => Or.inl (a0)) (fun z0 => Or.inr (z0))⟩)))).trans q
    rcases ob_i h with ⟨c_19, h⟩ | ⟨c_19, h⟩
    · skip
      cases h
      exact q
    · skip
      obtain ⟨w_28, q_28, h⟩ := ob_b h
      replace q := (w_ParishReader_read q_28 (fun z => hw ((z).elim (fun a0 => Or.inr (Or.inl (⟨(a0).1, ((a0).2).elim (fun a0 => Or.inl (a0)) (fun z0 => Or.inr (z0))⟩))) (fun z0 => (z0).elim (fun a1 => Or.inr (Or.inr (Or.inr (Or.inr (Or.inr (Or.inr (Or.inr (Or.inl (⟨(a1).1, ((a1).2).elim (fun a0 => Or.inl (a0)) (fun z0 => Or.inr (z0))⟩))))))))) (fun z1 => (z1).elim (fun a2 => Or.inr (Or.inr (Or.inr (Or.inr (Or.inr (Or.inr (Or.inr (Or.inr (Or.inl (a2)))))))))) (fun z2 => (z2).elim (fun a3 => Or.inr (Or.inr (Or.inr (Or.inr (Or.inr (Or.inr (Or.inr (Or.inr (Or.inr (Or.inl (a3))))))))))) (fun z3 => Or.inr (Or.inr (Or.inr (Or.inr (Or.inr (Or.inr (Or.inr (Or.inr (Or.inr (Or.inr (z3))))))))))))))))).trans q
      obtain ⟨l2_31, e_31, h⟩ := ob_s h
      rcases ob_i h with ⟨c_33, h⟩ | ⟨c_33, h⟩
      · skip
        obtain ⟨w_49, q_49, h⟩ := ob_b h
        replace q := (w_Parish_beginAs q_49 (fun z => hw ((z).elim (fun a0 => Or.inr (Or.inr (Or.inl (⟨(a0).1, ((a0).2).elim (fun a0 => Or.inl (a0)) (fun z0 => (z0).elim (fun a1 => Or.inr (Or.inl (a1))) (fun z1 => (z1).elim (fun a2 => Or.inr (Or.inr (Or.inl (a2)))) (fun z2 => (z2).elim (fun a3 => Or.inr (Or.inr (Or.inr (Or.inl (a3))))) (fun z3 => (z3).elim (fun a4 => Or.inr (Or.inr (Or.inr (Or.inr (Or.inl (a4)))))) (fun z4 => Or.inr (Or.inr (Or.inr (Or.inr (Or.inr (z4))))))))))⟩)))) (fun z0 => (z0).elim (fun a1 => Or.inr (Or.inr (Or.inr (Or.inl (a1))))) (fun z1 => (z1).elim (fun a2 => Or.inr (Or.inr (Or.inr (Or.inr (Or.inl (a2)))))) (fun z2 => (z2).elim (fun a3 => Or.inr (Or.inr (Or.inr (Or.inr (Or.inr (Or.inl (a3))))))) (fun z3 => Or.inr (Or.inr (Or.inr (Or.inr (Or.inr (Or.inr (Or.inl (z3)))))))))))))).trans q
        cases h
        exact q
      · skip
        cases h
        exact q
set_option maxHeartbeats 4000000 in
theorem w_W_days  {S : St} {l1 : Int32} {w : Int32 × St} (h : f_W_days S l1 = some w) {kr jr : Nat} (hw : ¬ ((kr = 4 ∧ (jr = 4 ∨ jr = 5 ∨ jr = 7 ∨ jr = 8 ∨ jr = 9)) ∨ kr = 7 ∨ kr = 8 ∨ (kr = 40 ∧ (jr = 2 ∨ jr = 3 ∨ jr = 4 ∨ jr = 5 ∨ jr = 6)) ∨ kr = 41)) : w.2 kr jr = S kr jr := by
  unfold f_W_days at h
  have q : S kr jr = S kr jr := rfl
  obtain ⟨v_4, q_4, h⟩ := ob_b h
  rcases ob_i h with ⟨c_7, h⟩ | ⟨c_7, h⟩
  · skip
    cases h
    exact q
  · skip
    obtain ⟨w_21, q_21, h⟩ := ob_b h
    replace q := (w_Almanac_pass q_21 (fun z => hw ((z).elim (fun a0 => Or.inl (⟨(a0).1, ((a0).2).elim (fun a0 => Or.inl (a0)) (fun z0 => (z0).elim (fun a1 => Or.inr (Or.inl (a1))) (fun z1 => (z1).elim (fun a2 => Or.inr (Or.inr (Or.inl (a2)))) (fun z2 => (z2).elim (fun a3 => Or.inr (Or.inr (Or.inr (Or.inl (a3))))) (fun z3 => Or.inr (Or.inr (Or.inr (Or.inr (z3))))))))⟩)) (fun z0 => (z0).elim (fun a1 => Or.inr (Or.inr (Or.inr (Or.inl (⟨(a1).1, ((a1).2).elim (fun a0 => Or.inl (a0)) (fun z0 => (z0).elim (fun a1 => Or.inr (Or.inl (a1))) (fun z1 => (z1).elim (fun a2 => Or.inr (Or.inr (Or.inl (a2)))) (fun z2 => (z2).elim (fun a3 => Or.inr (Or.inr (Or.inr (Or.inl (a3))))) (fun z3 => Or.inr (Or.inr (Or.inr (Or.inr (z3))))))))⟩))))) (fun z1 => (z1).elim (fun a2 => Or.inr (Or.inr (Or.inr (Or.inr (a2))))) (fun z2 => (z2).elim (fun a3 => Or.inr (Or.inl (a3))) (fun z3 => Or.inr (Or.inr (Or.inl (z3)))))))))).trans q
    cases h
    exact q
set_option maxHeartbeats 4000000 in
theorem w_W_tried_59 {kr jr : Nat}  (S : St) (l1 : Int32) (l2 : Int32) (l4 : Int32) (l5 : Int32) (w : Int32 × St) (h : f_W_tried_59 S l1 l2 l4 l5 = some w) (hw : ¬ ((kr = 14 ∧ (jr = 4 ∨ jr = 5 ∨ jr = 6 ∨ jr = 7 ∨ jr = 8 ∨ jr = 9)) ∨ kr = 15 ∨ kr = 16 ∨ kr = 17 ∨ kr = 18 ∨ (kr = 40 ∧ (jr = 2 ∨ jr = 3 ∨ jr = 4 ∨ jr = 5 ∨ jr = 6)) ∨ kr = 41)) : w.2 kr jr = S kr jr := by
  unfold f_W_tried_59 at h
  have q : S kr jr = S kr jr := rfl
  obtain ⟨w_67, q_67, h⟩ := ob_b h
  replace q := (w_Parish_copyFrom q_67 (fun z => hw ((z).elim (fun a0 => Or.inl (⟨(a0).1, ((a0).2).elim (fun a0 => Or.inl (a0)) (fun z0 => (z0).elim (fun a1 => Or.inr (Or.inl (a1))) (fun z1 => (z1).elim (fun a2 => Or.inr (Or.inr (Or.inl (a2)))) (fun z2 => (z2).elim (fun a3 => Or.inr (Or.inr (Or.inr (Or.inl (a3))))) (fun z3 => (z3).elim (fun a4 => Or.inr (Or.inr (Or.inr (Or.inr (Or.inl (a4)))))) (fun z4 => Or.inr (Or.inr (Or.inr (Or.inr (Or.inr (z4))))))))))⟩)) (fun z0 => (z0).elim (fun a1 => Or.inr (Or.inl (a1))) (fun z1 => (z1).elim (fun a2 => Or.inr (Or.inr (Or.inl (a2)))) (fun z2 => (z2).elim (fun a3 => Or.inr (Or.inr (Or.inr (Or.inl (a3))))) (fun z3 => Or.inr (Or.inr (Or.inr (Or.inr (Or.inl (z3)))))))))))).trans q
  obtain ⟨w_79, q_79, h⟩ := ob_b h
  replace q := (w_Almanac_pass q_79 (fun z => hw ((z).elim (fun a0 => Or.inl (⟨(a0).1, ((a0).2).elim (fun a0 => Or.inl (a0)) (fun z0 => (z0).elim (fun a1 => Or.inr (Or.inl (a1))) (fun z1 => (z1).elim (fun a2 => Or.inr (Or.inr (Or.inr (Or.inl (a2))))) (fun z2 => (z2).elim (fun a3 => Or.inr (Or.inr (Or.inr (Or.inr (Or.inl (a3)))))) (fun z3 => Or.inr (Or.inr (Or.inr (Or.inr (Or.inr (z3)))))))))⟩)) (fun z0 => (z0).elim (fun a1 => Or.inr (Or.inr (Or.inr (Or.inr (Or.inr (Or.inl (⟨(a1).1, ((a1).2).elim (fun a0 => Or.inl (a0)) (fun z0 => (z0).elim (fun a1 => Or.inr (Or.inl (a1))) (fun z1 => (z1).elim (fun a2 => Or.inr (Or.inr (Or.inl (a2)))) (fun z2 => (z2).elim (fun a3 => Or.inr (Or.inr (Or.inr (Or.inl (a3))))) (fun z3 => Or.inr (Or.inr (Or.inr (Or.inr (z3))))))))⟩))))))) (fun z1 => (z1).elim (fun a2 => Or.inr (Or.inr (Or.inr (Or.inr (Or.inr (Or.inr (a2))))))) (fun z2 => (z2).elim (fun a3 => Or.inr (Or.inr (Or.inr (Or.inl (a3))))) (fun z3 => Or.inr (Or.inr (Or.inr (Or.inr (Or.inl (z3)))))))))))).trans q
  obtain ⟨l6_82, e_82, h⟩ := ob_s h
  rcases ob_i h with ⟨c_86, h⟩ | ⟨c_86, h⟩
  · skip
    rcases ob_i h with ⟨c_104, h⟩ | ⟨c_104, h⟩
    · skip
      rcases ob_i h with ⟨c_121_0, h⟩ | ⟨c_121_0, h⟩
      · skip
        cases h
        exact q
      rcases ob_i h with ⟨c_121_1, h⟩ | ⟨c_121_1, h⟩
      · skip
        cases h
        exact q
      rcases ob_i h with ⟨c_121_2, h⟩ | ⟨c_121_2, h⟩
      · skip
        cases h
        exact q
      cases h
      exact q
    · skip
      obtain ⟨g_118, h⟩ := ob_g h
      cases h
      exact q
  · skip
    obtain ⟨g_100, h⟩ := ob_g h
    cases h
    exact q
set_option maxHeartbeats 4000000 in
theorem w_W_tried  {S : St} {l1 : Int32} {l2 : Int32} {w : Int32 × St} (h : f_W_tried S l1 l2 = some w) {kr jr : Nat} (hw : ¬ ((kr = 14 ∧ (jr = 4 ∨ jr = 5 ∨ jr = 6 ∨ jr = 7 ∨ jr = 8 ∨ jr = 9)) ∨ kr = 15 ∨ kr = 16 ∨ kr = 17 ∨ kr = 18 ∨ (kr = 40 ∧ (jr = 2 ∨ jr = 3 ∨ jr = 4 ∨ jr = 5 ∨ jr = 6)) ∨ kr = 41)) : w.2 kr jr = S kr jr := by
  unfold f_W_tried at h
  have q : S kr jr = S kr jr := rfl
  obtain ⟨v_3, q_3, h⟩ := ob_b h
  obtain ⟨v_15, q_15, h⟩ := ob_b h
  obtain ⟨v_28, q_28, h⟩ := ob_b h
  obtain ⟨v_37, q_37, h⟩ := ob_b h
  rcases ob_i h with ⟨c_40, h⟩ | ⟨c_40, h⟩
  · skip
    cases h
    exact q
  · skip
    rcases ob_i h with ⟨c_44, h⟩ | ⟨c_44, h⟩
    · skip
      rcases ob_i h with ⟨c_49, h⟩ | ⟨c_49, h⟩
      · skip
        rcases ob_i h with ⟨c_54, h⟩ | ⟨c_54, h⟩
        · skip
          cases h
          exact q
        · skip
          exact (w_W_tried_59 S l1 l2 v_15 v_28 _ h hw).trans q
      · skip
        exact (w_W_tried_59 S l1 l2 v_15 v_28 _ h hw).trans q
    · skip
      exact (w_W_tried_59 S l1 l2 v_15 v_28 _ h hw).trans q
set_option maxHeartbeats 4000000 in
theorem w_W_byWhen_71 {kr jr : Nat}  (S : St) (l1 : Int32) (l3 : Int32) (w : Int32 × St) (h : f_W_byWhen_71 S l1 l3 = some w) (hw : ¬ ((kr = 14 ∧ (jr = 4 ∨ jr = 5 ∨ jr = 6 ∨ jr = 7 ∨ jr = 8 ∨ jr = 9)) ∨ kr = 15 ∨ kr = 16 ∨ kr = 17 ∨ kr = 18 ∨ (kr = 40 ∧ (jr = 2 ∨ jr = 3 ∨ jr = 4 ∨ jr = 5 ∨ jr = 6)) ∨ kr = 41)) : w.2 kr jr = S kr jr := by
  unfold f_W_byWhen_71 at h
  have q : S kr jr = S kr jr := rfl
  obtain ⟨v_76, q_76, h⟩ := ob_b h
  rcases ob_i h with ⟨c_79, h⟩ | ⟨c_79, h⟩
  · skip
    cases h
    exact q
  · skip
    cases h
    exact q
set_option maxHeartbeats 4000000 in
theorem w_W_byWhen_36 {kr jr : Nat}  : ∀ (n : Nat) (S : St) (l1 : Int32) (l2 : Int32) (l3 : Int32) (w : Int32 × St), f_W_byWhen_36 n S l1 l2 l3 = some w → ¬ ((kr = 14 ∧ (jr = 4 ∨ jr = 5 ∨ jr = 6 ∨ jr = 7 ∨ jr = 8 ∨ jr = 9)) ∨ kr = 15 ∨ kr = 16 ∨ kr = 17 ∨ kr = 18 ∨ (kr = 40 ∧ (jr = 2 ∨ jr = 3 ∨ jr = 4 ∨ jr = 5 ∨ jr = 6)) ∨ kr = 41) → w.2 kr jr = S kr jr := by
  intro n
  induction n with
  | zero =>
    intro S l1 l2 l3 w h hw
    rw [f_W_byWhen_36] at h
    cases h
  | succ n ih =>
    intro S l1 l2 l3 w h hw
    replace ih := fun S l1 l2 l3 w h => ih S l1 l2 l3 w h hw
    rw [f_W_byWhen_36] at h
    have q : S kr jr = S kr jr := rfl
    rcases ob_i h with ⟨c_38, h⟩ | ⟨c_38, h⟩
    · skip
      exact (w_W_byWhen_71 S l1 l3 _ h hw).trans q
    · skip
      obtain ⟨v_46, q_46, h⟩ := ob_b h
      rcases ob_i h with ⟨c_49, h⟩ | ⟨c_49, h⟩
      · skip
        obtain ⟨w_61, q_61, h⟩ := ob_b h
        replace q := (w_Almanac_pass q_61 (fun z => hw ((z).elim (fun a0 => Or.inl (⟨(a0).1, ((a0).2).elim (fun a0 => Or.inl (a0)) (fun z0 => (z0).elim (fun a1 => Or.inr (Or.inl (a1))) (fun z1 => (z1).elim (fun a2 => Or.inr (Or.inr (Or.inr (Or.inl (a2))))) (fun z2 => (z2).elim (fun a3 => Or.inr (Or.inr (Or.inr (Or.inr (Or.inl (a3)))))) (fun z3 => Or.inr (Or.inr (Or.inr (Or.inr (Or.inr (z3)))))))))⟩)) (fun z0 => (z0).elim (fun a1 => Or.inr (Or.inr (Or.inr (Or.inr (Or.inr (Or.inl (⟨(a1).1, ((a1).2).elim (fun a0 => Or.inl (a0)) (fun z0 => (z0).elim (fun a1 => Or.inr (Or.inl (a1))) (fun z1 => (z1).elim (fun a2 => Or.inr (Or.inr (Or.inl (a2)))) (fun z2 => (z2).elim (fun a3 => Or.inr (Or.inr (Or.inr (Or.inl (a3))))) (fun z3 => Or.inr (Or.inr (Or.inr (Or.inr (z3))))))))⟩))))))) (fun z1 => (z1).elim (fun a2 => Or.inr (Or.inr (Or.inr (Or.inr (Or.inr (Or.inr (a2))))))) (fun z2 => (z2).elim (fun a3 => Or.inr (Or.inr (Or.inr (Or.inl (a3))))) (fun z3 => Or.inr (Or.inr (Or.inr (Or.inr (Or.inl (z3)))))))))))).trans q
        obtain ⟨l3_65, e_65, h⟩ := ob_s h
        exact (ih w_61.2 l1 l2 l3_65 _ h).trans q
      · skip
        exact (w_W_byWhen_71 S l1 l3 _ h hw).trans q
set_option maxHeartbeats 4000000 in
theorem w_W_byWhen  {S : St} {l1 : Int32} {l2 : Int32} {w : Int32 × St} (h : f_W_byWhen S l1 l2 = some w) {kr jr : Nat} (hw : ¬ ((kr = 14 ∧ (jr = 4 ∨ jr = 5 ∨ jr = 6 ∨ jr = 7 ∨ jr = 8 ∨ jr = 9)) ∨ kr = 15 ∨ kr = 16 ∨ kr = 17 ∨ kr = 18 ∨ (kr = 40 ∧ (jr = 2 ∨ jr = 3 ∨ jr = 4 ∨ jr = 5 ∨ jr = 6)) ∨ kr = 41)) : w.2 kr jr = S kr jr := by
  unfold f_W_byWhen at h
  have q : S kr jr = S kr jr := rfl
  obtain ⟨v_5, q_5, h⟩ := ob_b h
  rcases ob_i h with ⟨c_8, h⟩ | ⟨c_8, h⟩
  · skip
    cases h
    exact q
  · skip
    obtain ⟨v_15, q_15, h⟩ := ob_b h
    rcases ob_i h with ⟨c_18, h⟩ | ⟨c_18, h⟩
    · skip
      cases h
      exact q
    · skip
      obtain ⟨w_31, q_31, h⟩ := ob_b h
      replace q := (w_Parish_copyFrom q_31 (fun z => hw ((z).elim (fun a0 => Or.inl (⟨(a0).1, ((a0).2).elim (fun a0 => Or.inl (a0)) (fun z0 => (z0).elim (fun a1 => Or.inr (Or.inl (a1))) (fun z1 => (z1).elim (fun a2 => Or.inr (Or.inr (Or.inl (a2)))) (fun z2 => (z2).elim (fun a3 => Or.inr (Or.inr (Or.inr (Or.inl (a3))))) (fun z3 => (z3).elim (fun a4 => Or.inr (Or.inr (Or.inr (Or.inr (Or.inl (a4)))))) (fun z4 => Or.inr (Or.inr (Or.inr (Or.inr (Or.inr (z4))))))))))⟩)) (fun z0 => (z0).elim (fun a1 => Or.inr (Or.inl (a1))) (fun z1 => (z1).elim (fun a2 => Or.inr (Or.inr (Or.inl (a2)))) (fun z2 => (z2).elim (fun a3 => Or.inr (Or.inr (Or.inr (Or.inl (a3))))) (fun z3 => Or.inr (Or.inr (Or.inr (Or.inr (Or.inl (z3)))))))))))).trans q
      obtain ⟨l3_35, e_35, h⟩ := ob_s h
      exact (w_W_byWhen_36 FU w_31 l1 l2 l3_35 _ h hw).trans q
set_option maxHeartbeats 4000000 in
theorem w_W_dark_59 {kr jr : Nat}  (S : St) (l2 : Int32) (w : Int32 × St) (h : f_W_dark_59 S l2 = some w) (hw : ¬ ((kr = 14 ∧ (jr = 4 ∨ jr = 5 ∨ jr = 6 ∨ jr = 7 ∨ jr = 8 ∨ jr = 9)) ∨ kr = 15 ∨ kr = 16 ∨ kr = 17 ∨ kr = 18 ∨ (kr = 40 ∧ (jr = 2 ∨ jr = 3 ∨ jr = 4 ∨ jr = 5 ∨ jr = 6)) ∨ kr = 41)) : w.2 kr jr = S kr jr := by
  unfold f_W_dark_59 at h
  have q : S kr jr = S kr jr := rfl
  rcases ob_i h with ⟨c_66, h⟩ | ⟨c_66, h⟩
  · skip
    cases h
    exact q
  · skip
    cases h
    exact q
set_option maxHeartbeats 4000000 in
theorem w_W_dark_25 {kr jr : Nat}  : ∀ (n : Nat) (S : St) (l1 : Int32) (l2 : Int32) (w : Int32 × St), f_W_dark_25 n S l1 l2 = some w → ¬ ((kr = 14 ∧ (jr = 4 ∨ jr = 5 ∨ jr = 6 ∨ jr = 7 ∨ jr = 8 ∨ jr = 9)) ∨ kr = 15 ∨ kr = 16 ∨ kr = 17 ∨ kr = 18 ∨ (kr = 40 ∧ (jr = 2 ∨ jr = 3 ∨ jr = 4 ∨ jr = 5 ∨ jr = 6)) ∨ kr = 41) → w.2 kr jr = S kr jr := by
  intro n
  induction n with
  | zero =>
    intro S l1 l2 w h hw
    rw [f_W_dark_25] at h
    cases h
  | succ n ih =>
    intro S l1 l2 w h hw
    replace ih := fun S l1 l2 w h => ih S l1 l2 w h hw
    rw [f_W_dark_25] at h
    have q : S kr jr = S kr jr := rfl
    rcases ob_i h with ⟨c_27, h⟩ | ⟨c_27, h⟩
    · skip
      exact (w_W_dark_59 S l2 _ h hw).trans q
    · skip
      rcases ob_i h with ⟨c_37, h⟩ | ⟨c_37, h⟩
      · skip
        exact (w_W_dark_59 S l2 _ h hw).trans q
      · skip
        obtain ⟨w_49, q_49, h⟩ := ob_b h
        replace q := (w_Almanac_pass q_49 (fun z => hw ((z).elim (fun a0 => Or.inl (⟨(a0).1, ((a0).2).elim (fun a0 => Or.inl (a0)) (fun z0 => (z0).elim (fun a1 => Or.inr (Or.inl (a1))) (fun z1 => (z1).elim (fun a2 => Or.inr (Or.inr (Or.inr (Or.inl (a2))))) (fun z2 => (z2).elim (fun a3 => Or.inr (Or.inr (Or.inr (Or.inr (Or.inl (a3)))))) (fun z3 => Or.inr (Or.inr (Or.inr (Or.inr (Or.inr (z3)))))))))⟩)) (fun z0 => (z0).elim (fun a1 => Or.inr (Or.inr (Or.inr (Or.inr (Or.inr (Or.inl (⟨(a1).1, ((a1).2).elim (fun a0 => Or.inl (a0)) (fun z0 => (z0).elim (fun a1 => Or.inr (Or.inl (a1))) (fun z1 => (z1).elim (fun a2 => Or.inr (Or.inr (Or.inl (a2)))) (fun z2 => (z2).elim (fun a3 => Or.inr (Or.inr (Or.inr (Or.inl (a3))))) (fun z3 => Or.inr (Or.inr (Or.inr (Or.inr (z3))))))))⟩))))))) (fun z1 => (z1).elim (fun a2 => Or.inr (Or.inr (Or.inr (Or.inr (Or.inr (Or.inr (a2))))))) (fun z2 => (z2).elim (fun a3 => Or.inr (Or.inr (Or.inr (Or.inl (a3))))) (fun z3 => Or.inr (Or.inr (Or.inr (Or.inr (Or.inl (z3)))))))))))).trans q
        obtain ⟨l2_53, e_53, h⟩ := ob_s h
        exact (ih w_49.2 l1 l2_53 _ h).trans q
set_option maxHeartbeats 4000000 in
theorem w_W_dark  {S : St} {l1 : Int32} {w : Int32 × St} (h : f_W_dark S l1 = some w) {kr jr : Nat} (hw : ¬ ((kr = 14 ∧ (jr = 4 ∨ jr = 5 ∨ jr = 6 ∨ jr = 7 ∨ jr = 8 ∨ jr = 9)) ∨ kr = 15 ∨ kr = 16 ∨ kr = 17 ∨ kr = 18 ∨ (kr = 40 ∧ (jr = 2 ∨ jr = 3 ∨ jr = 4 ∨ jr = 5 ∨ jr = 6)) ∨ kr = 41)) : w.2 kr jr = S kr jr := by
  unfold f_W_dark at h
  have q : S kr jr = S kr jr := rfl
  obtain ⟨v_4, q_4, h⟩ := ob_b h
  rcases ob_i h with ⟨c_7, h⟩ | ⟨c_7, h⟩
  · skip
    cases h
    exact q
  · skip
    obtain ⟨w_20, q_20, h⟩ := ob_b h
    replace q := (w_Parish_copyFrom q_20 (fun z => hw ((z).elim (fun a0 => Or.inl (⟨(a0).1, ((a0).2).elim (fun a0 => Or.inl (a0)) (fun z0 => (z0).elim (fun a1 => Or.inr (Or.inl (a1))) (fun z1 => (z1).elim (fun a2 => Or.inr (Or.inr (Or.inl (a2)))) (fun z2 => (z2).elim (fun a3 => Or.inr (Or.inr (Or.inr (Or.inl (a3))))) (fun z3 => (z3).elim (fun a4 => Or.inr (Or.inr (Or.inr (Or.inr (Or.inl (a4)))))) (fun z4 => Or.inr (Or.inr (Or.inr (Or.inr (Or.inr (z4))))))))))⟩)) (fun z0 => (z0).elim (fun a1 => Or.inr (Or.inl (a1))) (fun z1 => (z1).elim (fun a2 => Or.inr (Or.inr (Or.inl (a2)))) (fun z2 => (z2).elim (fun a3 => Or.inr (Or.inr (Or.inr (Or.inl (a3))))) (fun z3 => Or.inr (Or.inr (Or.inr (Or.inr (Or.inl (z3)))))))))))).trans q
    obtain ⟨l2_24, e_24, h⟩ := ob_s h
    exact (w_W_dark_25 FU w_20 l1 l2_24 _ h hw).trans q
set_option maxHeartbeats 4000000 in
theorem w_W_twist_44 {kr jr : Nat}  (S : St) (l1 : Int32) (l2 : Int32) (l3 : Int32) (w : Int32 × St) (h : f_W_twist_44 S l1 l2 l3 = some w) (hw : ¬ ((kr = 1 ∧ (jr = 1 ∨ jr = 2)) ∨ (kr = 3 ∧ (jr = 1 ∨ jr = 2)) ∨ (kr = 42 ∧ (jr = 7 ∨ jr = 8)) ∨ kr = 43 ∨ kr = 44 ∨ kr = 45 ∨ kr = 46 ∨ kr = 47 ∨ kr = 48)) : w.2 kr jr = S kr jr := by
  unfold f_W_twist_44 at h
  have q : S kr jr = S kr jr := rfl
  obtain ⟨w_49, q_49, h⟩ := ob_b h
  replace q := (w_Tape_take q_49 (fun z => hw (Or.inl (⟨(z).1, ((z).2).elim (fun a0 => Or.inl (a0)) (fun z0 => Or.inr (z0))⟩)))).trans q
  rcases ob_i h with ⟨c_52, h⟩ | ⟨c_52, h⟩
  · skip
    cases h
    exact q
  · skip
    obtain ⟨w_62, q_62, h⟩ := ob_b h
    replace q := (w_Twist_read q_62 (fun z => hw ((z).elim (fun a0 => Or.inr (Or.inl (⟨(a0).1, ((a0).2).elim (fun a0 => Or.inl (a0)) (fun z0 => Or.inr (z0))⟩))) (fun z0 => (z0).elim (fun a1 => Or.inr (Or.inr (Or.inl (⟨(a1).1, ((a1).2).elim (fun a0 => Or.inl (a0)) (fun z0 => Or.inr (z0))⟩)))) (fun z1 => (z1).elim (fun a2 => Or.inr (Or.inr (Or.inr (Or.inl (a2))))) (fun z2 => (z2).elim (fun a3 => Or.inr (Or.inr (Or.inr (Or.inr (Or.inr (Or.inl (a3))))))) (fun z3 => (z3).elim (fun a4 => Or.inr (Or.inr (Or.inr (Or.inr (Or.inr (Or.inr (Or.inl (a4)))))))) (fun z4 => Or.inr (Or.inr (Or.inr (Or.inr (Or.inr (Or.inr (Or.inr (Or.inl (z4)))))))))))))))).trans q
    obtain ⟨l4_65, e_65, h⟩ := ob_s h
    rcases ob_i h with ⟨c_69, h⟩ | ⟨c_69, h⟩
    · skip
      rcases ob_i h with ⟨c_76_0, h⟩ | ⟨c_76_0, h⟩
      · skip
        cases h
        exact q
      rcases ob_i h with ⟨c_76_1, h⟩ | ⟨c_76_1, h⟩
      · skip
        obtain ⟨v_120, q_120, h⟩ := ob_b h
        cases h
        exact q
      rcases ob_i h with ⟨c_76_2, h⟩ | ⟨c_76_2, h⟩
      · skip
        obtain ⟨w_128, q_128, h⟩ := ob_b h
        replace q := (w_Twist_turnsLeft q_128 (fun z => hw (Or.inr (Or.inr (Or.inr (Or.inr (Or.inl (z)))))))).trans q
        cases h
        exact q
      rcases ob_i h with ⟨c_76_3, h⟩ | ⟨c_76_3, h⟩
      · skip
        obtain ⟨w_137, q_137, h⟩ := ob_b h
        replace q := (w_Twist_timesTillHome q_137 (fun z => hw (Or.inr (Or.inr (Or.inr (Or.inr (Or.inr (Or.inr (Or.inr (Or.inr (z))))))))))).trans q
        cases h
        exact q
      obtain ⟨v_146, q_146, h⟩ := ob_b h
      cases h
      exact q
    · skip
      cases h
      exact q
set_option maxHeartbeats 4000000 in
theorem w_W_twist  {S : St} {l1 : Int32} {l2 : Int32} {l3 : Int32} {w : Int32 × St} (h : f_W_twist S l1 l2 l3 = some w) {kr jr : Nat} (hw : ¬ ((kr = 1 ∧ (jr = 1 ∨ jr = 2)) ∨ (kr = 3 ∧ (jr = 1 ∨ jr = 2)) ∨ (kr = 42 ∧ (jr = 7 ∨ jr = 8)) ∨ kr = 43 ∨ kr = 44 ∨ kr = 45 ∨ kr = 46 ∨ kr = 47 ∨ kr = 48)) : w.2 kr jr = S kr jr := by
  unfold f_W_twist at h
  have q : S kr jr = S kr jr := rfl
  obtain ⟨v_4, q_4, h⟩ := ob_b h
  rcases ob_i h with ⟨c_7, h⟩ | ⟨c_7, h⟩
  · skip
    cases h
    exact q
  · skip
    obtain ⟨v_14, q_14, h⟩ := ob_b h
    rcases ob_i h with ⟨c_17, h⟩ | ⟨c_17, h⟩
    · skip
      cases h
      exact q
    · skip
      obtain ⟨v_27, q_27, h⟩ := ob_b h
      rcases ob_i h with ⟨c_30, h⟩ | ⟨c_30, h⟩
      · skip
        obtain ⟨v_38, q_38, h⟩ := ob_b h
        rcases ob_i h with ⟨c_41, h⟩ | ⟨c_41, h⟩
        · skip
          cases h
          exact q
        · skip
          exact (w_W_twist_44 S l1 l2 l3 _ h hw).trans q
      · skip
        exact (w_W_twist_44 S l1 l2 l3 _ h hw).trans q
set_option maxHeartbeats 4000000 in
theorem w_W_spun  {S : St} {l1 : Int32} {l2 : Int32} {w : Int32 × St} (h : f_W_spun S l1 l2 = some w) {kr jr : Nat} (hw : ¬ ((kr = 1 ∧ (jr = 1 ∨ jr = 2)))) : w.2 kr jr = S kr jr := by
  unfold f_W_spun at h
  have q : S kr jr = S kr jr := rfl
  obtain ⟨v_4, q_4, h⟩ := ob_b h
  rcases ob_i h with ⟨c_7, h⟩ | ⟨c_7, h⟩
  · skip
    cases h
    exact q
  · skip
    obtain ⟨v_13, q_13, h⟩ := ob_b h
    rcases ob_i h with ⟨c_16, h⟩ | ⟨c_16, h⟩
    · skip
      cases h
      exact q
    · skip
      obtain ⟨w_26, q_26, h⟩ := ob_b h
      replace q := (w_Tape_take q_26 (fun z => hw (⟨(z).1, ((z).2).elim (fun a0 => Or.inl (a0)) (fun z0 => Or.inr (z0))⟩))).trans q
      rcases ob_i h with ⟨c_29, h⟩ | ⟨c_29, h⟩
      · skip
        cases h
        exact q
      · skip
        obtain ⟨v_39, q_39, h⟩ := ob_b h
        rcases ob_i h with ⟨c_44, h⟩ | ⟨c_44, h⟩
        · skip
          obtain ⟨v_53, q_53, h⟩ := ob_b h
          cases h
          exact q
        · skip
          cases h
          exact q
set_option maxHeartbeats 4000000 in
theorem w_W_night  {S : St} {l1 : Int32} {l2 : Int32} {w : Int32 × St} (h : f_W_night S l1 l2 = some w) {kr jr : Nat} (hw : ¬ ((kr = 1 ∧ (jr = 1 ∨ jr = 2)))) : w.2 kr jr = S kr jr := by
  unfold f_W_night at h
  have q : S kr jr = S kr jr := rfl
  obtain ⟨v_4, q_4, h⟩ := ob_b h
  rcases ob_i h with ⟨c_7, h⟩ | ⟨c_7, h⟩
  · skip
    cases h
    exact q
  · skip
    obtain ⟨v_15, q_15, h⟩ := ob_b h
    rcases ob_i h with ⟨c_18, h⟩ | ⟨c_18, h⟩
    · skip
      cases h
      exact q
    · skip
      obtain ⟨w_28, q_28, h⟩ := ob_b h
      replace q := (w_Tape_take q_28 (fun z => hw (⟨(z).1, ((z).2).elim (fun a0 => Or.inl (a0)) (fun z0 => Or.inr (z0))⟩))).trans q
      rcases ob_i h with ⟨c_31, h⟩ | ⟨c_31, h⟩
      · skip
        cases h
        exact q
      · skip
        obtain ⟨v_42, q_42, h⟩ := ob_b h
        cases h
        exact q
set_option maxHeartbeats 4000000 in
theorem w_W_putsOff_68 {kr jr : Nat}  (S : St) (l4 : Int32) (s0 : Int32) (w : Int32 × St) (h : f_W_putsOff_68 S l4 s0 = some w) (hw : ¬ ((kr = 1 ∧ (jr = 1 ∨ jr = 2)))) : w.2 kr jr = S kr jr := by
  unfold f_W_putsOff_68 at h
  have q : S kr jr = S kr jr := rfl
  rcases ob_i h with ⟨c_72, h⟩ | ⟨c_72, h⟩
  · skip
    cases h
    exact q
  · skip
    obtain ⟨v_86, q_86, h⟩ := ob_b h
    cases h
    exact q
set_option maxHeartbeats 4000000 in
theorem w_W_putsOff  {S : St} {l1 : Int32} {l2 : Int32} {l3 : Int32} {l4 : Int32} {w : Int32 × St} (h : f_W_putsOff S l1 l2 l3 l4 = some w) {kr jr : Nat} (hw : ¬ ((kr = 1 ∧ (jr = 1 ∨ jr = 2)))) : w.2 kr jr = S kr jr := by
  unfold f_W_putsOff at h
  have q : S kr jr = S kr jr := rfl
  obtain ⟨v_4, q_4, h⟩ := ob_b h
  rcases ob_i h with ⟨c_7, h⟩ | ⟨c_7, h⟩
  · skip
    cases h
    exact q
  · skip
    obtain ⟨v_14, q_14, h⟩ := ob_b h
    rcases ob_i h with ⟨c_17, h⟩ | ⟨c_17, h⟩
    · skip
      cases h
      exact q
    · skip
      obtain ⟨v_24, q_24, h⟩ := ob_b h
      rcases ob_i h with ⟨c_27, h⟩ | ⟨c_27, h⟩
      · skip
        cases h
        exact q
      · skip
        obtain ⟨w_35, q_35, h⟩ := ob_b h
        replace q := (w_Tape_take q_35 (fun z => hw (⟨(z).1, ((z).2).elim (fun a0 => Or.inl (a0)) (fun z0 => Or.inr (z0))⟩))).trans q
        rcases ob_i h with ⟨c_38, h⟩ | ⟨c_38, h⟩
        · skip
          cases h
          exact q
        · skip
          rcases ob_i h with ⟨c_44, h⟩ | ⟨c_44, h⟩
          · skip
            obtain ⟨v_65, q_65, h⟩ := ob_b h
            exact (w_W_putsOff_68 w_35.2 l4 v_65 _ h hw).trans q
          · skip
            obtain ⟨v_53, q_53, h⟩ := ob_b h
            exact (w_W_putsOff_68 w_35.2 l4 v_53 _ h hw).trans q
set_option maxHeartbeats 4000000 in
theorem w_W_cord  {S : St} {l1 : Int32} {l2 : Int32} {w : Int32 × St} (h : f_W_cord S l1 l2 = some w) {kr jr : Nat} (hw : ¬ ((kr = 1 ∧ (jr = 1 ∨ jr = 2)))) : w.2 kr jr = S kr jr := by
  unfold f_W_cord at h
  have q : S kr jr = S kr jr := rfl
  obtain ⟨v_4, q_4, h⟩ := ob_b h
  rcases ob_i h with ⟨c_7, h⟩ | ⟨c_7, h⟩
  · skip
    cases h
    exact q
  · skip
    obtain ⟨v_14, q_14, h⟩ := ob_b h
    rcases ob_i h with ⟨c_17, h⟩ | ⟨c_17, h⟩
    · skip
      cases h
      exact q
    · skip
      obtain ⟨w_25, q_25, h⟩ := ob_b h
      replace q := (w_Tape_take q_25 (fun z => hw (⟨(z).1, ((z).2).elim (fun a0 => Or.inl (a0)) (fun z0 => Or.inr (z0))⟩))).trans q
      rcases ob_i h with ⟨c_28, h⟩ | ⟨c_28, h⟩
      · skip
        cases h
        exact q
      · skip
        obtain ⟨v_39, q_39, h⟩ := ob_b h
        cases h
        exact q
set_option maxHeartbeats 4000000 in
theorem w_W_seen  {S : St} {l1 : Int32} {l2 : Int32} {l3 : Int32} {w : Int32 × St} (h : f_W_seen S l1 l2 l3 = some w) {kr jr : Nat} (hw : ¬ ((kr = 1 ∧ (jr = 1 ∨ jr = 2)))) : w.2 kr jr = S kr jr := by
  unfold f_W_seen at h
  have q : S kr jr = S kr jr := rfl
  obtain ⟨v_4, q_4, h⟩ := ob_b h
  rcases ob_i h with ⟨c_7, h⟩ | ⟨c_7, h⟩
  · skip
    cases h
    exact q
  · skip
    obtain ⟨v_14, q_14, h⟩ := ob_b h
    rcases ob_i h with ⟨c_17, h⟩ | ⟨c_17, h⟩
    · skip
      cases h
      exact q
    · skip
      obtain ⟨v_23, q_23, h⟩ := ob_b h
      rcases ob_i h with ⟨c_26, h⟩ | ⟨c_26, h⟩
      · skip
        cases h
        exact q
      · skip
        obtain ⟨w_36, q_36, h⟩ := ob_b h
        replace q := (w_Tape_take q_36 (fun z => hw (⟨(z).1, ((z).2).elim (fun a0 => Or.inl (a0)) (fun z0 => Or.inr (z0))⟩))).trans q
        rcases ob_i h with ⟨c_39, h⟩ | ⟨c_39, h⟩
        · skip
          cases h
          exact q
        · skip
          rcases ob_i h with ⟨c_45, h⟩ | ⟨c_45, h⟩
          · skip
            obtain ⟨v_54, q_54, h⟩ := ob_b h
            cases h
            exact q
          · skip
            obtain ⟨v_66, q_66, h⟩ := ob_b h
            cases h
            exact q
set_option maxHeartbeats 4000000 in
theorem w_W_brightest  {S : St} {l1 : Int32} {l2 : Int32} {l3 : Int32} {w : Int32 × St} (h : f_W_brightest S l1 l2 l3 = some w) {kr jr : Nat} (hw : ¬ ((kr = 1 ∧ (jr = 1 ∨ jr = 2)) ∨ kr = 55)) : w.2 kr jr = S kr jr := by
  unfold f_W_brightest at h
  have q : S kr jr = S kr jr := rfl
  obtain ⟨v_4, q_4, h⟩ := ob_b h
  rcases ob_i h with ⟨c_7, h⟩ | ⟨c_7, h⟩
  · skip
    cases h
    exact q
  · skip
    obtain ⟨v_13, q_13, h⟩ := ob_b h
    rcases ob_i h with ⟨c_16, h⟩ | ⟨c_16, h⟩
    · skip
      cases h
      exact q
    · skip
      obtain ⟨v_22, q_22, h⟩ := ob_b h
      rcases ob_i h with ⟨c_25, h⟩ | ⟨c_25, h⟩
      · skip
        cases h
        exact q
      · skip
        obtain ⟨w_35, q_35, h⟩ := ob_b h
        replace q := (w_Tape_take q_35 (fun z => hw (Or.inl (⟨(z).1, ((z).2).elim (fun a0 => Or.inl (a0)) (fun z0 => Or.inr (z0))⟩)))).trans q
        rcases ob_i h with ⟨c_38, h⟩ | ⟨c_38, h⟩
        · skip
          cases h
          exact q
        · skip
          obtain ⟨w_49, q_49, h⟩ := ob_b h
          replace q := (w_Shore_bestLights q_49 (fun z => hw (Or.inr (z)))).trans q
          obtain ⟨l4_52, e_52, h⟩ := ob_s h
          rcases ob_i h with ⟨c_55, h⟩ | ⟨c_55, h⟩
          · skip
            obtain ⟨v_65, q_65, h⟩ := ob_b h
            cases h
            exact q
          · skip
            cases h
            exact q
set_option maxHeartbeats 4000000 in
theorem w_W_halves  {S : St} {l1 : Int32} {l2 : Int32} {w : Int32 × St} (h : f_W_halves S l1 l2 = some w) {kr jr : Nat} (hw : ¬ ((kr = 1 ∧ (jr = 1 ∨ jr = 2)))) : w.2 kr jr = S kr jr := by
  unfold f_W_halves at h
  have q : S kr jr = S kr jr := rfl
  obtain ⟨v_4, q_4, h⟩ := ob_b h
  rcases ob_i h with ⟨c_7, h⟩ | ⟨c_7, h⟩
  · skip
    cases h
    exact q
  · skip
    obtain ⟨v_13, q_13, h⟩ := ob_b h
    rcases ob_i h with ⟨c_16, h⟩ | ⟨c_16, h⟩
    · skip
      cases h
      exact q
    · skip
      obtain ⟨w_24, q_24, h⟩ := ob_b h
      replace q := (w_Tape_take q_24 (fun z => hw (⟨(z).1, ((z).2).elim (fun a0 => Or.inl (a0)) (fun z0 => Or.inr (z0))⟩))).trans q
      rcases ob_i h with ⟨c_27, h⟩ | ⟨c_27, h⟩
      · skip
        cases h
        exact q
      · skip
        obtain ⟨v_37, q_37, h⟩ := ob_b h
        rcases ob_i h with ⟨c_42, h⟩ | ⟨c_42, h⟩
        · skip
          cases h
          exact q
        · skip
          obtain ⟨v_55, q_55, h⟩ := ob_b h
          cases h
          exact q
set_option maxHeartbeats 4000000 in
theorem w_W_forgiven  {S : St} {l1 : Int32} {w : Int32 × St} (h : f_W_forgiven S l1 = some w) {kr jr : Nat} (hw : ¬ ((kr = 1 ∧ (jr = 1 ∨ jr = 2)))) : w.2 kr jr = S kr jr := by
  unfold f_W_forgiven at h
  have q : S kr jr = S kr jr := rfl
  obtain ⟨v_4, q_4, h⟩ := ob_b h
  rcases ob_i h with ⟨c_7, h⟩ | ⟨c_7, h⟩
  · skip
    cases h
    exact q
  · skip
    obtain ⟨w_17, q_17, h⟩ := ob_b h
    replace q := (w_Tape_take q_17 (fun z => hw (⟨(z).1, ((z).2).elim (fun a0 => Or.inl (a0)) (fun z0 => Or.inr (z0))⟩))).trans q
    rcases ob_i h with ⟨c_20, h⟩ | ⟨c_20, h⟩
    · skip
      cases h
      exact q
    · skip
      obtain ⟨v_30, q_30, h⟩ := ob_b h
      cases h
      exact q
set_option maxHeartbeats 4000000 in
theorem w_W_seed  {S : St} {l1 : Int32} {w : Int32 × St} (h : f_W_seed S l1 = some w) {kr jr : Nat} (hw : ¬ ((kr = 4 ∧ (jr = 9)))) : w.2 kr jr = S kr jr := by
  unfold f_W_seed at h
  have q : S kr jr = S kr jr := rfl
  obtain ⟨v_5, q_5, h⟩ := ob_b h
  rcases ob_i h with ⟨c_8, h⟩ | ⟨c_8, h⟩
  · skip
    cases h
    exact q
  · skip
    obtain ⟨S_18, e_18, h⟩ := ob_s h
    replace q := sF_w e_18 q (Decidable.not_and_iff_or_not.mp (fun z => hw (⟨(z).1, (z).2⟩)))
    cases h
    exact q
set_option maxHeartbeats 4000000 in
theorem w_W_keep  {S : St} {w : Int32 × St} (h : f_W_keep S = some w) {kr jr : Nat} (hw : ¬ ((kr = 0 ∧ (jr = 13)) ∨ (kr = 9 ∧ (jr = 4 ∨ jr = 5 ∨ jr = 6 ∨ jr = 7 ∨ jr = 8 ∨ jr = 9)) ∨ kr = 10 ∨ kr = 11 ∨ kr = 12 ∨ kr = 13)) : w.2 kr jr = S kr jr := by
  unfold f_W_keep at h
  have q : S kr jr = S kr jr := rfl
  obtain ⟨w_8, q_8, h⟩ := ob_b h
  replace q := (w_Parish_copyFrom q_8 (fun z => hw ((z).elim (fun a0 => Or.inr (Or.inl (⟨(a0).1, ((a0).2).elim (fun a0 => Or.inl (a0)) (fun z0 => (z0).elim (fun a1 => Or.inr (Or.inl (a1))) (fun z1 => (z1).elim (fun a2 => Or.inr (Or.inr (Or.inl (a2)))) (fun z2 => (z2).elim (fun a3 => Or.inr (Or.inr (Or.inr (Or.inl (a3))))) (fun z3 => (z3).elim (fun a4 => Or.inr (Or.inr (Or.inr (Or.inr (Or.inl (a4)))))) (fun z4 => Or.inr (Or.inr (Or.inr (Or.inr (Or.inr (z4))))))))))⟩))) (fun z0 => (z0).elim (fun a1 => Or.inr (Or.inr (Or.inl (a1)))) (fun z1 => (z1).elim (fun a2 => Or.inr (Or.inr (Or.inr (Or.inl (a2))))) (fun z2 => (z2).elim (fun a3 => Or.inr (Or.inr (Or.inr (Or.inr (Or.inl (a3)))))) (fun z3 => Or.inr (Or.inr (Or.inr (Or.inr (Or.inr (z3)))))))))))).trans q
  obtain ⟨S_13, e_13, h⟩ := ob_s h
  replace q := sF_w e_13 q (Decidable.not_and_iff_or_not.mp (fun z => hw (Or.inl (⟨(z).1, (z).2⟩))))
  cases h
  exact q
set_option maxHeartbeats 4000000 in
theorem w_W_undo  {S : St} {w : Int32 × St} (h : f_W_undo S = some w) {kr jr : Nat} (hw : ¬ ((kr = 4 ∧ (jr = 4 ∨ jr = 5 ∨ jr = 7 ∨ jr = 8 ∨ jr = 9)) ∨ kr = 7 ∨ kr = 8)) : w.2 kr jr = S kr jr := by
  unfold f_W_undo at h
  have q : S kr jr = S kr jr := rfl
  rcases ob_i h with ⟨c_4, h⟩ | ⟨c_4, h⟩
  · skip
    cases h
    exact q
  · skip
    obtain ⟨w_17, q_17, h⟩ := ob_b h
    replace q := (w_Parish_comeBackTo q_17 (fun z => hw ((z).elim (fun a0 => Or.inl (⟨(a0).1, ((a0).2).elim (fun a0 => Or.inl (a0)) (fun z0 => (z0).elim (fun a1 => Or.inr (Or.inl (a1))) (fun z1 => (z1).elim (fun a2 => Or.inr (Or.inr (Or.inl (a2)))) (fun z2 => (z2).elim (fun a3 => Or.inr (Or.inr (Or.inr (Or.inl (a3))))) (fun z3 => Or.inr (Or.inr (Or.inr (Or.inr (z3))))))))⟩)) (fun z0 => (z0).elim (fun a1 => Or.inr (Or.inl (a1))) (fun z1 => Or.inr (Or.inr (z1))))))).trans q
    cases h
    exact q
set_option maxHeartbeats 4000000 in
theorem w_W_check_59 {kr jr : Nat}  (k_26 : St → Int32 → Int32 → Option (Int32 × St)) (hk_26 : ∀ (S : St) (l1 : Int32) (l2 : Int32) (w : Int32 × St), k_26 S l1 l2 = some w → w.2 kr jr = S kr jr) (S : St) (l1 : Int32) (l2 : Int32) (s0 : Int32) (w : Int32 × St) (h : f_W_check_59 k_26 S l1 l2 s0 = some w) (hw : ¬ ((kr = 1 ∧ (jr = 1 ∨ jr = 2)))) : w.2 kr jr = S kr jr := by
  unfold f_W_check_59 at h
  have q : S kr jr = S kr jr := rfl
  obtain ⟨v_65, q_65, h⟩ := ob_b h
  rcases ob_i h with ⟨c_69, h⟩ | ⟨c_69, h⟩
  · skip
    obtain ⟨l2_74, e_74, h⟩ := ob_s h
    exact (hk_26 S l1 l2_74 _ h).trans q
  · skip
    cases h
    exact q
set_option maxHeartbeats 4000000 in
theorem w_W_check_26 {kr jr : Nat}  : ∀ (n : Nat) (S : St) (l1 : Int32) (l2 : Int32) (w : Int32 × St), f_W_check_26 n S l1 l2 = some w → ¬ ((kr = 1 ∧ (jr = 1 ∨ jr = 2))) → w.2 kr jr = S kr jr := by
  intro n
  induction n with
  | zero =>
    intro S l1 l2 w h hw
    rw [f_W_check_26] at h
    cases h
  | succ n ih =>
    intro S l1 l2 w h hw
    replace ih := fun S l1 l2 w h => ih S l1 l2 w h hw
    rw [f_W_check_26] at h
    have q : S kr jr = S kr jr := rfl
    rcases ob_i h with ⟨c_28, h⟩ | ⟨c_28, h⟩
    · skip
      cases h
      exact q
    · skip
      obtain ⟨v_36, q_36, h⟩ := ob_b h
      rcases ob_i h with ⟨c_39, h⟩ | ⟨c_39, h⟩
      · skip
        exact (w_W_check_59 (f_W_check_26 n) ih S l1 l2 (0 : Int32) _ h hw).trans q
      · skip
        obtain ⟨g_50, h⟩ := ob_g h
        exact (w_W_check_59 (f_W_check_26 n) ih S l1 l2 (jrem (S 7 l2.toNatClampNeg) 256) _ h hw).trans q
set_option maxHeartbeats 4000000 in
theorem w_W_check  {S : St} {l1 : Int32} {w : Int32 × St} (h : f_W_check S l1 = some w) {kr jr : Nat} (hw : ¬ ((kr = 1 ∧ (jr = 1 ∨ jr = 2)))) : w.2 kr jr = S kr jr := by
  unfold f_W_check at h
  have q : S kr jr = S kr jr := rfl
  obtain ⟨v_4, q_4, h⟩ := ob_b h
  rcases ob_i h with ⟨c_7, h⟩ | ⟨c_7, h⟩
  · skip
    cases h
    exact q
  · skip
    obtain ⟨w_15, q_15, h⟩ := ob_b h
    replace q := (w_Tape_take q_15 (fun z => hw (⟨(z).1, ((z).2).elim (fun a0 => Or.inl (a0)) (fun z0 => Or.inr (z0))⟩))).trans q
    rcases ob_i h with ⟨c_18, h⟩ | ⟨c_18, h⟩
    · skip
      cases h
      exact q
    · skip
      obtain ⟨l2_25, e_25, h⟩ := ob_s h
      exact (w_W_check_26 FU w_15.2 l1 l2_25 _ h hw).trans q
set_option maxHeartbeats 4000000 in
theorem w_Mo_copies_2 {kr jr : Nat}  (k0 : Nat) (k1 : Nat) : ∀ (n : Nat) (S : St) (l2 : Int32) (w : St), f_Mo_copies_2 k0 k1 n S l2 = some w → ¬ (kr = k1) → w kr jr = S kr jr := by
  intro n
  induction n with
  | zero =>
    intro S l2 w h hw
    rw [f_Mo_copies_2] at h
    cases h
  | succ n ih =>
    intro S l2 w h hw
    replace ih := fun S l2 w h => ih S l2 w h hw
    rw [f_Mo_copies_2] at h
    have q : S kr jr = S kr jr := rfl
    rcases ob_i h with ⟨c_5, h⟩ | ⟨c_5, h⟩
    · skip
      cases h
      exact q
    · skip
      obtain ⟨g_12, h⟩ := ob_g h
      obtain ⟨g_13, h⟩ := ob_g h
      obtain ⟨S_13, e_13, h⟩ := ob_s h
      replace q := sF_w e_13 q (Or.inl (fun z => hw (z)))
      obtain ⟨l2_14, e_14, h⟩ := ob_s h
      exact (ih S_13 l2_14 _ h).trans q
set_option maxHeartbeats 4000000 in
theorem w_Mo_copies  {k0 : Nat} {k1 : Nat} {S : St} {w : St} (h : f_Mo_copies S k0 k1 = some w) {kr jr : Nat} (hw : ¬ (kr = k1)) : w kr jr = S kr jr := by
  unfold f_Mo_copies at h
  have q : S kr jr = S kr jr := rfl
  obtain ⟨l2_1, e_1, h⟩ := ob_s h
  exact (w_Mo_copies_2 k0 k1 FU S l2_1 _ h hw).trans q
set_option maxHeartbeats 4000000 in
theorem w_Mo_lit_42 {kr jr : Nat}  (S : St) (s0 : Int32) (s1 : Int32) (w : Int32 × St) (h : f_Mo_lit_42 S s0 s1 = some w) (hw : ¬ (kr = 1)) : w.2 kr jr = S kr jr := by
  unfold f_Mo_lit_42 at h
  have q : S kr jr = S kr jr := rfl
  obtain ⟨g_42, h⟩ := ob_g h
  obtain ⟨S_42, e_42, h⟩ := ob_s h
  replace q := sF_w e_42 q (Or.inl (fun z => hw (z)))
  cases h
  exact q
set_option maxHeartbeats 4000000 in
theorem w_Mo_lit_25 {kr jr : Nat}  (S : St) (l1 : Int32) (l2 : Int32) (w : Int32 × St) (h : f_Mo_lit_25 S l1 l2 = some w) (hw : ¬ (kr = 1)) : w.2 kr jr = S kr jr := by
  unfold f_Mo_lit_25 at h
  have q : S kr jr = S kr jr := rfl
  rcases ob_i h with ⟨c_34, h⟩ | ⟨c_34, h⟩
  · skip
    exact (w_Mo_lit_42 S (0 : Int32) (24 + l1) _ h hw).trans q
  · skip
    exact (w_Mo_lit_42 S (1 : Int32) (24 + l1) _ h hw).trans q
set_option maxHeartbeats 4000000 in
theorem w_Mo_lit  {S : St} {l1 : Int32} {l2 : Int32} {w : Int32 × St} (h : f_Mo_lit S l1 l2 = some w) {kr jr : Nat} (hw : ¬ (kr = 1)) : w.2 kr jr = S kr jr := by
  unfold f_Mo_lit at h
  have q : S kr jr = S kr jr := rfl
  obtain ⟨v_2, q_2, h⟩ := ob_b h
  rcases ob_i h with ⟨c_5, h⟩ | ⟨c_5, h⟩
  · skip
    cases h
    exact q
  · skip
    rcases ob_i h with ⟨c_9, h⟩ | ⟨c_9, h⟩
    · skip
      exact (w_Mo_lit_25 S l1 l2 _ h hw).trans q
    · skip
      obtain ⟨g_19, h⟩ := ob_g h
      rcases ob_i h with ⟨c_20, h⟩ | ⟨c_20, h⟩
      · skip
        cases h
        exact q
      · skip
        exact (w_Mo_lit_25 S l1 l2 _ h hw).trans q
set_option maxHeartbeats 4000000 in
theorem w_Mo_types_2 {kr jr : Nat}  : ∀ (n : Nat) (S : St) (l1 : Int32) (l2 : Int32) (w : St), f_Mo_types_2 n S l1 l2 = some w → ¬ ((kr = 0 ∧ (jr = 7)) ∨ kr = 6) → w kr jr = S kr jr := by
  intro n
  induction n with
  | zero =>
    intro S l1 l2 w h hw
    rw [f_Mo_types_2] at h
    cases h
  | succ n ih =>
    intro S l1 l2 w h hw
    replace ih := fun S l1 l2 w h => ih S l1 l2 w h hw
    rw [f_Mo_types_2] at h
    have q : S kr jr = S kr jr := rfl
    rcases ob_i h with ⟨c_3, h⟩ | ⟨c_3, h⟩
    · skip
      cases h
      exact q
    · skip
      obtain ⟨g_21, h⟩ := ob_g h
      obtain ⟨S_21, e_21, h⟩ := ob_s h
      replace q := sF_w e_21 q (Or.inl (fun z => hw (Or.inr (z))))
      obtain ⟨S_29, e_29, h⟩ := ob_s h
      replace q := sF_w e_29 q (Decidable.not_and_iff_or_not.mp (fun z => hw (Or.inl (⟨(z).1, (z).2⟩))))
      obtain ⟨l2_32, e_32, h⟩ := ob_s h
      exact (ih S_29 l1 l2_32 _ h).trans q
set_option maxHeartbeats 4000000 in
theorem w_Mo_types  {S : St} {l1 : Int32} {w : St} (h : f_Mo_types S l1 = some w) {kr jr : Nat} (hw : ¬ ((kr = 0 ∧ (jr = 7)) ∨ kr = 6)) : w kr jr = S kr jr := by
  unfold f_Mo_types at h
  have q : S kr jr = S kr jr := rfl
  obtain ⟨l2_1, e_1, h⟩ := ob_s h
  exact (w_Mo_types_2 FU S l1 l2_1 _ h hw).trans q
set_option maxHeartbeats 4000000 in
theorem w_Mo_feed  {S : St} {l1 : Int32} {l2 : Int32} {l3 : Int32} {l4 : Int32} {l5 : Int32} {w : Int32 × St} (h : f_Mo_feed S l1 l2 l3 l4 l5 = some w) {kr jr : Nat} (hw : ¬ ((kr = 0 ∧ (jr = 7)) ∨ kr = 6)) : w.2 kr jr = S kr jr := by
  unfold f_Mo_feed at h
  have q : S kr jr = S kr jr := rfl
  rcases ob_i h with ⟨c_10, h⟩ | ⟨c_10, h⟩
  · skip
    obtain ⟨w_17, q_17, h⟩ := ob_b h
    replace q := (w_Mo_types q_17 (fun z => hw ((z).elim (fun a0 => Or.inl (⟨(a0).1, (a0).2⟩)) (fun z0 => Or.inr (z0))))).trans q
    obtain ⟨w_22, q_22, h⟩ := ob_b h
    replace q := (w_Mo_types q_22 (fun z => hw ((z).elim (fun a0 => Or.inl (⟨(a0).1, (a0).2⟩)) (fun z0 => Or.inr (z0))))).trans q
    obtain ⟨w_27, q_27, h⟩ := ob_b h
    replace q := (w_Mo_types q_27 (fun z => hw ((z).elim (fun a0 => Or.inl (⟨(a0).1, (a0).2⟩)) (fun z0 => Or.inr (z0))))).trans q
    obtain ⟨w_33, q_33, h⟩ := ob_b h
    replace q := (w_Mo_types q_33 (fun z => hw ((z).elim (fun a0 => Or.inl (⟨(a0).1, (a0).2⟩)) (fun z0 => Or.inr (z0))))).trans q
    obtain ⟨w_39, q_39, h⟩ := ob_b h
    replace q := (w_Mo_types q_39 (fun z => hw ((z).elim (fun a0 => Or.inl (⟨(a0).1, (a0).2⟩)) (fun z0 => Or.inr (z0))))).trans q
    cases h
    exact q
  · skip
    cases h
    exact q
set_option maxHeartbeats 4000000 in
theorem w_Mo_wrongAt  {S : St} {l1 : Int32} {l2 : Int32} {w : Int32 × St} (h : f_Mo_wrongAt S l1 l2 = some w) {kr jr : Nat} (hw : ¬ ((kr = 0 ∧ (jr = 10)))) : w.2 kr jr = S kr jr := by
  unfold f_Mo_wrongAt at h
  have q : S kr jr = S kr jr := rfl
  obtain ⟨S_8, e_8, h⟩ := ob_s h
  replace q := sF_w e_8 q (Decidable.not_and_iff_or_not.mp (fun z => hw (⟨(z).1, (z).2⟩)))
  cases h
  exact q
set_option maxHeartbeats 4000000 in
theorem w_Mo_takes  {S : St} {l1 : Int32} {w : Int32 × St} (h : f_Mo_takes S l1 = some w) {kr jr : Nat} (hw : ¬ ((kr = 0 ∧ (jr = 8 ∨ jr = 10)))) : w.2 kr jr = S kr jr := by
  unfold f_Mo_takes at h
  have q : S kr jr = S kr jr := rfl
  obtain ⟨v_1, q_1, h⟩ := ob_b h
  rcases ob_i h with ⟨c_5, h⟩ | ⟨c_5, h⟩
  · skip
    obtain ⟨S_25, e_25, h⟩ := ob_s h
    replace q := sF_w e_25 q (Decidable.not_and_iff_or_not.mp (fun z => hw (⟨(z).1, Or.inl ((z).2)⟩)))
    cases h
    exact q
  · skip
    obtain ⟨w_14, q_14, h⟩ := ob_b h
    replace q := (w_Mo_wrongAt q_14 (fun z => hw (⟨(z).1, Or.inr ((z).2)⟩))).trans q
    obtain ⟨g_17, h⟩ := ob_g h
    cases h
    exact q
set_option maxHeartbeats 4000000 in
theorem w_Mo_readsNumber_10 {kr jr : Nat}  : ∀ (n : Nat) (S : St) (l1 : Int32) (w : Int32 × St), f_Mo_readsNumber_10 n S l1 = some w → ¬ ((kr = 0 ∧ (jr = 8 ∨ jr = 10 ∨ jr = 11))) → w.2 kr jr = S kr jr := by
  intro n
  induction n with
  | zero =>
    intro S l1 w h hw
    rw [f_Mo_readsNumber_10] at h
    cases h
  | succ n ih =>
    intro S l1 w h hw
    replace ih := fun S l1 w h => ih S l1 w h hw
    rw [f_Mo_readsNumber_10] at h
    have q : S kr jr = S kr jr := rfl
    obtain ⟨v_11, q_11, h⟩ := ob_b h
    rcases ob_i h with ⟨c_14, h⟩ | ⟨c_14, h⟩
    · skip
      cases h
      exact q
    · skip
      rcases ob_i h with ⟨c_24, h⟩ | ⟨c_24, h⟩
      · skip
        obtain ⟨w_33, q_33, h⟩ := ob_b h
        replace q := (w_Mo_wrongAt q_33 (fun z => hw (⟨(z).1, Or.inr (Or.inl ((z).2))⟩))).trans q
        obtain ⟨g_36, h⟩ := ob_g h
        cases h
        exact q
      · skip
        obtain ⟨v_46, q_46, h⟩ := ob_b h
        obtain ⟨S_53, e_53, h⟩ := ob_s h
        replace q := sF_w e_53 q (Decidable.not_and_iff_or_not.mp (fun z => hw (⟨(z).1, Or.inr (Or.inr ((z).2))⟩)))
        obtain ⟨S_63, e_63, h⟩ := ob_s h
        replace q := sF_w e_63 q (Decidable.not_and_iff_or_not.mp (fun z => hw (⟨(z).1, Or.inl ((z).2)⟩)))
        exact (ih S_63 l1 _ h).trans q
set_option maxHeartbeats 4000000 in
theorem w_Mo_readsNumber  {S : St} {w : Int32 × St} (h : f_Mo_readsNumber S = some w) {kr jr : Nat} (hw : ¬ ((kr = 0 ∧ (jr = 8 ∨ jr = 10 ∨ jr = 11)))) : w.2 kr jr = S kr jr := by
  unfold f_Mo_readsNumber at h
  have q : S kr jr = S kr jr := rfl
  obtain ⟨l1_4, e_4, h⟩ := ob_s h
  obtain ⟨S_7, e_7, h⟩ := ob_s h
  replace q := sF_w e_7 q (Decidable.not_and_iff_or_not.mp (fun z => hw (⟨(z).1, Or.inr (Or.inr ((z).2))⟩)))
  exact (w_Mo_readsNumber_10 FU S_7 l1_4 _ h hw).trans q
set_option maxHeartbeats 4000000 in
theorem w_Mo_notes  {S : St} {l1 : Int32} {l2 : Int32} {w : St} (h : f_Mo_notes S l1 l2 = some w) {kr jr : Nat} (hw : ¬ ((kr = 0 ∧ (jr = 13)) ∨ kr = 7)) : w kr jr = S kr jr := by
  unfold f_Mo_notes at h
  have q : S kr jr = S kr jr := rfl
  obtain ⟨g_14, h⟩ := ob_g h
  obtain ⟨S_14, e_14, h⟩ := ob_s h
  replace q := sF_w e_14 q (Or.inl (fun z => hw (Or.inr (z))))
  obtain ⟨S_22, e_22, h⟩ := ob_s h
  replace q := sF_w e_22 q (Decidable.not_and_iff_or_not.mp (fun z => hw (Or.inl (⟨(z).1, (z).2⟩))))
  cases h
  exact q
set_option maxHeartbeats 4000000 in
theorem w_Mo_opens  {S : St} {l1 : Int32} {w : Int32 × St} (h : f_Mo_opens S l1 = some w) {kr jr : Nat} (hw : ¬ ((kr = 0 ∧ (jr = 8 ∨ jr = 10 ∨ jr = 12 ∨ jr = 14)) ∨ kr = 8)) : w.2 kr jr = S kr jr := by
  unfold f_Mo_opens at h
  have q : S kr jr = S kr jr := rfl
  rcases ob_i h with ⟨c_6, h⟩ | ⟨c_6, h⟩
  · skip
    obtain ⟨w_15, q_15, h⟩ := ob_b h
    replace q := (w_Mo_wrongAt q_15 (fun z => hw (Or.inl (⟨(z).1, Or.inr (Or.inl ((z).2))⟩)))).trans q
    obtain ⟨g_18, h⟩ := ob_g h
    cases h
    exact q
  · skip
    obtain ⟨S_26, e_26, h⟩ := ob_s h
    replace q := sF_w e_26 q (Decidable.not_and_iff_or_not.mp (fun z => hw (Or.inl (⟨(z).1, Or.inr (Or.inr (Or.inl ((z).2)))⟩))))
    obtain ⟨g_41, h⟩ := ob_g h
    obtain ⟨S_41, e_41, h⟩ := ob_s h
    replace q := sF_w e_41 q (Or.inl (fun z => hw (Or.inr (z))))
    obtain ⟨S_49, e_49, h⟩ := ob_s h
    replace q := sF_w e_49 q (Decidable.not_and_iff_or_not.mp (fun z => hw (Or.inl (⟨(z).1, Or.inr (Or.inr (Or.inr ((z).2)))⟩))))
    obtain ⟨S_59, e_59, h⟩ := ob_s h
    replace q := sF_w e_59 q (Decidable.not_and_iff_or_not.mp (fun z => hw (Or.inl (⟨(z).1, Or.inl ((z).2)⟩))))
    cases h
    exact q
set_option maxHeartbeats 4000000 in
theorem w_Mo_closesSums_37 {kr jr : Nat}  (k_0 : St → Int32 → Option (St)) (hk_0 : ∀ (S : St) (l1 : Int32) (w : St), k_0 S l1 = some w → w kr jr = S kr jr) (S : St) (l1 : Int32) (w : St) (h : f_Mo_closesSums_37 k_0 S l1 = some w) (hw : ¬ ((kr = 0 ∧ (jr = 13 ∨ jr = 14)) ∨ kr = 7)) : w kr jr = S kr jr := by
  unfold f_Mo_closesSums_37 at h
  have q : S kr jr = S kr jr := rfl
  obtain ⟨v_39, q_39, h⟩ := ob_b h
  obtain ⟨w_43, q_43, h⟩ := ob_b h
  replace q := (w_Mo_notes q_43 (fun z => hw ((z).elim (fun a0 => Or.inl (⟨(a0).1, Or.inl ((a0).2)⟩)) (fun z0 => Or.inr (z0))))).trans q
  obtain ⟨S_53, e_53, h⟩ := ob_s h
  replace q := sF_w e_53 q (Decidable.not_and_iff_or_not.mp (fun z => hw (Or.inl (⟨(z).1, Or.inr ((z).2)⟩))))
  exact (hk_0 S_53 l1 _ h).trans q
set_option maxHeartbeats 4000000 in
theorem w_Mo_closesSums_17 {kr jr : Nat}  (k_0 : St → Int32 → Option (St)) (hk_0 : ∀ (S : St) (l1 : Int32) (w : St), k_0 S l1 = some w → w kr jr = S kr jr) (S : St) (l1 : Int32) (w : St) (h : f_Mo_closesSums_17 k_0 S l1 = some w) (hw : ¬ ((kr = 0 ∧ (jr = 13 ∨ jr = 14)) ∨ kr = 7)) : w kr jr = S kr jr := by
  unfold f_Mo_closesSums_17 at h
  have q : S kr jr = S kr jr := rfl
  rcases ob_i h with ⟨c_18, h⟩ | ⟨c_18, h⟩
  · skip
    cases h
    exact q
  · skip
    obtain ⟨v_22, q_22, h⟩ := ob_b h
    rcases ob_i h with ⟨c_26, h⟩ | ⟨c_26, h⟩
    · skip
      exact (w_Mo_closesSums_37 k_0 hk_0 S l1 _ h hw).trans q
    · skip
      obtain ⟨v_30, q_30, h⟩ := ob_b h
      rcases ob_i h with ⟨c_34, h⟩ | ⟨c_34, h⟩
      · skip
        exact (w_Mo_closesSums_37 k_0 hk_0 S l1 _ h hw).trans q
      · skip
        cases h
        exact q
set_option maxHeartbeats 4000000 in
theorem w_Mo_closesSums_0 {kr jr : Nat}  : ∀ (n : Nat) (S : St) (l1 : Int32) (w : St), f_Mo_closesSums_0 n S l1 = some w → ¬ ((kr = 0 ∧ (jr = 13 ∨ jr = 14)) ∨ kr = 7) → w kr jr = S kr jr := by
  intro n
  induction n with
  | zero =>
    intro S l1 w h hw
    rw [f_Mo_closesSums_0] at h
    cases h
  | succ n ih =>
    intro S l1 w h hw
    replace ih := fun S l1 w h => ih S l1 w h hw
    rw [f_Mo_closesSums_0] at h
    have q : S kr jr = S kr jr := rfl
    obtain ⟨v_1, q_1, h⟩ := ob_b h
    rcases ob_i h with ⟨c_5, h⟩ | ⟨c_5, h⟩
    · skip
      exact (w_Mo_closesSums_17 (f_Mo_closesSums_0 n) ih S l1 _ h hw).trans q
    · skip
      obtain ⟨v_9, q_9, h⟩ := ob_b h
      rcases ob_i h with ⟨c_14, h⟩ | ⟨c_14, h⟩
      · skip
        exact (w_Mo_closesSums_37 (f_Mo_closesSums_0 n) ih S l1 _ h hw).trans q
      · skip
        exact (w_Mo_closesSums_17 (f_Mo_closesSums_0 n) ih S l1 _ h hw).trans q
set_option maxHeartbeats 4000000 in
theorem w_Mo_closesSums  {S : St} {l1 : Int32} {w : St} (h : f_Mo_closesSums S l1 = some w) {kr jr : Nat} (hw : ¬ ((kr = 0 ∧ (jr = 13 ∨ jr = 14)) ∨ kr = 7)) : w kr jr = S kr jr := by
  unfold f_Mo_closesSums at h
  have q : S kr jr = S kr jr := rfl
  exact (w_Mo_closesSums_0 FU S l1 _ h hw).trans q
set_option maxHeartbeats 4000000 in
theorem w_Mo_readsFactor_0 {kr jr : Nat}  : ∀ (n : Nat) (S : St) (w : Int32 × St), f_Mo_readsFactor_0 n S = some w → ¬ ((kr = 0 ∧ (jr = 8 ∨ jr = 10 ∨ jr = 11 ∨ jr = 12 ∨ jr = 13 ∨ jr = 14)) ∨ kr = 7 ∨ kr = 8) → w.2 kr jr = S kr jr := by
  intro n
  induction n with
  | zero =>
    intro S w h hw
    rw [f_Mo_readsFactor_0] at h
    cases h
  | succ n ih =>
    intro S w h hw
    replace ih := fun S w h => ih S w h hw
    rw [f_Mo_readsFactor_0] at h
    have q : S kr jr = S kr jr := rfl
    obtain ⟨v_1, q_1, h⟩ := ob_b h
    rcases ob_i h with ⟨c_6, h⟩ | ⟨c_6, h⟩
    · skip
      obtain ⟨w_12, q_12, h⟩ := ob_b h
      replace q := (w_Mo_opens q_12 (fun z => hw ((z).elim (fun a0 => Or.inl (⟨(a0).1, ((a0).2).elim (fun a0 => Or.inl (a0)) (fun z0 => (z0).elim (fun a1 => Or.inr (Or.inl (a1))) (fun z1 => (z1).elim (fun a2 => Or.inr (Or.inr (Or.inr (Or.inl (a2))))) (fun z2 => Or.inr (Or.inr (Or.inr (Or.inr (Or.inr (z2))))))))⟩)) (fun z0 => Or.inr (Or.inr (z0)))))).trans q
      rcases ob_i h with ⟨c_15, h⟩ | ⟨c_15, h⟩
      · skip
        cases h
        exact q
      · skip
        exact (ih w_12.2 _ h).trans q
    · skip
      obtain ⟨v_21, q_21, h⟩ := ob_b h
      rcases ob_i h with ⟨c_24, h⟩ | ⟨c_24, h⟩
      · skip
        obtain ⟨v_48, q_48, h⟩ := ob_b h
        obtain ⟨v_51, q_51, h⟩ := ob_b h
        rcases ob_i h with ⟨c_57, h⟩ | ⟨c_57, h⟩
        · skip
          obtain ⟨w_66, q_66, h⟩ := ob_b h
          replace q := (w_Mo_wrongAt q_66 (fun z => hw (Or.inl (⟨(z).1, Or.inr (Or.inl ((z).2))⟩)))).trans q
          obtain ⟨g_69, h⟩ := ob_g h
          cases h
          exact q
        · skip
          obtain ⟨w_73, q_73, h⟩ := ob_b h
          replace q := (w_Mo_notes q_73 (fun z => hw ((z).elim (fun a0 => Or.inl (⟨(a0).1, Or.inr (Or.inr (Or.inr (Or.inr (Or.inl ((a0).2)))))⟩)) (fun z0 => Or.inr (Or.inl (z0)))))).trans q
          obtain ⟨S_83, e_83, h⟩ := ob_s h
          replace q := sF_w e_83 q (Decidable.not_and_iff_or_not.mp (fun z => hw (Or.inl (⟨(z).1, Or.inl ((z).2)⟩))))
          cases h
          exact q
      · skip
        obtain ⟨w_28, q_28, h⟩ := ob_b h
        replace q := (w_Mo_readsNumber q_28 (fun z => hw (Or.inl (⟨(z).1, ((z).2).elim (fun a0 => Or.inl (a0)) (fun z0 => (z0).elim (fun a1 => Or.inr (Or.inl (a1))) (fun z1 => Or.inr (Or.inr (Or.inl (z1)))))⟩)))).trans q
        rcases ob_i h with ⟨c_31, h⟩ | ⟨c_31, h⟩
        · skip
          cases h
          exact q
        · skip
          obtain ⟨w_42, q_42, h⟩ := ob_b h
          replace q := (w_Mo_notes q_42 (fun z => hw ((z).elim (fun a0 => Or.inl (⟨(a0).1, Or.inr (Or.inr (Or.inr (Or.inr (Or.inl ((a0).2)))))⟩)) (fun z0 => Or.inr (Or.inl (z0)))))).trans q
          cases h
          exact q
set_option maxHeartbeats 4000000 in
theorem w_Mo_readsFactor  {S : St} {w : Int32 × St} (h : f_Mo_readsFactor S = some w) {kr jr : Nat} (hw : ¬ ((kr = 0 ∧ (jr = 8 ∨ jr = 10 ∨ jr = 11 ∨ jr = 12 ∨ jr = 13 ∨ jr = 14)) ∨ kr = 7 ∨ kr = 8)) : w.2 kr jr = S kr jr := by
  unfold f_Mo_readsFactor at h
  have q : S kr jr = S kr jr := rfl
  exact (w_Mo_readsFactor_0 FU S _ h hw).trans q
set_option maxHeartbeats 4000000 in
theorem w_Mo_readsSum_163 {kr jr : Nat}  (k_14 : St → Int32 → Option (Int32 × St)) (hk_14 : ∀ (S : St) (l1 : Int32) (w : Int32 × St), k_14 S l1 = some w → w.2 kr jr = S kr jr) (S : St) (l1 : Int32) (w : Int32 × St) (h : f_Mo_readsSum_163 k_14 S l1 = some w) (hw : ¬ ((kr = 0 ∧ (jr = 8 ∨ jr = 10 ∨ jr = 11 ∨ jr = 12 ∨ jr = 13 ∨ jr = 14)) ∨ kr = 7 ∨ kr = 8)) : w.2 kr jr = S kr jr := by
  unfold f_Mo_readsSum_163 at h
  have q : S kr jr = S kr jr := rfl
  exact (hk_14 S l1 _ h).trans q
set_option maxHeartbeats 4000000 in
theorem w_Mo_readsSum_38 {kr jr : Nat}  (k_14 : St → Int32 → Option (Int32 × St)) (hk_14 : ∀ (S : St) (l1 : Int32) (w : Int32 × St), k_14 S l1 = some w → w.2 kr jr = S kr jr) (S : St) (l1 : Int32) (l2 : Int32) (s0 : Int32) (w : Int32 × St) (h : f_Mo_readsSum_38 k_14 S l1 l2 s0 = some w) (hw : ¬ ((kr = 0 ∧ (jr = 8 ∨ jr = 10 ∨ jr = 11 ∨ jr = 12 ∨ jr = 13 ∨ jr = 14)) ∨ kr = 7 ∨ kr = 8)) : w.2 kr jr = S kr jr := by
  unfold f_Mo_readsSum_38 at h
  have q : S kr jr = S kr jr := rfl
  obtain ⟨w_38, q_38, h⟩ := ob_b h
  replace q := (w_Mo_closesSums q_38 (fun z => hw ((z).elim (fun a0 => Or.inl (⟨(a0).1, ((a0).2).elim (fun a0 => Or.inr (Or.inr (Or.inr (Or.inr (Or.inl (a0)))))) (fun z0 => Or.inr (Or.inr (Or.inr (Or.inr (Or.inr (z0))))))⟩)) (fun z0 => Or.inr (Or.inl (z0)))))).trans q
  obtain ⟨g_53, h⟩ := ob_g h
  obtain ⟨S_53, e_53, h⟩ := ob_s h
  replace q := sF_w e_53 q (Or.inl (fun z => hw (Or.inr (Or.inr (z)))))
  obtain ⟨S_61, e_61, h⟩ := ob_s h
  replace q := sF_w e_61 q (Decidable.not_and_iff_or_not.mp (fun z => hw (Or.inl (⟨(z).1, Or.inr (Or.inr (Or.inr (Or.inr (Or.inr ((z).2)))))⟩))))
  obtain ⟨S_71, e_71, h⟩ := ob_s h
  replace q := sF_w e_71 q (Decidable.not_and_iff_or_not.mp (fun z => hw (Or.inl (⟨(z).1, Or.inl ((z).2)⟩))))
  obtain ⟨w_75, q_75, h⟩ := ob_b h
  replace q := (w_Mo_readsFactor q_75 (fun z => hw ((z).elim (fun a0 => Or.inl (⟨(a0).1, ((a0).2).elim (fun a0 => Or.inl (a0)) (fun z0 => (z0).elim (fun a1 => Or.inr (Or.inl (a1))) (fun z1 => (z1).elim (fun a2 => Or.inr (Or.inr (Or.inl (a2)))) (fun z2 => (z2).elim (fun a3 => Or.inr (Or.inr (Or.inr (Or.inl (a3))))) (fun z3 => (z3).elim (fun a4 => Or.inr (Or.inr (Or.inr (Or.inr (Or.inl (a4)))))) (fun z4 => Or.inr (Or.inr (Or.inr (Or.inr (Or.inr (z4))))))))))⟩)) (fun z0 => (z0).elim (fun a1 => Or.inr (Or.inl (a1))) (fun z1 => Or.inr (Or.inr (z1))))))).trans q
  rcases ob_i h with ⟨c_78, h⟩ | ⟨c_78, h⟩
  · skip
    cases h
    exact q
  · skip
    exact (w_Mo_readsSum_163 k_14 hk_14 w_75.2 l1 _ h hw).trans q
set_option maxHeartbeats 4000000 in
theorem w_Mo_readsSum_138 {kr jr : Nat}  (S : St) (l1 : Int32) (w : Int32 × St) (h : f_Mo_readsSum_138 S l1 = some w) (hw : ¬ ((kr = 0 ∧ (jr = 8 ∨ jr = 10 ∨ jr = 11 ∨ jr = 12 ∨ jr = 13 ∨ jr = 14)) ∨ kr = 7 ∨ kr = 8)) : w.2 kr jr = S kr jr := by
  unfold f_Mo_readsSum_138 at h
  have q : S kr jr = S kr jr := rfl
  obtain ⟨v_140, q_140, h⟩ := ob_b h
  rcases ob_i h with ⟨c_143, h⟩ | ⟨c_143, h⟩
  · skip
    obtain ⟨w_158, q_158, h⟩ := ob_b h
    replace q := (w_Mo_closesSums q_158 (fun z => hw ((z).elim (fun a0 => Or.inl (⟨(a0).1, ((a0).2).elim (fun a0 => Or.inr (Or.inr (Or.inr (Or.inr (Or.inl (a0)))))) (fun z0 => Or.inr (Or.inr (Or.inr (Or.inr (Or.inr (z0))))))⟩)) (fun z0 => Or.inr (Or.inl (z0)))))).trans q
    cases h
    exact q
  · skip
    obtain ⟨w_152, q_152, h⟩ := ob_b h
    replace q := (w_Mo_wrongAt q_152 (fun z => hw (Or.inl (⟨(z).1, Or.inr (Or.inl ((z).2))⟩)))).trans q
    obtain ⟨g_155, h⟩ := ob_g h
    cases h
    exact q
set_option maxHeartbeats 4000000 in
theorem w_Mo_readsSum_14 {kr jr : Nat}  : ∀ (n : Nat) (S : St) (l1 : Int32) (w : Int32 × St), f_Mo_readsSum_14 n S l1 = some w → ¬ ((kr = 0 ∧ (jr = 8 ∨ jr = 10 ∨ jr = 11 ∨ jr = 12 ∨ jr = 13 ∨ jr = 14)) ∨ kr = 7 ∨ kr = 8) → w.2 kr jr = S kr jr := by
  intro n
  induction n with
  | zero =>
    intro S l1 w h hw
    rw [f_Mo_readsSum_14] at h
    cases h
  | succ n ih =>
    intro S l1 w h hw
    replace ih := fun S l1 w h => ih S l1 w h hw
    rw [f_Mo_readsSum_14] at h
    have q : S kr jr = S kr jr := rfl
    obtain ⟨v_15, q_15, h⟩ := ob_b h
    obtain ⟨v_18, q_18, h⟩ := ob_b h
    rcases ob_i h with ⟨c_24, h⟩ | ⟨c_24, h⟩
    · skip
      obtain ⟨v_84, q_84, h⟩ := ob_b h
      rcases ob_i h with ⟨c_89, h⟩ | ⟨c_89, h⟩
      · skip
        obtain ⟨v_94, q_94, h⟩ := ob_b h
        rcases ob_i h with ⟨c_97, h⟩ | ⟨c_97, h⟩
        · skip
          exact (w_Mo_readsSum_138 S l1 _ h hw).trans q
        · skip
          obtain ⟨w_102, q_102, h⟩ := ob_b h
          replace q := (w_Mo_closesSums q_102 (fun z => hw ((z).elim (fun a0 => Or.inl (⟨(a0).1, ((a0).2).elim (fun a0 => Or.inr (Or.inr (Or.inr (Or.inr (Or.inl (a0)))))) (fun z0 => Or.inr (Or.inr (Or.inr (Or.inr (Or.inr (z0))))))⟩)) (fun z0 => Or.inr (Or.inl (z0)))))).trans q
          obtain ⟨S_112, e_112, h⟩ := ob_s h
          replace q := sF_w e_112 q (Decidable.not_and_iff_or_not.mp (fun z => hw (Or.inl (⟨(z).1, Or.inr (Or.inr (Or.inr (Or.inr (Or.inr ((z).2)))))⟩))))
          obtain ⟨S_122, e_122, h⟩ := ob_s h
          replace q := sF_w e_122 q (Decidable.not_and_iff_or_not.mp (fun z => hw (Or.inl (⟨(z).1, Or.inr (Or.inr (Or.inr (Or.inl ((z).2))))⟩))))
          obtain ⟨S_132, e_132, h⟩ := ob_s h
          replace q := sF_w e_132 q (Decidable.not_and_iff_or_not.mp (fun z => hw (Or.inl (⟨(z).1, Or.inl ((z).2)⟩))))
          exact (w_Mo_readsSum_163 (f_Mo_readsSum_14 n) ih S_132 l1 _ h hw).trans q
      · skip
        exact (w_Mo_readsSum_138 S l1 _ h hw).trans q
    · skip
      rcases ob_i h with ⟨c_30, h⟩ | ⟨c_30, h⟩
      · skip
        exact (w_Mo_readsSum_38 (f_Mo_readsSum_14 n) ih S l1 v_18 (0 : Int32) _ h hw).trans q
      · skip
        exact (w_Mo_readsSum_38 (f_Mo_readsSum_14 n) ih S l1 v_18 (1 : Int32) _ h hw).trans q
set_option maxHeartbeats 4000000 in
theorem w_Mo_readsSum  {S : St} {w : Int32 × St} (h : f_Mo_readsSum S = some w) {kr jr : Nat} (hw : ¬ ((kr = 0 ∧ (jr = 8 ∨ jr = 10 ∨ jr = 11 ∨ jr = 12 ∨ jr = 13 ∨ jr = 14)) ∨ kr = 7 ∨ kr = 8)) : w.2 kr jr = S kr jr := by
  unfold f_Mo_readsSum at h
  have q : S kr jr = S kr jr := rfl
  obtain ⟨l1_4, e_4, h⟩ := ob_s h
  obtain ⟨w_6, q_6, h⟩ := ob_b h
  replace q := (w_Mo_readsFactor q_6 (fun z => hw ((z).elim (fun a0 => Or.inl (⟨(a0).1, ((a0).2).elim (fun a0 => Or.inl (a0)) (fun z0 => (z0).elim (fun a1 => Or.inr (Or.inl (a1))) (fun z1 => (z1).elim (fun a2 => Or.inr (Or.inr (Or.inl (a2)))) (fun z2 => (z2).elim (fun a3 => Or.inr (Or.inr (Or.inr (Or.inl (a3))))) (fun z3 => (z3).elim (fun a4 => Or.inr (Or.inr (Or.inr (Or.inr (Or.inl (a4)))))) (fun z4 => Or.inr (Or.inr (Or.inr (Or.inr (Or.inr (z4))))))))))⟩)) (fun z0 => (z0).elim (fun a1 => Or.inr (Or.inl (a1))) (fun z1 => Or.inr (Or.inr (z1))))))).trans q
  rcases ob_i h with ⟨c_9, h⟩ | ⟨c_9, h⟩
  · skip
    cases h
    exact q
  · skip
    exact (w_Mo_readsSum_14 FU w_6.2 l1_4 _ h hw).trans q
set_option maxHeartbeats 4000000 in
theorem w_Mo_endsPiece_0 {kr jr : Nat}  : ∀ (n : Nat) (S : St) (w : St), f_Mo_endsPiece_0 n S = some w → ¬ ((kr = 0 ∧ (jr = 12 ∨ jr = 13 ∨ jr = 14)) ∨ kr = 7) → w kr jr = S kr jr := by
  intro n
  induction n with
  | zero =>
    intro S w h hw
    rw [f_Mo_endsPiece_0] at h
    cases h
  | succ n ih =>
    intro S w h hw
    replace ih := fun S w h => ih S w h hw
    rw [f_Mo_endsPiece_0] at h
    have q : S kr jr = S kr jr := rfl
    obtain ⟨v_1, q_1, h⟩ := ob_b h
    rcases ob_i h with ⟨c_6, h⟩ | ⟨c_6, h⟩
    · skip
      obtain ⟨w_13, q_13, h⟩ := ob_b h
      replace q := (w_Mo_notes q_13 (fun z => hw ((z).elim (fun a0 => Or.inl (⟨(a0).1, Or.inr (Or.inl ((a0).2))⟩)) (fun z0 => Or.inr (z0))))).trans q
      obtain ⟨S_23, e_23, h⟩ := ob_s h
      replace q := sF_w e_23 q (Decidable.not_and_iff_or_not.mp (fun z => hw (Or.inl (⟨(z).1, Or.inr (Or.inr ((z).2))⟩))))
      obtain ⟨S_33, e_33, h⟩ := ob_s h
      replace q := sF_w e_33 q (Decidable.not_and_iff_or_not.mp (fun z => hw (Or.inl (⟨(z).1, Or.inl ((z).2)⟩))))
      exact (ih S_33 _ h).trans q
    · skip
      cases h
      exact q
set_option maxHeartbeats 4000000 in
theorem w_Mo_endsPiece  {S : St} {w : St} (h : f_Mo_endsPiece S = some w) {kr jr : Nat} (hw : ¬ ((kr = 0 ∧ (jr = 12 ∨ jr = 13 ∨ jr = 14)) ∨ kr = 7)) : w kr jr = S kr jr := by
  unfold f_Mo_endsPiece at h
  have q : S kr jr = S kr jr := rfl
  exact (w_Mo_endsPiece_0 FU S _ h hw).trans q
set_option maxHeartbeats 4000000 in
theorem w_Mo_lands_22 {kr jr : Nat}  (k_0 : St → Int32 → Option (St)) (hk_0 : ∀ (S : St) (l1 : Int32) (w : St), k_0 S l1 = some w → w kr jr = S kr jr) (S : St) (l1 : Int32) (w : St) (h : f_Mo_lands_22 k_0 S l1 = some w) (hw : ¬ ((kr = 0 ∧ (jr = 14)) ∨ kr = 7)) : w kr jr = S kr jr := by
  unfold f_Mo_lands_22 at h
  have q : S kr jr = S kr jr := rfl
  obtain ⟨g_32, h⟩ := ob_g h
  obtain ⟨l2_36, e_36, h⟩ := ob_s h
  obtain ⟨g_49, h⟩ := ob_g h
  obtain ⟨g_59, h⟩ := ob_g h
  obtain ⟨S_59, e_59, h⟩ := ob_s h
  replace q := sF_w e_59 q (Or.inl (fun z => hw (Or.inr (z))))
  obtain ⟨S_67, e_67, h⟩ := ob_s h
  replace q := sF_w e_67 q (Decidable.not_and_iff_or_not.mp (fun z => hw (Or.inl (⟨(z).1, (z).2⟩))))
  exact (hk_0 S_67 l1 _ h).trans q
set_option maxHeartbeats 4000000 in
theorem w_Mo_lands_0 {kr jr : Nat}  : ∀ (n : Nat) (S : St) (l1 : Int32) (w : St), f_Mo_lands_0 n S l1 = some w → ¬ ((kr = 0 ∧ (jr = 14)) ∨ kr = 7) → w kr jr = S kr jr := by
  intro n
  induction n with
  | zero =>
    intro S l1 w h hw
    rw [f_Mo_lands_0] at h
    cases h
  | succ n ih =>
    intro S l1 w h hw
    replace ih := fun S l1 w h => ih S l1 w h hw
    rw [f_Mo_lands_0] at h
    have q : S kr jr = S kr jr := rfl
    obtain ⟨v_1, q_1, h⟩ := ob_b h
    rcases ob_i h with ⟨c_6, h⟩ | ⟨c_6, h⟩
    · skip
      exact (w_Mo_lands_22 (f_Mo_lands_0 n) ih S l1 _ h hw).trans q
    · skip
      rcases ob_i h with ⟨c_10, h⟩ | ⟨c_10, h⟩
      · skip
        cases h
        exact q
      · skip
        obtain ⟨v_14, q_14, h⟩ := ob_b h
        rcases ob_i h with ⟨c_19, h⟩ | ⟨c_19, h⟩
        · skip
          exact (w_Mo_lands_22 (f_Mo_lands_0 n) ih S l1 _ h hw).trans q
        · skip
          cases h
          exact q
set_option maxHeartbeats 4000000 in
theorem w_Mo_lands  {S : St} {l1 : Int32} {w : St} (h : f_Mo_lands S l1 = some w) {kr jr : Nat} (hw : ¬ ((kr = 0 ∧ (jr = 14)) ∨ kr = 7)) : w kr jr = S kr jr := by
  unfold f_Mo_lands at h
  have q : S kr jr = S kr jr := rfl
  exact (w_Mo_lands_0 FU S l1 _ h hw).trans q
set_option maxHeartbeats 4000000 in
theorem w_Mo_jumps  {S : St} {l1 : Int32} {w : St} (h : f_Mo_jumps S l1 = some w) {kr jr : Nat} (hw : ¬ ((kr = 0 ∧ (jr = 8 ∨ jr = 13 ∨ jr = 14)) ∨ kr = 7 ∨ kr = 8)) : w kr jr = S kr jr := by
  unfold f_Mo_jumps at h
  have q : S kr jr = S kr jr := rfl
  obtain ⟨g_17, h⟩ := ob_g h
  obtain ⟨S_17, e_17, h⟩ := ob_s h
  replace q := sF_w e_17 q (Or.inl (fun z => hw (Or.inr (Or.inr (z)))))
  obtain ⟨S_25, e_25, h⟩ := ob_s h
  replace q := sF_w e_25 q (Decidable.not_and_iff_or_not.mp (fun z => hw (Or.inl (⟨(z).1, Or.inr (Or.inr ((z).2))⟩))))
  obtain ⟨w_31, q_31, h⟩ := ob_b h
  replace q := (w_Mo_notes q_31 (fun z => hw ((z).elim (fun a0 => Or.inl (⟨(a0).1, Or.inr (Or.inl ((a0).2))⟩)) (fun z0 => Or.inr (Or.inl (z0)))))).trans q
  obtain ⟨S_41, e_41, h⟩ := ob_s h
  replace q := sF_w e_41 q (Decidable.not_and_iff_or_not.mp (fun z => hw (Or.inl (⟨(z).1, Or.inl ((z).2)⟩))))
  cases h
  exact q
set_option maxHeartbeats 4000000 in
theorem w_Mo_readsCompared_52 {kr jr : Nat}  (S : St) (s0 : Int32) (w : Int32 × St) (h : f_Mo_readsCompared_52 S s0 = some w) (hw : ¬ ((kr = 0 ∧ (jr = 8 ∨ jr = 10 ∨ jr = 11 ∨ jr = 12 ∨ jr = 13 ∨ jr = 14)) ∨ kr = 7 ∨ kr = 8)) : w.2 kr jr = S kr jr := by
  unfold f_Mo_readsCompared_52 at h
  have q : S kr jr = S kr jr := rfl
  rcases ob_i h with ⟨c_55, h⟩ | ⟨c_55, h⟩
  · skip
    obtain ⟨w_64, q_64, h⟩ := ob_b h
    replace q := (w_Mo_wrongAt q_64 (fun z => hw (Or.inl (⟨(z).1, Or.inr (Or.inl ((z).2))⟩)))).trans q
    obtain ⟨g_67, h⟩ := ob_g h
    cases h
    exact q
  · skip
    obtain ⟨S_75, e_75, h⟩ := ob_s h
    replace q := sF_w e_75 q (Decidable.not_and_iff_or_not.mp (fun z => hw (Or.inl (⟨(z).1, Or.inl ((z).2)⟩))))
    obtain ⟨w_79, q_79, h⟩ := ob_b h
    replace q := (w_Mo_readsSum q_79 (fun z => hw ((z).elim (fun a0 => Or.inl (⟨(a0).1, ((a0).2).elim (fun a0 => Or.inl (a0)) (fun z0 => (z0).elim (fun a1 => Or.inr (Or.inl (a1))) (fun z1 => (z1).elim (fun a2 => Or.inr (Or.inr (Or.inl (a2)))) (fun z2 => (z2).elim (fun a3 => Or.inr (Or.inr (Or.inr (Or.inl (a3))))) (fun z3 => (z3).elim (fun a4 => Or.inr (Or.inr (Or.inr (Or.inr (Or.inl (a4)))))) (fun z4 => Or.inr (Or.inr (Or.inr (Or.inr (Or.inr (z4))))))))))⟩)) (fun z0 => (z0).elim (fun a1 => Or.inr (Or.inl (a1))) (fun z1 => Or.inr (Or.inr (z1))))))).trans q
    rcases ob_i h with ⟨c_82, h⟩ | ⟨c_82, h⟩
    · skip
      cases h
      exact q
    · skip
      obtain ⟨w_90, q_90, h⟩ := ob_b h
      replace q := (w_Mo_notes q_90 (fun z => hw ((z).elim (fun a0 => Or.inl (⟨(a0).1, Or.inr (Or.inr (Or.inr (Or.inr (Or.inl ((a0).2)))))⟩)) (fun z0 => Or.inr (Or.inl (z0)))))).trans q
      obtain ⟨w_94, q_94, h⟩ := ob_b h
      replace q := (w_Mo_endsPiece q_94 (fun z => hw ((z).elim (fun a0 => Or.inl (⟨(a0).1, ((a0).2).elim (fun a0 => Or.inr (Or.inr (Or.inr (Or.inl (a0))))) (fun z0 => (z0).elim (fun a1 => Or.inr (Or.inr (Or.inr (Or.inr (Or.inl (a1)))))) (fun z1 => Or.inr (Or.inr (Or.inr (Or.inr (Or.inr (z1)))))))⟩)) (fun z0 => Or.inr (Or.inl (z0)))))).trans q
      cases h
      exact q
set_option maxHeartbeats 4000000 in
theorem w_Mo_readsCompared  {S : St} {w : Int32 × St} (h : f_Mo_readsCompared S = some w) {kr jr : Nat} (hw : ¬ ((kr = 0 ∧ (jr = 8 ∨ jr = 10 ∨ jr = 11 ∨ jr = 12 ∨ jr = 13 ∨ jr = 14)) ∨ kr = 7 ∨ kr = 8)) : w.2 kr jr = S kr jr := by
  unfold f_Mo_readsCompared at h
  have q : S kr jr = S kr jr := rfl
  obtain ⟨w_1, q_1, h⟩ := ob_b h
  replace q := (w_Mo_readsSum q_1 (fun z => hw ((z).elim (fun a0 => Or.inl (⟨(a0).1, ((a0).2).elim (fun a0 => Or.inl (a0)) (fun z0 => (z0).elim (fun a1 => Or.inr (Or.inl (a1))) (fun z1 => (z1).elim (fun a2 => Or.inr (Or.inr (Or.inl (a2)))) (fun z2 => (z2).elim (fun a3 => Or.inr (Or.inr (Or.inr (Or.inl (a3))))) (fun z3 => (z3).elim (fun a4 => Or.inr (Or.inr (Or.inr (Or.inr (Or.inl (a4)))))) (fun z4 => Or.inr (Or.inr (Or.inr (Or.inr (Or.inr (z4))))))))))⟩)) (fun z0 => (z0).elim (fun a1 => Or.inr (Or.inl (a1))) (fun z1 => Or.inr (Or.inr (z1))))))).trans q
  rcases ob_i h with ⟨c_4, h⟩ | ⟨c_4, h⟩
  · skip
    cases h
    exact q
  · skip
    obtain ⟨v_10, q_10, h⟩ := ob_b h
    rcases ob_i h with ⟨c_15, h⟩ | ⟨c_15, h⟩
    · skip
      exact (w_Mo_readsCompared_52 w_1.2 (7 : Int32) _ h hw).trans q
    · skip
      obtain ⟨v_24, q_24, h⟩ := ob_b h
      rcases ob_i h with ⟨c_29, h⟩ | ⟨c_29, h⟩
      · skip
        exact (w_Mo_readsCompared_52 w_1.2 (8 : Int32) _ h hw).trans q
      · skip
        obtain ⟨v_38, q_38, h⟩ := ob_b h
        rcases ob_i h with ⟨c_43, h⟩ | ⟨c_43, h⟩
        · skip
          exact (w_Mo_readsCompared_52 w_1.2 (9 : Int32) _ h hw).trans q
        · skip
          exact (w_Mo_readsCompared_52 w_1.2 ((-1) : Int32) _ h hw).trans q
set_option maxHeartbeats 4000000 in
theorem w_Mo_readsCondition_75 {kr jr : Nat}  (k_40 : St → Option (Int32 × St)) (hk_40 : ∀ (S : St) (w : Int32 × St), k_40 S = some w → w.2 kr jr = S kr jr) (S : St) (s0 : Int32) (w : Int32 × St) (h : f_Mo_readsCondition_75 k_40 S s0 = some w) (hw : ¬ ((kr = 0 ∧ (jr = 8 ∨ jr = 10 ∨ jr = 11 ∨ jr = 12 ∨ jr = 13 ∨ jr = 14)) ∨ kr = 7 ∨ kr = 8)) : w.2 kr jr = S kr jr := by
  unfold f_Mo_readsCondition_75 at h
  have q : S kr jr = S kr jr := rfl
  obtain ⟨w_75, q_75, h⟩ := ob_b h
  replace q := (w_Mo_opens q_75 (fun z => hw ((z).elim (fun a0 => Or.inl (⟨(a0).1, ((a0).2).elim (fun a0 => Or.inl (a0)) (fun z0 => (z0).elim (fun a1 => Or.inr (Or.inl (a1))) (fun z1 => (z1).elim (fun a2 => Or.inr (Or.inr (Or.inr (Or.inl (a2))))) (fun z2 => Or.inr (Or.inr (Or.inr (Or.inr (Or.inr (z2))))))))⟩)) (fun z0 => Or.inr (Or.inr (z0)))))).trans q
  rcases ob_i h with ⟨c_78, h⟩ | ⟨c_78, h⟩
  · skip
    cases h
    exact q
  · skip
    exact (hk_40 w_75.2 _ h).trans q
set_option maxHeartbeats 4000000 in
theorem w_Mo_readsCondition_58 {kr jr : Nat}  (k_40 : St → Option (Int32 × St)) (hk_40 : ∀ (S : St) (w : Int32 × St), k_40 S = some w → w.2 kr jr = S kr jr) (S : St) (w : Int32 × St) (h : f_Mo_readsCondition_58 k_40 S = some w) (hw : ¬ ((kr = 0 ∧ (jr = 8 ∨ jr = 10 ∨ jr = 11 ∨ jr = 12 ∨ jr = 13 ∨ jr = 14)) ∨ kr = 7 ∨ kr = 8)) : w.2 kr jr = S kr jr := by
  unfold f_Mo_readsCondition_58 at h
  have q : S kr jr = S kr jr := rfl
  obtain ⟨v_60, q_60, h⟩ := ob_b h
  rcases ob_i h with ⟨c_65, h⟩ | ⟨c_65, h⟩
  · skip
    exact (w_Mo_readsCondition_75 k_40 hk_40 S (10 : Int32) _ h hw).trans q
  · skip
    exact (w_Mo_readsCondition_75 k_40 hk_40 S (13 : Int32) _ h hw).trans q
set_option maxHeartbeats 4000000 in
theorem w_Mo_readsCondition_215 {kr jr : Nat}  (k_40 : St → Option (Int32 × St)) (hk_40 : ∀ (S : St) (w : Int32 × St), k_40 S = some w → w.2 kr jr = S kr jr) (S : St) (s0 : Int32) (w : Int32 × St) (h : f_Mo_readsCondition_215 k_40 S s0 = some w) (hw : ¬ ((kr = 0 ∧ (jr = 8 ∨ jr = 10 ∨ jr = 11 ∨ jr = 12 ∨ jr = 13 ∨ jr = 14)) ∨ kr = 7 ∨ kr = 8)) : w.2 kr jr = S kr jr := by
  unfold f_Mo_readsCondition_215 at h
  have q : S kr jr = S kr jr := rfl
  obtain ⟨w_215, q_215, h⟩ := ob_b h
  replace q := (w_Mo_jumps q_215 (fun z => hw ((z).elim (fun a0 => Or.inl (⟨(a0).1, ((a0).2).elim (fun a0 => Or.inl (a0)) (fun z0 => (z0).elim (fun a1 => Or.inr (Or.inr (Or.inr (Or.inr (Or.inl (a1)))))) (fun z1 => Or.inr (Or.inr (Or.inr (Or.inr (Or.inr (z1)))))))⟩)) (fun z0 => (z0).elim (fun a1 => Or.inr (Or.inl (a1))) (fun z1 => Or.inr (Or.inr (z1))))))).trans q
  exact (hk_40 w_215 _ h).trans q
set_option maxHeartbeats 4000000 in
theorem w_Mo_readsCondition_195 {kr jr : Nat}  (k_40 : St → Option (Int32 × St)) (hk_40 : ∀ (S : St) (w : Int32 × St), k_40 S = some w → w.2 kr jr = S kr jr) (S : St) (s0 : Int32) (w : Int32 × St) (h : f_Mo_readsCondition_195 k_40 S s0 = some w) (hw : ¬ ((kr = 0 ∧ (jr = 8 ∨ jr = 10 ∨ jr = 11 ∨ jr = 12 ∨ jr = 13 ∨ jr = 14)) ∨ kr = 7 ∨ kr = 8)) : w.2 kr jr = S kr jr := by
  unfold f_Mo_readsCondition_195 at h
  have q : S kr jr = S kr jr := rfl
  obtain ⟨w_195, q_195, h⟩ := ob_b h
  replace q := (w_Mo_lands q_195 (fun z => hw ((z).elim (fun a0 => Or.inl (⟨(a0).1, Or.inr (Or.inr (Or.inr (Or.inr (Or.inr ((a0).2)))))⟩)) (fun z0 => Or.inr (Or.inl (z0)))))).trans q
  obtain ⟨v_200, q_200, h⟩ := ob_b h
  rcases ob_i h with ⟨c_205, h⟩ | ⟨c_205, h⟩
  · skip
    exact (w_Mo_readsCondition_215 k_40 hk_40 w_195 (11 : Int32) _ h hw).trans q
  · skip
    exact (w_Mo_readsCondition_215 k_40 hk_40 w_195 (12 : Int32) _ h hw).trans q
set_option maxHeartbeats 4000000 in
theorem w_Mo_readsCondition_180 {kr jr : Nat}  (k_40 : St → Option (Int32 × St)) (hk_40 : ∀ (S : St) (w : Int32 × St), k_40 S = some w → w.2 kr jr = S kr jr) (S : St) (w : Int32 × St) (h : f_Mo_readsCondition_180 k_40 S = some w) (hw : ¬ ((kr = 0 ∧ (jr = 8 ∨ jr = 10 ∨ jr = 11 ∨ jr = 12 ∨ jr = 13 ∨ jr = 14)) ∨ kr = 7 ∨ kr = 8)) : w.2 kr jr = S kr jr := by
  unfold f_Mo_readsCondition_180 at h
  have q : S kr jr = S kr jr := rfl
  obtain ⟨v_182, q_182, h⟩ := ob_b h
  rcases ob_i h with ⟨c_187, h⟩ | ⟨c_187, h⟩
  · skip
    exact (w_Mo_readsCondition_195 k_40 hk_40 S (1 : Int32) _ h hw).trans q
  · skip
    exact (w_Mo_readsCondition_195 k_40 hk_40 S (0 : Int32) _ h hw).trans q
set_option maxHeartbeats 4000000 in
theorem w_Mo_readsCondition_92 {kr jr : Nat}  (k_40 : St → Option (Int32 × St)) (hk_40 : ∀ (S : St) (w : Int32 × St), k_40 S = some w → w.2 kr jr = S kr jr) : ∀ (n : Nat) (S : St) (w : Int32 × St), f_Mo_readsCondition_92 k_40 n S = some w → ¬ ((kr = 0 ∧ (jr = 8 ∨ jr = 10 ∨ jr = 11 ∨ jr = 12 ∨ jr = 13 ∨ jr = 14)) ∨ kr = 7 ∨ kr = 8) → w.2 kr jr = S kr jr := by
  intro n
  induction n with
  | zero =>
    intro S w h hw
    rw [f_Mo_readsCondition_92] at h
    cases h
  | succ n ih =>
    intro S w h hw
    replace ih := fun S w h => ih S w h hw
    rw [f_Mo_readsCondition_92] at h
    have q : S kr jr = S kr jr := rfl
    obtain ⟨v_93, q_93, h⟩ := ob_b h
    rcases ob_i h with ⟨c_98, h⟩ | ⟨c_98, h⟩
    · skip
      obtain ⟨w_103, q_103, h⟩ := ob_b h
      replace q := (w_Mo_lands q_103 (fun z => hw ((z).elim (fun a0 => Or.inl (⟨(a0).1, Or.inr (Or.inr (Or.inr (Or.inr (Or.inr ((a0).2)))))⟩)) (fun z0 => Or.inr (Or.inl (z0)))))).trans q
      obtain ⟨S_113, e_113, h⟩ := ob_s h
      replace q := sF_w e_113 q (Decidable.not_and_iff_or_not.mp (fun z => hw (Or.inl (⟨(z).1, Or.inr (Or.inr (Or.inr (Or.inr (Or.inr ((z).2)))))⟩))))
      obtain ⟨S_123, e_123, h⟩ := ob_s h
      replace q := sF_w e_123 q (Decidable.not_and_iff_or_not.mp (fun z => hw (Or.inl (⟨(z).1, Or.inr (Or.inr (Or.inr (Or.inl ((z).2))))⟩))))
      obtain ⟨S_133, e_133, h⟩ := ob_s h
      replace q := sF_w e_133 q (Decidable.not_and_iff_or_not.mp (fun z => hw (Or.inl (⟨(z).1, Or.inl ((z).2)⟩))))
      rcases ob_i h with ⟨c_140, h⟩ | ⟨c_140, h⟩
      · skip
        cases h
        exact q
      · skip
        obtain ⟨w_146, q_146, h⟩ := ob_b h
        replace q := (w_Mo_endsPiece q_146 (fun z => hw ((z).elim (fun a0 => Or.inl (⟨(a0).1, ((a0).2).elim (fun a0 => Or.inr (Or.inr (Or.inr (Or.inl (a0))))) (fun z0 => (z0).elim (fun a1 => Or.inr (Or.inr (Or.inr (Or.inr (Or.inl (a1)))))) (fun z1 => Or.inr (Or.inr (Or.inr (Or.inr (Or.inr (z1)))))))⟩)) (fun z0 => Or.inr (Or.inl (z0)))))).trans q
        exact (ih w_146 _ h).trans q
    · skip
      obtain ⟨v_153, q_153, h⟩ := ob_b h
      rcases ob_i h with ⟨c_158, h⟩ | ⟨c_158, h⟩
      · skip
        exact (w_Mo_readsCondition_180 k_40 hk_40 S _ h hw).trans q
      · skip
        obtain ⟨v_162, q_162, h⟩ := ob_b h
        rcases ob_i h with ⟨c_167, h⟩ | ⟨c_167, h⟩
        · skip
          exact (w_Mo_readsCondition_180 k_40 hk_40 S _ h hw).trans q
        · skip
          obtain ⟨w_176, q_176, h⟩ := ob_b h
          replace q := (w_Mo_wrongAt q_176 (fun z => hw (Or.inl (⟨(z).1, Or.inr (Or.inl ((z).2))⟩)))).trans q
          obtain ⟨g_179, h⟩ := ob_g h
          cases h
          exact q
set_option maxHeartbeats 4000000 in
theorem w_Mo_readsCondition_40 {kr jr : Nat}  : ∀ (n : Nat) (S : St) (w : Int32 × St), f_Mo_readsCondition_40 n S = some w → ¬ ((kr = 0 ∧ (jr = 8 ∨ jr = 10 ∨ jr = 11 ∨ jr = 12 ∨ jr = 13 ∨ jr = 14)) ∨ kr = 7 ∨ kr = 8) → w.2 kr jr = S kr jr := by
  intro n
  induction n with
  | zero =>
    intro S w h hw
    rw [f_Mo_readsCondition_40] at h
    cases h
  | succ n ih =>
    intro S w h hw
    replace ih := fun S w h => ih S w h hw
    rw [f_Mo_readsCondition_40] at h
    have q : S kr jr = S kr jr := rfl
    obtain ⟨v_41, q_41, h⟩ := ob_b h
    rcases ob_i h with ⟨c_46, h⟩ | ⟨c_46, h⟩
    · skip
      exact (w_Mo_readsCondition_58 (f_Mo_readsCondition_40 n) ih S _ h hw).trans q
    · skip
      obtain ⟨v_50, q_50, h⟩ := ob_b h
      rcases ob_i h with ⟨c_55, h⟩ | ⟨c_55, h⟩
      · skip
        exact (w_Mo_readsCondition_58 (f_Mo_readsCondition_40 n) ih S _ h hw).trans q
      · skip
        obtain ⟨w_84, q_84, h⟩ := ob_b h
        replace q := (w_Mo_readsCompared q_84 (fun z => hw ((z).elim (fun a0 => Or.inl (⟨(a0).1, ((a0).2).elim (fun a0 => Or.inl (a0)) (fun z0 => (z0).elim (fun a1 => Or.inr (Or.inl (a1))) (fun z1 => (z1).elim (fun a2 => Or.inr (Or.inr (Or.inl (a2)))) (fun z2 => (z2).elim (fun a3 => Or.inr (Or.inr (Or.inr (Or.inl (a3))))) (fun z3 => (z3).elim (fun a4 => Or.inr (Or.inr (Or.inr (Or.inr (Or.inl (a4)))))) (fun z4 => Or.inr (Or.inr (Or.inr (Or.inr (Or.inr (z4))))))))))⟩)) (fun z0 => (z0).elim (fun a1 => Or.inr (Or.inl (a1))) (fun z1 => Or.inr (Or.inr (z1))))))).trans q
        rcases ob_i h with ⟨c_87, h⟩ | ⟨c_87, h⟩
        · skip
          cases h
          exact q
        · skip
          exact (w_Mo_readsCondition_92 (f_Mo_readsCondition_40 n) ih FU w_84.2 _ h hw).trans q
set_option maxHeartbeats 4000000 in
theorem w_Mo_readsCondition  {S : St} {w : Int32 × St} (h : f_Mo_readsCondition S = some w) {kr jr : Nat} (hw : ¬ ((kr = 0 ∧ (jr = 8 ∨ jr = 10 ∨ jr = 11 ∨ jr = 12 ∨ jr = 13 ∨ jr = 14)) ∨ kr = 7 ∨ kr = 8)) : w.2 kr jr = S kr jr := by
  unfold f_Mo_readsCondition at h
  have q : S kr jr = S kr jr := rfl
  obtain ⟨v_1, q_1, h⟩ := ob_b h
  rcases ob_i h with ⟨c_6, h⟩ | ⟨c_6, h⟩
  · skip
    obtain ⟨S_21, e_21, h⟩ := ob_s h
    replace q := sF_w e_21 q (Decidable.not_and_iff_or_not.mp (fun z => hw (Or.inl (⟨(z).1, Or.inr (Or.inr (Or.inr (Or.inl ((z).2))))⟩))))
    obtain ⟨S_26, e_26, h⟩ := ob_s h
    replace q := sF_w e_26 q (Decidable.not_and_iff_or_not.mp (fun z => hw (Or.inl (⟨(z).1, Or.inr (Or.inr (Or.inr (Or.inr (Or.inr ((z).2)))))⟩))))
    obtain ⟨w_32, q_32, h⟩ := ob_b h
    replace q := (w_Mo_opens q_32 (fun z => hw ((z).elim (fun a0 => Or.inl (⟨(a0).1, ((a0).2).elim (fun a0 => Or.inl (a0)) (fun z0 => (z0).elim (fun a1 => Or.inr (Or.inl (a1))) (fun z1 => (z1).elim (fun a2 => Or.inr (Or.inr (Or.inr (Or.inl (a2))))) (fun z2 => Or.inr (Or.inr (Or.inr (Or.inr (Or.inr (z2))))))))⟩)) (fun z0 => Or.inr (Or.inr (z0)))))).trans q
    rcases ob_i h with ⟨c_35, h⟩ | ⟨c_35, h⟩
    · skip
      cases h
      exact q
    · skip
      exact (w_Mo_readsCondition_40 FU w_32.2 _ h hw).trans q
  · skip
    obtain ⟨w_15, q_15, h⟩ := ob_b h
    replace q := (w_Mo_wrongAt q_15 (fun z => hw (Or.inl (⟨(z).1, Or.inr (Or.inl ((z).2))⟩)))).trans q
    obtain ⟨g_18, h⟩ := ob_g h
    cases h
    exact q
set_option maxHeartbeats 4000000 in
theorem w_Mo_readsRule_110 {kr jr : Nat}  (S : St) (w : Int32 × St) (h : f_Mo_readsRule_110 S = some w) (hw : ¬ ((kr = 0 ∧ (jr = 8 ∨ jr = 10 ∨ jr = 11 ∨ jr = 12 ∨ jr = 13 ∨ jr = 14 ∨ jr = 15)) ∨ kr = 7 ∨ kr = 8 ∨ kr = 9 ∨ kr = 10 ∨ kr = 11 ∨ kr = 12)) : w.2 kr jr = S kr jr := by
  unfold f_Mo_readsRule_110 at h
  have q : S kr jr = S kr jr := rfl
  obtain ⟨g_122, h⟩ := ob_g h
  obtain ⟨S_122, e_122, h⟩ := ob_s h
  replace q := sF_w e_122 q (Or.inl (fun z => hw (Or.inr (Or.inr (Or.inr (Or.inr (Or.inr (Or.inl (z)))))))))
  obtain ⟨w_124, q_124, h⟩ := ob_b h
  replace q := (w_Mo_readsCondition q_124 (fun z => hw ((z).elim (fun a0 => Or.inl (⟨(a0).1, ((a0).2).elim (fun a0 => Or.inl (a0)) (fun z0 => (z0).elim (fun a1 => Or.inr (Or.inl (a1))) (fun z1 => (z1).elim (fun a2 => Or.inr (Or.inr (Or.inl (a2)))) (fun z2 => (z2).elim (fun a3 => Or.inr (Or.inr (Or.inr (Or.inl (a3))))) (fun z3 => (z3).elim (fun a4 => Or.inr (Or.inr (Or.inr (Or.inr (Or.inl (a4)))))) (fun z4 => Or.inr (Or.inr (Or.inr (Or.inr (Or.inr (Or.inl (z4)))))))))))⟩)) (fun z0 => (z0).elim (fun a1 => Or.inr (Or.inl (a1))) (fun z1 => Or.inr (Or.inr (Or.inl (z1)))))))).trans q
  rcases ob_i h with ⟨c_127, h⟩ | ⟨c_127, h⟩
  · skip
    cases h
    exact q
  · skip
    obtain ⟨g_144, h⟩ := ob_g h
    obtain ⟨S_144, e_144, h⟩ := ob_s h
    replace q := sF_w e_144 q (Or.inl (fun z => hw (Or.inr (Or.inr (Or.inr (Or.inr (Or.inr (Or.inr (z)))))))))
    obtain ⟨S_152, e_152, h⟩ := ob_s h
    replace q := sF_w e_152 q (Decidable.not_and_iff_or_not.mp (fun z => hw (Or.inl (⟨(z).1, Or.inr (Or.inr (Or.inr (Or.inr (Or.inr (Or.inr ((z).2))))))⟩))))
    cases h
    exact q
set_option maxHeartbeats 4000000 in
theorem w_Mo_readsRule_33 {kr jr : Nat}  (S : St) (l1 : Int32) (w : Int32 × St) (h : f_Mo_readsRule_33 S l1 = some w) (hw : ¬ ((kr = 0 ∧ (jr = 8 ∨ jr = 10 ∨ jr = 11 ∨ jr = 12 ∨ jr = 13 ∨ jr = 14 ∨ jr = 15)) ∨ kr = 7 ∨ kr = 8 ∨ kr = 9 ∨ kr = 10 ∨ kr = 11 ∨ kr = 12)) : w.2 kr jr = S kr jr := by
  unfold f_Mo_readsRule_33 at h
  have q : S kr jr = S kr jr := rfl
  rcases ob_i h with ⟨c_39, h⟩ | ⟨c_39, h⟩
  · skip
    obtain ⟨w_48, q_48, h⟩ := ob_b h
    replace q := (w_Mo_wrongAt q_48 (fun z => hw (Or.inl (⟨(z).1, Or.inr (Or.inl ((z).2))⟩)))).trans q
    obtain ⟨g_51, h⟩ := ob_g h
    cases h
    exact q
  · skip
    obtain ⟨g_61, h⟩ := ob_g h
    obtain ⟨S_61, e_61, h⟩ := ob_s h
    replace q := sF_w e_61 q (Or.inl (fun z => hw (Or.inr (Or.inr (Or.inr (Or.inl (z)))))))
    obtain ⟨S_69, e_69, h⟩ := ob_s h
    replace q := sF_w e_69 q (Decidable.not_and_iff_or_not.mp (fun z => hw (Or.inl (⟨(z).1, Or.inl ((z).2)⟩))))
    obtain ⟨g_84, h⟩ := ob_g h
    obtain ⟨S_84, e_84, h⟩ := ob_s h
    replace q := sF_w e_84 q (Or.inl (fun z => hw (Or.inr (Or.inr (Or.inr (Or.inr (Or.inl (z))))))))
    obtain ⟨S_87, e_87, h⟩ := ob_s h
    replace q := sF_w e_87 q (Decidable.not_and_iff_or_not.mp (fun z => hw (Or.inl (⟨(z).1, Or.inr (Or.inr (Or.inr (Or.inl ((z).2))))⟩))))
    obtain ⟨S_92, e_92, h⟩ := ob_s h
    replace q := sF_w e_92 q (Decidable.not_and_iff_or_not.mp (fun z => hw (Or.inl (⟨(z).1, Or.inr (Or.inr (Or.inr (Or.inr (Or.inr (Or.inl ((z).2))))))⟩))))
    rcases ob_i h with ⟨c_98, h⟩ | ⟨c_98, h⟩
    · skip
      exact (w_Mo_readsRule_110 S_92 _ h hw).trans q
    · skip
      obtain ⟨w_102, q_102, h⟩ := ob_b h
      replace q := (w_Mo_readsSum q_102 (fun z => hw ((z).elim (fun a0 => Or.inl (⟨(a0).1, ((a0).2).elim (fun a0 => Or.inl (a0)) (fun z0 => (z0).elim (fun a1 => Or.inr (Or.inl (a1))) (fun z1 => (z1).elim (fun a2 => Or.inr (Or.inr (Or.inl (a2)))) (fun z2 => (z2).elim (fun a3 => Or.inr (Or.inr (Or.inr (Or.inl (a3))))) (fun z3 => (z3).elim (fun a4 => Or.inr (Or.inr (Or.inr (Or.inr (Or.inl (a4)))))) (fun z4 => Or.inr (Or.inr (Or.inr (Or.inr (Or.inr (Or.inl (z4)))))))))))⟩)) (fun z0 => (z0).elim (fun a1 => Or.inr (Or.inl (a1))) (fun z1 => Or.inr (Or.inr (Or.inl (z1)))))))).trans q
      rcases ob_i h with ⟨c_105, h⟩ | ⟨c_105, h⟩
      · skip
        cases h
        exact q
      · skip
        exact (w_Mo_readsRule_110 w_102.2 _ h hw).trans q
set_option maxHeartbeats 4000000 in
theorem w_Mo_readsRule  {S : St} {w : Int32 × St} (h : f_Mo_readsRule S = some w) {kr jr : Nat} (hw : ¬ ((kr = 0 ∧ (jr = 8 ∨ jr = 10 ∨ jr = 11 ∨ jr = 12 ∨ jr = 13 ∨ jr = 14 ∨ jr = 15)) ∨ kr = 7 ∨ kr = 8 ∨ kr = 9 ∨ kr = 10 ∨ kr = 11 ∨ kr = 12)) : w.2 kr jr = S kr jr := by
  unfold f_Mo_readsRule at h
  have q : S kr jr = S kr jr := rfl
  obtain ⟨v_1, q_1, h⟩ := ob_b h
  rcases ob_i h with ⟨c_8, h⟩ | ⟨c_8, h⟩
  · skip
    exact (w_Mo_readsRule_33 S v_1 _ h hw).trans q
  · skip
    rcases ob_i h with ⟨c_14, h⟩ | ⟨c_14, h⟩
    · skip
      exact (w_Mo_readsRule_33 S v_1 _ h hw).trans q
    · skip
      rcases ob_i h with ⟨c_20, h⟩ | ⟨c_20, h⟩
      · skip
        exact (w_Mo_readsRule_33 S v_1 _ h hw).trans q
      · skip
        obtain ⟨w_29, q_29, h⟩ := ob_b h
        replace q := (w_Mo_wrongAt q_29 (fun z => hw (Or.inl (⟨(z).1, Or.inr (Or.inl ((z).2))⟩)))).trans q
        obtain ⟨g_32, h⟩ := ob_g h
        cases h
        exact q
set_option maxHeartbeats 4000000 in
theorem w_Mo_beginsText  {S : St} {l1 : Int32} {w : St} (h : f_Mo_beginsText S l1 = some w) {kr jr : Nat} (hw : ¬ ((kr = 0 ∧ (jr = 8 ∨ jr = 9 ∨ jr = 13 ∨ jr = 15)))) : w kr jr = S kr jr := by
  unfold f_Mo_beginsText at h
  have q : S kr jr = S kr jr := rfl
  obtain ⟨S_2, e_2, h⟩ := ob_s h
  replace q := sF_w e_2 q (Decidable.not_and_iff_or_not.mp (fun z => hw (⟨(z).1, Or.inl ((z).2)⟩)))
  obtain ⟨S_7, e_7, h⟩ := ob_s h
  replace q := sF_w e_7 q (Decidable.not_and_iff_or_not.mp (fun z => hw (⟨(z).1, Or.inr (Or.inl ((z).2))⟩)))
  obtain ⟨S_12, e_12, h⟩ := ob_s h
  replace q := sF_w e_12 q (Decidable.not_and_iff_or_not.mp (fun z => hw (⟨(z).1, Or.inr (Or.inr (Or.inl ((z).2)))⟩)))
  obtain ⟨S_17, e_17, h⟩ := ob_s h
  replace q := sF_w e_17 q (Decidable.not_and_iff_or_not.mp (fun z => hw (⟨(z).1, Or.inr (Or.inr (Or.inr ((z).2)))⟩)))
  cases h
  exact q
set_option maxHeartbeats 4000000 in
theorem w_Mo_law_67 {kr jr : Nat}  (k_31 : St → Int32 → Option (Int32 × St)) (hk_31 : ∀ (S : St) (l2 : Int32) (w : Int32 × St), k_31 S l2 = some w → w.2 kr jr = S kr jr) (S : St) (s0 : Int32) (w : Int32 × St) (h : f_Mo_law_67 k_31 S s0 = some w) (hw : ¬ ((kr = 0 ∧ (jr = 7 ∨ jr = 8 ∨ jr = 9 ∨ jr = 10 ∨ jr = 11 ∨ jr = 12 ∨ jr = 13 ∨ jr = 14 ∨ jr = 15 ∨ jr = 16)) ∨ kr = 7 ∨ kr = 8 ∨ kr = 9 ∨ kr = 10 ∨ kr = 11 ∨ kr = 12 ∨ kr = 13 ∨ kr = 14 ∨ kr = 15 ∨ kr = 16 ∨ kr = 17)) : w.2 kr jr = S kr jr := by
  unfold f_Mo_law_67 at h
  have q : S kr jr = S kr jr := rfl
  exact (hk_31 S s0 _ h).trans q
set_option maxHeartbeats 4000000 in
theorem w_Mo_law_66 {kr jr : Nat}  (k_31 : St → Int32 → Option (Int32 × St)) (hk_31 : ∀ (S : St) (l2 : Int32) (w : Int32 × St), k_31 S l2 = some w → w.2 kr jr = S kr jr) (S : St) (w : Int32 × St) (h : f_Mo_law_66 k_31 S = some w) (hw : ¬ ((kr = 0 ∧ (jr = 7 ∨ jr = 8 ∨ jr = 9 ∨ jr = 10 ∨ jr = 11 ∨ jr = 12 ∨ jr = 13 ∨ jr = 14 ∨ jr = 15 ∨ jr = 16)) ∨ kr = 7 ∨ kr = 8 ∨ kr = 9 ∨ kr = 10 ∨ kr = 11 ∨ kr = 12 ∨ kr = 13 ∨ kr = 14 ∨ kr = 15 ∨ kr = 16 ∨ kr = 17)) : w.2 kr jr = S kr jr := by
  unfold f_Mo_law_66 at h
  have q : S kr jr = S kr jr := rfl
  exact (w_Mo_law_67 k_31 hk_31 S (0 : Int32) _ h hw).trans q
set_option maxHeartbeats 4000000 in
theorem w_Mo_law_123 {kr jr : Nat}  : ∀ (n : Nat) (S : St) (l3 : Int32) (w : Int32 × St), f_Mo_law_123 n S l3 = some w → ¬ ((kr = 0 ∧ (jr = 7 ∨ jr = 8 ∨ jr = 9 ∨ jr = 10 ∨ jr = 11 ∨ jr = 12 ∨ jr = 13 ∨ jr = 14 ∨ jr = 15 ∨ jr = 16)) ∨ kr = 7 ∨ kr = 8 ∨ kr = 9 ∨ kr = 10 ∨ kr = 11 ∨ kr = 12 ∨ kr = 13 ∨ kr = 14 ∨ kr = 15 ∨ kr = 16 ∨ kr = 17) → w.2 kr jr = S kr jr := by
  intro n
  induction n with
  | zero =>
    intro S l3 w h hw
    rw [f_Mo_law_123] at h
    cases h
  | succ n ih =>
    intro S l3 w h hw
    replace ih := fun S l3 w h => ih S l3 w h hw
    rw [f_Mo_law_123] at h
    have q : S kr jr = S kr jr := rfl
    rcases ob_i h with ⟨c_128, h⟩ | ⟨c_128, h⟩
    · skip
      cases h
      exact q
    · skip
      obtain ⟨g_141, h⟩ := ob_g h
      obtain ⟨g_142, h⟩ := ob_g h
      obtain ⟨S_142, e_142, h⟩ := ob_s h
      replace q := sF_w e_142 q (Or.inl (fun z => hw (Or.inr (Or.inr (Or.inr (Or.inr (Or.inr (Or.inr (Or.inr (Or.inr (Or.inl (z))))))))))))
      obtain ⟨g_153, h⟩ := ob_g h
      obtain ⟨g_154, h⟩ := ob_g h
      obtain ⟨S_154, e_154, h⟩ := ob_s h
      replace q := sF_w e_154 q (Or.inl (fun z => hw (Or.inr (Or.inr (Or.inr (Or.inr (Or.inr (Or.inr (Or.inr (Or.inr (Or.inr (Or.inl (z)))))))))))))
      obtain ⟨g_165, h⟩ := ob_g h
      obtain ⟨g_166, h⟩ := ob_g h
      obtain ⟨S_166, e_166, h⟩ := ob_s h
      replace q := sF_w e_166 q (Or.inl (fun z => hw (Or.inr (Or.inr (Or.inr (Or.inr (Or.inr (Or.inr (Or.inr (Or.inr (Or.inr (Or.inr (Or.inl (z))))))))))))))
      obtain ⟨g_177, h⟩ := ob_g h
      obtain ⟨g_178, h⟩ := ob_g h
      obtain ⟨S_178, e_178, h⟩ := ob_s h
      replace q := sF_w e_178 q (Or.inl (fun z => hw (Or.inr (Or.inr (Or.inr (Or.inr (Or.inr (Or.inr (Or.inr (Or.inr (Or.inr (Or.inr (Or.inr (z))))))))))))))
      obtain ⟨l3_179, e_179, h⟩ := ob_s h
      exact (ih S_178 l3_179 _ h).trans q
set_option maxHeartbeats 4000000 in
theorem w_Mo_law_95 {kr jr : Nat}  : ∀ (n : Nat) (S : St) (l3 : Int32) (w : Int32 × St), f_Mo_law_95 n S l3 = some w → ¬ ((kr = 0 ∧ (jr = 7 ∨ jr = 8 ∨ jr = 9 ∨ jr = 10 ∨ jr = 11 ∨ jr = 12 ∨ jr = 13 ∨ jr = 14 ∨ jr = 15 ∨ jr = 16)) ∨ kr = 7 ∨ kr = 8 ∨ kr = 9 ∨ kr = 10 ∨ kr = 11 ∨ kr = 12 ∨ kr = 13 ∨ kr = 14 ∨ kr = 15 ∨ kr = 16 ∨ kr = 17) → w.2 kr jr = S kr jr := by
  intro n
  induction n with
  | zero =>
    intro S l3 w h hw
    rw [f_Mo_law_95] at h
    cases h
  | succ n ih =>
    intro S l3 w h hw
    replace ih := fun S l3 w h => ih S l3 w h hw
    rw [f_Mo_law_95] at h
    have q : S kr jr = S kr jr := rfl
    rcases ob_i h with ⟨c_100, h⟩ | ⟨c_100, h⟩
    · skip
      obtain ⟨l3_122, e_122, h⟩ := ob_s h
      exact (w_Mo_law_123 FU S l3_122 _ h hw).trans q
    · skip
      obtain ⟨g_113, h⟩ := ob_g h
      obtain ⟨g_114, h⟩ := ob_g h
      obtain ⟨S_114, e_114, h⟩ := ob_s h
      replace q := sF_w e_114 q (Or.inl (fun z => hw (Or.inr (Or.inr (Or.inr (Or.inr (Or.inr (Or.inr (Or.inr (Or.inl (z)))))))))))
      obtain ⟨l3_115, e_115, h⟩ := ob_s h
      exact (ih S_114 l3_115 _ h).trans q
set_option maxHeartbeats 4000000 in
theorem w_Mo_law_71 {kr jr : Nat}  (S : St) (l2 : Int32) (w : Int32 × St) (h : f_Mo_law_71 S l2 = some w) (hw : ¬ ((kr = 0 ∧ (jr = 7 ∨ jr = 8 ∨ jr = 9 ∨ jr = 10 ∨ jr = 11 ∨ jr = 12 ∨ jr = 13 ∨ jr = 14 ∨ jr = 15 ∨ jr = 16)) ∨ kr = 7 ∨ kr = 8 ∨ kr = 9 ∨ kr = 10 ∨ kr = 11 ∨ kr = 12 ∨ kr = 13 ∨ kr = 14 ∨ kr = 15 ∨ kr = 16 ∨ kr = 17)) : w.2 kr jr = S kr jr := by
  unfold f_Mo_law_71 at h
  have q : S kr jr = S kr jr := rfl
  obtain ⟨S_73, e_73, h⟩ := ob_s h
  replace q := sF_w e_73 q (Decidable.not_and_iff_or_not.mp (fun z => hw (Or.inl (⟨(z).1, Or.inl ((z).2)⟩))))
  rcases ob_i h with ⟨c_77, h⟩ | ⟨c_77, h⟩
  · skip
    cases h
    exact q
  · skip
    obtain ⟨S_90, e_90, h⟩ := ob_s h
    replace q := sF_w e_90 q (Decidable.not_and_iff_or_not.mp (fun z => hw (Or.inl (⟨(z).1, Or.inr (Or.inr (Or.inr (Or.inr (Or.inr (Or.inr (Or.inr (Or.inr (Or.inr ((z).2)))))))))⟩))))
    obtain ⟨l3_94, e_94, h⟩ := ob_s h
    exact (w_Mo_law_95 FU S_90 l3_94 _ h hw).trans q
set_option maxHeartbeats 4000000 in
theorem w_Mo_law_31 {kr jr : Nat}  : ∀ (n : Nat) (S : St) (l2 : Int32) (w : Int32 × St), f_Mo_law_31 n S l2 = some w → ¬ ((kr = 0 ∧ (jr = 7 ∨ jr = 8 ∨ jr = 9 ∨ jr = 10 ∨ jr = 11 ∨ jr = 12 ∨ jr = 13 ∨ jr = 14 ∨ jr = 15 ∨ jr = 16)) ∨ kr = 7 ∨ kr = 8 ∨ kr = 9 ∨ kr = 10 ∨ kr = 11 ∨ kr = 12 ∨ kr = 13 ∨ kr = 14 ∨ kr = 15 ∨ kr = 16 ∨ kr = 17) → w.2 kr jr = S kr jr := by
  intro n
  induction n with
  | zero =>
    intro S l2 w h hw
    rw [f_Mo_law_31] at h
    cases h
  | succ n ih =>
    intro S l2 w h hw
    replace ih := fun S l2 w h => ih S l2 w h hw
    rw [f_Mo_law_31] at h
    have q : S kr jr = S kr jr := rfl
    rcases ob_i h with ⟨c_32, h⟩ | ⟨c_32, h⟩
    · skip
      exact (w_Mo_law_71 S l2 _ h hw).trans q
    · skip
      rcases ob_i h with ⟨c_43, h⟩ | ⟨c_43, h⟩
      · skip
        exact (w_Mo_law_71 S l2 _ h hw).trans q
      · skip
        obtain ⟨w_49, q_49, h⟩ := ob_b h
        replace q := (w_Mo_takes q_49 (fun z => hw (Or.inl (⟨(z).1, ((z).2).elim (fun a0 => Or.inr (Or.inl (a0))) (fun z0 => Or.inr (Or.inr (Or.inr (Or.inl (z0)))))⟩)))).trans q
        rcases ob_i h with ⟨c_52, h⟩ | ⟨c_52, h⟩
        · skip
          exact (w_Mo_law_66 (f_Mo_law_31 n) ih w_49.2 _ h hw).trans q
        · skip
          obtain ⟨w_56, q_56, h⟩ := ob_b h
          replace q := (w_Mo_readsRule q_56 (fun z => hw ((z).elim (fun a0 => Or.inl (⟨(a0).1, ((a0).2).elim (fun a0 => Or.inr (Or.inl (a0))) (fun z0 => (z0).elim (fun a1 => Or.inr (Or.inr (Or.inr (Or.inl (a1))))) (fun z1 => (z1).elim (fun a2 => Or.inr (Or.inr (Or.inr (Or.inr (Or.inl (a2)))))) (fun z2 => (z2).elim (fun a3 => Or.inr (Or.inr (Or.inr (Or.inr (Or.inr (Or.inl (a3))))))) (fun z3 => (z3).elim (fun a4 => Or.inr (Or.inr (Or.inr (Or.inr (Or.inr (Or.inr (Or.inl (a4)))))))) (fun z4 => (z4).elim (fun a5 => Or.inr (Or.inr (Or.inr (Or.inr (Or.inr (Or.inr (Or.inr (Or.inl (a5))))))))) (fun z5 => Or.inr (Or.inr (Or.inr (Or.inr (Or.inr (Or.inr (Or.inr (Or.inr (Or.inl (z5)))))))))))))))⟩)) (fun z0 => (z0).elim (fun a1 => Or.inr (Or.inl (a1))) (fun z1 => (z1).elim (fun a2 => Or.inr (Or.inr (Or.inl (a2)))) (fun z2 => (z2).elim (fun a3 => Or.inr (Or.inr (Or.inr (Or.inl (a3))))) (fun z3 => (z3).elim (fun a4 => Or.inr (Or.inr (Or.inr (Or.inr (Or.inl (a4)))))) (fun z4 => (z4).elim (fun a5 => Or.inr (Or.inr (Or.inr (Or.inr (Or.inr (Or.inl (a5))))))) (fun z5 => Or.inr (Or.inr (Or.inr (Or.inr (Or.inr (Or.inr (Or.inl (z5)))))))))))))))).trans q
          rcases ob_i h with ⟨c_59, h⟩ | ⟨c_59, h⟩
          · skip
            exact (w_Mo_law_66 (f_Mo_law_31 n) ih w_56.2 _ h hw).trans q
          · skip
            exact (w_Mo_law_67 (f_Mo_law_31 n) ih w_56.2 (1 : Int32) _ h hw).trans q
set_option maxHeartbeats 4000000 in
theorem w_Mo_law  {S : St} {l1 : Int32} {w : Int32 × St} (h : f_Mo_law S l1 = some w) {kr jr : Nat} (hw : ¬ ((kr = 0 ∧ (jr = 7 ∨ jr = 8 ∨ jr = 9 ∨ jr = 10 ∨ jr = 11 ∨ jr = 12 ∨ jr = 13 ∨ jr = 14 ∨ jr = 15 ∨ jr = 16)) ∨ kr = 7 ∨ kr = 8 ∨ kr = 9 ∨ kr = 10 ∨ kr = 11 ∨ kr = 12 ∨ kr = 13 ∨ kr = 14 ∨ kr = 15 ∨ kr = 16 ∨ kr = 17)) : w.2 kr jr = S kr jr := by
  unfold f_Mo_law at h
  have q : S kr jr = S kr jr := rfl
  obtain ⟨v_5, q_5, h⟩ := ob_b h
  rcases ob_i h with ⟨c_8, h⟩ | ⟨c_8, h⟩
  · skip
    cases h
    exact q
  · skip
    rcases ob_i h with ⟨c_16, h⟩ | ⟨c_16, h⟩
    · skip
      obtain ⟨w_23, q_23, h⟩ := ob_b h
      replace q := (w_Mo_beginsText q_23 (fun z => hw (Or.inl (⟨(z).1, ((z).2).elim (fun a0 => Or.inr (Or.inl (a0))) (fun z0 => (z0).elim (fun a1 => Or.inr (Or.inr (Or.inl (a1)))) (fun z1 => (z1).elim (fun a2 => Or.inr (Or.inr (Or.inr (Or.inr (Or.inr (Or.inr (Or.inl (a2)))))))) (fun z2 => Or.inr (Or.inr (Or.inr (Or.inr (Or.inr (Or.inr (Or.inr (Or.inr (Or.inl (z2))))))))))))⟩)))).trans q
      obtain ⟨w_27, q_27, h⟩ := ob_b h
      replace q := (w_Mo_readsRule q_27 (fun z => hw ((z).elim (fun a0 => Or.inl (⟨(a0).1, ((a0).2).elim (fun a0 => Or.inr (Or.inl (a0))) (fun z0 => (z0).elim (fun a1 => Or.inr (Or.inr (Or.inr (Or.inl (a1))))) (fun z1 => (z1).elim (fun a2 => Or.inr (Or.inr (Or.inr (Or.inr (Or.inl (a2)))))) (fun z2 => (z2).elim (fun a3 => Or.inr (Or.inr (Or.inr (Or.inr (Or.inr (Or.inl (a3))))))) (fun z3 => (z3).elim (fun a4 => Or.inr (Or.inr (Or.inr (Or.inr (Or.inr (Or.inr (Or.inl (a4)))))))) (fun z4 => (z4).elim (fun a5 => Or.inr (Or.inr (Or.inr (Or.inr (Or.inr (Or.inr (Or.inr (Or.inl (a5))))))))) (fun z5 => Or.inr (Or.inr (Or.inr (Or.inr (Or.inr (Or.inr (Or.inr (Or.inr (Or.inl (z5)))))))))))))))⟩)) (fun z0 => (z0).elim (fun a1 => Or.inr (Or.inl (a1))) (fun z1 => (z1).elim (fun a2 => Or.inr (Or.inr (Or.inl (a2)))) (fun z2 => (z2).elim (fun a3 => Or.inr (Or.inr (Or.inr (Or.inl (a3))))) (fun z3 => (z3).elim (fun a4 => Or.inr (Or.inr (Or.inr (Or.inr (Or.inl (a4)))))) (fun z4 => (z4).elim (fun a5 => Or.inr (Or.inr (Or.inr (Or.inr (Or.inr (Or.inl (a5))))))) (fun z5 => Or.inr (Or.inr (Or.inr (Or.inr (Or.inr (Or.inr (Or.inl (z5)))))))))))))))).trans q
      obtain ⟨l2_30, e_30, h⟩ := ob_s h
      exact (w_Mo_law_31 FU w_27.2 l2_30 _ h hw).trans q
    · skip
      cases h
      exact q
set_option maxHeartbeats 4000000 in
theorem w_Mo_reckonsTo_230 {kr jr : Nat}  (k_16 : St → Int32 → Int32 → Int32 → Int32 → Option (Int32 × St)) (hk_16 : ∀ (S : St) (l2 : Int32) (l3 : Int32) (l4 : Int32) (l5 : Int32) (w : Int32 × St), k_16 S l2 l3 l4 l5 = some w → w.2 kr jr = S kr jr) (S : St) (l2 : Int32) (l3 : Int32) (l4 : Int32) (l5 : Int32) (w : Int32 × St) (h : f_Mo_reckonsTo_230 k_16 S l2 l3 l4 l5 = some w) (hw : ¬ (kr = 18)) : w.2 kr jr = S kr jr := by
  unfold f_Mo_reckonsTo_230 at h
  have q : S kr jr = S kr jr := rfl
  exact (hk_16 S l2 l3 l4 l5 _ h).trans q
set_option maxHeartbeats 4000000 in
theorem w_Mo_reckonsTo_85 {kr jr : Nat}  (k_16 : St → Int32 → Int32 → Int32 → Int32 → Option (Int32 × St)) (hk_16 : ∀ (S : St) (l2 : Int32) (l3 : Int32) (l4 : Int32) (l5 : Int32) (w : Int32 × St), k_16 S l2 l3 l4 l5 = some w → w.2 kr jr = S kr jr) (S : St) (l2 : Int32) (l3 : Int32) (l4 : Int32) (l5 : Int32) (s0 : Int32) (s1 : Int32) (w : Int32 × St) (h : f_Mo_reckonsTo_85 k_16 S l2 l3 l4 l5 s0 s1 = some w) (hw : ¬ (kr = 18)) : w.2 kr jr = S kr jr := by
  unfold f_Mo_reckonsTo_85 at h
  have q : S kr jr = S kr jr := rfl
  obtain ⟨g_85, h⟩ := ob_g h
  obtain ⟨S_85, e_85, h⟩ := ob_s h
  replace q := sF_w e_85 q (Or.inl (fun z => hw (z)))
  obtain ⟨l3_89, e_89, h⟩ := ob_s h
  exact (w_Mo_reckonsTo_230 k_16 hk_16 S_85 l2 l3_89 l4 l5 _ h hw).trans q
set_option maxHeartbeats 4000000 in
theorem w_Mo_reckonsTo_63 {kr jr : Nat}  (k_16 : St → Int32 → Int32 → Int32 → Int32 → Option (Int32 × St)) (hk_16 : ∀ (S : St) (l2 : Int32) (l3 : Int32) (l4 : Int32) (l5 : Int32) (w : Int32 × St), k_16 S l2 l3 l4 l5 = some w → w.2 kr jr = S kr jr) (S : St) (l2 : Int32) (l3 : Int32) (l4 : Int32) (l5 : Int32) (l6 : Int32) (l7 : Int32) (w : Int32 × St) (h : f_Mo_reckonsTo_63 k_16 S l2 l3 l4 l5 l6 l7 = some w) (hw : ¬ (kr = 18)) : w.2 kr jr = S kr jr := by
  unfold f_Mo_reckonsTo_63 at h
  have q : S kr jr = S kr jr := rfl
  rcases ob_i h with ⟨c_70, h⟩ | ⟨c_70, h⟩
  · skip
    exact (w_Mo_reckonsTo_85 k_16 hk_16 S l2 l3 l4 l5 l7 l3 _ h hw).trans q
  · skip
    obtain ⟨g_84, h⟩ := ob_g h
    exact (w_Mo_reckonsTo_85 k_16 hk_16 S l2 l3 l4 l5 (S 19 l7.toNatClampNeg) l3 _ h hw).trans q
set_option maxHeartbeats 4000000 in
theorem w_Mo_reckonsTo_155 {kr jr : Nat}  (k_16 : St → Int32 → Int32 → Int32 → Int32 → Option (Int32 × St)) (hk_16 : ∀ (S : St) (l2 : Int32) (l3 : Int32) (l4 : Int32) (l5 : Int32) (w : Int32 × St), k_16 S l2 l3 l4 l5 = some w → w.2 kr jr = S kr jr) (S : St) (l2 : Int32) (l3 : Int32) (l4 : Int32) (l5 : Int32) (l7 : Int32) (s0 : Int32) (s1 : Int32) (w : Int32 × St) (h : f_Mo_reckonsTo_155 k_16 S l2 l3 l4 l5 l7 s0 s1 = some w) (hw : ¬ (kr = 18)) : w.2 kr jr = S kr jr := by
  unfold f_Mo_reckonsTo_155 at h
  have q : S kr jr = S kr jr := rfl
  rcases ob_i h with ⟨c_155, h⟩ | ⟨c_155, h⟩
  · skip
    obtain ⟨l5_163, e_163, h⟩ := ob_s h
    exact (w_Mo_reckonsTo_230 k_16 hk_16 S l2 l3 l4 l5_163 _ h hw).trans q
  · skip
    obtain ⟨l3_171, e_171, h⟩ := ob_s h
    exact (w_Mo_reckonsTo_230 k_16 hk_16 S l2 l3_171 l4 l5 _ h hw).trans q
set_option maxHeartbeats 4000000 in
theorem w_Mo_reckonsTo_135 {kr jr : Nat}  (k_16 : St → Int32 → Int32 → Int32 → Int32 → Option (Int32 × St)) (hk_16 : ∀ (S : St) (l2 : Int32) (l3 : Int32) (l4 : Int32) (l5 : Int32) (w : Int32 × St), k_16 S l2 l3 l4 l5 = some w → w.2 kr jr = S kr jr) (S : St) (l2 : Int32) (l3 : Int32) (l4 : Int32) (l5 : Int32) (l6 : Int32) (l7 : Int32) (w : Int32 × St) (h : f_Mo_reckonsTo_135 k_16 S l2 l3 l4 l5 l6 l7 = some w) (hw : ¬ (kr = 18)) : w.2 kr jr = S kr jr := by
  unfold f_Mo_reckonsTo_135 at h
  have q : S kr jr = S kr jr := rfl
  obtain ⟨g_142, h⟩ := ob_g h
  rcases ob_i h with ⟨c_147, h⟩ | ⟨c_147, h⟩
  · skip
    exact (w_Mo_reckonsTo_155 k_16 hk_16 S l2 l3 l4 l5 l7 (1 : Int32) (S 18 (l3 - 1).toNatClampNeg) _ h hw).trans q
  · skip
    exact (w_Mo_reckonsTo_155 k_16 hk_16 S l2 l3 l4 l5 l7 (0 : Int32) (S 18 (l3 - 1).toNatClampNeg) _ h hw).trans q
set_option maxHeartbeats 4000000 in
theorem w_Mo_reckonsTo_203 {kr jr : Nat}  (k_16 : St → Int32 → Int32 → Int32 → Int32 → Option (Int32 × St)) (hk_16 : ∀ (S : St) (l2 : Int32) (l3 : Int32) (l4 : Int32) (l5 : Int32) (w : Int32 × St), k_16 S l2 l3 l4 l5 = some w → w.2 kr jr = S kr jr) (S : St) (l2 : Int32) (l3 : Int32) (l4 : Int32) (l5 : Int32) (l6 : Int32) (w : Int32 × St) (h : f_Mo_reckonsTo_203 k_16 S l2 l3 l4 l5 l6 = some w) (hw : ¬ (kr = 18)) : w.2 kr jr = S kr jr := by
  unfold f_Mo_reckonsTo_203 at h
  have q : S kr jr = S kr jr := rfl
  obtain ⟨g_219, h⟩ := ob_g h
  obtain ⟨g_225, h⟩ := ob_g h
  obtain ⟨v_226, q_226, h⟩ := ob_b h
  obtain ⟨g_229, h⟩ := ob_g h
  obtain ⟨S_229, e_229, h⟩ := ob_s h
  replace q := sF_w e_229 q (Or.inl (fun z => hw (z)))
  exact (w_Mo_reckonsTo_230 k_16 hk_16 S_229 l2 l3 l4 l5 _ h hw).trans q
set_option maxHeartbeats 4000000 in
theorem w_Mo_reckonsTo_192 {kr jr : Nat}  (k_16 : St → Int32 → Int32 → Int32 → Int32 → Option (Int32 × St)) (hk_16 : ∀ (S : St) (l2 : Int32) (l3 : Int32) (l4 : Int32) (l5 : Int32) (w : Int32 × St), k_16 S l2 l3 l4 l5 = some w → w.2 kr jr = S kr jr) (S : St) (l2 : Int32) (l3 : Int32) (l4 : Int32) (l5 : Int32) (l6 : Int32) (w : Int32 × St) (h : f_Mo_reckonsTo_192 k_16 S l2 l3 l4 l5 l6 = some w) (hw : ¬ (kr = 18)) : w.2 kr jr = S kr jr := by
  unfold f_Mo_reckonsTo_192 at h
  have q : S kr jr = S kr jr := rfl
  obtain ⟨g_197, h⟩ := ob_g h
  rcases ob_i h with ⟨c_198, h⟩ | ⟨c_198, h⟩
  · skip
    cases h
    exact q
  · skip
    exact (w_Mo_reckonsTo_203 k_16 hk_16 S l2 l3 l4 l5 l6 _ h hw).trans q
set_option maxHeartbeats 4000000 in
theorem w_Mo_reckonsTo_16 {kr jr : Nat}  : ∀ (n : Nat) (S : St) (l2 : Int32) (l3 : Int32) (l4 : Int32) (l5 : Int32) (w : Int32 × St), f_Mo_reckonsTo_16 n S l2 l3 l4 l5 = some w → ¬ (kr = 18) → w.2 kr jr = S kr jr := by
  intro n
  induction n with
  | zero =>
    intro S l2 l3 l4 l5 w h hw
    rw [f_Mo_reckonsTo_16] at h
    cases h
  | succ n ih =>
    intro S l2 l3 l4 l5 w h hw
    replace ih := fun S l2 l3 l4 l5 w h => ih S l2 l3 l4 l5 w h hw
    rw [f_Mo_reckonsTo_16] at h
    have q : S kr jr = S kr jr := rfl
    rcases ob_i h with ⟨c_19, h⟩ | ⟨c_19, h⟩
    · skip
      obtain ⟨g_238, h⟩ := ob_g h
      cases h
      exact q
    · skip
      obtain ⟨g_28, h⟩ := ob_g h
      obtain ⟨l6_32, e_32, h⟩ := ob_s h
      obtain ⟨g_40, h⟩ := ob_g h
      obtain ⟨l7_44, e_44, h⟩ := ob_s h
      obtain ⟨l5_50, e_50, h⟩ := ob_s h
      rcases ob_i h with ⟨c_54, h⟩ | ⟨c_54, h⟩
      · skip
        exact (w_Mo_reckonsTo_63 (f_Mo_reckonsTo_16 n) ih S l2 l3 l4 l5_50 l6_32 l7_44 _ h hw).trans q
      · skip
        rcases ob_i h with ⟨c_60, h⟩ | ⟨c_60, h⟩
        · skip
          exact (w_Mo_reckonsTo_63 (f_Mo_reckonsTo_16 n) ih S l2 l3 l4 l5_50 l6_32 l7_44 _ h hw).trans q
        · skip
          rcases ob_i h with ⟨c_97, h⟩ | ⟨c_97, h⟩
          · skip
            obtain ⟨g_115, h⟩ := ob_g h
            obtain ⟨g_117, h⟩ := ob_g h
            obtain ⟨S_117, e_117, h⟩ := ob_s h
            replace q := sF_w e_117 q (Or.inl (fun z => hw (z)))
            exact (w_Mo_reckonsTo_230 (f_Mo_reckonsTo_16 n) ih S_117 l2 l3 l4 l5_50 _ h hw).trans q
          · skip
            rcases ob_i h with ⟨c_125, h⟩ | ⟨c_125, h⟩
            · skip
              exact (w_Mo_reckonsTo_135 (f_Mo_reckonsTo_16 n) ih S l2 l3 l4 l5_50 l6_32 l7_44 _ h hw).trans q
            · skip
              rcases ob_i h with ⟨c_132, h⟩ | ⟨c_132, h⟩
              · skip
                exact (w_Mo_reckonsTo_135 (f_Mo_reckonsTo_16 n) ih S l2 l3 l4 l5_50 l6_32 l7_44 _ h hw).trans q
              · skip
                obtain ⟨l3_178, e_178, h⟩ := ob_s h
                rcases ob_i h with ⟨c_182, h⟩ | ⟨c_182, h⟩
                · skip
                  exact (w_Mo_reckonsTo_192 (f_Mo_reckonsTo_16 n) ih S l2 l3_178 l4 l5_50 l6_32 _ h hw).trans q
                · skip
                  rcases ob_i h with ⟨c_189, h⟩ | ⟨c_189, h⟩
                  · skip
                    exact (w_Mo_reckonsTo_192 (f_Mo_reckonsTo_16 n) ih S l2 l3_178 l4 l5_50 l6_32 _ h hw).trans q
                  · skip
                    exact (w_Mo_reckonsTo_203 (f_Mo_reckonsTo_16 n) ih S l2 l3_178 l4 l5_50 l6_32 _ h hw).trans q
set_option maxHeartbeats 4000000 in
theorem w_Mo_reckonsTo  {S : St} {l1 : Int32} {l2 : Int32} {w : Int32 × St} (h : f_Mo_reckonsTo S l1 l2 = some w) {kr jr : Nat} (hw : ¬ (kr = 18)) : w.2 kr jr = S kr jr := by
  unfold f_Mo_reckonsTo at h
  have q : S kr jr = S kr jr := rfl
  obtain ⟨l3_1, e_1, h⟩ := ob_s h
  obtain ⟨l4_11, e_11, h⟩ := ob_s h
  exact (w_Mo_reckonsTo_16 FU S l2 l3_1 l4_11 l1 _ h hw).trans q
set_option maxHeartbeats 4000000 in
theorem w_Mo_byLaw_90 {kr jr : Nat}  (k_3 : St → Int32 → Int32 → Int32 → Int32 → Option (Int32 × St)) (hk_3 : ∀ (S : St) (l1 : Int32) (l2 : Int32) (l3 : Int32) (l4 : Int32) (w : Int32 × St), k_3 S l1 l2 l3 l4 = some w → w.2 kr jr = S kr jr) (S : St) (l1 : Int32) (l2 : Int32) (l3 : Int32) (l4 : Int32) (w : Int32 × St) (h : f_Mo_byLaw_90 k_3 S l1 l2 l3 l4 = some w) (hw : ¬ (kr = 18)) : w.2 kr jr = S kr jr := by
  unfold f_Mo_byLaw_90 at h
  have q : S kr jr = S kr jr := rfl
  obtain ⟨l4_90, e_90, h⟩ := ob_s h
  exact (hk_3 S l1 l2 l3 l4_90 _ h).trans q
set_option maxHeartbeats 4000000 in
theorem w_Mo_byLaw_3 {kr jr : Nat}  : ∀ (n : Nat) (S : St) (l1 : Int32) (l2 : Int32) (l3 : Int32) (l4 : Int32) (w : Int32 × St), f_Mo_byLaw_3 n S l1 l2 l3 l4 = some w → ¬ (kr = 18) → w.2 kr jr = S kr jr := by
  intro n
  induction n with
  | zero =>
    intro S l1 l2 l3 l4 w h hw
    rw [f_Mo_byLaw_3] at h
    cases h
  | succ n ih =>
    intro S l1 l2 l3 l4 w h hw
    replace ih := fun S l1 l2 l3 l4 w h => ih S l1 l2 l3 l4 w h hw
    rw [f_Mo_byLaw_3] at h
    have q : S kr jr = S kr jr := rfl
    rcases ob_i h with ⟨c_9, h⟩ | ⟨c_9, h⟩
    · skip
      cases h
      exact q
    · skip
      obtain ⟨g_18, h⟩ := ob_g h
      rcases ob_i h with ⟨c_20, h⟩ | ⟨c_20, h⟩
      · skip
        obtain ⟨g_30, h⟩ := ob_g h
        obtain ⟨g_37, h⟩ := ob_g h
        obtain ⟨w_38, q_38, h⟩ := ob_b h
        replace q := (w_Mo_reckonsTo q_38 (fun z => hw (z))).trans q
        rcases ob_i h with ⟨c_42, h⟩ | ⟨c_42, h⟩
        · skip
          obtain ⟨g_55, h⟩ := ob_g h
          obtain ⟨g_62, h⟩ := ob_g h
          obtain ⟨w_63, q_63, h⟩ := ob_b h
          replace q := (w_Mo_reckonsTo q_63 (fun z => hw (z))).trans q
          obtain ⟨l5_66, e_66, h⟩ := ob_s h
          rcases ob_i h with ⟨c_70, h⟩ | ⟨c_70, h⟩
          · skip
            rcases ob_i h with ⟨c_80, h⟩ | ⟨c_80, h⟩
            · skip
              cases h
              exact q
            · skip
              cases h
              exact q
          · skip
            cases h
            exact q
        · skip
          exact (w_Mo_byLaw_90 (f_Mo_byLaw_3 n) ih w_38.2 l1 l2 l3 l4 _ h hw).trans q
      · skip
        exact (w_Mo_byLaw_90 (f_Mo_byLaw_3 n) ih S l1 l2 l3 l4 _ h hw).trans q
set_option maxHeartbeats 4000000 in
theorem w_Mo_byLaw  {S : St} {l1 : Int32} {l2 : Int32} {l3 : Int32} {w : Int32 × St} (h : f_Mo_byLaw S l1 l2 l3 = some w) {kr jr : Nat} (hw : ¬ (kr = 18)) : w.2 kr jr = S kr jr := by
  unfold f_Mo_byLaw at h
  have q : S kr jr = S kr jr := rfl
  obtain ⟨l4_1, e_1, h⟩ := ob_s h
  exact (w_Mo_byLaw_3 FU S l1 l2 l3 l4_1 _ h hw).trans q
set_option maxHeartbeats 4000000 in
theorem w_Mo_holdsAny_42 {kr jr : Nat}  (k_2 : St → Int32 → Int32 → Option (Int32 × St)) (hk_2 : ∀ (S : St) (l1 : Int32) (l2 : Int32) (w : Int32 × St), k_2 S l1 l2 = some w → w.2 kr jr = S kr jr) (S : St) (l1 : Int32) (l2 : Int32) (w : Int32 × St) (h : f_Mo_holdsAny_42 k_2 S l1 l2 = some w) (hw : ¬ (kr = 18)) : w.2 kr jr = S kr jr := by
  unfold f_Mo_holdsAny_42 at h
  have q : S kr jr = S kr jr := rfl
  obtain ⟨l2_42, e_42, h⟩ := ob_s h
  exact (hk_2 S l1 l2_42 _ h).trans q
set_option maxHeartbeats 4000000 in
theorem w_Mo_holdsAny_2 {kr jr : Nat}  : ∀ (n : Nat) (S : St) (l1 : Int32) (l2 : Int32) (w : Int32 × St), f_Mo_holdsAny_2 n S l1 l2 = some w → ¬ (kr = 18) → w.2 kr jr = S kr jr := by
  intro n
  induction n with
  | zero =>
    intro S l1 l2 w h hw
    rw [f_Mo_holdsAny_2] at h
    cases h
  | succ n ih =>
    intro S l1 l2 w h hw
    replace ih := fun S l1 l2 w h => ih S l1 l2 w h hw
    rw [f_Mo_holdsAny_2] at h
    have q : S kr jr = S kr jr := rfl
    rcases ob_i h with ⟨c_7, h⟩ | ⟨c_7, h⟩
    · skip
      cases h
      exact q
    · skip
      obtain ⟨g_15, h⟩ := ob_g h
      rcases ob_i h with ⟨c_17, h⟩ | ⟨c_17, h⟩
      · skip
        obtain ⟨g_26, h⟩ := ob_g h
        obtain ⟨g_32, h⟩ := ob_g h
        obtain ⟨w_33, q_33, h⟩ := ob_b h
        replace q := (w_Mo_reckonsTo q_33 (fun z => hw (z))).trans q
        rcases ob_i h with ⟨c_37, h⟩ | ⟨c_37, h⟩
        · skip
          cases h
          exact q
        · skip
          exact (w_Mo_holdsAny_42 (f_Mo_holdsAny_2 n) ih w_33.2 l1 l2 _ h hw).trans q
      · skip
        exact (w_Mo_holdsAny_42 (f_Mo_holdsAny_2 n) ih S l1 l2 _ h hw).trans q
set_option maxHeartbeats 4000000 in
theorem w_Mo_holdsAny  {S : St} {l1 : Int32} {w : Int32 × St} (h : f_Mo_holdsAny S l1 = some w) {kr jr : Nat} (hw : ¬ (kr = 18)) : w.2 kr jr = S kr jr := by
  unfold f_Mo_holdsAny at h
  have q : S kr jr = S kr jr := rfl
  obtain ⟨l2_1, e_1, h⟩ := ob_s h
  exact (w_Mo_holdsAny_2 FU S l1 l2_1 _ h hw).trans q
set_option maxHeartbeats 4000000 in
theorem w_Mo_readsAmount_27 {kr jr : Nat}  : ∀ (n : Nat) (S : St) (l1 : Int32) (l2 : Int32) (w : Int32 × St), f_Mo_readsAmount_27 n S l1 l2 = some w → ¬ ((kr = 0 ∧ (jr = 8 ∨ jr = 10 ∨ jr = 11))) → w.2 kr jr = S kr jr := by
  intro n
  induction n with
  | zero =>
    intro S l1 l2 w h hw
    rw [f_Mo_readsAmount_27] at h
    cases h
  | succ n ih =>
    intro S l1 l2 w h hw
    replace ih := fun S l1 l2 w h => ih S l1 l2 w h hw
    rw [f_Mo_readsAmount_27] at h
    have q : S kr jr = S kr jr := rfl
    obtain ⟨v_28, q_28, h⟩ := ob_b h
    rcases ob_i h with ⟨c_31, h⟩ | ⟨c_31, h⟩
    · skip
      cases h
      exact q
    · skip
      rcases ob_i h with ⟨c_41, h⟩ | ⟨c_41, h⟩
      · skip
        obtain ⟨w_50, q_50, h⟩ := ob_b h
        replace q := (w_Mo_wrongAt q_50 (fun z => hw (⟨(z).1, Or.inr (Or.inl ((z).2))⟩))).trans q
        obtain ⟨g_53, h⟩ := ob_g h
        cases h
        exact q
      · skip
        obtain ⟨v_63, q_63, h⟩ := ob_b h
        obtain ⟨S_70, e_70, h⟩ := ob_s h
        replace q := sF_w e_70 q (Decidable.not_and_iff_or_not.mp (fun z => hw (⟨(z).1, Or.inr (Or.inr ((z).2))⟩)))
        obtain ⟨S_80, e_80, h⟩ := ob_s h
        replace q := sF_w e_80 q (Decidable.not_and_iff_or_not.mp (fun z => hw (⟨(z).1, Or.inl ((z).2)⟩)))
        exact (ih S_80 l1 l2 _ h).trans q
set_option maxHeartbeats 4000000 in
theorem w_Mo_readsAmount  {S : St} {l1 : Int32} {w : Int32 × St} (h : f_Mo_readsAmount S l1 = some w) {kr jr : Nat} (hw : ¬ ((kr = 0 ∧ (jr = 8 ∨ jr = 10 ∨ jr = 11)))) : w.2 kr jr = S kr jr := by
  unfold f_Mo_readsAmount at h
  have q : S kr jr = S kr jr := rfl
  obtain ⟨l2_4, e_4, h⟩ := ob_s h
  obtain ⟨v_6, q_6, h⟩ := ob_b h
  rcases ob_i h with ⟨c_9, h⟩ | ⟨c_9, h⟩
  · skip
    obtain ⟨w_18, q_18, h⟩ := ob_b h
    replace q := (w_Mo_wrongAt q_18 (fun z => hw (⟨(z).1, Or.inr (Or.inl ((z).2))⟩))).trans q
    obtain ⟨g_21, h⟩ := ob_g h
    cases h
    exact q
  · skip
    obtain ⟨S_24, e_24, h⟩ := ob_s h
    replace q := sF_w e_24 q (Decidable.not_and_iff_or_not.mp (fun z => hw (⟨(z).1, Or.inr (Or.inr ((z).2))⟩)))
    exact (w_Mo_readsAmount_27 FU S_24 l1 l2_4 _ h hw).trans q
set_option maxHeartbeats 4000000 in
theorem w_Mo_readsThing_224 {kr jr : Nat}  (S : St) (w : Int32 × St) (h : f_Mo_readsThing_224 S = some w) (hw : ¬ ((kr = 0 ∧ (jr = 8 ∨ jr = 10 ∨ jr = 11 ∨ jr = 34)) ∨ kr = 20 ∨ kr = 21 ∨ kr = 22 ∨ kr = 23)) : w.2 kr jr = S kr jr := by
  unfold f_Mo_readsThing_224 at h
  have q : S kr jr = S kr jr := rfl
  obtain ⟨S_231, e_231, h⟩ := ob_s h
  replace q := sF_w e_231 q (Decidable.not_and_iff_or_not.mp (fun z => hw (Or.inl (⟨(z).1, Or.inr (Or.inr (Or.inr ((z).2)))⟩))))
  cases h
  exact q
set_option maxHeartbeats 4000000 in
theorem w_Mo_readsThing_159 {kr jr : Nat}  (S : St) (w : Int32 × St) (h : f_Mo_readsThing_159 S = some w) (hw : ¬ ((kr = 0 ∧ (jr = 8 ∨ jr = 10 ∨ jr = 11 ∨ jr = 34)) ∨ kr = 20 ∨ kr = 21 ∨ kr = 22 ∨ kr = 23)) : w.2 kr jr = S kr jr := by
  unfold f_Mo_readsThing_159 at h
  have q : S kr jr = S kr jr := rfl
  obtain ⟨v_160, q_160, h⟩ := ob_b h
  rcases ob_i h with ⟨c_165, h⟩ | ⟨c_165, h⟩
  · skip
    obtain ⟨S_175, e_175, h⟩ := ob_s h
    replace q := sF_w e_175 q (Decidable.not_and_iff_or_not.mp (fun z => hw (Or.inl (⟨(z).1, Or.inl ((z).2)⟩))))
    obtain ⟨l1_182, e_182, h⟩ := ob_s h
    obtain ⟨w_185, q_185, h⟩ := ob_b h
    replace q := (w_Mo_readsAmount q_185 (fun z => hw (Or.inl (⟨(z).1, ((z).2).elim (fun a0 => Or.inl (a0)) (fun z0 => (z0).elim (fun a1 => Or.inr (Or.inl (a1))) (fun z1 => Or.inr (Or.inr (Or.inl (z1)))))⟩)))).trans q
    rcases ob_i h with ⟨c_188, h⟩ | ⟨c_188, h⟩
    · skip
      cases h
      exact q
    · skip
      rcases ob_i h with ⟨c_201, h⟩ | ⟨c_201, h⟩
      · skip
        obtain ⟨g_223, h⟩ := ob_g h
        obtain ⟨S_223, e_223, h⟩ := ob_s h
        replace q := sF_w e_223 q (Or.inl (fun z => hw (Or.inr (Or.inr (Or.inr (Or.inr (z)))))))
        exact (w_Mo_readsThing_224 S_223 _ h hw).trans q
      · skip
        obtain ⟨w_207, q_207, h⟩ := ob_b h
        replace q := (w_Mo_wrongAt q_207 (fun z => hw (Or.inl (⟨(z).1, Or.inr (Or.inl ((z).2))⟩)))).trans q
        obtain ⟨g_210, h⟩ := ob_g h
        cases h
        exact q
  · skip
    exact (w_Mo_readsThing_224 S _ h hw).trans q
set_option maxHeartbeats 4000000 in
theorem w_Mo_readsThing_158 {kr jr : Nat}  (S : St) (s0 : Int32) (s1 : Int32) (w : Int32 × St) (h : f_Mo_readsThing_158 S s0 s1 = some w) (hw : ¬ ((kr = 0 ∧ (jr = 8 ∨ jr = 10 ∨ jr = 11 ∨ jr = 34)) ∨ kr = 20 ∨ kr = 21 ∨ kr = 22 ∨ kr = 23)) : w.2 kr jr = S kr jr := by
  unfold f_Mo_readsThing_158 at h
  have q : S kr jr = S kr jr := rfl
  obtain ⟨g_158, h⟩ := ob_g h
  obtain ⟨S_158, e_158, h⟩ := ob_s h
  replace q := sF_w e_158 q (Or.inl (fun z => hw (Or.inr (Or.inr (Or.inr (Or.inl (z)))))))
  exact (w_Mo_readsThing_159 S_158 _ h hw).trans q
set_option maxHeartbeats 4000000 in
theorem w_Mo_readsThing  {S : St} {w : Int32 × St} (h : f_Mo_readsThing S = some w) {kr jr : Nat} (hw : ¬ ((kr = 0 ∧ (jr = 8 ∨ jr = 10 ∨ jr = 11 ∨ jr = 34)) ∨ kr = 20 ∨ kr = 21 ∨ kr = 22 ∨ kr = 23)) : w.2 kr jr = S kr jr := by
  unfold f_Mo_readsThing at h
  have q : S kr jr = S kr jr := rfl
  obtain ⟨v_1, q_1, h⟩ := ob_b h
  obtain ⟨v_10, q_10, h⟩ := ob_b h
  rcases ob_i h with ⟨c_13, h⟩ | ⟨c_13, h⟩
  · skip
    obtain ⟨w_22, q_22, h⟩ := ob_b h
    replace q := (w_Mo_wrongAt q_22 (fun z => hw (Or.inl (⟨(z).1, Or.inr (Or.inl ((z).2))⟩)))).trans q
    obtain ⟨g_25, h⟩ := ob_g h
    cases h
    exact q
  · skip
    rcases ob_i h with ⟨c_32, h⟩ | ⟨c_32, h⟩
    · skip
      obtain ⟨w_41, q_41, h⟩ := ob_b h
      replace q := (w_Mo_wrongAt q_41 (fun z => hw (Or.inl (⟨(z).1, Or.inr (Or.inl ((z).2))⟩)))).trans q
      obtain ⟨g_44, h⟩ := ob_g h
      cases h
      exact q
    · skip
      obtain ⟨v_54, q_54, h⟩ := ob_b h
      obtain ⟨g_60, h⟩ := ob_g h
      obtain ⟨S_60, e_60, h⟩ := ob_s h
      replace q := sF_w e_60 q (Or.inl (fun z => hw (Or.inr (Or.inl (z)))))
      obtain ⟨S_68, e_68, h⟩ := ob_s h
      replace q := sF_w e_68 q (Decidable.not_and_iff_or_not.mp (fun z => hw (Or.inl (⟨(z).1, Or.inl ((z).2)⟩))))
      obtain ⟨w_73, q_73, h⟩ := ob_b h
      replace q := (w_Mo_readsAmount q_73 (fun z => hw (Or.inl (⟨(z).1, ((z).2).elim (fun a0 => Or.inl (a0)) (fun z0 => (z0).elim (fun a1 => Or.inr (Or.inl (a1))) (fun z1 => Or.inr (Or.inr (Or.inl (z1)))))⟩)))).trans q
      rcases ob_i h with ⟨c_76, h⟩ | ⟨c_76, h⟩
      · skip
        cases h
        exact q
      · skip
        obtain ⟨g_93, h⟩ := ob_g h
        obtain ⟨S_93, e_93, h⟩ := ob_s h
        replace q := sF_w e_93 q (Or.inl (fun z => hw (Or.inr (Or.inr (Or.inl (z))))))
        obtain ⟨g_103, h⟩ := ob_g h
        obtain ⟨S_103, e_103, h⟩ := ob_s h
        replace q := sF_w e_103 q (Or.inl (fun z => hw (Or.inr (Or.inr (Or.inr (Or.inl (z)))))))
        obtain ⟨g_113, h⟩ := ob_g h
        obtain ⟨S_113, e_113, h⟩ := ob_s h
        replace q := sF_w e_113 q (Or.inl (fun z => hw (Or.inr (Or.inr (Or.inr (Or.inr (z)))))))
        obtain ⟨v_115, q_115, h⟩ := ob_b h
        rcases ob_i h with ⟨c_120, h⟩ | ⟨c_120, h⟩
        · skip
          obtain ⟨S_130, e_130, h⟩ := ob_s h
          replace q := sF_w e_130 q (Decidable.not_and_iff_or_not.mp (fun z => hw (Or.inl (⟨(z).1, Or.inl ((z).2)⟩))))
          obtain ⟨g_149, h⟩ := ob_g h
          rcases ob_i h with ⟨c_150, h⟩ | ⟨c_150, h⟩
          · skip
            exact (w_Mo_readsThing_158 S_130 (0 : Int32) (S_130 0 34) _ h hw).trans q
          · skip
            exact (w_Mo_readsThing_158 S_130 (1 : Int32) (S_130 0 34) _ h hw).trans q
        · skip
          exact (w_Mo_readsThing_159 S_113 _ h hw).trans q
set_option maxHeartbeats 4000000 in
theorem w_Mo_parish_72 {kr jr : Nat}  (k_36 : St → Int32 → Option (Int32 × St)) (hk_36 : ∀ (S : St) (l2 : Int32) (w : Int32 × St), k_36 S l2 = some w → w.2 kr jr = S kr jr) (S : St) (s0 : Int32) (w : Int32 × St) (h : f_Mo_parish_72 k_36 S s0 = some w) (hw : ¬ ((kr = 0 ∧ (jr = 5 ∨ jr = 7 ∨ jr = 8 ∨ jr = 9 ∨ jr = 10 ∨ jr = 11 ∨ jr = 13 ∨ jr = 15 ∨ jr = 34)) ∨ kr = 1 ∨ kr = 4 ∨ kr = 5 ∨ kr = 20 ∨ kr = 21 ∨ kr = 22 ∨ kr = 23)) : w.2 kr jr = S kr jr := by
  unfold f_Mo_parish_72 at h
  have q : S kr jr = S kr jr := rfl
  exact (hk_36 S s0 _ h).trans q
set_option maxHeartbeats 4000000 in
theorem w_Mo_parish_71 {kr jr : Nat}  (k_36 : St → Int32 → Option (Int32 × St)) (hk_36 : ∀ (S : St) (l2 : Int32) (w : Int32 × St), k_36 S l2 = some w → w.2 kr jr = S kr jr) (S : St) (w : Int32 × St) (h : f_Mo_parish_71 k_36 S = some w) (hw : ¬ ((kr = 0 ∧ (jr = 5 ∨ jr = 7 ∨ jr = 8 ∨ jr = 9 ∨ jr = 10 ∨ jr = 11 ∨ jr = 13 ∨ jr = 15 ∨ jr = 34)) ∨ kr = 1 ∨ kr = 4 ∨ kr = 5 ∨ kr = 20 ∨ kr = 21 ∨ kr = 22 ∨ kr = 23)) : w.2 kr jr = S kr jr := by
  unfold f_Mo_parish_71 at h
  have q : S kr jr = S kr jr := rfl
  exact (w_Mo_parish_72 k_36 hk_36 S (0 : Int32) _ h hw).trans q
set_option maxHeartbeats 4000000 in
theorem w_Mo_parish_108 {kr jr : Nat}  : ∀ (n : Nat) (S : St) (l3 : Int32) (w : Int32 × St), f_Mo_parish_108 n S l3 = some w → ¬ ((kr = 0 ∧ (jr = 5 ∨ jr = 7 ∨ jr = 8 ∨ jr = 9 ∨ jr = 10 ∨ jr = 11 ∨ jr = 13 ∨ jr = 15 ∨ jr = 34)) ∨ kr = 1 ∨ kr = 4 ∨ kr = 5 ∨ kr = 20 ∨ kr = 21 ∨ kr = 22 ∨ kr = 23) → w.2 kr jr = S kr jr := by
  intro n
  induction n with
  | zero =>
    intro S l3 w h hw
    rw [f_Mo_parish_108] at h
    cases h
  | succ n ih =>
    intro S l3 w h hw
    replace ih := fun S l3 w h => ih S l3 w h hw
    rw [f_Mo_parish_108] at h
    have q : S kr jr = S kr jr := rfl
    rcases ob_i h with ⟨c_113, h⟩ | ⟨c_113, h⟩
    · skip
      cases h
      exact q
    · skip
      obtain ⟨g_126, h⟩ := ob_g h
      obtain ⟨g_127, h⟩ := ob_g h
      obtain ⟨S_127, e_127, h⟩ := ob_s h
      replace q := sF_w e_127 q (Or.inl (fun z => hw (Or.inr (Or.inr (Or.inl (z))))))
      obtain ⟨g_138, h⟩ := ob_g h
      obtain ⟨g_139, h⟩ := ob_g h
      obtain ⟨S_139, e_139, h⟩ := ob_s h
      replace q := sF_w e_139 q (Or.inl (fun z => hw (Or.inr (Or.inr (Or.inr (Or.inl (z)))))))
      obtain ⟨g_152, h⟩ := ob_g h
      obtain ⟨g_153, h⟩ := ob_g h
      obtain ⟨S_153, e_153, h⟩ := ob_s h
      replace q := sF_w e_153 q (Or.inl (fun z => hw (Or.inr (Or.inl (z)))))
      obtain ⟨g_167, h⟩ := ob_g h
      obtain ⟨g_168, h⟩ := ob_g h
      obtain ⟨S_168, e_168, h⟩ := ob_s h
      replace q := sF_w e_168 q (Or.inl (fun z => hw (Or.inr (Or.inl (z)))))
      obtain ⟨g_178, h⟩ := ob_g h
      obtain ⟨S_178, e_178, h⟩ := ob_s h
      replace q := sF_w e_178 q (Or.inl (fun z => hw (Or.inr (Or.inl (z)))))
      obtain ⟨g_188, h⟩ := ob_g h
      obtain ⟨S_188, e_188, h⟩ := ob_s h
      replace q := sF_w e_188 q (Or.inl (fun z => hw (Or.inr (Or.inl (z)))))
      obtain ⟨l3_189, e_189, h⟩ := ob_s h
      exact (ih S_188 l3_189 _ h).trans q
set_option maxHeartbeats 4000000 in
theorem w_Mo_parish_76 {kr jr : Nat}  (S : St) (l2 : Int32) (w : Int32 × St) (h : f_Mo_parish_76 S l2 = some w) (hw : ¬ ((kr = 0 ∧ (jr = 5 ∨ jr = 7 ∨ jr = 8 ∨ jr = 9 ∨ jr = 10 ∨ jr = 11 ∨ jr = 13 ∨ jr = 15 ∨ jr = 34)) ∨ kr = 1 ∨ kr = 4 ∨ kr = 5 ∨ kr = 20 ∨ kr = 21 ∨ kr = 22 ∨ kr = 23)) : w.2 kr jr = S kr jr := by
  unfold f_Mo_parish_76 at h
  have q : S kr jr = S kr jr := rfl
  obtain ⟨S_78, e_78, h⟩ := ob_s h
  replace q := sF_w e_78 q (Decidable.not_and_iff_or_not.mp (fun z => hw (Or.inl (⟨(z).1, Or.inr (Or.inl ((z).2))⟩))))
  rcases ob_i h with ⟨c_82, h⟩ | ⟨c_82, h⟩
  · skip
    cases h
    exact q
  · skip
    obtain ⟨S_95, e_95, h⟩ := ob_s h
    replace q := sF_w e_95 q (Decidable.not_and_iff_or_not.mp (fun z => hw (Or.inl (⟨(z).1, Or.inl ((z).2)⟩))))
    obtain ⟨g_105, h⟩ := ob_g h
    obtain ⟨S_105, e_105, h⟩ := ob_s h
    replace q := sF_w e_105 q (Or.inl (fun z => hw (Or.inr (Or.inl (z)))))
    obtain ⟨l3_107, e_107, h⟩ := ob_s h
    exact (w_Mo_parish_108 FU S_105 l3_107 _ h hw).trans q
set_option maxHeartbeats 4000000 in
theorem w_Mo_parish_36 {kr jr : Nat}  : ∀ (n : Nat) (S : St) (l2 : Int32) (w : Int32 × St), f_Mo_parish_36 n S l2 = some w → ¬ ((kr = 0 ∧ (jr = 5 ∨ jr = 7 ∨ jr = 8 ∨ jr = 9 ∨ jr = 10 ∨ jr = 11 ∨ jr = 13 ∨ jr = 15 ∨ jr = 34)) ∨ kr = 1 ∨ kr = 4 ∨ kr = 5 ∨ kr = 20 ∨ kr = 21 ∨ kr = 22 ∨ kr = 23) → w.2 kr jr = S kr jr := by
  intro n
  induction n with
  | zero =>
    intro S l2 w h hw
    rw [f_Mo_parish_36] at h
    cases h
  | succ n ih =>
    intro S l2 w h hw
    replace ih := fun S l2 w h => ih S l2 w h hw
    rw [f_Mo_parish_36] at h
    have q : S kr jr = S kr jr := rfl
    rcases ob_i h with ⟨c_37, h⟩ | ⟨c_37, h⟩
    · skip
      exact (w_Mo_parish_76 S l2 _ h hw).trans q
    · skip
      rcases ob_i h with ⟨c_48, h⟩ | ⟨c_48, h⟩
      · skip
        exact (w_Mo_parish_76 S l2 _ h hw).trans q
      · skip
        obtain ⟨w_54, q_54, h⟩ := ob_b h
        replace q := (w_Mo_takes q_54 (fun z => hw (Or.inl (⟨(z).1, ((z).2).elim (fun a0 => Or.inr (Or.inr (Or.inl (a0)))) (fun z0 => Or.inr (Or.inr (Or.inr (Or.inr (Or.inl (z0))))))⟩)))).trans q
        rcases ob_i h with ⟨c_57, h⟩ | ⟨c_57, h⟩
        · skip
          exact (w_Mo_parish_71 (f_Mo_parish_36 n) ih w_54.2 _ h hw).trans q
        · skip
          obtain ⟨w_61, q_61, h⟩ := ob_b h
          replace q := (w_Mo_readsThing q_61 (fun z => hw ((z).elim (fun a0 => Or.inl (⟨(a0).1, ((a0).2).elim (fun a0 => Or.inr (Or.inr (Or.inl (a0)))) (fun z0 => (z0).elim (fun a1 => Or.inr (Or.inr (Or.inr (Or.inr (Or.inl (a1)))))) (fun z1 => (z1).elim (fun a2 => Or.inr (Or.inr (Or.inr (Or.inr (Or.inr (Or.inl (a2))))))) (fun z2 => Or.inr (Or.inr (Or.inr (Or.inr (Or.inr (Or.inr (Or.inr (Or.inr (z2)))))))))))⟩)) (fun z0 => (z0).elim (fun a1 => Or.inr (Or.inr (Or.inr (Or.inr (Or.inl (a1)))))) (fun z1 => (z1).elim (fun a2 => Or.inr (Or.inr (Or.inr (Or.inr (Or.inr (Or.inl (a2))))))) (fun z2 => (z2).elim (fun a3 => Or.inr (Or.inr (Or.inr (Or.inr (Or.inr (Or.inr (Or.inl (a3)))))))) (fun z3 => Or.inr (Or.inr (Or.inr (Or.inr (Or.inr (Or.inr (Or.inr (z3)))))))))))))).trans q
          rcases ob_i h with ⟨c_64, h⟩ | ⟨c_64, h⟩
          · skip
            exact (w_Mo_parish_71 (f_Mo_parish_36 n) ih w_61.2 _ h hw).trans q
          · skip
            exact (w_Mo_parish_72 (f_Mo_parish_36 n) ih w_61.2 (1 : Int32) _ h hw).trans q
set_option maxHeartbeats 4000000 in
theorem w_Mo_parish  {S : St} {l1 : Int32} {w : Int32 × St} (h : f_Mo_parish S l1 = some w) {kr jr : Nat} (hw : ¬ ((kr = 0 ∧ (jr = 5 ∨ jr = 7 ∨ jr = 8 ∨ jr = 9 ∨ jr = 10 ∨ jr = 11 ∨ jr = 13 ∨ jr = 15 ∨ jr = 34)) ∨ kr = 1 ∨ kr = 4 ∨ kr = 5 ∨ kr = 20 ∨ kr = 21 ∨ kr = 22 ∨ kr = 23)) : w.2 kr jr = S kr jr := by
  unfold f_Mo_parish at h
  have q : S kr jr = S kr jr := rfl
  obtain ⟨v_5, q_5, h⟩ := ob_b h
  rcases ob_i h with ⟨c_8, h⟩ | ⟨c_8, h⟩
  · skip
    cases h
    exact q
  · skip
    rcases ob_i h with ⟨c_16, h⟩ | ⟨c_16, h⟩
    · skip
      obtain ⟨w_23, q_23, h⟩ := ob_b h
      replace q := (w_Mo_beginsText q_23 (fun z => hw (Or.inl (⟨(z).1, ((z).2).elim (fun a0 => Or.inr (Or.inr (Or.inl (a0)))) (fun z0 => (z0).elim (fun a1 => Or.inr (Or.inr (Or.inr (Or.inl (a1))))) (fun z1 => (z1).elim (fun a2 => Or.inr (Or.inr (Or.inr (Or.inr (Or.inr (Or.inr (Or.inl (a2)))))))) (fun z2 => Or.inr (Or.inr (Or.inr (Or.inr (Or.inr (Or.inr (Or.inr (Or.inl (z2)))))))))))⟩)))).trans q
      obtain ⟨S_28, e_28, h⟩ := ob_s h
      replace q := sF_w e_28 q (Decidable.not_and_iff_or_not.mp (fun z => hw (Or.inl (⟨(z).1, Or.inr (Or.inr (Or.inr (Or.inr (Or.inr (Or.inr (Or.inr (Or.inr ((z).2))))))))⟩))))
      obtain ⟨w_32, q_32, h⟩ := ob_b h
      replace q := (w_Mo_readsThing q_32 (fun z => hw ((z).elim (fun a0 => Or.inl (⟨(a0).1, ((a0).2).elim (fun a0 => Or.inr (Or.inr (Or.inl (a0)))) (fun z0 => (z0).elim (fun a1 => Or.inr (Or.inr (Or.inr (Or.inr (Or.inl (a1)))))) (fun z1 => (z1).elim (fun a2 => Or.inr (Or.inr (Or.inr (Or.inr (Or.inr (Or.inl (a2))))))) (fun z2 => Or.inr (Or.inr (Or.inr (Or.inr (Or.inr (Or.inr (Or.inr (Or.inr (z2)))))))))))⟩)) (fun z0 => (z0).elim (fun a1 => Or.inr (Or.inr (Or.inr (Or.inr (Or.inl (a1)))))) (fun z1 => (z1).elim (fun a2 => Or.inr (Or.inr (Or.inr (Or.inr (Or.inr (Or.inl (a2))))))) (fun z2 => (z2).elim (fun a3 => Or.inr (Or.inr (Or.inr (Or.inr (Or.inr (Or.inr (Or.inl (a3)))))))) (fun z3 => Or.inr (Or.inr (Or.inr (Or.inr (Or.inr (Or.inr (Or.inr (z3)))))))))))))).trans q
      obtain ⟨l2_35, e_35, h⟩ := ob_s h
      exact (w_Mo_parish_36 FU w_32.2 l2_35 _ h hw).trans q
    · skip
      cases h
      exact q
set_option maxHeartbeats 4000000 in
theorem w_Mo_draws  {S : St} {w : Int32 × St} (h : f_Mo_draws S = some w) {kr jr : Nat} (hw : ¬ (kr = 1)) : w.2 kr jr = S kr jr := by
  unfold f_Mo_draws at h
  have q : S kr jr = S kr jr := rfl
  obtain ⟨g_15, h⟩ := ob_g h
  obtain ⟨g_24, h⟩ := ob_g h
  obtain ⟨S_24, e_24, h⟩ := ob_s h
  replace q := sF_w e_24 q (Or.inl (fun z => hw (z)))
  obtain ⟨g_31, h⟩ := ob_g h
  cases h
  exact q
set_option maxHeartbeats 4000000 in
theorem w_Mo_feels  {S : St} {l1 : Int32} {w : St} (h : f_Mo_feels S l1 = some w) {kr jr : Nat} (hw : ¬ (kr = 1 ∨ kr = 19)) : w kr jr = S kr jr := by
  unfold f_Mo_feels at h
  have q : S kr jr = S kr jr := rfl
  obtain ⟨g_6, h⟩ := ob_g h
  obtain ⟨S_6, e_6, h⟩ := ob_s h
  replace q := sF_w e_6 q (Or.inl (fun z => hw (Or.inr (z))))
  obtain ⟨g_17, h⟩ := ob_g h
  obtain ⟨g_18, h⟩ := ob_g h
  obtain ⟨S_18, e_18, h⟩ := ob_s h
  replace q := sF_w e_18 q (Or.inl (fun z => hw (Or.inr (z))))
  obtain ⟨g_32, h⟩ := ob_g h
  obtain ⟨g_33, h⟩ := ob_g h
  obtain ⟨S_33, e_33, h⟩ := ob_s h
  replace q := sF_w e_33 q (Or.inl (fun z => hw (Or.inr (z))))
  obtain ⟨g_46, h⟩ := ob_g h
  obtain ⟨g_47, h⟩ := ob_g h
  obtain ⟨S_47, e_47, h⟩ := ob_s h
  replace q := sF_w e_47 q (Or.inl (fun z => hw (Or.inr (z))))
  obtain ⟨g_61, h⟩ := ob_g h
  obtain ⟨g_62, h⟩ := ob_g h
  obtain ⟨S_62, e_62, h⟩ := ob_s h
  replace q := sF_w e_62 q (Or.inl (fun z => hw (Or.inr (z))))
  obtain ⟨g_74, h⟩ := ob_g h
  obtain ⟨v_75, q_75, h⟩ := ob_b h
  obtain ⟨g_78, h⟩ := ob_g h
  obtain ⟨S_78, e_78, h⟩ := ob_s h
  replace q := sF_w e_78 q (Or.inl (fun z => hw (Or.inr (z))))
  obtain ⟨v_87, q_87, h⟩ := ob_b h
  obtain ⟨g_90, h⟩ := ob_g h
  obtain ⟨S_90, e_90, h⟩ := ob_s h
  replace q := sF_w e_90 q (Or.inl (fun z => hw (Or.inr (z))))
  obtain ⟨g_103, h⟩ := ob_g h
  obtain ⟨g_107, h⟩ := ob_g h
  obtain ⟨S_107, e_107, h⟩ := ob_s h
  replace q := sF_w e_107 q (Or.inl (fun z => hw (Or.inr (z))))
  obtain ⟨w_115, q_115, h⟩ := ob_b h
  replace q := (w_Mo_draws q_115 (fun z => hw (Or.inl (z)))).trans q
  obtain ⟨g_118, h⟩ := ob_g h
  obtain ⟨S_118, e_118, h⟩ := ob_s h
  replace q := sF_w e_118 q (Or.inl (fun z => hw (Or.inr (z))))
  cases h
  exact q
set_option maxHeartbeats 4000000 in
theorem w_Mo_burns  {S : St} {l1 : Int32} {l2 : Int32} {w : St} (h : f_Mo_burns S l1 l2 = some w) {kr jr : Nat} (hw : ¬ (kr = 1)) : w kr jr = S kr jr := by
  unfold f_Mo_burns at h
  have q : S kr jr = S kr jr := rfl
  obtain ⟨g_15, h⟩ := ob_g h
  obtain ⟨v_18, q_18, h⟩ := ob_b h
  obtain ⟨g_21, h⟩ := ob_g h
  obtain ⟨S_21, e_21, h⟩ := ob_s h
  replace q := sF_w e_21 q (Or.inl (fun z => hw (z)))
  obtain ⟨g_29, h⟩ := ob_g h
  rcases ob_i h with ⟨c_30, h⟩ | ⟨c_30, h⟩
  · skip
    obtain ⟨g_42, h⟩ := ob_g h
    obtain ⟨S_42, e_42, h⟩ := ob_s h
    replace q := sF_w e_42 q (Or.inl (fun z => hw (z)))
    cases h
    exact q
  · skip
    cases h
    exact q
set_option maxHeartbeats 4000000 in
theorem w_Mo_isDone_49 {kr jr : Nat}  (S : St) (l1 : Int32) (w : St) (h : f_Mo_isDone_49 S l1 = some w) (hw : ¬ ((kr = 0 ∧ (jr = 35)) ∨ kr = 1)) : w kr jr = S kr jr := by
  unfold f_Mo_isDone_49 at h
  have q : S kr jr = S kr jr := rfl
  obtain ⟨g_58, h⟩ := ob_g h
  obtain ⟨S_58, e_58, h⟩ := ob_s h
  replace q := sF_w e_58 q (Or.inl (fun z => hw (Or.inr (z))))
  cases h
  exact q
set_option maxHeartbeats 4000000 in
theorem w_Mo_isDone  {S : St} {l1 : Int32} {w : St} (h : f_Mo_isDone S l1 = some w) {kr jr : Nat} (hw : ¬ ((kr = 0 ∧ (jr = 35)) ∨ kr = 1)) : w kr jr = S kr jr := by
  unfold f_Mo_isDone at h
  have q : S kr jr = S kr jr := rfl
  obtain ⟨g_9, h⟩ := ob_g h
  obtain ⟨S_9, e_9, h⟩ := ob_s h
  replace q := sF_w e_9 q (Or.inl (fun z => hw (Or.inr (z))))
  obtain ⟨S_17, e_17, h⟩ := ob_s h
  replace q := sF_w e_17 q (Decidable.not_and_iff_or_not.mp (fun z => hw (Or.inl (⟨(z).1, (z).2⟩))))
  obtain ⟨g_28, h⟩ := ob_g h
  rcases ob_i h with ⟨c_30, h⟩ | ⟨c_30, h⟩
  · skip
    obtain ⟨g_45, h⟩ := ob_g h
    obtain ⟨g_48, h⟩ := ob_g h
    obtain ⟨S_48, e_48, h⟩ := ob_s h
    replace q := sF_w e_48 q (Or.inl (fun z => hw (Or.inr (z))))
    exact (w_Mo_isDone_49 S_48 l1 _ h hw).trans q
  · skip
    exact (w_Mo_isDone_49 S_17 l1 _ h hw).trans q
set_option maxHeartbeats 4000000 in
theorem w_Mo_isPutOff  {S : St} {l1 : Int32} {w : St} (h : f_Mo_isPutOff S l1 = some w) {kr jr : Nat} (hw : ¬ (kr = 1)) : w kr jr = S kr jr := by
  unfold f_Mo_isPutOff at h
  have q : S kr jr = S kr jr := rfl
  obtain ⟨g_19, h⟩ := ob_g h
  obtain ⟨v_22, q_22, h⟩ := ob_b h
  obtain ⟨g_25, h⟩ := ob_g h
  obtain ⟨S_25, e_25, h⟩ := ob_s h
  replace q := sF_w e_25 q (Or.inl (fun z => hw (z)))
  obtain ⟨g_34, h⟩ := ob_g h
  rcases ob_i h with ⟨c_35, h⟩ | ⟨c_35, h⟩
  · skip
    obtain ⟨g_55, h⟩ := ob_g h
    obtain ⟨v_58, q_58, h⟩ := ob_b h
    obtain ⟨g_61, h⟩ := ob_g h
    obtain ⟨S_61, e_61, h⟩ := ob_s h
    replace q := sF_w e_61 q (Or.inl (fun z => hw (z)))
    cases h
    exact q
  · skip
    cases h
    exact q
set_option maxHeartbeats 4000000 in
theorem w_Mo_goesOn_138 {kr jr : Nat}  (S : St) (l1 : Int32) (w : St) (h : f_Mo_goesOn_138 S l1 = some w) (hw : ¬ ((kr = 0 ∧ (jr = 35)) ∨ kr = 1 ∨ kr = 18 ∨ kr = 19)) : w kr jr = S kr jr := by
  unfold f_Mo_goesOn_138 at h
  have q : S kr jr = S kr jr := rfl
  obtain ⟨w_140, q_140, h⟩ := ob_b h
  replace q := (w_Mo_isPutOff q_140 (fun z => hw (Or.inr (Or.inl (z))))).trans q
  cases h
  exact q
set_option maxHeartbeats 4000000 in
theorem w_Mo_goesOn_116 {kr jr : Nat}  (S : St) (l1 : Int32) (l4 : Int32) (l5 : Int32) (s0 : Int32) (w : St) (h : f_Mo_goesOn_116 S l1 l4 l5 s0 = some w) (hw : ¬ ((kr = 0 ∧ (jr = 35)) ∨ kr = 1 ∨ kr = 18 ∨ kr = 19)) : w kr jr = S kr jr := by
  unfold f_Mo_goesOn_116 at h
  have q : S kr jr = S kr jr := rfl
  rcases ob_i h with ⟨c_122, h⟩ | ⟨c_122, h⟩
  · skip
    exact (w_Mo_goesOn_138 S l1 _ h hw).trans q
  · skip
    rcases ob_i h with ⟨c_127, h⟩ | ⟨c_127, h⟩
    · skip
      exact (w_Mo_goesOn_138 S l1 _ h hw).trans q
    · skip
      obtain ⟨w_132, q_132, h⟩ := ob_b h
      replace q := (w_Mo_isDone q_132 (fun z => hw ((z).elim (fun a0 => Or.inl (⟨(a0).1, (a0).2⟩)) (fun z0 => Or.inr (Or.inl (z0)))))).trans q
      cases h
      exact q
set_option maxHeartbeats 4000000 in
theorem w_Mo_goesOn_111 {kr jr : Nat}  (S : St) (l1 : Int32) (l4 : Int32) (l5 : Int32) (w : St) (h : f_Mo_goesOn_111 S l1 l4 l5 = some w) (hw : ¬ ((kr = 0 ∧ (jr = 35)) ∨ kr = 1 ∨ kr = 18 ∨ kr = 19)) : w kr jr = S kr jr := by
  unfold f_Mo_goesOn_111 at h
  have q : S kr jr = S kr jr := rfl
  exact (w_Mo_goesOn_116 S l1 l4 l5 (1 : Int32) _ h hw).trans q
set_option maxHeartbeats 4000000 in
theorem w_Mo_goesOn_77 {kr jr : Nat}  (S : St) (l1 : Int32) (l4 : Int32) (w : St) (h : f_Mo_goesOn_77 S l1 l4 = some w) (hw : ¬ ((kr = 0 ∧ (jr = 35)) ∨ kr = 1 ∨ kr = 18 ∨ kr = 19)) : w kr jr = S kr jr := by
  unfold f_Mo_goesOn_77 at h
  have q : S kr jr = S kr jr := rfl
  obtain ⟨w_78, q_78, h⟩ := ob_b h
  replace q := (w_Mo_draws q_78 (fun z => hw (Or.inr (Or.inl (z))))).trans q
  obtain ⟨l5_81, e_81, h⟩ := ob_s h
  obtain ⟨g_88, h⟩ := ob_g h
  rcases ob_i h with ⟨c_90, h⟩ | ⟨c_90, h⟩
  · skip
    exact (w_Mo_goesOn_111 w_78.2 l1 l4 l5_81 _ h hw).trans q
  · skip
    obtain ⟨g_104, h⟩ := ob_g h
    obtain ⟨g_106, h⟩ := ob_g h
    rcases ob_i h with ⟨c_108, h⟩ | ⟨c_108, h⟩
    · skip
      exact (w_Mo_goesOn_111 w_78.2 l1 l4 l5_81 _ h hw).trans q
    · skip
      exact (w_Mo_goesOn_116 w_78.2 l1 l4 l5_81 (0 : Int32) _ h hw).trans q
set_option maxHeartbeats 4000000 in
theorem w_Mo_goesOn_58 {kr jr : Nat}  (S : St) (l1 : Int32) (l3 : Int32) (l4 : Int32) (w : St) (h : f_Mo_goesOn_58 S l1 l3 l4 = some w) (hw : ¬ ((kr = 0 ∧ (jr = 35)) ∨ kr = 1 ∨ kr = 18 ∨ kr = 19)) : w kr jr = S kr jr := by
  unfold f_Mo_goesOn_58 at h
  have q : S kr jr = S kr jr := rfl
  obtain ⟨g_66, h⟩ := ob_g h
  rcases ob_i h with ⟨c_68, h⟩ | ⟨c_68, h⟩
  · skip
    obtain ⟨w_74, q_74, h⟩ := ob_b h
    replace q := (w_Mo_burns q_74 (fun z => hw (Or.inr (Or.inl (z))))).trans q
    exact (w_Mo_goesOn_77 w_74 l1 l4 _ h hw).trans q
  · skip
    exact (w_Mo_goesOn_77 S l1 l4 _ h hw).trans q
set_option maxHeartbeats 4000000 in
theorem w_Mo_goesOn  {S : St} {l1 : Int32} {w : St} (h : f_Mo_goesOn S l1 = some w) {kr jr : Nat} (hw : ¬ ((kr = 0 ∧ (jr = 35)) ∨ kr = 1 ∨ kr = 18 ∨ kr = 19)) : w kr jr = S kr jr := by
  unfold f_Mo_goesOn at h
  have q : S kr jr = S kr jr := rfl
  obtain ⟨w_2, q_2, h⟩ := ob_b h
  replace q := (w_Mo_feels q_2 (fun z => hw ((z).elim (fun a0 => Or.inr (Or.inl (a0))) (fun z0 => Or.inr (Or.inr (Or.inr (z0))))))).trans q
  obtain ⟨w_8, q_8, h⟩ := ob_b h
  replace q := (w_Mo_holdsAny q_8 (fun z => hw (Or.inr (Or.inr (Or.inl (z)))))).trans q
  obtain ⟨l2_11, e_11, h⟩ := ob_s h
  obtain ⟨w_18, q_18, h⟩ := ob_b h
  replace q := (w_Mo_byLaw q_18 (fun z => hw (Or.inr (Or.inr (Or.inl (z)))))).trans q
  obtain ⟨l3_21, e_21, h⟩ := ob_s h
  obtain ⟨w_28, q_28, h⟩ := ob_b h
  replace q := (w_Mo_byLaw q_28 (fun z => hw (Or.inr (Or.inr (Or.inl (z)))))).trans q
  obtain ⟨l4_31, e_31, h⟩ := ob_s h
  rcases ob_i h with ⟨c_34, h⟩ | ⟨c_34, h⟩
  · skip
    exact (w_Mo_goesOn_58 w_28.2 l1 l3_21 l4_31 _ h hw).trans q
  · skip
    obtain ⟨g_44, h⟩ := ob_g h
    rcases ob_i h with ⟨c_45, h⟩ | ⟨c_45, h⟩
    · skip
      exact (w_Mo_goesOn_58 w_28.2 l1 l3_21 l4_31 _ h hw).trans q
    · skip
      obtain ⟨g_57, h⟩ := ob_g h
      obtain ⟨S_57, e_57, h⟩ := ob_s h
      replace q := sF_w e_57 q (Or.inl (fun z => hw (Or.inr (Or.inl (z)))))
      exact (w_Mo_goesOn_58 S_57 l1 l3_21 l4_31 _ h hw).trans q
set_option maxHeartbeats 4000000 in
theorem w_Mo_dayGoes_23 {kr jr : Nat}  (k_2 : St → Int32 → Option (St)) (hk_2 : ∀ (S : St) (l1 : Int32) (w : St), k_2 S l1 = some w → w kr jr = S kr jr) (S : St) (l1 : Int32) (w : St) (h : f_Mo_dayGoes_23 k_2 S l1 = some w) (hw : ¬ ((kr = 0 ∧ (jr = 35)) ∨ kr = 1 ∨ kr = 18 ∨ kr = 19)) : w kr jr = S kr jr := by
  unfold f_Mo_dayGoes_23 at h
  have q : S kr jr = S kr jr := rfl
  obtain ⟨l1_23, e_23, h⟩ := ob_s h
  exact (hk_2 S l1_23 _ h).trans q
set_option maxHeartbeats 4000000 in
theorem w_Mo_dayGoes_2 {kr jr : Nat}  : ∀ (n : Nat) (S : St) (l1 : Int32) (w : St), f_Mo_dayGoes_2 n S l1 = some w → ¬ ((kr = 0 ∧ (jr = 35)) ∨ kr = 1 ∨ kr = 18 ∨ kr = 19) → w kr jr = S kr jr := by
  intro n
  induction n with
  | zero =>
    intro S l1 w h hw
    rw [f_Mo_dayGoes_2] at h
    cases h
  | succ n ih =>
    intro S l1 w h hw
    replace ih := fun S l1 w h => ih S l1 w h hw
    rw [f_Mo_dayGoes_2] at h
    have q : S kr jr = S kr jr := rfl
    rcases ob_i h with ⟨c_7, h⟩ | ⟨c_7, h⟩
    · skip
      obtain ⟨g_41, h⟩ := ob_g h
      obtain ⟨g_44, h⟩ := ob_g h
      obtain ⟨S_44, e_44, h⟩ := ob_s h
      replace q := sF_w e_44 q (Or.inl (fun z => hw (Or.inr (Or.inl (z)))))
      cases h
      exact q
    · skip
      obtain ⟨v_12, q_12, h⟩ := ob_b h
      rcases ob_i h with ⟨c_15, h⟩ | ⟨c_15, h⟩
      · skip
        exact (w_Mo_dayGoes_23 (f_Mo_dayGoes_2 n) ih S l1 _ h hw).trans q
      · skip
        obtain ⟨w_20, q_20, h⟩ := ob_b h
        replace q := (w_Mo_goesOn q_20 (fun z => hw ((z).elim (fun a0 => Or.inl (⟨(a0).1, (a0).2⟩)) (fun z0 => (z0).elim (fun a1 => Or.inr (Or.inl (a1))) (fun z1 => (z1).elim (fun a2 => Or.inr (Or.inr (Or.inl (a2)))) (fun z2 => Or.inr (Or.inr (Or.inr (z2))))))))).trans q
        exact (w_Mo_dayGoes_23 (f_Mo_dayGoes_2 n) ih w_20 l1 _ h hw).trans q
set_option maxHeartbeats 4000000 in
theorem w_Mo_dayGoes  {S : St} {w : St} (h : f_Mo_dayGoes S = some w) {kr jr : Nat} (hw : ¬ ((kr = 0 ∧ (jr = 35)) ∨ kr = 1 ∨ kr = 18 ∨ kr = 19)) : w kr jr = S kr jr := by
  unfold f_Mo_dayGoes at h
  have q : S kr jr = S kr jr := rfl
  obtain ⟨l1_1, e_1, h⟩ := ob_s h
  exact (w_Mo_dayGoes_2 FU S l1_1 _ h hw).trans q
set_option maxHeartbeats 4000000 in
theorem w_Mo_daysGo_7 {kr jr : Nat}  : ∀ (n : Nat) (S : St) (l1 : Int32) (l2 : Int32) (w : St), f_Mo_daysGo_7 n S l1 l2 = some w → ¬ ((kr = 0 ∧ (jr = 35)) ∨ kr = 1 ∨ kr = 18 ∨ kr = 19) → w kr jr = S kr jr := by
  intro n
  induction n with
  | zero =>
    intro S l1 l2 w h hw
    rw [f_Mo_daysGo_7] at h
    cases h
  | succ n ih =>
    intro S l1 l2 w h hw
    replace ih := fun S l1 l2 w h => ih S l1 l2 w h hw
    rw [f_Mo_daysGo_7] at h
    have q : S kr jr = S kr jr := rfl
    rcases ob_i h with ⟨c_9, h⟩ | ⟨c_9, h⟩
    · skip
      cases h
      exact q
    · skip
      obtain ⟨g_18, h⟩ := ob_g h
      rcases ob_i h with ⟨c_22, h⟩ | ⟨c_22, h⟩
      · skip
        cases h
        exact q
      · skip
        obtain ⟨w_26, q_26, h⟩ := ob_b h
        replace q := (w_Mo_dayGoes q_26 (fun z => hw ((z).elim (fun a0 => Or.inl (⟨(a0).1, (a0).2⟩)) (fun z0 => (z0).elim (fun a1 => Or.inr (Or.inl (a1))) (fun z1 => (z1).elim (fun a2 => Or.inr (Or.inr (Or.inl (a2)))) (fun z2 => Or.inr (Or.inr (Or.inr (z2))))))))).trans q
        obtain ⟨l2_29, e_29, h⟩ := ob_s h
        exact (ih w_26 l1 l2_29 _ h).trans q
set_option maxHeartbeats 4000000 in
theorem w_Mo_daysGo  {S : St} {l1 : Int32} {w : St} (h : f_Mo_daysGo S l1 = some w) {kr jr : Nat} (hw : ¬ ((kr = 0 ∧ (jr = 35)) ∨ kr = 1 ∨ kr = 18 ∨ kr = 19)) : w kr jr = S kr jr := by
  unfold f_Mo_daysGo at h
  have q : S kr jr = S kr jr := rfl
  obtain ⟨S_2, e_2, h⟩ := ob_s h
  replace q := sF_w e_2 q (Decidable.not_and_iff_or_not.mp (fun z => hw (Or.inl (⟨(z).1, (z).2⟩))))
  obtain ⟨l2_6, e_6, h⟩ := ob_s h
  exact (w_Mo_daysGo_7 FU S_2 l1 l2_6 _ h hw).trans q
set_option maxHeartbeats 4000000 in
theorem w_Mo_days  {S : St} {l1 : Int32} {w : Int32 × St} (h : f_Mo_days S l1 = some w) {kr jr : Nat} (hw : ¬ ((kr = 0 ∧ (jr = 35)) ∨ kr = 1 ∨ kr = 18 ∨ kr = 19)) : w.2 kr jr = S kr jr := by
  unfold f_Mo_days at h
  have q : S kr jr = S kr jr := rfl
  obtain ⟨v_4, q_4, h⟩ := ob_b h
  rcases ob_i h with ⟨c_7, h⟩ | ⟨c_7, h⟩
  · skip
    cases h
    exact q
  · skip
    obtain ⟨w_14, q_14, h⟩ := ob_b h
    replace q := (w_Mo_daysGo q_14 (fun z => hw ((z).elim (fun a0 => Or.inl (⟨(a0).1, (a0).2⟩)) (fun z0 => (z0).elim (fun a1 => Or.inr (Or.inl (a1))) (fun z1 => (z1).elim (fun a2 => Or.inr (Or.inr (Or.inl (a2)))) (fun z2 => Or.inr (Or.inr (Or.inr (z2))))))))).trans q
    cases h
    exact q
set_option maxHeartbeats 4000000 in
theorem w_Mo_tried_164 {kr jr : Nat}  (S : St) (l3 : Int32) (w : Int32 × St) (h : f_Mo_tried_164 S l3 = some w) (hw : ¬ ((kr = 0 ∧ (jr = 35)) ∨ kr = 1 ∨ kr = 2 ∨ kr = 18 ∨ kr = 19)) : w.2 kr jr = S kr jr := by
  unfold f_Mo_tried_164 at h
  have q : S kr jr = S kr jr := rfl
  obtain ⟨w_172, q_172, h⟩ := ob_b h
  replace q := (w_Mo_copies q_172 (fun z => hw (Or.inr (Or.inl (z))))).trans q
  cases h
  exact q
set_option maxHeartbeats 4000000 in
theorem w_Mo_tried_163 {kr jr : Nat}  (S : St) (s0 : Int32) (w : Int32 × St) (h : f_Mo_tried_163 S s0 = some w) (hw : ¬ ((kr = 0 ∧ (jr = 35)) ∨ kr = 1 ∨ kr = 2 ∨ kr = 18 ∨ kr = 19)) : w.2 kr jr = S kr jr := by
  unfold f_Mo_tried_163 at h
  have q : S kr jr = S kr jr := rfl
  exact (w_Mo_tried_164 S s0 _ h hw).trans q
set_option maxHeartbeats 4000000 in
theorem w_Mo_tried_43 {kr jr : Nat}  (S : St) (l1 : Int32) (l2 : Int32) (w : Int32 × St) (h : f_Mo_tried_43 S l1 l2 = some w) (hw : ¬ ((kr = 0 ∧ (jr = 35)) ∨ kr = 1 ∨ kr = 2 ∨ kr = 18 ∨ kr = 19)) : w.2 kr jr = S kr jr := by
  unfold f_Mo_tried_43 at h
  have q : S kr jr = S kr jr := rfl
  obtain ⟨w_51, q_51, h⟩ := ob_b h
  replace q := (w_Mo_copies q_51 (fun z => hw (Or.inr (Or.inr (Or.inl (z)))))).trans q
  obtain ⟨w_56, q_56, h⟩ := ob_b h
  replace q := (w_Mo_daysGo q_56 (fun z => hw ((z).elim (fun a0 => Or.inl (⟨(a0).1, (a0).2⟩)) (fun z0 => (z0).elim (fun a1 => Or.inr (Or.inl (a1))) (fun z1 => (z1).elim (fun a2 => Or.inr (Or.inr (Or.inr (Or.inl (a2))))) (fun z2 => Or.inr (Or.inr (Or.inr (Or.inr (z2)))))))))).trans q
  rcases ob_i h with ⟨c_60_0, h⟩ | ⟨c_60_0, h⟩
  · skip
    obtain ⟨l3_96, e_96, h⟩ := ob_s h
    exact (w_Mo_tried_164 w_56 l3_96 _ h hw).trans q
  rcases ob_i h with ⟨c_60_1, h⟩ | ⟨c_60_1, h⟩
  · skip
    obtain ⟨g_106, h⟩ := ob_g h
    obtain ⟨l3_107, e_107, h⟩ := ob_s h
    exact (w_Mo_tried_164 w_56 l3_107 _ h hw).trans q
  rcases ob_i h with ⟨c_60_2, h⟩ | ⟨c_60_2, h⟩
  · skip
    obtain ⟨v_114, q_114, h⟩ := ob_b h
    exact (w_Mo_tried_164 w_56 v_114 _ h hw).trans q
  rcases ob_i h with ⟨c_60_3, h⟩ | ⟨c_60_3, h⟩
  · skip
    obtain ⟨v_124, q_124, h⟩ := ob_b h
    exact (w_Mo_tried_164 w_56 v_124 _ h hw).trans q
  rcases ob_i h with ⟨c_134, h⟩ | ⟨c_134, h⟩
  · skip
    obtain ⟨g_162, h⟩ := ob_g h
    exact (w_Mo_tried_163 w_56 (w_56 1 ((48 + l2) - 40).toNatClampNeg) _ h hw).trans q
  · skip
    obtain ⟨g_147, h⟩ := ob_g h
    exact (w_Mo_tried_163 w_56 (w_56 1 ((0 + l2) - 10).toNatClampNeg) _ h hw).trans q
set_option maxHeartbeats 4000000 in
theorem w_Mo_tried  {S : St} {l1 : Int32} {l2 : Int32} {w : Int32 × St} (h : f_Mo_tried S l1 l2 = some w) {kr jr : Nat} (hw : ¬ ((kr = 0 ∧ (jr = 35)) ∨ kr = 1 ∨ kr = 2 ∨ kr = 18 ∨ kr = 19)) : w.2 kr jr = S kr jr := by
  unfold f_Mo_tried at h
  have q : S kr jr = S kr jr := rfl
  obtain ⟨v_4, q_4, h⟩ := ob_b h
  rcases ob_i h with ⟨c_7, h⟩ | ⟨c_7, h⟩
  · skip
    cases h
    exact q
  · skip
    obtain ⟨v_13, q_13, h⟩ := ob_b h
    rcases ob_i h with ⟨c_16, h⟩ | ⟨c_16, h⟩
    · skip
      obtain ⟨v_24, q_24, h⟩ := ob_b h
      rcases ob_i h with ⟨c_27, h⟩ | ⟨c_27, h⟩
      · skip
        obtain ⟨v_35, q_35, h⟩ := ob_b h
        rcases ob_i h with ⟨c_38, h⟩ | ⟨c_38, h⟩
        · skip
          cases h
          exact q
        · skip
          exact (w_Mo_tried_43 S l1 l2 _ h hw).trans q
      · skip
        exact (w_Mo_tried_43 S l1 l2 _ h hw).trans q
    · skip
      exact (w_Mo_tried_43 S l1 l2 _ h hw).trans q
set_option maxHeartbeats 4000000 in
theorem w_Mo_byWhen_92 {kr jr : Nat}  (S : St) (l3 : Int32) (s0 : Int32) (w : Int32 × St) (h : f_Mo_byWhen_92 S l3 s0 = some w) (hw : ¬ ((kr = 0 ∧ (jr = 35)) ∨ kr = 1 ∨ kr = 2 ∨ kr = 18 ∨ kr = 19)) : w.2 kr jr = S kr jr := by
  unfold f_Mo_byWhen_92 at h
  have q : S kr jr = S kr jr := rfl
  obtain ⟨w_102, q_102, h⟩ := ob_b h
  replace q := (w_Mo_copies q_102 (fun z => hw (Or.inr (Or.inl (z))))).trans q
  rcases ob_i h with ⟨c_107, h⟩ | ⟨c_107, h⟩
  · skip
    cases h
    exact q
  · skip
    cases h
    exact q
set_option maxHeartbeats 4000000 in
theorem w_Mo_byWhen_74 {kr jr : Nat}  (S : St) (l1 : Int32) (l3 : Int32) (w : Int32 × St) (h : f_Mo_byWhen_74 S l1 l3 = some w) (hw : ¬ ((kr = 0 ∧ (jr = 35)) ∨ kr = 1 ∨ kr = 2 ∨ kr = 18 ∨ kr = 19)) : w.2 kr jr = S kr jr := by
  unfold f_Mo_byWhen_74 at h
  have q : S kr jr = S kr jr := rfl
  obtain ⟨g_82, h⟩ := ob_g h
  rcases ob_i h with ⟨c_84, h⟩ | ⟨c_84, h⟩
  · skip
    exact (w_Mo_byWhen_92 S l3 (1 : Int32) _ h hw).trans q
  · skip
    exact (w_Mo_byWhen_92 S l3 (0 : Int32) _ h hw).trans q
set_option maxHeartbeats 4000000 in
theorem w_Mo_byWhen_33 {kr jr : Nat}  : ∀ (n : Nat) (S : St) (l1 : Int32) (l2 : Int32) (l3 : Int32) (w : Int32 × St), f_Mo_byWhen_33 n S l1 l2 l3 = some w → ¬ ((kr = 0 ∧ (jr = 35)) ∨ kr = 1 ∨ kr = 2 ∨ kr = 18 ∨ kr = 19) → w.2 kr jr = S kr jr := by
  intro n
  induction n with
  | zero =>
    intro S l1 l2 l3 w h hw
    rw [f_Mo_byWhen_33] at h
    cases h
  | succ n ih =>
    intro S l1 l2 l3 w h hw
    replace ih := fun S l1 l2 l3 w h => ih S l1 l2 l3 w h hw
    rw [f_Mo_byWhen_33] at h
    have q : S kr jr = S kr jr := rfl
    obtain ⟨g_41, h⟩ := ob_g h
    rcases ob_i h with ⟨c_42, h⟩ | ⟨c_42, h⟩
    · skip
      rcases ob_i h with ⟨c_47, h⟩ | ⟨c_47, h⟩
      · skip
        exact (w_Mo_byWhen_74 S l1 l3 _ h hw).trans q
      · skip
        obtain ⟨g_56, h⟩ := ob_g h
        rcases ob_i h with ⟨c_60, h⟩ | ⟨c_60, h⟩
        · skip
          exact (w_Mo_byWhen_74 S l1 l3 _ h hw).trans q
        · skip
          obtain ⟨w_64, q_64, h⟩ := ob_b h
          replace q := (w_Mo_dayGoes q_64 (fun z => hw ((z).elim (fun a0 => Or.inl (⟨(a0).1, (a0).2⟩)) (fun z0 => (z0).elim (fun a1 => Or.inr (Or.inl (a1))) (fun z1 => (z1).elim (fun a2 => Or.inr (Or.inr (Or.inr (Or.inl (a2))))) (fun z2 => Or.inr (Or.inr (Or.inr (Or.inr (z2)))))))))).trans q
          obtain ⟨l3_70, e_70, h⟩ := ob_s h
          exact (ih w_64 l1 l2 l3_70 _ h).trans q
    · skip
      exact (w_Mo_byWhen_74 S l1 l3 _ h hw).trans q
set_option maxHeartbeats 4000000 in
theorem w_Mo_byWhen  {S : St} {l1 : Int32} {l2 : Int32} {w : Int32 × St} (h : f_Mo_byWhen S l1 l2 = some w) {kr jr : Nat} (hw : ¬ ((kr = 0 ∧ (jr = 35)) ∨ kr = 1 ∨ kr = 2 ∨ kr = 18 ∨ kr = 19)) : w.2 kr jr = S kr jr := by
  unfold f_Mo_byWhen at h
  have q : S kr jr = S kr jr := rfl
  obtain ⟨v_2, q_2, h⟩ := ob_b h
  rcases ob_i h with ⟨c_5, h⟩ | ⟨c_5, h⟩
  · skip
    cases h
    exact q
  · skip
    obtain ⟨v_12, q_12, h⟩ := ob_b h
    rcases ob_i h with ⟨c_15, h⟩ | ⟨c_15, h⟩
    · skip
      cases h
      exact q
    · skip
      obtain ⟨w_28, q_28, h⟩ := ob_b h
      replace q := (w_Mo_copies q_28 (fun z => hw (Or.inr (Or.inr (Or.inl (z)))))).trans q
      obtain ⟨l3_32, e_32, h⟩ := ob_s h
      exact (w_Mo_byWhen_33 FU w_28 l1 l2 l3_32 _ h hw).trans q
set_option maxHeartbeats 4000000 in
theorem w_Mo_dark_77 {kr jr : Nat}  (S : St) (l2 : Int32) (s0 : Int32) (w : Int32 × St) (h : f_Mo_dark_77 S l2 s0 = some w) (hw : ¬ ((kr = 0 ∧ (jr = 35)) ∨ kr = 1 ∨ kr = 2 ∨ kr = 18 ∨ kr = 19)) : w.2 kr jr = S kr jr := by
  unfold f_Mo_dark_77 at h
  have q : S kr jr = S kr jr := rfl
  obtain ⟨w_86, q_86, h⟩ := ob_b h
  replace q := (w_Mo_copies q_86 (fun z => hw (Or.inr (Or.inl (z))))).trans q
  rcases ob_i h with ⟨c_90, h⟩ | ⟨c_90, h⟩
  · skip
    cases h
    exact q
  · skip
    cases h
    exact q
set_option maxHeartbeats 4000000 in
theorem w_Mo_dark_63 {kr jr : Nat}  (S : St) (l2 : Int32) (w : Int32 × St) (h : f_Mo_dark_63 S l2 = some w) (hw : ¬ ((kr = 0 ∧ (jr = 35)) ∨ kr = 1 ∨ kr = 2 ∨ kr = 18 ∨ kr = 19)) : w.2 kr jr = S kr jr := by
  unfold f_Mo_dark_63 at h
  have q : S kr jr = S kr jr := rfl
  obtain ⟨v_66, q_66, h⟩ := ob_b h
  rcases ob_i h with ⟨c_69, h⟩ | ⟨c_69, h⟩
  · skip
    exact (w_Mo_dark_77 S l2 (1 : Int32) _ h hw).trans q
  · skip
    exact (w_Mo_dark_77 S l2 (0 : Int32) _ h hw).trans q
set_option maxHeartbeats 4000000 in
theorem w_Mo_dark_25 {kr jr : Nat}  : ∀ (n : Nat) (S : St) (l1 : Int32) (l2 : Int32) (w : Int32 × St), f_Mo_dark_25 n S l1 l2 = some w → ¬ ((kr = 0 ∧ (jr = 35)) ∨ kr = 1 ∨ kr = 2 ∨ kr = 18 ∨ kr = 19) → w.2 kr jr = S kr jr := by
  intro n
  induction n with
  | zero =>
    intro S l1 l2 w h hw
    rw [f_Mo_dark_25] at h
    cases h
  | succ n ih =>
    intro S l1 l2 w h hw
    replace ih := fun S l1 l2 w h => ih S l1 l2 w h hw
    rw [f_Mo_dark_25] at h
    have q : S kr jr = S kr jr := rfl
    obtain ⟨v_28, q_28, h⟩ := ob_b h
    rcases ob_i h with ⟨c_31, h⟩ | ⟨c_31, h⟩
    · skip
      exact (w_Mo_dark_63 S l2 _ h hw).trans q
    · skip
      rcases ob_i h with ⟨c_36, h⟩ | ⟨c_36, h⟩
      · skip
        exact (w_Mo_dark_63 S l2 _ h hw).trans q
      · skip
        obtain ⟨g_45, h⟩ := ob_g h
        rcases ob_i h with ⟨c_49, h⟩ | ⟨c_49, h⟩
        · skip
          exact (w_Mo_dark_63 S l2 _ h hw).trans q
        · skip
          obtain ⟨w_53, q_53, h⟩ := ob_b h
          replace q := (w_Mo_dayGoes q_53 (fun z => hw ((z).elim (fun a0 => Or.inl (⟨(a0).1, (a0).2⟩)) (fun z0 => (z0).elim (fun a1 => Or.inr (Or.inl (a1))) (fun z1 => (z1).elim (fun a2 => Or.inr (Or.inr (Or.inr (Or.inl (a2))))) (fun z2 => Or.inr (Or.inr (Or.inr (Or.inr (z2)))))))))).trans q
          obtain ⟨l2_59, e_59, h⟩ := ob_s h
          exact (ih w_53 l1 l2_59 _ h).trans q
set_option maxHeartbeats 4000000 in
theorem w_Mo_dark  {S : St} {l1 : Int32} {w : Int32 × St} (h : f_Mo_dark S l1 = some w) {kr jr : Nat} (hw : ¬ ((kr = 0 ∧ (jr = 35)) ∨ kr = 1 ∨ kr = 2 ∨ kr = 18 ∨ kr = 19)) : w.2 kr jr = S kr jr := by
  unfold f_Mo_dark at h
  have q : S kr jr = S kr jr := rfl
  obtain ⟨v_4, q_4, h⟩ := ob_b h
  rcases ob_i h with ⟨c_7, h⟩ | ⟨c_7, h⟩
  · skip
    cases h
    exact q
  · skip
    obtain ⟨w_20, q_20, h⟩ := ob_b h
    replace q := (w_Mo_copies q_20 (fun z => hw (Or.inr (Or.inr (Or.inl (z)))))).trans q
    obtain ⟨l2_24, e_24, h⟩ := ob_s h
    exact (w_Mo_dark_25 FU w_20 l1 l2_24 _ h hw).trans q
set_option maxHeartbeats 4000000 in
theorem w_Mo_orders_43 {kr jr : Nat}  (k_4 : St → Int32 → Int32 → Option (Int32 × St)) (hk_4 : ∀ (S : St) (l1 : Int32) (l2 : Int32) (w : Int32 × St), k_4 S l1 l2 = some w → w.2 kr jr = S kr jr) (S : St) (l1 : Int32) (l2 : Int32) (w : Int32 × St) (h : f_Mo_orders_43 k_4 S l1 l2 = some w) (hw : ¬ (kr = 24 ∨ kr = 25)) : w.2 kr jr = S kr jr := by
  unfold f_Mo_orders_43 at h
  have q : S kr jr = S kr jr := rfl
  obtain ⟨l2_43, e_43, h⟩ := ob_s h
  exact (hk_4 S l1 l2_43 _ h).trans q
set_option maxHeartbeats 4000000 in
theorem w_Mo_orders_160 {kr jr : Nat}  (k_51 : St → Int32 → Int32 → Option (Int32 × St)) (k_75 : St → Int32 → Int32 → Int32 → Option (Int32 × St)) (hk_51 : ∀ (S : St) (l1 : Int32) (l2 : Int32) (w : Int32 × St), k_51 S l1 l2 = some w → w.2 kr jr = S kr jr) (hk_75 : ∀ (S : St) (l1 : Int32) (l2 : Int32) (l3 : Int32) (w : Int32 × St), k_75 S l1 l2 l3 = some w → w.2 kr jr = S kr jr) (S : St) (l1 : Int32) (l2 : Int32) (l3 : Int32) (w : Int32 × St) (h : f_Mo_orders_160 k_51 k_75 S l1 l2 l3 = some w) (hw : ¬ (kr = 24 ∨ kr = 25)) : w.2 kr jr = S kr jr := by
  unfold f_Mo_orders_160 at h
  have q : S kr jr = S kr jr := rfl
  obtain ⟨l3_160, e_160, h⟩ := ob_s h
  exact (hk_75 S l1 l2 l3_160 _ h).trans q
set_option maxHeartbeats 4000000 in
theorem w_Mo_orders_140 {kr jr : Nat}  (k_51 : St → Int32 → Int32 → Option (Int32 × St)) (k_75 : St → Int32 → Int32 → Int32 → Option (Int32 × St)) (hk_51 : ∀ (S : St) (l1 : Int32) (l2 : Int32) (w : Int32 × St), k_51 S l1 l2 = some w → w.2 kr jr = S kr jr) (hk_75 : ∀ (S : St) (l1 : Int32) (l2 : Int32) (l3 : Int32) (w : Int32 × St), k_75 S l1 l2 l3 = some w → w.2 kr jr = S kr jr) (S : St) (l1 : Int32) (l2 : Int32) (l3 : Int32) (w : Int32 × St) (h : f_Mo_orders_140 k_51 k_75 S l1 l2 l3 = some w) (hw : ¬ (kr = 24 ∨ kr = 25)) : w.2 kr jr = S kr jr := by
  unfold f_Mo_orders_140 at h
  have q : S kr jr = S kr jr := rfl
  obtain ⟨g_150, h⟩ := ob_g h
  obtain ⟨v_155, q_155, h⟩ := ob_b h
  obtain ⟨g_159, h⟩ := ob_g h
  obtain ⟨S_159, e_159, h⟩ := ob_s h
  replace q := sF_w e_159 q (Or.inl (fun z => hw (Or.inr (z))))
  exact (w_Mo_orders_160 k_51 k_75 hk_51 hk_75 S_159 l1 l2 l3 _ h hw).trans q
set_option maxHeartbeats 4000000 in
theorem w_Mo_orders_115 {kr jr : Nat}  (k_51 : St → Int32 → Int32 → Option (Int32 × St)) (k_75 : St → Int32 → Int32 → Int32 → Option (Int32 × St)) (hk_51 : ∀ (S : St) (l1 : Int32) (l2 : Int32) (w : Int32 × St), k_51 S l1 l2 = some w → w.2 kr jr = S kr jr) (hk_75 : ∀ (S : St) (l1 : Int32) (l2 : Int32) (l3 : Int32) (w : Int32 × St), k_75 S l1 l2 l3 = some w → w.2 kr jr = S kr jr) (S : St) (l1 : Int32) (l2 : Int32) (l3 : Int32) (s0 : Int32) (w : Int32 × St) (h : f_Mo_orders_115 k_51 k_75 S l1 l2 l3 s0 = some w) (hw : ¬ (kr = 24 ∨ kr = 25)) : w.2 kr jr = S kr jr := by
  unfold f_Mo_orders_115 at h
  have q : S kr jr = S kr jr := rfl
  obtain ⟨v_119, q_119, h⟩ := ob_b h
  rcases ob_i h with ⟨c_122, h⟩ | ⟨c_122, h⟩
  · skip
    exact (w_Mo_orders_160 k_51 k_75 hk_51 hk_75 S l1 l2 l3 _ h hw).trans q
  · skip
    rcases ob_i h with ⟨c_128, h⟩ | ⟨c_128, h⟩
    · skip
      exact (w_Mo_orders_140 k_51 k_75 hk_51 hk_75 S l1 l2 l3 _ h hw).trans q
    · skip
      obtain ⟨v_134, q_134, h⟩ := ob_b h
      rcases ob_i h with ⟨c_137, h⟩ | ⟨c_137, h⟩
      · skip
        exact (w_Mo_orders_160 k_51 k_75 hk_51 hk_75 S l1 l2 l3 _ h hw).trans q
      · skip
        exact (w_Mo_orders_140 k_51 k_75 hk_51 hk_75 S l1 l2 l3 _ h hw).trans q
set_option maxHeartbeats 4000000 in
theorem w_Mo_orders_75 {kr jr : Nat}  (k_51 : St → Int32 → Int32 → Option (Int32 × St)) (hk_51 : ∀ (S : St) (l1 : Int32) (l2 : Int32) (w : Int32 × St), k_51 S l1 l2 = some w → w.2 kr jr = S kr jr) : ∀ (n : Nat) (S : St) (l1 : Int32) (l2 : Int32) (l3 : Int32) (w : Int32 × St), f_Mo_orders_75 k_51 n S l1 l2 l3 = some w → ¬ (kr = 24 ∨ kr = 25) → w.2 kr jr = S kr jr := by
  intro n
  induction n with
  | zero =>
    intro S l1 l2 l3 w h hw
    rw [f_Mo_orders_75] at h
    cases h
  | succ n ih =>
    intro S l1 l2 l3 w h hw
    replace ih := fun S l1 l2 l3 w h => ih S l1 l2 l3 w h hw
    rw [f_Mo_orders_75] at h
    have q : S kr jr = S kr jr := rfl
    rcases ob_i h with ⟨c_77, h⟩ | ⟨c_77, h⟩
    · skip
      obtain ⟨l2_166, e_166, h⟩ := ob_s h
      exact (hk_51 S l1 l2_166 _ h).trans q
    · skip
      obtain ⟨g_89, h⟩ := ob_g h
      obtain ⟨g_90, h⟩ := ob_g h
      rcases ob_i h with ⟨c_92, h⟩ | ⟨c_92, h⟩
      · skip
        exact (w_Mo_orders_115 k_51 (f_Mo_orders_75 k_51 n) hk_51 ih S l1 l2 l3 ((-1) : Int32) _ h hw).trans q
      · skip
        obtain ⟨g_109, h⟩ := ob_g h
        obtain ⟨g_110, h⟩ := ob_g h
        obtain ⟨v_112, q_112, h⟩ := ob_b h
        exact (w_Mo_orders_115 k_51 (f_Mo_orders_75 k_51 n) hk_51 ih S l1 l2 l3 v_112 _ h hw).trans q
set_option maxHeartbeats 4000000 in
theorem w_Mo_orders_72 {kr jr : Nat}  (k_51 : St → Int32 → Int32 → Option (Int32 × St)) (hk_51 : ∀ (S : St) (l1 : Int32) (l2 : Int32) (w : Int32 × St), k_51 S l1 l2 = some w → w.2 kr jr = S kr jr) (S : St) (l1 : Int32) (l2 : Int32) (s0 : Int32) (s1 : Int32) (w : Int32 × St) (h : f_Mo_orders_72 k_51 S l1 l2 s0 s1 = some w) (hw : ¬ (kr = 24 ∨ kr = 25)) : w.2 kr jr = S kr jr := by
  unfold f_Mo_orders_72 at h
  have q : S kr jr = S kr jr := rfl
  obtain ⟨g_72, h⟩ := ob_g h
  obtain ⟨S_72, e_72, h⟩ := ob_s h
  replace q := sF_w e_72 q (Or.inl (fun z => hw (Or.inr (z))))
  obtain ⟨l3_74, e_74, h⟩ := ob_s h
  exact (w_Mo_orders_75 k_51 hk_51 FU S_72 l1 l2 l3_74 _ h hw).trans q
set_option maxHeartbeats 4000000 in
theorem w_Mo_orders_51 {kr jr : Nat}  : ∀ (n : Nat) (S : St) (l1 : Int32) (l2 : Int32) (w : Int32 × St), f_Mo_orders_51 n S l1 l2 = some w → ¬ (kr = 24 ∨ kr = 25) → w.2 kr jr = S kr jr := by
  intro n
  induction n with
  | zero =>
    intro S l1 l2 w h hw
    rw [f_Mo_orders_51] at h
    cases h
  | succ n ih =>
    intro S l1 l2 w h hw
    replace ih := fun S l1 l2 w h => ih S l1 l2 w h hw
    rw [f_Mo_orders_51] at h
    have q : S kr jr = S kr jr := rfl
    rcases ob_i h with ⟨c_55, h⟩ | ⟨c_55, h⟩
    · skip
      obtain ⟨g_181, h⟩ := ob_g h
      cases h
      exact q
    · skip
      rcases ob_i h with ⟨c_64, h⟩ | ⟨c_64, h⟩
      · skip
        exact (w_Mo_orders_72 (f_Mo_orders_51 n) ih S l1 l2 (1 : Int32) l2 _ h hw).trans q
      · skip
        exact (w_Mo_orders_72 (f_Mo_orders_51 n) ih S l1 l2 (0 : Int32) l2 _ h hw).trans q
set_option maxHeartbeats 4000000 in
theorem w_Mo_orders_4 {kr jr : Nat}  : ∀ (n : Nat) (S : St) (l1 : Int32) (l2 : Int32) (w : Int32 × St), f_Mo_orders_4 n S l1 l2 = some w → ¬ (kr = 24 ∨ kr = 25) → w.2 kr jr = S kr jr := by
  intro n
  induction n with
  | zero =>
    intro S l1 l2 w h hw
    rw [f_Mo_orders_4] at h
    cases h
  | succ n ih =>
    intro S l1 l2 w h hw
    replace ih := fun S l1 l2 w h => ih S l1 l2 w h hw
    rw [f_Mo_orders_4] at h
    have q : S kr jr = S kr jr := rfl
    rcases ob_i h with ⟨c_9, h⟩ | ⟨c_9, h⟩
    · skip
      obtain ⟨l2_50, e_50, h⟩ := ob_s h
      exact (w_Mo_orders_51 FU S l1 l2_50 _ h hw).trans q
    · skip
      obtain ⟨v_14, q_14, h⟩ := ob_b h
      rcases ob_i h with ⟨c_17, h⟩ | ⟨c_17, h⟩
      · skip
        exact (w_Mo_orders_43 (f_Mo_orders_4 n) ih S l1 l2 _ h hw).trans q
      · skip
        rcases ob_i h with ⟨c_26, h⟩ | ⟨c_26, h⟩
        · skip
          cases h
          exact q
        · skip
          obtain ⟨g_38, h⟩ := ob_g h
          obtain ⟨S_38, e_38, h⟩ := ob_s h
          replace q := sF_w e_38 q (Or.inl (fun z => hw (Or.inl (z))))
          obtain ⟨l1_42, e_42, h⟩ := ob_s h
          exact (w_Mo_orders_43 (f_Mo_orders_4 n) ih S_38 l1_42 l2 _ h hw).trans q
set_option maxHeartbeats 4000000 in
theorem w_Mo_orders  {S : St} {w : Int32 × St} (h : f_Mo_orders S = some w) {kr jr : Nat} (hw : ¬ (kr = 24 ∨ kr = 25)) : w.2 kr jr = S kr jr := by
  unfold f_Mo_orders at h
  have q : S kr jr = S kr jr := rfl
  obtain ⟨l1_1, e_1, h⟩ := ob_s h
  obtain ⟨l2_3, e_3, h⟩ := ob_s h
  exact (w_Mo_orders_4 FU S l1_1 l2_3 _ h hw).trans q
set_option maxHeartbeats 4000000 in
theorem w_Mo_readsTimes  {S : St} {w : St} (h : f_Mo_readsTimes S = some w) {kr jr : Nat} (hw : ¬ ((kr = 0 ∧ (jr = 8 ∨ jr = 47 ∨ jr = 48)))) : w kr jr = S kr jr := by
  unfold f_Mo_readsTimes at h
  have q : S kr jr = S kr jr := rfl
  obtain ⟨S_5, e_5, h⟩ := ob_s h
  replace q := sF_w e_5 q (Decidable.not_and_iff_or_not.mp (fun z => hw (⟨(z).1, Or.inr (Or.inl ((z).2))⟩)))
  obtain ⟨S_10, e_10, h⟩ := ob_s h
  replace q := sF_w e_10 q (Decidable.not_and_iff_or_not.mp (fun z => hw (⟨(z).1, Or.inr (Or.inr ((z).2))⟩)))
  obtain ⟨v_14, q_14, h⟩ := ob_b h
  obtain ⟨v_21, q_21, h⟩ := ob_b h
  rcases ob_i h with ⟨c_24, h⟩ | ⟨c_24, h⟩
  · skip
    cases h
    exact q
  · skip
    obtain ⟨v_30, q_30, h⟩ := ob_b h
    obtain ⟨S_36, e_36, h⟩ := ob_s h
    replace q := sF_w e_36 q (Decidable.not_and_iff_or_not.mp (fun z => hw (⟨(z).1, Or.inr (Or.inr ((z).2))⟩)))
    obtain ⟨S_46, e_46, h⟩ := ob_s h
    replace q := sF_w e_46 q (Decidable.not_and_iff_or_not.mp (fun z => hw (⟨(z).1, Or.inl ((z).2)⟩)))
    cases h
    exact q
set_option maxHeartbeats 4000000 in
theorem w_Mo_repeats_31 {kr jr : Nat}  : ∀ (n : Nat) (S : St) (l1 : Int32) (l2 : Int32) (l4 : Int32) (l5 : Int32) (w : Int32 × St), f_Mo_repeats_31 n S l1 l2 l4 l5 = some w → ¬ ((kr = 0 ∧ (jr = 10 ∨ jr = 45)) ∨ kr = 26) → w.2 kr jr = S kr jr := by
  intro n
  induction n with
  | zero =>
    intro S l1 l2 l4 l5 w h hw
    rw [f_Mo_repeats_31] at h
    cases h
  | succ n ih =>
    intro S l1 l2 l4 l5 w h hw
    replace ih := fun S l1 l2 l4 l5 w h => ih S l1 l2 l4 l5 w h hw
    rw [f_Mo_repeats_31] at h
    have q : S kr jr = S kr jr := rfl
    rcases ob_i h with ⟨c_37, h⟩ | ⟨c_37, h⟩
    · skip
      obtain ⟨S_74, e_74, h⟩ := ob_s h
      replace q := sF_w e_74 q (Decidable.not_and_iff_or_not.mp (fun z => hw (Or.inl (⟨(z).1, Or.inr ((z).2)⟩))))
      cases h
      exact q
    · skip
      obtain ⟨g_59, h⟩ := ob_g h
      obtain ⟨g_60, h⟩ := ob_g h
      obtain ⟨S_60, e_60, h⟩ := ob_s h
      replace q := sF_w e_60 q (Or.inl (fun z => hw (Or.inr (z))))
      obtain ⟨l5_61, e_61, h⟩ := ob_s h
      exact (ih S_60 l1 l2 l4 l5_61 _ h).trans q
set_option maxHeartbeats 4000000 in
theorem w_Mo_repeats  {S : St} {l1 : Int32} {l2 : Int32} {l3 : Int32} {w : Int32 × St} (h : f_Mo_repeats S l1 l2 l3 = some w) {kr jr : Nat} (hw : ¬ ((kr = 0 ∧ (jr = 10 ∨ jr = 45)) ∨ kr = 26)) : w.2 kr jr = S kr jr := by
  unfold f_Mo_repeats at h
  have q : S kr jr = S kr jr := rfl
  obtain ⟨l4_6, e_6, h⟩ := ob_s h
  rcases ob_i h with ⟨c_16, h⟩ | ⟨c_16, h⟩
  · skip
    exact (w_Mo_repeats_31 FU S l1 l2 l4_6 l4_6 _ h hw).trans q
  · skip
    obtain ⟨w_23, q_23, h⟩ := ob_b h
    replace q := (w_Mo_wrongAt q_23 (fun z => hw (Or.inl (⟨(z).1, Or.inl ((z).2)⟩)))).trans q
    obtain ⟨g_26, h⟩ := ob_g h
    cases h
    exact q
set_option maxHeartbeats 4000000 in
theorem w_Mo_readsTurn_270 {kr jr : Nat}  : ∀ (n : Nat) (S : St) (w : Int32 × St), f_Mo_readsTurn_270 n S = some w → ¬ ((kr = 0 ∧ (jr = 8 ∨ jr = 10 ∨ jr = 45 ∨ jr = 46 ∨ jr = 47 ∨ jr = 48)) ∨ kr = 26 ∨ kr = 27 ∨ kr = 28 ∨ kr = 29) → w.2 kr jr = S kr jr := by
  intro n
  induction n with
  | zero =>
    intro S w h hw
    rw [f_Mo_readsTurn_270] at h
    cases h
  | succ n ih =>
    intro S w h hw
    replace ih := fun S w h => ih S w h hw
    rw [f_Mo_readsTurn_270] at h
    have q : S kr jr = S kr jr := rfl
    obtain ⟨v_271, q_271, h⟩ := ob_b h
    rcases ob_i h with ⟨c_276, h⟩ | ⟨c_276, h⟩
    · skip
      rcases ob_i h with ⟨c_283, h⟩ | ⟨c_283, h⟩
      · skip
        cases h
        exact q
      · skip
        obtain ⟨S_293, e_293, h⟩ := ob_s h
        replace q := sF_w e_293 q (Decidable.not_and_iff_or_not.mp (fun z => hw (Or.inl (⟨(z).1, Or.inl ((z).2)⟩))))
        obtain ⟨S_303, e_303, h⟩ := ob_s h
        replace q := sF_w e_303 q (Decidable.not_and_iff_or_not.mp (fun z => hw (Or.inl (⟨(z).1, Or.inr (Or.inr (Or.inr (Or.inl ((z).2))))⟩))))
        obtain ⟨g_315, h⟩ := ob_g h
        obtain ⟨g_324, h⟩ := ob_g h
        obtain ⟨g_333, h⟩ := ob_g h
        obtain ⟨w_334, q_334, h⟩ := ob_b h
        replace q := (w_Mo_repeats q_334 (fun z => hw ((z).elim (fun a0 => Or.inl (⟨(a0).1, ((a0).2).elim (fun a0 => Or.inr (Or.inl (a0))) (fun z0 => Or.inr (Or.inr (Or.inl (z0))))⟩)) (fun z0 => Or.inr (Or.inl (z0)))))).trans q
        rcases ob_i h with ⟨c_337, h⟩ | ⟨c_337, h⟩
        · skip
          cases h
          exact q
        · skip
          exact (ih w_334.2 _ h).trans q
    · skip
      cases h
      exact q
set_option maxHeartbeats 4000000 in
theorem w_Mo_readsTurn_242 {kr jr : Nat}  (S : St) (l2 : Int32) (l3 : Int32) (s0 : Int32) (s1 : Int32) (w : Int32 × St) (h : f_Mo_readsTurn_242 S l2 l3 s0 s1 = some w) (hw : ¬ ((kr = 0 ∧ (jr = 8 ∨ jr = 10 ∨ jr = 45 ∨ jr = 46 ∨ jr = 47 ∨ jr = 48)) ∨ kr = 26 ∨ kr = 27 ∨ kr = 28 ∨ kr = 29)) : w.2 kr jr = S kr jr := by
  unfold f_Mo_readsTurn_242 at h
  have q : S kr jr = S kr jr := rfl
  obtain ⟨g_242, h⟩ := ob_g h
  obtain ⟨S_242, e_242, h⟩ := ob_s h
  replace q := sF_w e_242 q (Or.inl (fun z => hw (Or.inr (Or.inl (z)))))
  obtain ⟨S_250, e_250, h⟩ := ob_s h
  replace q := sF_w e_250 q (Decidable.not_and_iff_or_not.mp (fun z => hw (Or.inl (⟨(z).1, Or.inr (Or.inr (Or.inl ((z).2)))⟩))))
  obtain ⟨w_262, q_262, h⟩ := ob_b h
  replace q := (w_Mo_repeats q_262 (fun z => hw ((z).elim (fun a0 => Or.inl (⟨(a0).1, ((a0).2).elim (fun a0 => Or.inr (Or.inl (a0))) (fun z0 => Or.inr (Or.inr (Or.inl (z0))))⟩)) (fun z0 => Or.inr (Or.inl (z0)))))).trans q
  rcases ob_i h with ⟨c_265, h⟩ | ⟨c_265, h⟩
  · skip
    cases h
    exact q
  · skip
    exact (w_Mo_readsTurn_270 FU w_262.2 _ h hw).trans q
set_option maxHeartbeats 4000000 in
theorem w_Mo_readsTurn_169 {kr jr : Nat}  (S : St) (l1 : Int32) (l2 : Int32) (l3 : Int32) (l4 : Int32) (s0 : Int32) (s1 : Int32) (w : Int32 × St) (h : f_Mo_readsTurn_169 S l1 l2 l3 l4 s0 s1 = some w) (hw : ¬ ((kr = 0 ∧ (jr = 8 ∨ jr = 10 ∨ jr = 45 ∨ jr = 46 ∨ jr = 47 ∨ jr = 48)) ∨ kr = 26 ∨ kr = 27 ∨ kr = 28 ∨ kr = 29)) : w.2 kr jr = S kr jr := by
  unfold f_Mo_readsTurn_169 at h
  have q : S kr jr = S kr jr := rfl
  obtain ⟨l5_170, e_170, h⟩ := ob_s h
  rcases ob_i h with ⟨c_177, h⟩ | ⟨c_177, h⟩
  · skip
    rcases ob_i h with ⟨c_198, h⟩ | ⟨c_198, h⟩
    · skip
      obtain ⟨S_216, e_216, h⟩ := ob_s h
      replace q := sF_w e_216 q (Decidable.not_and_iff_or_not.mp (fun z => hw (Or.inl (⟨(z).1, Or.inl ((z).2)⟩))))
      rcases ob_i h with ⟨c_229, h⟩ | ⟨c_229, h⟩
      · skip
        exact (w_Mo_readsTurn_242 S_216 l2 l3 (8 + l5_170) (S_216 0 45) _ h hw).trans q
      · skip
        exact (w_Mo_readsTurn_242 S_216 l2 l3 l5_170 (S_216 0 45) _ h hw).trans q
    · skip
      obtain ⟨w_205, q_205, h⟩ := ob_b h
      replace q := (w_Mo_wrongAt q_205 (fun z => hw (Or.inl (⟨(z).1, Or.inr (Or.inl ((z).2))⟩)))).trans q
      obtain ⟨g_208, h⟩ := ob_g h
      cases h
      exact q
  · skip
    obtain ⟨w_186, q_186, h⟩ := ob_b h
    replace q := (w_Mo_wrongAt q_186 (fun z => hw (Or.inl (⟨(z).1, Or.inr (Or.inl ((z).2))⟩)))).trans q
    obtain ⟨g_189, h⟩ := ob_g h
    cases h
    exact q
set_option maxHeartbeats 4000000 in
theorem w_Mo_readsTurn_153 {kr jr : Nat}  (S : St) (l1 : Int32) (l2 : Int32) (l3 : Int32) (l4 : Int32) (w : Int32 × St) (h : f_Mo_readsTurn_153 S l1 l2 l3 l4 = some w) (hw : ¬ ((kr = 0 ∧ (jr = 8 ∨ jr = 10 ∨ jr = 45 ∨ jr = 46 ∨ jr = 47 ∨ jr = 48)) ∨ kr = 26 ∨ kr = 27 ∨ kr = 28 ∨ kr = 29)) : w.2 kr jr = S kr jr := by
  unfold f_Mo_readsTurn_153 at h
  have q : S kr jr = S kr jr := rfl
  obtain ⟨v_154, q_154, h⟩ := ob_b h
  rcases ob_i h with ⟨c_159, h⟩ | ⟨c_159, h⟩
  · skip
    exact (w_Mo_readsTurn_169 S l1 l2 l3 l4 (65 : Int32) v_154 _ h hw).trans q
  · skip
    exact (w_Mo_readsTurn_169 S l1 l2 l3 l4 (97 : Int32) v_154 _ h hw).trans q
set_option maxHeartbeats 4000000 in
theorem w_Mo_readsTurn_4 {kr jr : Nat}  : ∀ (n : Nat) (S : St) (l1 : Int32) (w : Int32 × St), f_Mo_readsTurn_4 n S l1 = some w → ¬ ((kr = 0 ∧ (jr = 8 ∨ jr = 10 ∨ jr = 45 ∨ jr = 46 ∨ jr = 47 ∨ jr = 48)) ∨ kr = 26 ∨ kr = 27 ∨ kr = 28 ∨ kr = 29) → w.2 kr jr = S kr jr := by
  intro n
  induction n with
  | zero =>
    intro S l1 w h hw
    rw [f_Mo_readsTurn_4] at h
    cases h
  | succ n ih =>
    intro S l1 w h hw
    replace ih := fun S l1 w h => ih S l1 w h hw
    rw [f_Mo_readsTurn_4] at h
    have q : S kr jr = S kr jr := rfl
    obtain ⟨v_5, q_5, h⟩ := ob_b h
    rcases ob_i h with ⟨c_10, h⟩ | ⟨c_10, h⟩
    · skip
      rcases ob_i h with ⟨c_18, h⟩ | ⟨c_18, h⟩
      · skip
        obtain ⟨w_27, q_27, h⟩ := ob_b h
        replace q := (w_Mo_wrongAt q_27 (fun z => hw (Or.inl (⟨(z).1, Or.inr (Or.inl ((z).2))⟩)))).trans q
        obtain ⟨g_30, h⟩ := ob_g h
        cases h
        exact q
      · skip
        obtain ⟨g_43, h⟩ := ob_g h
        obtain ⟨S_43, e_43, h⟩ := ob_s h
        replace q := sF_w e_43 q (Or.inl (fun z => hw (Or.inr (Or.inr (Or.inl (z))))))
        obtain ⟨g_56, h⟩ := ob_g h
        obtain ⟨S_56, e_56, h⟩ := ob_s h
        replace q := sF_w e_56 q (Or.inl (fun z => hw (Or.inr (Or.inr (Or.inr (Or.inl (z)))))))
        obtain ⟨g_69, h⟩ := ob_g h
        obtain ⟨S_69, e_69, h⟩ := ob_s h
        replace q := sF_w e_69 q (Or.inl (fun z => hw (Or.inr (Or.inr (Or.inr (Or.inr (z)))))))
        obtain ⟨S_77, e_77, h⟩ := ob_s h
        replace q := sF_w e_77 q (Decidable.not_and_iff_or_not.mp (fun z => hw (Or.inl (⟨(z).1, Or.inr (Or.inr (Or.inr (Or.inl ((z).2))))⟩))))
        obtain ⟨S_87, e_87, h⟩ := ob_s h
        replace q := sF_w e_87 q (Decidable.not_and_iff_or_not.mp (fun z => hw (Or.inl (⟨(z).1, Or.inl ((z).2)⟩))))
        obtain ⟨w_91, q_91, h⟩ := ob_b h
        replace q := (w_Mo_readsTimes q_91 (fun z => hw (Or.inl (⟨(z).1, ((z).2).elim (fun a0 => Or.inl (a0)) (fun z0 => (z0).elim (fun a1 => Or.inr (Or.inr (Or.inr (Or.inr (Or.inl (a1)))))) (fun z1 => Or.inr (Or.inr (Or.inr (Or.inr (Or.inr (z1)))))))⟩)))).trans q
        exact (ih w_91 l1 _ h).trans q
    · skip
      obtain ⟨l2_101, e_101, h⟩ := ob_s h
      obtain ⟨l3_106, e_106, h⟩ := ob_s h
      obtain ⟨v_108, q_108, h⟩ := ob_b h
      obtain ⟨v_117, q_117, h⟩ := ob_b h
      rcases ob_i h with ⟨c_124, h⟩ | ⟨c_124, h⟩
      · skip
        obtain ⟨v_128, q_128, h⟩ := ob_b h
        obtain ⟨v_137, q_137, h⟩ := ob_b h
        rcases ob_i h with ⟨c_140, h⟩ | ⟨c_140, h⟩
        · skip
          obtain ⟨w_149, q_149, h⟩ := ob_b h
          replace q := (w_Mo_wrongAt q_149 (fun z => hw (Or.inl (⟨(z).1, Or.inr (Or.inl ((z).2))⟩)))).trans q
          obtain ⟨g_152, h⟩ := ob_g h
          cases h
          exact q
        · skip
          exact (w_Mo_readsTurn_153 S l1 l2_101 l3_106 v_117 _ h hw).trans q
      · skip
        exact (w_Mo_readsTurn_153 S l1 l2_101 l3_106 v_117 _ h hw).trans q
set_option maxHeartbeats 4000000 in
theorem w_Mo_readsTurn  {S : St} {l1 : Int32} {w : Int32 × St} (h : f_Mo_readsTurn S l1 = some w) {kr jr : Nat} (hw : ¬ ((kr = 0 ∧ (jr = 8 ∨ jr = 10 ∨ jr = 45 ∨ jr = 46 ∨ jr = 47 ∨ jr = 48)) ∨ kr = 26 ∨ kr = 27 ∨ kr = 28 ∨ kr = 29)) : w.2 kr jr = S kr jr := by
  unfold f_Mo_readsTurn at h
  have q : S kr jr = S kr jr := rfl
  obtain ⟨w_1, q_1, h⟩ := ob_b h
  replace q := (w_Mo_readsTimes q_1 (fun z => hw (Or.inl (⟨(z).1, ((z).2).elim (fun a0 => Or.inl (a0)) (fun z0 => (z0).elim (fun a1 => Or.inr (Or.inr (Or.inr (Or.inr (Or.inl (a1)))))) (fun z1 => Or.inr (Or.inr (Or.inr (Or.inr (Or.inr (z1)))))))⟩)))).trans q
  exact (w_Mo_readsTurn_4 FU w_1 l1 _ h hw).trans q
set_option maxHeartbeats 4000000 in
theorem w_Mo_turnsAll_22 {kr jr : Nat}  : ∀ (n : Nat) (S : St) (l2 : Int32) (w : St), f_Mo_turnsAll_22 n S l2 = some w → ¬ (kr = 30) → w kr jr = S kr jr := by
  intro n
  induction n with
  | zero =>
    intro S l2 w h hw
    rw [f_Mo_turnsAll_22] at h
    cases h
  | succ n ih =>
    intro S l2 w h hw
    replace ih := fun S l2 w h => ih S l2 w h hw
    rw [f_Mo_turnsAll_22] at h
    have q : S kr jr = S kr jr := rfl
    rcases ob_i h with ⟨c_27, h⟩ | ⟨c_27, h⟩
    · skip
      cases h
      exact q
    · skip
      obtain ⟨g_35, h⟩ := ob_g h
      obtain ⟨l3_39, e_39, h⟩ := ob_s h
      obtain ⟨g_45, h⟩ := ob_g h
      obtain ⟨l4_46, e_46, h⟩ := ob_s h
      obtain ⟨g_60, h⟩ := ob_g h
      obtain ⟨g_61, h⟩ := ob_g h
      obtain ⟨S_61, e_61, h⟩ := ob_s h
      replace q := sF_w e_61 q (Or.inl (fun z => hw (z)))
      obtain ⟨g_71, h⟩ := ob_g h
      obtain ⟨S_71, e_71, h⟩ := ob_s h
      replace q := sF_w e_71 q (Or.inl (fun z => hw (z)))
      obtain ⟨l2_72, e_72, h⟩ := ob_s h
      exact (ih S_71 l2_72 _ h).trans q
set_option maxHeartbeats 4000000 in
theorem w_Mo_turnsAll_2 {kr jr : Nat}  : ∀ (n : Nat) (S : St) (l1 : Int32) (l2 : Int32) (w : St), f_Mo_turnsAll_2 n S l1 l2 = some w → ¬ (kr = 30) → w kr jr = S kr jr := by
  intro n
  induction n with
  | zero =>
    intro S l1 l2 w h hw
    rw [f_Mo_turnsAll_2] at h
    cases h
  | succ n ih =>
    intro S l1 l2 w h hw
    replace ih := fun S l1 l2 w h => ih S l1 l2 w h hw
    rw [f_Mo_turnsAll_2] at h
    have q : S kr jr = S kr jr := rfl
    rcases ob_i h with ⟨c_4, h⟩ | ⟨c_4, h⟩
    · skip
      obtain ⟨l2_21, e_21, h⟩ := ob_s h
      exact (w_Mo_turnsAll_22 FU S l2_21 _ h hw).trans q
    · skip
      obtain ⟨g_13, h⟩ := ob_g h
      obtain ⟨S_13, e_13, h⟩ := ob_s h
      replace q := sF_w e_13 q (Or.inl (fun z => hw (z)))
      obtain ⟨l2_14, e_14, h⟩ := ob_s h
      exact (ih S_13 l1 l2_14 _ h).trans q
set_option maxHeartbeats 4000000 in
theorem w_Mo_turnsAll  {S : St} {l1 : Int32} {w : St} (h : f_Mo_turnsAll S l1 = some w) {kr jr : Nat} (hw : ¬ (kr = 30)) : w kr jr = S kr jr := by
  unfold f_Mo_turnsAll at h
  have q : S kr jr = S kr jr := rfl
  obtain ⟨l2_1, e_1, h⟩ := ob_s h
  exact (w_Mo_turnsAll_2 FU S l1 l2_1 _ h hw).trans q
set_option maxHeartbeats 4000000 in
theorem w_Mo_shortened_74 {kr jr : Nat}  (k_4 : St → Int32 → Int32 → Option (Int32 × St)) (hk_4 : ∀ (S : St) (l1 : Int32) (l2 : Int32) (w : Int32 × St), k_4 S l1 l2 = some w → w.2 kr jr = S kr jr) (S : St) (l2 : Int32) (s0 : Int32) (w : Int32 × St) (h : f_Mo_shortened_74 k_4 S l2 s0 = some w) (hw : ¬ (kr = 32)) : w.2 kr jr = S kr jr := by
  unfold f_Mo_shortened_74 at h
  have q : S kr jr = S kr jr := rfl
  obtain ⟨l2_75, e_75, h⟩ := ob_s h
  exact (hk_4 S s0 l2_75 _ h).trans q
set_option maxHeartbeats 4000000 in
theorem w_Mo_shortened_61 {kr jr : Nat}  (k_4 : St → Int32 → Int32 → Option (Int32 × St)) (hk_4 : ∀ (S : St) (l1 : Int32) (l2 : Int32) (w : Int32 × St), k_4 S l1 l2 = some w → w.2 kr jr = S kr jr) (S : St) (l1 : Int32) (l2 : Int32) (l3 : Int32) (w : Int32 × St) (h : f_Mo_shortened_61 k_4 S l1 l2 l3 = some w) (hw : ¬ (kr = 32)) : w.2 kr jr = S kr jr := by
  unfold f_Mo_shortened_61 at h
  have q : S kr jr = S kr jr := rfl
  rcases ob_i h with ⟨c_62, h⟩ | ⟨c_62, h⟩
  · skip
    exact (w_Mo_shortened_74 k_4 hk_4 S l2 (l1 + 1) _ h hw).trans q
  · skip
    exact (w_Mo_shortened_74 k_4 hk_4 S l2 (l1 - 1) _ h hw).trans q
set_option maxHeartbeats 4000000 in
theorem w_Mo_shortened_44 {kr jr : Nat}  (k_4 : St → Int32 → Int32 → Option (Int32 × St)) (hk_4 : ∀ (S : St) (l1 : Int32) (l2 : Int32) (w : Int32 × St), k_4 S l1 l2 = some w → w.2 kr jr = S kr jr) (S : St) (l1 : Int32) (l2 : Int32) (s0 : Int32) (w : Int32 × St) (h : f_Mo_shortened_44 k_4 S l1 l2 s0 = some w) (hw : ¬ (kr = 32)) : w.2 kr jr = S kr jr := by
  unfold f_Mo_shortened_44 at h
  have q : S kr jr = S kr jr := rfl
  rcases ob_i h with ⟨c_46, h⟩ | ⟨c_46, h⟩
  · skip
    obtain ⟨g_59, h⟩ := ob_g h
    obtain ⟨g_60, h⟩ := ob_g h
    obtain ⟨S_60, e_60, h⟩ := ob_s h
    replace q := sF_w e_60 q (Or.inl (fun z => hw (z)))
    exact (w_Mo_shortened_61 k_4 hk_4 S_60 l1 l2 s0 _ h hw).trans q
  · skip
    exact (w_Mo_shortened_61 k_4 hk_4 S l1 l2 s0 _ h hw).trans q
set_option maxHeartbeats 4000000 in
theorem w_Mo_shortened_43 {kr jr : Nat}  (k_4 : St → Int32 → Int32 → Option (Int32 × St)) (hk_4 : ∀ (S : St) (l1 : Int32) (l2 : Int32) (w : Int32 × St), k_4 S l1 l2 = some w → w.2 kr jr = S kr jr) (S : St) (l1 : Int32) (l2 : Int32) (w : Int32 × St) (h : f_Mo_shortened_43 k_4 S l1 l2 = some w) (hw : ¬ (kr = 32)) : w.2 kr jr = S kr jr := by
  unfold f_Mo_shortened_43 at h
  have q : S kr jr = S kr jr := rfl
  exact (w_Mo_shortened_44 k_4 hk_4 S l1 l2 (0 : Int32) _ h hw).trans q
set_option maxHeartbeats 4000000 in
theorem w_Mo_shortened_4 {kr jr : Nat}  : ∀ (n : Nat) (S : St) (l1 : Int32) (l2 : Int32) (w : Int32 × St), f_Mo_shortened_4 n S l1 l2 = some w → ¬ (kr = 32) → w.2 kr jr = S kr jr := by
  intro n
  induction n with
  | zero =>
    intro S l1 l2 w h hw
    rw [f_Mo_shortened_4] at h
    cases h
  | succ n ih =>
    intro S l1 l2 w h hw
    replace ih := fun S l1 l2 w h => ih S l1 l2 w h hw
    rw [f_Mo_shortened_4] at h
    have q : S kr jr = S kr jr := rfl
    rcases ob_i h with ⟨c_9, h⟩ | ⟨c_9, h⟩
    · skip
      cases h
      exact q
    · skip
      rcases ob_i h with ⟨c_13, h⟩ | ⟨c_13, h⟩
      · skip
        exact (w_Mo_shortened_43 (f_Mo_shortened_4 n) ih S l1 l2 _ h hw).trans q
      · skip
        obtain ⟨g_23, h⟩ := ob_g h
        obtain ⟨g_29, h⟩ := ob_g h
        obtain ⟨v_31, q_31, h⟩ := ob_b h
        rcases ob_i h with ⟨c_36, h⟩ | ⟨c_36, h⟩
        · skip
          exact (w_Mo_shortened_44 (f_Mo_shortened_4 n) ih S l1 l2 (1 : Int32) _ h hw).trans q
        · skip
          exact (w_Mo_shortened_43 (f_Mo_shortened_4 n) ih S l1 l2 _ h hw).trans q
set_option maxHeartbeats 4000000 in
theorem w_Mo_shortened  {S : St} {w : Int32 × St} (h : f_Mo_shortened S = some w) {kr jr : Nat} (hw : ¬ (kr = 32)) : w.2 kr jr = S kr jr := by
  unfold f_Mo_shortened at h
  have q : S kr jr = S kr jr := rfl
  obtain ⟨l1_1, e_1, h⟩ := ob_s h
  obtain ⟨l2_3, e_3, h⟩ := ob_s h
  exact (w_Mo_shortened_4 FU S l1_1 l2_3 _ h hw).trans q
set_option maxHeartbeats 4000000 in
theorem w_Mo_oftenTill_36 {kr jr : Nat}  (k_26 : St → Int32 → Int32 → Option (Int32 × St)) (hk_26 : ∀ (S : St) (l1 : Int32) (l2 : Int32) (w : Int32 × St), k_26 S l1 l2 = some w → w.2 kr jr = S kr jr) : ∀ (n : Nat) (S : St) (l1 : Int32) (l2 : Int32) (l3 : Int32) (w : Int32 × St), f_Mo_oftenTill_36 k_26 n S l1 l2 l3 = some w → ¬ (kr = 31) → w.2 kr jr = S kr jr := by
  intro n
  induction n with
  | zero =>
    intro S l1 l2 l3 w h hw
    rw [f_Mo_oftenTill_36] at h
    cases h
  | succ n ih =>
    intro S l1 l2 l3 w h hw
    replace ih := fun S l1 l2 l3 w h => ih S l1 l2 l3 w h hw
    rw [f_Mo_oftenTill_36] at h
    have q : S kr jr = S kr jr := rfl
    rcases ob_i h with ⟨c_38, h⟩ | ⟨c_38, h⟩
    · skip
      obtain ⟨l2_66, e_66, h⟩ := ob_s h
      exact (hk_26 S l1 l2_66 _ h).trans q
    · skip
      obtain ⟨g_52, h⟩ := ob_g h
      obtain ⟨v_53, q_53, h⟩ := ob_b h
      obtain ⟨g_56, h⟩ := ob_g h
      obtain ⟨S_56, e_56, h⟩ := ob_s h
      replace q := sF_w e_56 q (Or.inl (fun z => hw (z)))
      obtain ⟨l3_57, e_57, h⟩ := ob_s h
      exact (ih S_56 l1 l2 l3_57 _ h).trans q
set_option maxHeartbeats 4000000 in
theorem w_Mo_oftenTill_26 {kr jr : Nat}  : ∀ (n : Nat) (S : St) (l1 : Int32) (l2 : Int32) (w : Int32 × St), f_Mo_oftenTill_26 n S l1 l2 = some w → ¬ (kr = 31) → w.2 kr jr = S kr jr := by
  intro n
  induction n with
  | zero =>
    intro S l1 l2 w h hw
    rw [f_Mo_oftenTill_26] at h
    cases h
  | succ n ih =>
    intro S l1 l2 w h hw
    replace ih := fun S l1 l2 w h => ih S l1 l2 w h hw
    rw [f_Mo_oftenTill_26] at h
    have q : S kr jr = S kr jr := rfl
    obtain ⟨v_28, q_28, h⟩ := ob_b h
    rcases ob_i h with ⟨c_31, h⟩ | ⟨c_31, h⟩
    · skip
      obtain ⟨l3_35, e_35, h⟩ := ob_s h
      exact (w_Mo_oftenTill_36 (f_Mo_oftenTill_26 n) ih FU S l1 l2 l3_35 _ h hw).trans q
    · skip
      cases h
      exact q
set_option maxHeartbeats 4000000 in
theorem w_Mo_oftenTill_2 {kr jr : Nat}  : ∀ (n : Nat) (S : St) (l1 : Int32) (l2 : Int32) (w : Int32 × St), f_Mo_oftenTill_2 n S l1 l2 = some w → ¬ (kr = 31) → w.2 kr jr = S kr jr := by
  intro n
  induction n with
  | zero =>
    intro S l1 l2 w h hw
    rw [f_Mo_oftenTill_2] at h
    cases h
  | succ n ih =>
    intro S l1 l2 w h hw
    replace ih := fun S l1 l2 w h => ih S l1 l2 w h hw
    rw [f_Mo_oftenTill_2] at h
    have q : S kr jr = S kr jr := rfl
    rcases ob_i h with ⟨c_4, h⟩ | ⟨c_4, h⟩
    · skip
      obtain ⟨l2_25, e_25, h⟩ := ob_s h
      exact (w_Mo_oftenTill_26 FU S l1 l2_25 _ h hw).trans q
    · skip
      obtain ⟨v_14, q_14, h⟩ := ob_b h
      obtain ⟨g_17, h⟩ := ob_g h
      obtain ⟨S_17, e_17, h⟩ := ob_s h
      replace q := sF_w e_17 q (Or.inl (fun z => hw (z)))
      obtain ⟨l2_18, e_18, h⟩ := ob_s h
      exact (ih S_17 l1 l2_18 _ h).trans q
set_option maxHeartbeats 4000000 in
theorem w_Mo_oftenTill  {S : St} {l1 : Int32} {w : Int32 × St} (h : f_Mo_oftenTill S l1 = some w) {kr jr : Nat} (hw : ¬ (kr = 31)) : w.2 kr jr = S kr jr := by
  unfold f_Mo_oftenTill at h
  have q : S kr jr = S kr jr := rfl
  obtain ⟨l2_1, e_1, h⟩ := ob_s h
  exact (w_Mo_oftenTill_2 FU S l1 l2_1 _ h hw).trans q
set_option maxHeartbeats 4000000 in
theorem w_Mo_twist_97 {kr jr : Nat}  (k_74 : St → Int32 → Int32 → Int32 → Option (Int32 × St)) (hk_74 : ∀ (S : St) (l1 : Int32) (l3 : Int32) (l4 : Int32) (w : Int32 × St), k_74 S l1 l3 l4 = some w → w.2 kr jr = S kr jr) (S : St) (l1 : Int32) (l3 : Int32) (w : Int32 × St) (h : f_Mo_twist_97 k_74 S l1 l3 = some w) (hw : ¬ ((kr = 0 ∧ (jr = 7 ∨ jr = 8 ∨ jr = 9 ∨ jr = 10 ∨ jr = 13 ∨ jr = 15 ∨ jr = 45 ∨ jr = 46 ∨ jr = 47 ∨ jr = 48)) ∨ kr = 26 ∨ kr = 27 ∨ kr = 28 ∨ kr = 29 ∨ kr = 30 ∨ kr = 31 ∨ kr = 32)) : w.2 kr jr = S kr jr := by
  unfold f_Mo_twist_97 at h
  have q : S kr jr = S kr jr := rfl
  obtain ⟨w_99, q_99, h⟩ := ob_b h
  replace q := (w_Mo_readsTurn q_99 (fun z => hw ((z).elim (fun a0 => Or.inl (⟨(a0).1, ((a0).2).elim (fun a0 => Or.inr (Or.inl (a0))) (fun z0 => (z0).elim (fun a1 => Or.inr (Or.inr (Or.inr (Or.inl (a1))))) (fun z1 => (z1).elim (fun a2 => Or.inr (Or.inr (Or.inr (Or.inr (Or.inr (Or.inr (Or.inl (a2)))))))) (fun z2 => (z2).elim (fun a3 => Or.inr (Or.inr (Or.inr (Or.inr (Or.inr (Or.inr (Or.inr (Or.inl (a3))))))))) (fun z3 => (z3).elim (fun a4 => Or.inr (Or.inr (Or.inr (Or.inr (Or.inr (Or.inr (Or.inr (Or.inr (Or.inl (a4)))))))))) (fun z4 => Or.inr (Or.inr (Or.inr (Or.inr (Or.inr (Or.inr (Or.inr (Or.inr (Or.inr (z4))))))))))))))⟩)) (fun z0 => (z0).elim (fun a1 => Or.inr (Or.inl (a1))) (fun z1 => (z1).elim (fun a2 => Or.inr (Or.inr (Or.inl (a2)))) (fun z2 => (z2).elim (fun a3 => Or.inr (Or.inr (Or.inr (Or.inl (a3))))) (fun z3 => Or.inr (Or.inr (Or.inr (Or.inr (Or.inl (z3)))))))))))).trans q
  obtain ⟨l4_102, e_102, h⟩ := ob_s h
  exact (hk_74 w_99.2 l1 l3 l4_102 _ h).trans q
set_option maxHeartbeats 4000000 in
theorem w_Mo_twist_107 {kr jr : Nat}  (S : St) (l1 : Int32) (l3 : Int32) (l4 : Int32) (w : Int32 × St) (h : f_Mo_twist_107 S l1 l3 l4 = some w) (hw : ¬ ((kr = 0 ∧ (jr = 7 ∨ jr = 8 ∨ jr = 9 ∨ jr = 10 ∨ jr = 13 ∨ jr = 15 ∨ jr = 45 ∨ jr = 46 ∨ jr = 47 ∨ jr = 48)) ∨ kr = 26 ∨ kr = 27 ∨ kr = 28 ∨ kr = 29 ∨ kr = 30 ∨ kr = 31 ∨ kr = 32)) : w.2 kr jr = S kr jr := by
  unfold f_Mo_twist_107 at h
  have q : S kr jr = S kr jr := rfl
  obtain ⟨S_109, e_109, h⟩ := ob_s h
  replace q := sF_w e_109 q (Decidable.not_and_iff_or_not.mp (fun z => hw (Or.inl (⟨(z).1, Or.inl ((z).2)⟩))))
  rcases ob_i h with ⟨c_114, h⟩ | ⟨c_114, h⟩
  · skip
    cases h
    exact q
  · skip
    obtain ⟨w_124, q_124, h⟩ := ob_b h
    replace q := (w_Mo_turnsAll q_124 (fun z => hw (Or.inr (Or.inr (Or.inr (Or.inr (Or.inr (Or.inl (z))))))))).trans q
    rcases ob_i h with ⟨c_128_0, h⟩ | ⟨c_128_0, h⟩
    · skip
      cases h
      exact q
    rcases ob_i h with ⟨c_128_1, h⟩ | ⟨c_128_1, h⟩
    · skip
      obtain ⟨v_166, q_166, h⟩ := ob_b h
      cases h
      exact q
    rcases ob_i h with ⟨c_128_2, h⟩ | ⟨c_128_2, h⟩
    · skip
      obtain ⟨w_171, q_171, h⟩ := ob_b h
      replace q := (w_Mo_shortened q_171 (fun z => hw (Or.inr (Or.inr (Or.inr (Or.inr (Or.inr (Or.inr (Or.inr (z)))))))))).trans q
      cases h
      exact q
    rcases ob_i h with ⟨c_128_3, h⟩ | ⟨c_128_3, h⟩
    · skip
      obtain ⟨w_177, q_177, h⟩ := ob_b h
      replace q := (w_Mo_oftenTill q_177 (fun z => hw (Or.inr (Or.inr (Or.inr (Or.inr (Or.inr (Or.inr (Or.inl (z)))))))))).trans q
      cases h
      exact q
    obtain ⟨v_183, q_183, h⟩ := ob_b h
    cases h
    exact q
set_option maxHeartbeats 4000000 in
theorem w_Mo_twist_74 {kr jr : Nat}  : ∀ (n : Nat) (S : St) (l1 : Int32) (l3 : Int32) (l4 : Int32) (w : Int32 × St), f_Mo_twist_74 n S l1 l3 l4 = some w → ¬ ((kr = 0 ∧ (jr = 7 ∨ jr = 8 ∨ jr = 9 ∨ jr = 10 ∨ jr = 13 ∨ jr = 15 ∨ jr = 45 ∨ jr = 46 ∨ jr = 47 ∨ jr = 48)) ∨ kr = 26 ∨ kr = 27 ∨ kr = 28 ∨ kr = 29 ∨ kr = 30 ∨ kr = 31 ∨ kr = 32) → w.2 kr jr = S kr jr := by
  intro n
  induction n with
  | zero =>
    intro S l1 l3 l4 w h hw
    rw [f_Mo_twist_74] at h
    cases h
  | succ n ih =>
    intro S l1 l3 l4 w h hw
    replace ih := fun S l1 l3 l4 w h => ih S l1 l3 l4 w h hw
    rw [f_Mo_twist_74] at h
    have q : S kr jr = S kr jr := rfl
    rcases ob_i h with ⟨c_76, h⟩ | ⟨c_76, h⟩
    · skip
      exact (w_Mo_twist_107 S l1 l3 l4 _ h hw).trans q
    · skip
      rcases ob_i h with ⟨c_87, h⟩ | ⟨c_87, h⟩
      · skip
        exact (w_Mo_twist_97 (f_Mo_twist_74 n) ih S l1 l3 _ h hw).trans q
      · skip
        rcases ob_i h with ⟨c_94, h⟩ | ⟨c_94, h⟩
        · skip
          exact (w_Mo_twist_107 S l1 l3 l4 _ h hw).trans q
        · skip
          exact (w_Mo_twist_97 (f_Mo_twist_74 n) ih S l1 l3 _ h hw).trans q
set_option maxHeartbeats 4000000 in
theorem w_Mo_twist_42 {kr jr : Nat}  (S : St) (l1 : Int32) (l2 : Int32) (l3 : Int32) (w : Int32 × St) (h : f_Mo_twist_42 S l1 l2 l3 = some w) (hw : ¬ ((kr = 0 ∧ (jr = 7 ∨ jr = 8 ∨ jr = 9 ∨ jr = 10 ∨ jr = 13 ∨ jr = 15 ∨ jr = 45 ∨ jr = 46 ∨ jr = 47 ∨ jr = 48)) ∨ kr = 26 ∨ kr = 27 ∨ kr = 28 ∨ kr = 29 ∨ kr = 30 ∨ kr = 31 ∨ kr = 32)) : w.2 kr jr = S kr jr := by
  unfold f_Mo_twist_42 at h
  have q : S kr jr = S kr jr := rfl
  rcases ob_i h with ⟨c_47, h⟩ | ⟨c_47, h⟩
  · skip
    obtain ⟨w_54, q_54, h⟩ := ob_b h
    replace q := (w_Mo_beginsText q_54 (fun z => hw (Or.inl (⟨(z).1, ((z).2).elim (fun a0 => Or.inr (Or.inl (a0))) (fun z0 => (z0).elim (fun a1 => Or.inr (Or.inr (Or.inl (a1)))) (fun z1 => (z1).elim (fun a2 => Or.inr (Or.inr (Or.inr (Or.inr (Or.inl (a2)))))) (fun z2 => Or.inr (Or.inr (Or.inr (Or.inr (Or.inr (Or.inl (z2)))))))))⟩)))).trans q
    obtain ⟨S_59, e_59, h⟩ := ob_s h
    replace q := sF_w e_59 q (Decidable.not_and_iff_or_not.mp (fun z => hw (Or.inl (⟨(z).1, Or.inr (Or.inr (Or.inr (Or.inr (Or.inr (Or.inr (Or.inl ((z).2)))))))⟩))))
    obtain ⟨S_64, e_64, h⟩ := ob_s h
    replace q := sF_w e_64 q (Decidable.not_and_iff_or_not.mp (fun z => hw (Or.inl (⟨(z).1, Or.inr (Or.inr (Or.inr (Or.inr (Or.inr (Or.inr (Or.inr (Or.inl ((z).2))))))))⟩))))
    obtain ⟨w_69, q_69, h⟩ := ob_b h
    replace q := (w_Mo_readsTurn q_69 (fun z => hw ((z).elim (fun a0 => Or.inl (⟨(a0).1, ((a0).2).elim (fun a0 => Or.inr (Or.inl (a0))) (fun z0 => (z0).elim (fun a1 => Or.inr (Or.inr (Or.inr (Or.inl (a1))))) (fun z1 => (z1).elim (fun a2 => Or.inr (Or.inr (Or.inr (Or.inr (Or.inr (Or.inr (Or.inl (a2)))))))) (fun z2 => (z2).elim (fun a3 => Or.inr (Or.inr (Or.inr (Or.inr (Or.inr (Or.inr (Or.inr (Or.inl (a3))))))))) (fun z3 => (z3).elim (fun a4 => Or.inr (Or.inr (Or.inr (Or.inr (Or.inr (Or.inr (Or.inr (Or.inr (Or.inl (a4)))))))))) (fun z4 => Or.inr (Or.inr (Or.inr (Or.inr (Or.inr (Or.inr (Or.inr (Or.inr (Or.inr (z4))))))))))))))⟩)) (fun z0 => (z0).elim (fun a1 => Or.inr (Or.inl (a1))) (fun z1 => (z1).elim (fun a2 => Or.inr (Or.inr (Or.inl (a2)))) (fun z2 => (z2).elim (fun a3 => Or.inr (Or.inr (Or.inr (Or.inl (a3))))) (fun z3 => Or.inr (Or.inr (Or.inr (Or.inr (Or.inl (z3)))))))))))).trans q
    obtain ⟨l4_72, e_72, h⟩ := ob_s h
    exact (w_Mo_twist_74 FU w_69.2 l1 l3 l4_72 _ h hw).trans q
  · skip
    cases h
    exact q
set_option maxHeartbeats 4000000 in
theorem w_Mo_twist  {S : St} {l1 : Int32} {l2 : Int32} {l3 : Int32} {w : Int32 × St} (h : f_Mo_twist S l1 l2 l3 = some w) {kr jr : Nat} (hw : ¬ ((kr = 0 ∧ (jr = 7 ∨ jr = 8 ∨ jr = 9 ∨ jr = 10 ∨ jr = 13 ∨ jr = 15 ∨ jr = 45 ∨ jr = 46 ∨ jr = 47 ∨ jr = 48)) ∨ kr = 26 ∨ kr = 27 ∨ kr = 28 ∨ kr = 29 ∨ kr = 30 ∨ kr = 31 ∨ kr = 32)) : w.2 kr jr = S kr jr := by
  unfold f_Mo_twist at h
  have q : S kr jr = S kr jr := rfl
  obtain ⟨v_4, q_4, h⟩ := ob_b h
  rcases ob_i h with ⟨c_7, h⟩ | ⟨c_7, h⟩
  · skip
    cases h
    exact q
  · skip
    obtain ⟨v_14, q_14, h⟩ := ob_b h
    rcases ob_i h with ⟨c_17, h⟩ | ⟨c_17, h⟩
    · skip
      cases h
      exact q
    · skip
      obtain ⟨v_25, q_25, h⟩ := ob_b h
      rcases ob_i h with ⟨c_28, h⟩ | ⟨c_28, h⟩
      · skip
        obtain ⟨v_36, q_36, h⟩ := ob_b h
        rcases ob_i h with ⟨c_39, h⟩ | ⟨c_39, h⟩
        · skip
          cases h
          exact q
        · skip
          exact (w_Mo_twist_42 S l1 l2 l3 _ h hw).trans q
      · skip
        exact (w_Mo_twist_42 S l1 l2 l3 _ h hw).trans q
set_option maxHeartbeats 4000000 in
theorem w_Mo_mustEnd_85 {kr jr : Nat}  (k_2 : St → Int32 → Option (Int32 × St)) (k_27 : St → Int32 → Int32 → Option (Int32 × St)) (hk_2 : ∀ (S : St) (l1 : Int32) (w : Int32 × St), k_2 S l1 = some w → w.2 kr jr = S kr jr) (hk_27 : ∀ (S : St) (l1 : Int32) (l2 : Int32) (w : Int32 × St), k_27 S l1 l2 = some w → w.2 kr jr = S kr jr) (S : St) (l1 : Int32) (l2 : Int32) (w : Int32 × St) (h : f_Mo_mustEnd_85 k_2 k_27 S l1 l2 = some w) (hw : ¬ (kr = 34)) : w.2 kr jr = S kr jr := by
  unfold f_Mo_mustEnd_85 at h
  have q : S kr jr = S kr jr := rfl
  obtain ⟨l2_85, e_85, h⟩ := ob_s h
  exact (hk_27 S l1 l2_85 _ h).trans q
set_option maxHeartbeats 4000000 in
theorem w_Mo_mustEnd_27 {kr jr : Nat}  (k_2 : St → Int32 → Option (Int32 × St)) (hk_2 : ∀ (S : St) (l1 : Int32) (w : Int32 × St), k_2 S l1 = some w → w.2 kr jr = S kr jr) : ∀ (n : Nat) (S : St) (l1 : Int32) (l2 : Int32) (w : Int32 × St), f_Mo_mustEnd_27 k_2 n S l1 l2 = some w → ¬ (kr = 34) → w.2 kr jr = S kr jr := by
  intro n
  induction n with
  | zero =>
    intro S l1 l2 w h hw
    rw [f_Mo_mustEnd_27] at h
    cases h
  | succ n ih =>
    intro S l1 l2 w h hw
    replace ih := fun S l1 l2 w h => ih S l1 l2 w h hw
    rw [f_Mo_mustEnd_27] at h
    have q : S kr jr = S kr jr := rfl
    rcases ob_i h with ⟨c_30, h⟩ | ⟨c_30, h⟩
    · skip
      obtain ⟨l1_91, e_91, h⟩ := ob_s h
      exact (hk_2 S l1_91 _ h).trans q
    · skip
      obtain ⟨v_35, q_35, h⟩ := ob_b h
      rcases ob_i h with ⟨c_38, h⟩ | ⟨c_38, h⟩
      · skip
        exact (w_Mo_mustEnd_85 k_2 (f_Mo_mustEnd_27 k_2 n) hk_2 ih S l1 l2 _ h hw).trans q
      · skip
        obtain ⟨l3_51, e_51, h⟩ := ob_s h
        obtain ⟨g_62, h⟩ := ob_g h
        obtain ⟨g_68, h⟩ := ob_g h
        obtain ⟨g_74, h⟩ := ob_g h
        obtain ⟨v_77, q_77, h⟩ := ob_b h
        obtain ⟨v_81, q_81, h⟩ := ob_b h
        obtain ⟨g_84, h⟩ := ob_g h
        obtain ⟨S_84, e_84, h⟩ := ob_s h
        replace q := sF_w e_84 q (Or.inl (fun z => hw (z)))
        exact (w_Mo_mustEnd_85 k_2 (f_Mo_mustEnd_27 k_2 n) hk_2 ih S_84 l1 l2 _ h hw).trans q
set_option maxHeartbeats 4000000 in
theorem w_Mo_mustEnd_24 {kr jr : Nat}  (k_2 : St → Int32 → Option (Int32 × St)) (hk_2 : ∀ (S : St) (l1 : Int32) (w : Int32 × St), k_2 S l1 = some w → w.2 kr jr = S kr jr) (S : St) (l1 : Int32) (s0 : Int32) (s1 : Int32) (w : Int32 × St) (h : f_Mo_mustEnd_24 k_2 S l1 s0 s1 = some w) (hw : ¬ (kr = 34)) : w.2 kr jr = S kr jr := by
  unfold f_Mo_mustEnd_24 at h
  have q : S kr jr = S kr jr := rfl
  obtain ⟨g_24, h⟩ := ob_g h
  obtain ⟨S_24, e_24, h⟩ := ob_s h
  replace q := sF_w e_24 q (Or.inl (fun z => hw (z)))
  obtain ⟨l2_26, e_26, h⟩ := ob_s h
  exact (w_Mo_mustEnd_27 k_2 hk_2 FU S_24 l1 l2_26 _ h hw).trans q
set_option maxHeartbeats 4000000 in
theorem w_Mo_mustEnd_2 {kr jr : Nat}  : ∀ (n : Nat) (S : St) (l1 : Int32) (w : Int32 × St), f_Mo_mustEnd_2 n S l1 = some w → ¬ (kr = 34) → w.2 kr jr = S kr jr := by
  intro n
  induction n with
  | zero =>
    intro S l1 w h hw
    rw [f_Mo_mustEnd_2] at h
    cases h
  | succ n ih =>
    intro S l1 w h hw
    replace ih := fun S l1 w h => ih S l1 w h hw
    rw [f_Mo_mustEnd_2] at h
    have q : S kr jr = S kr jr := rfl
    rcases ob_i h with ⟨c_5, h⟩ | ⟨c_5, h⟩
    · skip
      obtain ⟨g_104, h⟩ := ob_g h
      cases h
      exact q
    · skip
      rcases ob_i h with ⟨c_14, h⟩ | ⟨c_14, h⟩
      · skip
        exact (w_Mo_mustEnd_24 (f_Mo_mustEnd_2 n) ih S l1 (0 : Int32) l1 _ h hw).trans q
      · skip
        exact (w_Mo_mustEnd_24 (f_Mo_mustEnd_2 n) ih S l1 (1000000 : Int32) l1 _ h hw).trans q
set_option maxHeartbeats 4000000 in
theorem w_Mo_mustEnd  {S : St} {w : Int32 × St} (h : f_Mo_mustEnd S = some w) {kr jr : Nat} (hw : ¬ (kr = 34)) : w.2 kr jr = S kr jr := by
  unfold f_Mo_mustEnd at h
  have q : S kr jr = S kr jr := rfl
  obtain ⟨l1_1, e_1, h⟩ := ob_s h
  exact (w_Mo_mustEnd_2 FU S l1_1 _ h hw).trans q
set_option maxHeartbeats 4000000 in
theorem w_Mo_waiting_59 {kr jr : Nat}  : ∀ (n : Nat) (S : St) (l1 : Int32) (l2 : Int32) (l3 : Int32) (w : Int32 × St), f_Mo_waiting_59 n S l1 l2 l3 = some w → ¬ ((kr = 0 ∧ (jr = 7)) ∨ kr = 33 ∨ kr = 34) → w.2 kr jr = S kr jr := by
  intro n
  induction n with
  | zero =>
    intro S l1 l2 l3 w h hw
    rw [f_Mo_waiting_59] at h
    cases h
  | succ n ih =>
    intro S l1 l2 l3 w h hw
    replace ih := fun S l1 l2 l3 w h => ih S l1 l2 l3 w h hw
    rw [f_Mo_waiting_59] at h
    have q : S kr jr = S kr jr := rfl
    rcases ob_i h with ⟨c_61, h⟩ | ⟨c_61, h⟩
    · skip
      rcases ob_i h with ⟨c_134, h⟩ | ⟨c_134, h⟩
      · skip
        obtain ⟨v_138, q_138, h⟩ := ob_b h
        cases h
        exact q
      · skip
        obtain ⟨w_145, q_145, h⟩ := ob_b h
        replace q := (w_Mo_mustEnd q_145 (fun z => hw (Or.inr (Or.inr (z))))).trans q
        cases h
        exact q
    · skip
      obtain ⟨v_68, q_68, h⟩ := ob_b h
      obtain ⟨v_79, q_79, h⟩ := ob_b h
      rcases ob_i h with ⟨c_88, h⟩ | ⟨c_88, h⟩
      · skip
        cases h
        exact q
      · skip
        rcases ob_i h with ⟨c_95, h⟩ | ⟨c_95, h⟩
        · skip
          cases h
          exact q
        · skip
          rcases ob_i h with ⟨c_102, h⟩ | ⟨c_102, h⟩
          · skip
            cases h
            exact q
          · skip
            obtain ⟨g_120, h⟩ := ob_g h
            obtain ⟨g_126, h⟩ := ob_g h
            obtain ⟨S_126, e_126, h⟩ := ob_s h
            replace q := sF_w e_126 q (Or.inl (fun z => hw (Or.inr (Or.inl (z)))))
            obtain ⟨l3_127, e_127, h⟩ := ob_s h
            exact (ih S_126 l1 l2 l3_127 _ h).trans q
set_option maxHeartbeats 4000000 in
theorem w_Mo_waiting_38 {kr jr : Nat}  : ∀ (n : Nat) (S : St) (l1 : Int32) (l2 : Int32) (l3 : Int32) (w : Int32 × St), f_Mo_waiting_38 n S l1 l2 l3 = some w → ¬ ((kr = 0 ∧ (jr = 7)) ∨ kr = 33 ∨ kr = 34) → w.2 kr jr = S kr jr := by
  intro n
  induction n with
  | zero =>
    intro S l1 l2 l3 w h hw
    rw [f_Mo_waiting_38] at h
    cases h
  | succ n ih =>
    intro S l1 l2 l3 w h hw
    replace ih := fun S l1 l2 l3 w h => ih S l1 l2 l3 w h hw
    rw [f_Mo_waiting_38] at h
    have q : S kr jr = S kr jr := rfl
    rcases ob_i h with ⟨c_41, h⟩ | ⟨c_41, h⟩
    · skip
      obtain ⟨l3_58, e_58, h⟩ := ob_s h
      exact (w_Mo_waiting_59 FU S l1 l2 l3_58 _ h hw).trans q
    · skip
      obtain ⟨g_50, h⟩ := ob_g h
      obtain ⟨S_50, e_50, h⟩ := ob_s h
      replace q := sF_w e_50 q (Or.inl (fun z => hw (Or.inr (Or.inl (z)))))
      obtain ⟨l3_51, e_51, h⟩ := ob_s h
      exact (ih S_50 l1 l2 l3_51 _ h).trans q
set_option maxHeartbeats 4000000 in
theorem w_Mo_waiting  {S : St} {l1 : Int32} {l2 : Int32} {w : Int32 × St} (h : f_Mo_waiting S l1 l2 = some w) {kr jr : Nat} (hw : ¬ ((kr = 0 ∧ (jr = 7)) ∨ kr = 33 ∨ kr = 34)) : w.2 kr jr = S kr jr := by
  unfold f_Mo_waiting at h
  have q : S kr jr = S kr jr := rfl
  obtain ⟨v_4, q_4, h⟩ := ob_b h
  rcases ob_i h with ⟨c_7, h⟩ | ⟨c_7, h⟩
  · skip
    cases h
    exact q
  · skip
    obtain ⟨v_13, q_13, h⟩ := ob_b h
    rcases ob_i h with ⟨c_16, h⟩ | ⟨c_16, h⟩
    · skip
      cases h
      exact q
    · skip
      rcases ob_i h with ⟨c_26, h⟩ | ⟨c_26, h⟩
      · skip
        obtain ⟨S_33, e_33, h⟩ := ob_s h
        replace q := sF_w e_33 q (Decidable.not_and_iff_or_not.mp (fun z => hw (Or.inl (⟨(z).1, (z).2⟩))))
        obtain ⟨l3_37, e_37, h⟩ := ob_s h
        exact (w_Mo_waiting_38 FU S_33 l1 l2 l3_37 _ h hw).trans q
      · skip
        cases h
        exact q
set_option maxHeartbeats 4000000 in
theorem w_Mo_changesRow  {S : St} {l1 : Int32} {l2 : Int32} {w : St} (h : f_Mo_changesRow S l1 l2 = some w) {kr jr : Nat} (hw : ¬ (kr = 35)) : w kr jr = S kr jr := by
  unfold f_Mo_changesRow at h
  have q : S kr jr = S kr jr := rfl
  obtain ⟨g_5, h⟩ := ob_g h
  obtain ⟨l3_6, e_6, h⟩ := ob_s h
  obtain ⟨g_17, h⟩ := ob_g h
  obtain ⟨g_18, h⟩ := ob_g h
  obtain ⟨S_18, e_18, h⟩ := ob_s h
  replace q := sF_w e_18 q (Or.inl (fun z => hw (z)))
  obtain ⟨g_25, h⟩ := ob_g h
  obtain ⟨S_25, e_25, h⟩ := ob_s h
  replace q := sF_w e_25 q (Or.inl (fun z => hw (z)))
  cases h
  exact q
set_option maxHeartbeats 4000000 in
theorem w_Mo_nextRow_80 {kr jr : Nat}  : ∀ (n : Nat) (S : St) (l4 : Int32) (l5 : Int32) (w : Int32 × St), f_Mo_nextRow_80 n S l4 l5 = some w → ¬ (kr = 35) → w.2 kr jr = S kr jr := by
  intro n
  induction n with
  | zero =>
    intro S l4 l5 w h hw
    rw [f_Mo_nextRow_80] at h
    cases h
  | succ n ih =>
    intro S l4 l5 w h hw
    replace ih := fun S l4 l5 w h => ih S l4 l5 w h hw
    rw [f_Mo_nextRow_80] at h
    have q : S kr jr = S kr jr := rfl
    rcases ob_i h with ⟨c_84, h⟩ | ⟨c_84, h⟩
    · skip
      cases h
      exact q
    · skip
      obtain ⟨w_92, q_92, h⟩ := ob_b h
      replace q := (w_Mo_changesRow q_92 (fun z => hw (z))).trans q
      obtain ⟨l4_95, e_95, h⟩ := ob_s h
      obtain ⟨l5_98, e_98, h⟩ := ob_s h
      exact (ih w_92 l4_95 l5_98 _ h).trans q
set_option maxHeartbeats 4000000 in
theorem w_Mo_nextRow_42 {kr jr : Nat}  : ∀ (n : Nat) (S : St) (l1 : Int32) (l2 : Int32) (l3 : Int32) (w : Int32 × St), f_Mo_nextRow_42 n S l1 l2 l3 = some w → ¬ (kr = 35) → w.2 kr jr = S kr jr := by
  intro n
  induction n with
  | zero =>
    intro S l1 l2 l3 w h hw
    rw [f_Mo_nextRow_42] at h
    cases h
  | succ n ih =>
    intro S l1 l2 l3 w h hw
    replace ih := fun S l1 l2 l3 w h => ih S l1 l2 l3 w h hw
    rw [f_Mo_nextRow_42] at h
    have q : S kr jr = S kr jr := rfl
    obtain ⟨g_47, h⟩ := ob_g h
    obtain ⟨g_53, h⟩ := ob_g h
    rcases ob_i h with ⟨c_54, h⟩ | ⟨c_54, h⟩
    · skip
      obtain ⟨w_67, q_67, h⟩ := ob_b h
      replace q := (w_Mo_changesRow q_67 (fun z => hw (z))).trans q
      obtain ⟨l4_73, e_73, h⟩ := ob_s h
      obtain ⟨l5_78, e_78, h⟩ := ob_s h
      exact (w_Mo_nextRow_80 FU w_67 l4_73 l5_78 _ h hw).trans q
    · skip
      obtain ⟨l3_60, e_60, h⟩ := ob_s h
      exact (ih S l1 l2 l3_60 _ h).trans q
set_option maxHeartbeats 4000000 in
theorem w_Mo_nextRow_32 {kr jr : Nat}  (S : St) (l1 : Int32) (l2 : Int32) (w : Int32 × St) (h : f_Mo_nextRow_32 S l1 l2 = some w) (hw : ¬ (kr = 35)) : w.2 kr jr = S kr jr := by
  unfold f_Mo_nextRow_32 at h
  have q : S kr jr = S kr jr := rfl
  rcases ob_i h with ⟨c_33, h⟩ | ⟨c_33, h⟩
  · skip
    obtain ⟨l3_41, e_41, h⟩ := ob_s h
    exact (w_Mo_nextRow_42 FU S l1 l2 l3_41 _ h hw).trans q
  · skip
    cases h
    exact q
set_option maxHeartbeats 4000000 in
theorem w_Mo_nextRow_4 {kr jr : Nat}  : ∀ (n : Nat) (S : St) (l1 : Int32) (l2 : Int32) (w : Int32 × St), f_Mo_nextRow_4 n S l1 l2 = some w → ¬ (kr = 35) → w.2 kr jr = S kr jr := by
  intro n
  induction n with
  | zero =>
    intro S l1 l2 w h hw
    rw [f_Mo_nextRow_4] at h
    cases h
  | succ n ih =>
    intro S l1 l2 w h hw
    replace ih := fun S l1 l2 w h => ih S l1 l2 w h hw
    rw [f_Mo_nextRow_4] at h
    have q : S kr jr = S kr jr := rfl
    rcases ob_i h with ⟨c_5, h⟩ | ⟨c_5, h⟩
    · skip
      exact (w_Mo_nextRow_32 S l1 l2 _ h hw).trans q
    · skip
      obtain ⟨g_13, h⟩ := ob_g h
      obtain ⟨g_21, h⟩ := ob_g h
      rcases ob_i h with ⟨c_22, h⟩ | ⟨c_22, h⟩
      · skip
        exact (w_Mo_nextRow_32 S l1 l2 _ h hw).trans q
      · skip
        obtain ⟨l2_28, e_28, h⟩ := ob_s h
        exact (ih S l1 l2_28 _ h).trans q
set_option maxHeartbeats 4000000 in
theorem w_Mo_nextRow  {S : St} {l1 : Int32} {w : Int32 × St} (h : f_Mo_nextRow S l1 = some w) {kr jr : Nat} (hw : ¬ (kr = 35)) : w.2 kr jr = S kr jr := by
  unfold f_Mo_nextRow at h
  have q : S kr jr = S kr jr := rfl
  obtain ⟨l2_3, e_3, h⟩ := ob_s h
  exact (w_Mo_nextRow_4 FU S l1 l2_3 _ h hw).trans q
set_option maxHeartbeats 4000000 in
theorem w_Mo_spun_95 {kr jr : Nat}  (k_66 : St → Int32 → Int32 → Int32 → Int32 → Int32 → Option (Int32 × St)) (hk_66 : ∀ (S : St) (l1 : Int32) (l2 : Int32) (l3 : Int32) (l4 : Int32) (l5 : Int32) (w : Int32 × St), k_66 S l1 l2 l3 l4 l5 = some w → w.2 kr jr = S kr jr) (S : St) (l1 : Int32) (l2 : Int32) (l3 : Int32) (l4 : Int32) (w : Int32 × St) (h : f_Mo_spun_95 k_66 S l1 l2 l3 l4 = some w) (hw : ¬ ((kr = 0 ∧ (jr = 7)) ∨ kr = 35)) : w.2 kr jr = S kr jr := by
  unfold f_Mo_spun_95 at h
  have q : S kr jr = S kr jr := rfl
  obtain ⟨w_97, q_97, h⟩ := ob_b h
  replace q := (w_Mo_nextRow q_97 (fun z => hw (Or.inr (z)))).trans q
  obtain ⟨l5_100, e_100, h⟩ := ob_s h
  exact (hk_66 w_97.2 l1 l2 l3 l4 l5_100 _ h).trans q
set_option maxHeartbeats 4000000 in
theorem w_Mo_spun_66 {kr jr : Nat}  : ∀ (n : Nat) (S : St) (l1 : Int32) (l2 : Int32) (l3 : Int32) (l4 : Int32) (l5 : Int32) (w : Int32 × St), f_Mo_spun_66 n S l1 l2 l3 l4 l5 = some w → ¬ ((kr = 0 ∧ (jr = 7)) ∨ kr = 35) → w.2 kr jr = S kr jr := by
  intro n
  induction n with
  | zero =>
    intro S l1 l2 l3 l4 l5 w h hw
    rw [f_Mo_spun_66] at h
    cases h
  | succ n ih =>
    intro S l1 l2 l3 l4 l5 w h hw
    replace ih := fun S l1 l2 l3 l4 l5 w h => ih S l1 l2 l3 l4 l5 w h hw
    rw [f_Mo_spun_66] at h
    have q : S kr jr = S kr jr := rfl
    rcases ob_i h with ⟨c_68, h⟩ | ⟨c_68, h⟩
    · skip
      rcases ob_i h with ⟨c_106, h⟩ | ⟨c_106, h⟩
      · skip
        cases h
        exact q
      · skip
        cases h
        exact q
    · skip
      obtain ⟨v_73, q_73, h⟩ := ob_b h
      rcases ob_i h with ⟨c_81, h⟩ | ⟨c_81, h⟩
      · skip
        exact (w_Mo_spun_95 (f_Mo_spun_66 n) ih S l1 l2 l3 l4 _ h hw).trans q
      · skip
        obtain ⟨g_92, h⟩ := ob_g h
        obtain ⟨l4_93, e_93, h⟩ := ob_s h
        exact (w_Mo_spun_95 (f_Mo_spun_66 n) ih S l1 l2 v_73 l4_93 _ h hw).trans q
set_option maxHeartbeats 4000000 in
theorem w_Mo_spun_38 {kr jr : Nat}  : ∀ (n : Nat) (S : St) (l1 : Int32) (l2 : Int32) (l3 : Int32) (w : Int32 × St), f_Mo_spun_38 n S l1 l2 l3 = some w → ¬ ((kr = 0 ∧ (jr = 7)) ∨ kr = 35) → w.2 kr jr = S kr jr := by
  intro n
  induction n with
  | zero =>
    intro S l1 l2 l3 w h hw
    rw [f_Mo_spun_38] at h
    cases h
  | succ n ih =>
    intro S l1 l2 l3 w h hw
    replace ih := fun S l1 l2 l3 w h => ih S l1 l2 l3 w h hw
    rw [f_Mo_spun_38] at h
    have q : S kr jr = S kr jr := rfl
    rcases ob_i h with ⟨c_40, h⟩ | ⟨c_40, h⟩
    · skip
      obtain ⟨l3_59, e_59, h⟩ := ob_s h
      obtain ⟨l4_61, e_61, h⟩ := ob_s h
      obtain ⟨l5_64, e_64, h⟩ := ob_s h
      exact (w_Mo_spun_66 FU S l1 l2 l3_59 l4_61 l5_64 _ h hw).trans q
    · skip
      obtain ⟨g_49, h⟩ := ob_g h
      obtain ⟨S_49, e_49, h⟩ := ob_s h
      replace q := sF_w e_49 q (Or.inl (fun z => hw (Or.inr (z))))
      obtain ⟨l3_50, e_50, h⟩ := ob_s h
      exact (ih S_49 l1 l2 l3_50 _ h).trans q
set_option maxHeartbeats 4000000 in
theorem w_Mo_spun  {S : St} {l1 : Int32} {l2 : Int32} {w : Int32 × St} (h : f_Mo_spun S l1 l2 = some w) {kr jr : Nat} (hw : ¬ ((kr = 0 ∧ (jr = 7)) ∨ kr = 35)) : w.2 kr jr = S kr jr := by
  unfold f_Mo_spun at h
  have q : S kr jr = S kr jr := rfl
  obtain ⟨v_4, q_4, h⟩ := ob_b h
  rcases ob_i h with ⟨c_7, h⟩ | ⟨c_7, h⟩
  · skip
    cases h
    exact q
  · skip
    obtain ⟨v_13, q_13, h⟩ := ob_b h
    rcases ob_i h with ⟨c_16, h⟩ | ⟨c_16, h⟩
    · skip
      cases h
      exact q
    · skip
      rcases ob_i h with ⟨c_26, h⟩ | ⟨c_26, h⟩
      · skip
        obtain ⟨S_33, e_33, h⟩ := ob_s h
        replace q := sF_w e_33 q (Decidable.not_and_iff_or_not.mp (fun z => hw (Or.inl (⟨(z).1, (z).2⟩))))
        obtain ⟨l3_37, e_37, h⟩ := ob_s h
        exact (w_Mo_spun_38 FU S_33 l1 l2 l3_37 _ h hw).trans q
      · skip
        cases h
        exact q
set_option maxHeartbeats 4000000 in
theorem w_Mo_night_127 {kr jr : Nat}  (k_78 : St → Int32 → Int32 → Int32 → Int32 → Option (Int32 × St)) (k_91 : St → Int32 → Int32 → Int32 → Int32 → Int32 → Int32 → Option (Int32 × St)) (hk_78 : ∀ (S : St) (l1 : Int32) (l2 : Int32) (l3 : Int32) (l4 : Int32) (w : Int32 × St), k_78 S l1 l2 l3 l4 = some w → w.2 kr jr = S kr jr) (hk_91 : ∀ (S : St) (l1 : Int32) (l2 : Int32) (l3 : Int32) (l4 : Int32) (l5 : Int32) (l6 : Int32) (w : Int32 × St), k_91 S l1 l2 l3 l4 l5 l6 = some w → w.2 kr jr = S kr jr) (S : St) (l1 : Int32) (l2 : Int32) (l3 : Int32) (l4 : Int32) (l5 : Int32) (l6 : Int32) (w : Int32 × St) (h : f_Mo_night_127 k_78 k_91 S l1 l2 l3 l4 l5 l6 = some w) (hw : ¬ ((kr = 0 ∧ (jr = 7)))) : w.2 kr jr = S kr jr := by
  unfold f_Mo_night_127 at h
  have q : S kr jr = S kr jr := rfl
  obtain ⟨l6_127, e_127, h⟩ := ob_s h
  exact (hk_91 S l1 l2 l3 l4 l5 l6_127 _ h).trans q
set_option maxHeartbeats 4000000 in
theorem w_Mo_night_91 {kr jr : Nat}  (k_78 : St → Int32 → Int32 → Int32 → Int32 → Option (Int32 × St)) (hk_78 : ∀ (S : St) (l1 : Int32) (l2 : Int32) (l3 : Int32) (l4 : Int32) (w : Int32 × St), k_78 S l1 l2 l3 l4 = some w → w.2 kr jr = S kr jr) : ∀ (n : Nat) (S : St) (l1 : Int32) (l2 : Int32) (l3 : Int32) (l4 : Int32) (l5 : Int32) (l6 : Int32) (w : Int32 × St), f_Mo_night_91 k_78 n S l1 l2 l3 l4 l5 l6 = some w → ¬ ((kr = 0 ∧ (jr = 7))) → w.2 kr jr = S kr jr := by
  intro n
  induction n with
  | zero =>
    intro S l1 l2 l3 l4 l5 l6 w h hw
    rw [f_Mo_night_91] at h
    cases h
  | succ n ih =>
    intro S l1 l2 l3 l4 l5 l6 w h hw
    replace ih := fun S l1 l2 l3 l4 l5 l6 w h => ih S l1 l2 l3 l4 l5 l6 w h hw
    rw [f_Mo_night_91] at h
    have q : S kr jr = S kr jr := rfl
    rcases ob_i h with ⟨c_94, h⟩ | ⟨c_94, h⟩
    · skip
      rcases ob_i h with ⟨c_137, h⟩ | ⟨c_137, h⟩
      · skip
        cases h
        exact q
      · skip
        obtain ⟨l3_150, e_150, h⟩ := ob_s h
        exact (hk_78 S l1 l2 l3_150 l5 _ h).trans q
    · skip
      obtain ⟨v_102, q_102, h⟩ := ob_b h
      rcases ob_i h with ⟨c_107, h⟩ | ⟨c_107, h⟩
      · skip
        exact (w_Mo_night_127 k_78 (f_Mo_night_91 k_78 n) hk_78 ih S l1 l2 l3 l4 l5 l6 _ h hw).trans q
      · skip
        obtain ⟨v_119, q_119, h⟩ := ob_b h
        obtain ⟨v_122, q_122, h⟩ := ob_b h
        exact (w_Mo_night_127 k_78 (f_Mo_night_91 k_78 n) hk_78 ih S l1 l2 l3 l4 v_122 l6 _ h hw).trans q
set_option maxHeartbeats 4000000 in
theorem w_Mo_night_78 {kr jr : Nat}  : ∀ (n : Nat) (S : St) (l1 : Int32) (l2 : Int32) (l3 : Int32) (l4 : Int32) (w : Int32 × St), f_Mo_night_78 n S l1 l2 l3 l4 = some w → ¬ ((kr = 0 ∧ (jr = 7))) → w.2 kr jr = S kr jr := by
  intro n
  induction n with
  | zero =>
    intro S l1 l2 l3 l4 w h hw
    rw [f_Mo_night_78] at h
    cases h
  | succ n ih =>
    intro S l1 l2 l3 l4 w h hw
    replace ih := fun S l1 l2 l3 l4 w h => ih S l1 l2 l3 l4 w h hw
    rw [f_Mo_night_78] at h
    have q : S kr jr = S kr jr := rfl
    rcases ob_i h with ⟨c_81, h⟩ | ⟨c_81, h⟩
    · skip
      cases h
      exact q
    · skip
      obtain ⟨l6_89, e_89, h⟩ := ob_s h
      exact (w_Mo_night_91 (f_Mo_night_78 n) ih FU S l1 l2 l3 l4 l4 l6_89 _ h hw).trans q
set_option maxHeartbeats 4000000 in
theorem w_Mo_night_40 {kr jr : Nat}  : ∀ (n : Nat) (S : St) (l1 : Int32) (l2 : Int32) (l3 : Int32) (w : Int32 × St), f_Mo_night_40 n S l1 l2 l3 = some w → ¬ ((kr = 0 ∧ (jr = 7))) → w.2 kr jr = S kr jr := by
  intro n
  induction n with
  | zero =>
    intro S l1 l2 l3 w h hw
    rw [f_Mo_night_40] at h
    cases h
  | succ n ih =>
    intro S l1 l2 l3 w h hw
    replace ih := fun S l1 l2 l3 w h => ih S l1 l2 l3 w h hw
    rw [f_Mo_night_40] at h
    have q : S kr jr = S kr jr := rfl
    rcases ob_i h with ⟨c_42, h⟩ | ⟨c_42, h⟩
    · skip
      obtain ⟨l3_74, e_74, h⟩ := ob_s h
      obtain ⟨l4_76, e_76, h⟩ := ob_s h
      exact (w_Mo_night_78 FU S l1 l2 l3_74 l4_76 _ h hw).trans q
    · skip
      obtain ⟨v_51, q_51, h⟩ := ob_b h
      obtain ⟨v_58, q_58, h⟩ := ob_b h
      rcases ob_i h with ⟨c_61, h⟩ | ⟨c_61, h⟩
      · skip
        obtain ⟨l3_67, e_67, h⟩ := ob_s h
        exact (ih S l1 l2 l3_67 _ h).trans q
      · skip
        cases h
        exact q
set_option maxHeartbeats 4000000 in
theorem w_Mo_night  {S : St} {l1 : Int32} {l2 : Int32} {w : Int32 × St} (h : f_Mo_night S l1 l2 = some w) {kr jr : Nat} (hw : ¬ ((kr = 0 ∧ (jr = 7)))) : w.2 kr jr = S kr jr := by
  unfold f_Mo_night at h
  have q : S kr jr = S kr jr := rfl
  obtain ⟨v_4, q_4, h⟩ := ob_b h
  rcases ob_i h with ⟨c_7, h⟩ | ⟨c_7, h⟩
  · skip
    cases h
    exact q
  · skip
    obtain ⟨v_15, q_15, h⟩ := ob_b h
    rcases ob_i h with ⟨c_18, h⟩ | ⟨c_18, h⟩
    · skip
      cases h
      exact q
    · skip
      rcases ob_i h with ⟨c_28, h⟩ | ⟨c_28, h⟩
      · skip
        obtain ⟨S_35, e_35, h⟩ := ob_s h
        replace q := sF_w e_35 q (Decidable.not_and_iff_or_not.mp (fun z => hw (⟨(z).1, (z).2⟩)))
        obtain ⟨l3_39, e_39, h⟩ := ob_s h
        exact (w_Mo_night_40 FU S_35 l1 l2 l3_39 _ h hw).trans q
      · skip
        cases h
        exact q
set_option maxHeartbeats 4000000 in
theorem w_Mo_putsOff_64 {kr jr : Nat}  (S : St) (l4 : Int32) (s0 : Int32) (w : Int32 × St) (h : f_Mo_putsOff_64 S l4 s0 = some w) (hw : ¬ ((kr = 0 ∧ (jr = 7)))) : w.2 kr jr = S kr jr := by
  unfold f_Mo_putsOff_64 at h
  have q : S kr jr = S kr jr := rfl
  rcases ob_i h with ⟨c_68, h⟩ | ⟨c_68, h⟩
  · skip
    cases h
    exact q
  · skip
    obtain ⟨v_79, q_79, h⟩ := ob_b h
    cases h
    exact q
set_option maxHeartbeats 4000000 in
theorem w_Mo_putsOff  {S : St} {l1 : Int32} {l2 : Int32} {l3 : Int32} {l4 : Int32} {w : Int32 × St} (h : f_Mo_putsOff S l1 l2 l3 l4 = some w) {kr jr : Nat} (hw : ¬ ((kr = 0 ∧ (jr = 7)))) : w.2 kr jr = S kr jr := by
  unfold f_Mo_putsOff at h
  have q : S kr jr = S kr jr := rfl
  obtain ⟨v_4, q_4, h⟩ := ob_b h
  rcases ob_i h with ⟨c_7, h⟩ | ⟨c_7, h⟩
  · skip
    cases h
    exact q
  · skip
    obtain ⟨v_14, q_14, h⟩ := ob_b h
    rcases ob_i h with ⟨c_17, h⟩ | ⟨c_17, h⟩
    · skip
      cases h
      exact q
    · skip
      obtain ⟨v_24, q_24, h⟩ := ob_b h
      rcases ob_i h with ⟨c_27, h⟩ | ⟨c_27, h⟩
      · skip
        cases h
        exact q
      · skip
        rcases ob_i h with ⟨c_35, h⟩ | ⟨c_35, h⟩
        · skip
          obtain ⟨S_42, e_42, h⟩ := ob_s h
          replace q := sF_w e_42 q (Decidable.not_and_iff_or_not.mp (fun z => hw (⟨(z).1, (z).2⟩)))
          rcases ob_i h with ⟨c_46, h⟩ | ⟨c_46, h⟩
          · skip
            obtain ⟨v_61, q_61, h⟩ := ob_b h
            exact (w_Mo_putsOff_64 S_42 l4 v_61 _ h hw).trans q
          · skip
            obtain ⟨v_52, q_52, h⟩ := ob_b h
            exact (w_Mo_putsOff_64 S_42 l4 v_52 _ h hw).trans q
        · skip
          cases h
          exact q
set_option maxHeartbeats 4000000 in
theorem w_Mo_cord_94 {kr jr : Nat}  (k_40 : St → Int32 → Int32 → Int32 → Int32 → Option (Int32 × St)) (hk_40 : ∀ (S : St) (l1 : Int32) (l2 : Int32) (l3 : Int32) (l4 : Int32) (w : Int32 × St), k_40 S l1 l2 l3 l4 = some w → w.2 kr jr = S kr jr) (S : St) (l1 : Int32) (l2 : Int32) (l3 : Int32) (l4 : Int32) (w : Int32 × St) (h : f_Mo_cord_94 k_40 S l1 l2 l3 l4 = some w) (hw : ¬ ((kr = 0 ∧ (jr = 7)))) : w.2 kr jr = S kr jr := by
  unfold f_Mo_cord_94 at h
  have q : S kr jr = S kr jr := rfl
  obtain ⟨l4_94, e_94, h⟩ := ob_s h
  exact (hk_40 S l1 l2 l3 l4_94 _ h).trans q
set_option maxHeartbeats 4000000 in
theorem w_Mo_cord_54 {kr jr : Nat}  (k_40 : St → Int32 → Int32 → Int32 → Int32 → Option (Int32 × St)) (hk_40 : ∀ (S : St) (l1 : Int32) (l2 : Int32) (l3 : Int32) (l4 : Int32) (w : Int32 × St), k_40 S l1 l2 l3 l4 = some w → w.2 kr jr = S kr jr) : ∀ (n : Nat) (S : St) (l1 : Int32) (l2 : Int32) (l3 : Int32) (l4 : Int32) (l5 : Int32) (l6 : Int32) (w : Int32 × St), f_Mo_cord_54 k_40 n S l1 l2 l3 l4 l5 l6 = some w → ¬ ((kr = 0 ∧ (jr = 7))) → w.2 kr jr = S kr jr := by
  intro n
  induction n with
  | zero =>
    intro S l1 l2 l3 l4 l5 l6 w h hw
    rw [f_Mo_cord_54] at h
    cases h
  | succ n ih =>
    intro S l1 l2 l3 l4 l5 l6 w h hw
    replace ih := fun S l1 l2 l3 l4 l5 l6 w h => ih S l1 l2 l3 l4 l5 l6 w h hw
    rw [f_Mo_cord_54] at h
    have q : S kr jr = S kr jr := rfl
    rcases ob_i h with ⟨c_57, h⟩ | ⟨c_57, h⟩
    · skip
      rcases ob_i h with ⟨c_88, h⟩ | ⟨c_88, h⟩
      · skip
        exact (w_Mo_cord_94 k_40 hk_40 S l1 l2 l3 l4 _ h hw).trans q
      · skip
        exact (w_Mo_cord_94 k_40 hk_40 S l1 l2 l4 l4 _ h hw).trans q
    · skip
      obtain ⟨v_65, q_65, h⟩ := ob_b h
      obtain ⟨v_70, q_70, h⟩ := ob_b h
      obtain ⟨l5_74, e_74, h⟩ := ob_s h
      obtain ⟨l6_76, e_76, h⟩ := ob_s h
      exact (ih S l1 l2 l3 l4 l5_74 l6_76 _ h).trans q
set_option maxHeartbeats 4000000 in
theorem w_Mo_cord_40 {kr jr : Nat}  : ∀ (n : Nat) (S : St) (l1 : Int32) (l2 : Int32) (l3 : Int32) (l4 : Int32) (w : Int32 × St), f_Mo_cord_40 n S l1 l2 l3 l4 = some w → ¬ ((kr = 0 ∧ (jr = 7))) → w.2 kr jr = S kr jr := by
  intro n
  induction n with
  | zero =>
    intro S l1 l2 l3 l4 w h hw
    rw [f_Mo_cord_40] at h
    cases h
  | succ n ih =>
    intro S l1 l2 l3 l4 w h hw
    replace ih := fun S l1 l2 l3 l4 w h => ih S l1 l2 l3 l4 w h hw
    rw [f_Mo_cord_40] at h
    have q : S kr jr = S kr jr := rfl
    rcases ob_i h with ⟨c_45, h⟩ | ⟨c_45, h⟩
    · skip
      cases h
      exact q
    · skip
      obtain ⟨l5_49, e_49, h⟩ := ob_s h
      obtain ⟨l6_52, e_52, h⟩ := ob_s h
      exact (w_Mo_cord_54 (f_Mo_cord_40 n) ih FU S l1 l2 l3 l4 l5_49 l6_52 _ h hw).trans q
set_option maxHeartbeats 4000000 in
theorem w_Mo_cord  {S : St} {l1 : Int32} {l2 : Int32} {w : Int32 × St} (h : f_Mo_cord S l1 l2 = some w) {kr jr : Nat} (hw : ¬ ((kr = 0 ∧ (jr = 7)))) : w.2 kr jr = S kr jr := by
  unfold f_Mo_cord at h
  have q : S kr jr = S kr jr := rfl
  obtain ⟨v_4, q_4, h⟩ := ob_b h
  rcases ob_i h with ⟨c_7, h⟩ | ⟨c_7, h⟩
  · skip
    cases h
    exact q
  · skip
    obtain ⟨v_14, q_14, h⟩ := ob_b h
    rcases ob_i h with ⟨c_17, h⟩ | ⟨c_17, h⟩
    · skip
      cases h
      exact q
    · skip
      rcases ob_i h with ⟨c_25, h⟩ | ⟨c_25, h⟩
      · skip
        obtain ⟨S_32, e_32, h⟩ := ob_s h
        replace q := sF_w e_32 q (Decidable.not_and_iff_or_not.mp (fun z => hw (⟨(z).1, (z).2⟩)))
        obtain ⟨l3_36, e_36, h⟩ := ob_s h
        obtain ⟨l4_38, e_38, h⟩ := ob_s h
        exact (w_Mo_cord_40 FU S_32 l1 l2 l3_36 l4_38 _ h hw).trans q
      · skip
        cases h
        exact q
set_option maxHeartbeats 4000000 in
theorem w_Mo_seen_110 {kr jr : Nat}  (k_58 : St → Int32 → Int32 → Int32 → Int32 → Int32 → Int32 → Int32 → Option (Int32 × St)) (hk_58 : ∀ (S : St) (l1 : Int32) (l2 : Int32) (l3 : Int32) (l4 : Int32) (l5 : Int32) (l6 : Int32) (l7 : Int32) (w : Int32 × St), k_58 S l1 l2 l3 l4 l5 l6 l7 = some w → w.2 kr jr = S kr jr) (S : St) (l1 : Int32) (l2 : Int32) (l3 : Int32) (l4 : Int32) (l5 : Int32) (l6 : Int32) (l7 : Int32) (w : Int32 × St) (h : f_Mo_seen_110 k_58 S l1 l2 l3 l4 l5 l6 l7 = some w) (hw : ¬ ((kr = 0 ∧ (jr = 7)))) : w.2 kr jr = S kr jr := by
  unfold f_Mo_seen_110 at h
  have q : S kr jr = S kr jr := rfl
  obtain ⟨v_114, q_114, h⟩ := ob_b h
  obtain ⟨l7_119, e_119, h⟩ := ob_s h
  exact (hk_58 S l1 l2 l3 l4 v_114 l6 l7_119 _ h).trans q
set_option maxHeartbeats 4000000 in
theorem w_Mo_seen_97 {kr jr : Nat}  (k_58 : St → Int32 → Int32 → Int32 → Int32 → Int32 → Int32 → Int32 → Option (Int32 × St)) (hk_58 : ∀ (S : St) (l1 : Int32) (l2 : Int32) (l3 : Int32) (l4 : Int32) (l5 : Int32) (l6 : Int32) (l7 : Int32) (w : Int32 × St), k_58 S l1 l2 l3 l4 l5 l6 l7 = some w → w.2 kr jr = S kr jr) (S : St) (l1 : Int32) (l2 : Int32) (l3 : Int32) (l4 : Int32) (l5 : Int32) (l7 : Int32) (l8 : Int32) (s0 : Int32) (w : Int32 × St) (h : f_Mo_seen_97 k_58 S l1 l2 l3 l4 l5 l7 l8 s0 = some w) (hw : ¬ ((kr = 0 ∧ (jr = 7)))) : w.2 kr jr = S kr jr := by
  unfold f_Mo_seen_97 at h
  have q : S kr jr = S kr jr := rfl
  rcases ob_i h with ⟨c_101, h⟩ | ⟨c_101, h⟩
  · skip
    exact (w_Mo_seen_110 k_58 hk_58 S l1 l2 l3 l4 l5 s0 l7 _ h hw).trans q
  · skip
    obtain ⟨l4_108, e_108, h⟩ := ob_s h
    exact (w_Mo_seen_110 k_58 hk_58 S l1 l2 l3 l4_108 l5 s0 l7 _ h hw).trans q
set_option maxHeartbeats 4000000 in
theorem w_Mo_seen_82 {kr jr : Nat}  (k_58 : St → Int32 → Int32 → Int32 → Int32 → Int32 → Int32 → Int32 → Option (Int32 × St)) (hk_58 : ∀ (S : St) (l1 : Int32) (l2 : Int32) (l3 : Int32) (l4 : Int32) (l5 : Int32) (l6 : Int32) (l7 : Int32) (w : Int32 × St), k_58 S l1 l2 l3 l4 l5 l6 l7 = some w → w.2 kr jr = S kr jr) (S : St) (l1 : Int32) (l2 : Int32) (l3 : Int32) (l4 : Int32) (l5 : Int32) (l6 : Int32) (l7 : Int32) (s0 : Int32) (w : Int32 × St) (h : f_Mo_seen_82 k_58 S l1 l2 l3 l4 l5 l6 l7 s0 = some w) (hw : ¬ ((kr = 0 ∧ (jr = 7)))) : w.2 kr jr = S kr jr := by
  unfold f_Mo_seen_82 at h
  have q : S kr jr = S kr jr := rfl
  rcases ob_i h with ⟨c_86, h⟩ | ⟨c_86, h⟩
  · skip
    exact (w_Mo_seen_97 k_58 hk_58 S l1 l2 l3 l4 l5 l7 s0 (0 : Int32) _ h hw).trans q
  · skip
    exact (w_Mo_seen_97 k_58 hk_58 S l1 l2 l3 l4 l5 l7 s0 (l6 + 1) _ h hw).trans q
set_option maxHeartbeats 4000000 in
theorem w_Mo_seen_58 {kr jr : Nat}  : ∀ (n : Nat) (S : St) (l1 : Int32) (l2 : Int32) (l3 : Int32) (l4 : Int32) (l5 : Int32) (l6 : Int32) (l7 : Int32) (w : Int32 × St), f_Mo_seen_58 n S l1 l2 l3 l4 l5 l6 l7 = some w → ¬ ((kr = 0 ∧ (jr = 7))) → w.2 kr jr = S kr jr := by
  intro n
  induction n with
  | zero =>
    intro S l1 l2 l3 l4 l5 l6 l7 w h hw
    rw [f_Mo_seen_58] at h
    cases h
  | succ n ih =>
    intro S l1 l2 l3 l4 l5 l6 l7 w h hw
    replace ih := fun S l1 l2 l3 l4 l5 l6 l7 w h => ih S l1 l2 l3 l4 l5 l6 l7 w h hw
    rw [f_Mo_seen_58] at h
    have q : S kr jr = S kr jr := rfl
    rcases ob_i h with ⟨c_63, h⟩ | ⟨c_63, h⟩
    · skip
      rcases ob_i h with ⟨c_126, h⟩ | ⟨c_126, h⟩
      · skip
        cases h
        exact q
      · skip
        cases h
        exact q
    · skip
      obtain ⟨v_70, q_70, h⟩ := ob_b h
      rcases ob_i h with ⟨c_74, h⟩ | ⟨c_74, h⟩
      · skip
        exact (w_Mo_seen_82 (f_Mo_seen_58 n) ih S l1 l2 l3 l4 l5 l6 l7 (0 : Int32) _ h hw).trans q
      · skip
        exact (w_Mo_seen_82 (f_Mo_seen_58 n) ih S l1 l2 l3 l4 l5 l6 l7 (1 : Int32) _ h hw).trans q
set_option maxHeartbeats 4000000 in
theorem w_Mo_seen  {S : St} {l1 : Int32} {l2 : Int32} {l3 : Int32} {w : Int32 × St} (h : f_Mo_seen S l1 l2 l3 = some w) {kr jr : Nat} (hw : ¬ ((kr = 0 ∧ (jr = 7)))) : w.2 kr jr = S kr jr := by
  unfold f_Mo_seen at h
  have q : S kr jr = S kr jr := rfl
  obtain ⟨v_4, q_4, h⟩ := ob_b h
  rcases ob_i h with ⟨c_7, h⟩ | ⟨c_7, h⟩
  · skip
    cases h
    exact q
  · skip
    obtain ⟨v_14, q_14, h⟩ := ob_b h
    rcases ob_i h with ⟨c_17, h⟩ | ⟨c_17, h⟩
    · skip
      cases h
      exact q
    · skip
      obtain ⟨v_23, q_23, h⟩ := ob_b h
      rcases ob_i h with ⟨c_26, h⟩ | ⟨c_26, h⟩
      · skip
        cases h
        exact q
      · skip
        rcases ob_i h with ⟨c_36, h⟩ | ⟨c_36, h⟩
        · skip
          obtain ⟨S_43, e_43, h⟩ := ob_s h
          replace q := sF_w e_43 q (Decidable.not_and_iff_or_not.mp (fun z => hw (⟨(z).1, (z).2⟩)))
          obtain ⟨l4_47, e_47, h⟩ := ob_s h
          obtain ⟨l5_50, e_50, h⟩ := ob_s h
          obtain ⟨l6_53, e_53, h⟩ := ob_s h
          obtain ⟨l7_56, e_56, h⟩ := ob_s h
          exact (w_Mo_seen_58 FU S_43 l1 l2 l3 l4_47 l5_50 l6_53 l7_56 _ h hw).trans q
        · skip
          cases h
          exact q
set_option maxHeartbeats 4000000 in
theorem w_Mo_brightest_103 {kr jr : Nat}  (k_48 : St → Int32 → Int32 → Int32 → Int32 → Option (Int32 × St)) (k_67 : St → Int32 → Int32 → Int32 → Int32 → Int32 → Option (Int32 × St)) (hk_48 : ∀ (S : St) (l1 : Int32) (l2 : Int32) (l3 : Int32) (l4 : Int32) (w : Int32 × St), k_48 S l1 l2 l3 l4 = some w → w.2 kr jr = S kr jr) (hk_67 : ∀ (S : St) (l1 : Int32) (l2 : Int32) (l3 : Int32) (l4 : Int32) (l5 : Int32) (w : Int32 × St), k_67 S l1 l2 l3 l4 l5 = some w → w.2 kr jr = S kr jr) (S : St) (l1 : Int32) (l2 : Int32) (l3 : Int32) (l4 : Int32) (l5 : Int32) (w : Int32 × St) (h : f_Mo_brightest_103 k_48 k_67 S l1 l2 l3 l4 l5 = some w) (hw : ¬ ((kr = 0 ∧ (jr = 7)) ∨ kr = 36)) : w.2 kr jr = S kr jr := by
  unfold f_Mo_brightest_103 at h
  have q : S kr jr = S kr jr := rfl
  obtain ⟨l5_103, e_103, h⟩ := ob_s h
  exact (hk_67 S l1 l2 l3 l4 l5_103 _ h).trans q
set_option maxHeartbeats 4000000 in
theorem w_Mo_brightest_67 {kr jr : Nat}  (k_48 : St → Int32 → Int32 → Int32 → Int32 → Option (Int32 × St)) (hk_48 : ∀ (S : St) (l1 : Int32) (l2 : Int32) (l3 : Int32) (l4 : Int32) (w : Int32 × St), k_48 S l1 l2 l3 l4 = some w → w.2 kr jr = S kr jr) : ∀ (n : Nat) (S : St) (l1 : Int32) (l2 : Int32) (l3 : Int32) (l4 : Int32) (l5 : Int32) (w : Int32 × St), f_Mo_brightest_67 k_48 n S l1 l2 l3 l4 l5 = some w → ¬ ((kr = 0 ∧ (jr = 7)) ∨ kr = 36) → w.2 kr jr = S kr jr := by
  intro n
  induction n with
  | zero =>
    intro S l1 l2 l3 l4 l5 w h hw
    rw [f_Mo_brightest_67] at h
    cases h
  | succ n ih =>
    intro S l1 l2 l3 l4 l5 w h hw
    replace ih := fun S l1 l2 l3 l4 l5 w h => ih S l1 l2 l3 l4 l5 w h hw
    rw [f_Mo_brightest_67] at h
    have q : S kr jr = S kr jr := rfl
    rcases ob_i h with ⟨c_70, h⟩ | ⟨c_70, h⟩
    · skip
      obtain ⟨l4_109, e_109, h⟩ := ob_s h
      exact (hk_48 S l1 l2 l3 l4_109 _ h).trans q
    · skip
      obtain ⟨v_78, q_78, h⟩ := ob_b h
      rcases ob_i h with ⟨c_81, h⟩ | ⟨c_81, h⟩
      · skip
        exact (w_Mo_brightest_103 k_48 (f_Mo_brightest_67 k_48 n) hk_48 ih S l1 l2 l3 l4 l5 _ h hw).trans q
      · skip
        obtain ⟨g_96, h⟩ := ob_g h
        obtain ⟨g_102, h⟩ := ob_g h
        obtain ⟨S_102, e_102, h⟩ := ob_s h
        replace q := sF_w e_102 q (Or.inl (fun z => hw (Or.inr (z))))
        exact (w_Mo_brightest_103 k_48 (f_Mo_brightest_67 k_48 n) hk_48 ih S_102 l1 l2 l3 l4 l5 _ h hw).trans q
set_option maxHeartbeats 4000000 in
theorem w_Mo_brightest_167 {kr jr : Nat}  (k_124 : St → Int32 → Int32 → Int32 → Int32 → Int32 → Int32 → Option (Int32 × St)) (hk_124 : ∀ (S : St) (l1 : Int32) (l2 : Int32) (l3 : Int32) (l4 : Int32) (l5 : Int32) (l6 : Int32) (w : Int32 × St), k_124 S l1 l2 l3 l4 l5 l6 = some w → w.2 kr jr = S kr jr) (S : St) (l1 : Int32) (l2 : Int32) (l3 : Int32) (l4 : Int32) (l5 : Int32) (l6 : Int32) (w : Int32 × St) (h : f_Mo_brightest_167 k_124 S l1 l2 l3 l4 l5 l6 = some w) (hw : ¬ ((kr = 0 ∧ (jr = 7)) ∨ kr = 36)) : w.2 kr jr = S kr jr := by
  unfold f_Mo_brightest_167 at h
  have q : S kr jr = S kr jr := rfl
  obtain ⟨l6_167, e_167, h⟩ := ob_s h
  exact (hk_124 S l1 l2 l3 l4 l5 l6_167 _ h).trans q
set_option maxHeartbeats 4000000 in
theorem w_Mo_brightest_124 {kr jr : Nat}  : ∀ (n : Nat) (S : St) (l1 : Int32) (l2 : Int32) (l3 : Int32) (l4 : Int32) (l5 : Int32) (l6 : Int32) (w : Int32 × St), f_Mo_brightest_124 n S l1 l2 l3 l4 l5 l6 = some w → ¬ ((kr = 0 ∧ (jr = 7)) ∨ kr = 36) → w.2 kr jr = S kr jr := by
  intro n
  induction n with
  | zero =>
    intro S l1 l2 l3 l4 l5 l6 w h hw
    rw [f_Mo_brightest_124] at h
    cases h
  | succ n ih =>
    intro S l1 l2 l3 l4 l5 l6 w h hw
    replace ih := fun S l1 l2 l3 l4 l5 l6 w h => ih S l1 l2 l3 l4 l5 l6 w h hw
    rw [f_Mo_brightest_124] at h
    have q : S kr jr = S kr jr := rfl
    rcases ob_i h with ⟨c_129, h⟩ | ⟨c_129, h⟩
    · skip
      rcases ob_i h with ⟨c_174, h⟩ | ⟨c_174, h⟩
      · skip
        cases h
        exact q
      · skip
        cases h
        exact q
    · skip
      obtain ⟨v_134, q_134, h⟩ := ob_b h
      rcases ob_i h with ⟨c_138, h⟩ | ⟨c_138, h⟩
      · skip
        obtain ⟨v_144, q_144, h⟩ := ob_b h
        rcases ob_i h with ⟨c_149, h⟩ | ⟨c_149, h⟩
        · skip
          obtain ⟨v_158, q_158, h⟩ := ob_b h
          exact (w_Mo_brightest_167 (f_Mo_brightest_124 n) ih S l1 l2 l3 v_158 l6 l6 _ h hw).trans q
        · skip
          exact (w_Mo_brightest_167 (f_Mo_brightest_124 n) ih S l1 l2 l3 l4 l5 l6 _ h hw).trans q
      · skip
        exact (w_Mo_brightest_167 (f_Mo_brightest_124 n) ih S l1 l2 l3 l4 l5 l6 _ h hw).trans q
set_option maxHeartbeats 4000000 in
theorem w_Mo_brightest_48 {kr jr : Nat}  : ∀ (n : Nat) (S : St) (l1 : Int32) (l2 : Int32) (l3 : Int32) (l4 : Int32) (w : Int32 × St), f_Mo_brightest_48 n S l1 l2 l3 l4 = some w → ¬ ((kr = 0 ∧ (jr = 7)) ∨ kr = 36) → w.2 kr jr = S kr jr := by
  intro n
  induction n with
  | zero =>
    intro S l1 l2 l3 l4 w h hw
    rw [f_Mo_brightest_48] at h
    cases h
  | succ n ih =>
    intro S l1 l2 l3 l4 w h hw
    replace ih := fun S l1 l2 l3 l4 w h => ih S l1 l2 l3 l4 w h hw
    rw [f_Mo_brightest_48] at h
    have q : S kr jr = S kr jr := rfl
    rcases ob_i h with ⟨c_53, h⟩ | ⟨c_53, h⟩
    · skip
      obtain ⟨l4_116, e_116, h⟩ := ob_s h
      obtain ⟨l5_119, e_119, h⟩ := ob_s h
      obtain ⟨l6_122, e_122, h⟩ := ob_s h
      exact (w_Mo_brightest_124 FU S l1 l2 l3 l4_116 l5_119 l6_122 _ h hw).trans q
    · skip
      obtain ⟨g_63, h⟩ := ob_g h
      obtain ⟨S_63, e_63, h⟩ := ob_s h
      replace q := sF_w e_63 q (Or.inl (fun z => hw (Or.inr (z))))
      obtain ⟨l5_65, e_65, h⟩ := ob_s h
      exact (w_Mo_brightest_67 (f_Mo_brightest_48 n) ih FU S_63 l1 l2 l3 l4 l5_65 _ h hw).trans q
set_option maxHeartbeats 4000000 in
theorem w_Mo_brightest  {S : St} {l1 : Int32} {l2 : Int32} {l3 : Int32} {w : Int32 × St} (h : f_Mo_brightest S l1 l2 l3 = some w) {kr jr : Nat} (hw : ¬ ((kr = 0 ∧ (jr = 7)) ∨ kr = 36)) : w.2 kr jr = S kr jr := by
  unfold f_Mo_brightest at h
  have q : S kr jr = S kr jr := rfl
  obtain ⟨v_4, q_4, h⟩ := ob_b h
  rcases ob_i h with ⟨c_7, h⟩ | ⟨c_7, h⟩
  · skip
    cases h
    exact q
  · skip
    obtain ⟨v_13, q_13, h⟩ := ob_b h
    rcases ob_i h with ⟨c_16, h⟩ | ⟨c_16, h⟩
    · skip
      cases h
      exact q
    · skip
      obtain ⟨v_22, q_22, h⟩ := ob_b h
      rcases ob_i h with ⟨c_25, h⟩ | ⟨c_25, h⟩
      · skip
        cases h
        exact q
      · skip
        rcases ob_i h with ⟨c_35, h⟩ | ⟨c_35, h⟩
        · skip
          obtain ⟨S_42, e_42, h⟩ := ob_s h
          replace q := sF_w e_42 q (Decidable.not_and_iff_or_not.mp (fun z => hw (Or.inl (⟨(z).1, (z).2⟩))))
          obtain ⟨l4_46, e_46, h⟩ := ob_s h
          exact (w_Mo_brightest_48 FU S_42 l1 l2 l3 l4_46 _ h hw).trans q
        · skip
          cases h
          exact q
set_option maxHeartbeats 4000000 in
theorem w_Mo_halves_125 {kr jr : Nat}  (k_74 : St → Int32 → Int32 → Int32 → Int32 → Int32 → Int32 → Int32 → Option (Int32 × St)) (hk_74 : ∀ (S : St) (l1 : Int32) (l2 : Int32) (l3 : Int32) (l4 : Int32) (l5 : Int32) (l6 : Int32) (l7 : Int32) (w : Int32 × St), k_74 S l1 l2 l3 l4 l5 l6 l7 = some w → w.2 kr jr = S kr jr) (S : St) (l1 : Int32) (l2 : Int32) (l3 : Int32) (l4 : Int32) (l5 : Int32) (l6 : Int32) (l7 : Int32) (w : Int32 × St) (h : f_Mo_halves_125 k_74 S l1 l2 l3 l4 l5 l6 l7 = some w) (hw : ¬ ((kr = 0 ∧ (jr = 7)))) : w.2 kr jr = S kr jr := by
  unfold f_Mo_halves_125 at h
  have q : S kr jr = S kr jr := rfl
  obtain ⟨l7_125, e_125, h⟩ := ob_s h
  exact (hk_74 S l1 l2 l3 l4 l5 l6 l7_125 _ h).trans q
set_option maxHeartbeats 4000000 in
theorem w_Mo_halves_74 {kr jr : Nat}  : ∀ (n : Nat) (S : St) (l1 : Int32) (l2 : Int32) (l3 : Int32) (l4 : Int32) (l5 : Int32) (l6 : Int32) (l7 : Int32) (w : Int32 × St), f_Mo_halves_74 n S l1 l2 l3 l4 l5 l6 l7 = some w → ¬ ((kr = 0 ∧ (jr = 7))) → w.2 kr jr = S kr jr := by
  intro n
  induction n with
  | zero =>
    intro S l1 l2 l3 l4 l5 l6 l7 w h hw
    rw [f_Mo_halves_74] at h
    cases h
  | succ n ih =>
    intro S l1 l2 l3 l4 l5 l6 l7 w h hw
    replace ih := fun S l1 l2 l3 l4 l5 l6 l7 w h => ih S l1 l2 l3 l4 l5 l6 l7 w h hw
    rw [f_Mo_halves_74] at h
    have q : S kr jr = S kr jr := rfl
    rcases ob_i h with ⟨c_77, h⟩ | ⟨c_77, h⟩
    · skip
      rcases ob_i h with ⟨c_132, h⟩ | ⟨c_132, h⟩
      · skip
        cases h
        exact q
      · skip
        cases h
        exact q
    · skip
      obtain ⟨v_87, q_87, h⟩ := ob_b h
      obtain ⟨l6_91, e_91, h⟩ := ob_s h
      obtain ⟨v_99, q_99, h⟩ := ob_b h
      rcases ob_i h with ⟨c_104, h⟩ | ⟨c_104, h⟩
      · skip
        obtain ⟨v_116, q_116, h⟩ := ob_b h
        exact (w_Mo_halves_125 (f_Mo_halves_74 n) ih S l1 l2 l3 v_116 l7 l6_91 l7 _ h hw).trans q
      · skip
        exact (w_Mo_halves_125 (f_Mo_halves_74 n) ih S l1 l2 l3 l4 l5 l6_91 l7 _ h hw).trans q
set_option maxHeartbeats 4000000 in
theorem w_Mo_halves_39 {kr jr : Nat}  : ∀ (n : Nat) (S : St) (l1 : Int32) (l2 : Int32) (l3 : Int32) (l4 : Int32) (w : Int32 × St), f_Mo_halves_39 n S l1 l2 l3 l4 = some w → ¬ ((kr = 0 ∧ (jr = 7))) → w.2 kr jr = S kr jr := by
  intro n
  induction n with
  | zero =>
    intro S l1 l2 l3 l4 w h hw
    rw [f_Mo_halves_39] at h
    cases h
  | succ n ih =>
    intro S l1 l2 l3 l4 w h hw
    replace ih := fun S l1 l2 l3 l4 w h => ih S l1 l2 l3 l4 w h hw
    rw [f_Mo_halves_39] at h
    have q : S kr jr = S kr jr := rfl
    rcases ob_i h with ⟨c_42, h⟩ | ⟨c_42, h⟩
    · skip
      obtain ⟨l4_63, e_63, h⟩ := ob_s h
      obtain ⟨l5_66, e_66, h⟩ := ob_s h
      obtain ⟨l6_69, e_69, h⟩ := ob_s h
      obtain ⟨l7_72, e_72, h⟩ := ob_s h
      exact (w_Mo_halves_74 FU S l1 l2 l3 l4_63 l5_66 l6_69 l7_72 _ h hw).trans q
    · skip
      obtain ⟨v_49, q_49, h⟩ := ob_b h
      obtain ⟨l3_53, e_53, h⟩ := ob_s h
      obtain ⟨l4_54, e_54, h⟩ := ob_s h
      exact (ih S l1 l2 l3_53 l4_54 _ h).trans q
set_option maxHeartbeats 4000000 in
theorem w_Mo_halves  {S : St} {l1 : Int32} {l2 : Int32} {w : Int32 × St} (h : f_Mo_halves S l1 l2 = some w) {kr jr : Nat} (hw : ¬ ((kr = 0 ∧ (jr = 7)))) : w.2 kr jr = S kr jr := by
  unfold f_Mo_halves at h
  have q : S kr jr = S kr jr := rfl
  obtain ⟨v_4, q_4, h⟩ := ob_b h
  rcases ob_i h with ⟨c_7, h⟩ | ⟨c_7, h⟩
  · skip
    cases h
    exact q
  · skip
    obtain ⟨v_13, q_13, h⟩ := ob_b h
    rcases ob_i h with ⟨c_16, h⟩ | ⟨c_16, h⟩
    · skip
      cases h
      exact q
    · skip
      rcases ob_i h with ⟨c_24, h⟩ | ⟨c_24, h⟩
      · skip
        obtain ⟨S_31, e_31, h⟩ := ob_s h
        replace q := sF_w e_31 q (Decidable.not_and_iff_or_not.mp (fun z => hw (⟨(z).1, (z).2⟩)))
        obtain ⟨l3_35, e_35, h⟩ := ob_s h
        obtain ⟨l4_37, e_37, h⟩ := ob_s h
        exact (w_Mo_halves_39 FU S_31 l1 l2 l3_35 l4_37 _ h hw).trans q
      · skip
        cases h
        exact q
set_option maxHeartbeats 4000000 in
theorem w_Mo_forgiven_68 {kr jr : Nat}  (k_31 : St → Int32 → Int32 → Int32 → Option (Int32 × St)) (k_42 : St → Int32 → Int32 → Int32 → Int32 → Int32 → Option (Int32 × St)) (hk_31 : ∀ (S : St) (l1 : Int32) (l2 : Int32) (l3 : Int32) (w : Int32 × St), k_31 S l1 l2 l3 = some w → w.2 kr jr = S kr jr) (hk_42 : ∀ (S : St) (l1 : Int32) (l2 : Int32) (l3 : Int32) (l4 : Int32) (l5 : Int32) (w : Int32 × St), k_42 S l1 l2 l3 l4 l5 = some w → w.2 kr jr = S kr jr) (S : St) (l1 : Int32) (l2 : Int32) (l3 : Int32) (l5 : Int32) (s0 : Int32) (w : Int32 × St) (h : f_Mo_forgiven_68 k_31 k_42 S l1 l2 l3 l5 s0 = some w) (hw : ¬ ((kr = 0 ∧ (jr = 7)))) : w.2 kr jr = S kr jr := by
  unfold f_Mo_forgiven_68 at h
  have q : S kr jr = S kr jr := rfl
  obtain ⟨l5_70, e_70, h⟩ := ob_s h
  exact (hk_42 S l1 l2 l3 s0 l5_70 _ h).trans q
set_option maxHeartbeats 4000000 in
theorem w_Mo_forgiven_67 {kr jr : Nat}  (k_31 : St → Int32 → Int32 → Int32 → Option (Int32 × St)) (k_42 : St → Int32 → Int32 → Int32 → Int32 → Int32 → Option (Int32 × St)) (hk_31 : ∀ (S : St) (l1 : Int32) (l2 : Int32) (l3 : Int32) (w : Int32 × St), k_31 S l1 l2 l3 = some w → w.2 kr jr = S kr jr) (hk_42 : ∀ (S : St) (l1 : Int32) (l2 : Int32) (l3 : Int32) (l4 : Int32) (l5 : Int32) (w : Int32 × St), k_42 S l1 l2 l3 l4 l5 = some w → w.2 kr jr = S kr jr) (S : St) (l1 : Int32) (l2 : Int32) (l3 : Int32) (l5 : Int32) (w : Int32 × St) (h : f_Mo_forgiven_67 k_31 k_42 S l1 l2 l3 l5 = some w) (hw : ¬ ((kr = 0 ∧ (jr = 7)))) : w.2 kr jr = S kr jr := by
  unfold f_Mo_forgiven_67 at h
  have q : S kr jr = S kr jr := rfl
  exact (w_Mo_forgiven_68 k_31 k_42 hk_31 hk_42 S l1 l2 l3 l5 (0 : Int32) _ h hw).trans q
set_option maxHeartbeats 4000000 in
theorem w_Mo_forgiven_85 {kr jr : Nat}  (k_31 : St → Int32 → Int32 → Int32 → Option (Int32 × St)) (hk_31 : ∀ (S : St) (l1 : Int32) (l2 : Int32) (l3 : Int32) (w : Int32 × St), k_31 S l1 l2 l3 = some w → w.2 kr jr = S kr jr) (S : St) (l1 : Int32) (l2 : Int32) (l3 : Int32) (w : Int32 × St) (h : f_Mo_forgiven_85 k_31 S l1 l2 l3 = some w) (hw : ¬ ((kr = 0 ∧ (jr = 7)))) : w.2 kr jr = S kr jr := by
  unfold f_Mo_forgiven_85 at h
  have q : S kr jr = S kr jr := rfl
  obtain ⟨l3_85, e_85, h⟩ := ob_s h
  exact (hk_31 S l1 l2 l3_85 _ h).trans q
set_option maxHeartbeats 4000000 in
theorem w_Mo_forgiven_42 {kr jr : Nat}  (k_31 : St → Int32 → Int32 → Int32 → Option (Int32 × St)) (hk_31 : ∀ (S : St) (l1 : Int32) (l2 : Int32) (l3 : Int32) (w : Int32 × St), k_31 S l1 l2 l3 = some w → w.2 kr jr = S kr jr) : ∀ (n : Nat) (S : St) (l1 : Int32) (l2 : Int32) (l3 : Int32) (l4 : Int32) (l5 : Int32) (w : Int32 × St), f_Mo_forgiven_42 k_31 n S l1 l2 l3 l4 l5 = some w → ¬ ((kr = 0 ∧ (jr = 7))) → w.2 kr jr = S kr jr := by
  intro n
  induction n with
  | zero =>
    intro S l1 l2 l3 l4 l5 w h hw
    rw [f_Mo_forgiven_42] at h
    cases h
  | succ n ih =>
    intro S l1 l2 l3 l4 l5 w h hw
    replace ih := fun S l1 l2 l3 l4 l5 w h => ih S l1 l2 l3 l4 l5 w h hw
    rw [f_Mo_forgiven_42] at h
    have q : S kr jr = S kr jr := rfl
    rcases ob_i h with ⟨c_45, h⟩ | ⟨c_45, h⟩
    · skip
      rcases ob_i h with ⟨c_78, h⟩ | ⟨c_78, h⟩
      · skip
        exact (w_Mo_forgiven_85 k_31 hk_31 S l1 l2 l3 _ h hw).trans q
      · skip
        obtain ⟨l2_84, e_84, h⟩ := ob_s h
        exact (w_Mo_forgiven_85 k_31 hk_31 S l1 l2_84 l3 _ h hw).trans q
    · skip
      rcases ob_i h with ⟨c_50, h⟩ | ⟨c_50, h⟩
      · skip
        exact (w_Mo_forgiven_67 k_31 (f_Mo_forgiven_42 k_31 n) hk_31 ih S l1 l2 l3 l5 _ h hw).trans q
      · skip
        obtain ⟨v_57, q_57, h⟩ := ob_b h
        rcases ob_i h with ⟨c_60, h⟩ | ⟨c_60, h⟩
        · skip
          exact (w_Mo_forgiven_68 k_31 (f_Mo_forgiven_42 k_31 n) hk_31 ih S l1 l2 l3 l5 (1 : Int32) _ h hw).trans q
        · skip
          exact (w_Mo_forgiven_67 k_31 (f_Mo_forgiven_42 k_31 n) hk_31 ih S l1 l2 l3 l5 _ h hw).trans q
set_option maxHeartbeats 4000000 in
theorem w_Mo_forgiven_31 {kr jr : Nat}  : ∀ (n : Nat) (S : St) (l1 : Int32) (l2 : Int32) (l3 : Int32) (w : Int32 × St), f_Mo_forgiven_31 n S l1 l2 l3 = some w → ¬ ((kr = 0 ∧ (jr = 7))) → w.2 kr jr = S kr jr := by
  intro n
  induction n with
  | zero =>
    intro S l1 l2 l3 w h hw
    rw [f_Mo_forgiven_31] at h
    cases h
  | succ n ih =>
    intro S l1 l2 l3 w h hw
    replace ih := fun S l1 l2 l3 w h => ih S l1 l2 l3 w h hw
    rw [f_Mo_forgiven_31] at h
    have q : S kr jr = S kr jr := rfl
    rcases ob_i h with ⟨c_33, h⟩ | ⟨c_33, h⟩
    · skip
      cases h
      exact q
    · skip
      obtain ⟨l4_37, e_37, h⟩ := ob_s h
      obtain ⟨l5_40, e_40, h⟩ := ob_s h
      exact (w_Mo_forgiven_42 (f_Mo_forgiven_31 n) ih FU S l1 l2 l3 l4_37 l5_40 _ h hw).trans q
set_option maxHeartbeats 4000000 in
theorem w_Mo_forgiven  {S : St} {l1 : Int32} {w : Int32 × St} (h : f_Mo_forgiven S l1 = some w) {kr jr : Nat} (hw : ¬ ((kr = 0 ∧ (jr = 7)))) : w.2 kr jr = S kr jr := by
  unfold f_Mo_forgiven at h
  have q : S kr jr = S kr jr := rfl
  obtain ⟨v_4, q_4, h⟩ := ob_b h
  rcases ob_i h with ⟨c_7, h⟩ | ⟨c_7, h⟩
  · skip
    cases h
    exact q
  · skip
    rcases ob_i h with ⟨c_17, h⟩ | ⟨c_17, h⟩
    · skip
      obtain ⟨S_24, e_24, h⟩ := ob_s h
      replace q := sF_w e_24 q (Decidable.not_and_iff_or_not.mp (fun z => hw (⟨(z).1, (z).2⟩)))
      obtain ⟨l2_28, e_28, h⟩ := ob_s h
      obtain ⟨l3_30, e_30, h⟩ := ob_s h
      exact (w_Mo_forgiven_31 FU S_24 l1 l2_28 l3_30 _ h hw).trans q
    · skip
      cases h
      exact q
set_option maxHeartbeats 4000000 in
theorem w_Mo_seed  {S : St} {l1 : Int32} {w : Int32 × St} (h : f_Mo_seed S l1 = some w) {kr jr : Nat} (hw : ¬ (kr = 1)) : w.2 kr jr = S kr jr := by
  unfold f_Mo_seed at h
  have q : S kr jr = S kr jr := rfl
  obtain ⟨v_5, q_5, h⟩ := ob_b h
  rcases ob_i h with ⟨c_8, h⟩ | ⟨c_8, h⟩
  · skip
    cases h
    exact q
  · skip
    obtain ⟨g_20, h⟩ := ob_g h
    obtain ⟨S_20, e_20, h⟩ := ob_s h
    replace q := sF_w e_20 q (Or.inl (fun z => hw (z)))
    cases h
    exact q
set_option maxHeartbeats 4000000 in
theorem w_Mo_keep  {S : St} {w : Int32 × St} (h : f_Mo_keep S = some w) {kr jr : Nat} (hw : ¬ ((kr = 0 ∧ (jr = 53 ∨ jr = 54)) ∨ kr = 3)) : w.2 kr jr = S kr jr := by
  unfold f_Mo_keep at h
  have q : S kr jr = S kr jr := rfl
  obtain ⟨S_2, e_2, h⟩ := ob_s h
  replace q := sF_w e_2 q (Decidable.not_and_iff_or_not.mp (fun z => hw (Or.inl (⟨(z).1, Or.inl ((z).2)⟩))))
  obtain ⟨S_10, e_10, h⟩ := ob_s h
  replace q := sF_w e_10 q (Decidable.not_and_iff_or_not.mp (fun z => hw (Or.inl (⟨(z).1, Or.inr ((z).2)⟩))))
  obtain ⟨w_21, q_21, h⟩ := ob_b h
  replace q := (w_Mo_copies q_21 (fun z => hw (Or.inr (z)))).trans q
  obtain ⟨g_30, h⟩ := ob_g h
  cases h
  exact q
set_option maxHeartbeats 4000000 in
theorem w_Mo_undo_19 {kr jr : Nat}  (k_11 : St → Int32 → Option (Int32 × St)) (hk_11 : ∀ (S : St) (l1 : Int32) (w : Int32 × St), k_11 S l1 = some w → w.2 kr jr = S kr jr) : ∀ (n : Nat) (S : St) (l1 : Int32) (l2 : Int32) (w : Int32 × St), f_Mo_undo_19 k_11 n S l1 l2 = some w → ¬ (kr = 1) → w.2 kr jr = S kr jr := by
  intro n
  induction n with
  | zero =>
    intro S l1 l2 w h hw
    rw [f_Mo_undo_19] at h
    cases h
  | succ n ih =>
    intro S l1 l2 w h hw
    replace ih := fun S l1 l2 w h => ih S l1 l2 w h hw
    rw [f_Mo_undo_19] at h
    have q : S kr jr = S kr jr := rfl
    obtain ⟨v_28, q_28, h⟩ := ob_b h
    rcases ob_i h with ⟨c_31, h⟩ | ⟨c_31, h⟩
    · skip
      obtain ⟨l1_60, e_60, h⟩ := ob_s h
      exact (hk_11 S l1_60 _ h).trans q
    · skip
      obtain ⟨g_48, h⟩ := ob_g h
      obtain ⟨g_49, h⟩ := ob_g h
      obtain ⟨S_49, e_49, h⟩ := ob_s h
      replace q := sF_w e_49 q (Or.inl (fun z => hw (z)))
      obtain ⟨l2_50, e_50, h⟩ := ob_s h
      exact (ih S_49 l1 l2_50 _ h).trans q
set_option maxHeartbeats 4000000 in
theorem w_Mo_undo_11 {kr jr : Nat}  : ∀ (n : Nat) (S : St) (l1 : Int32) (w : Int32 × St), f_Mo_undo_11 n S l1 = some w → ¬ (kr = 1) → w.2 kr jr = S kr jr := by
  intro n
  induction n with
  | zero =>
    intro S l1 w h hw
    rw [f_Mo_undo_11] at h
    cases h
  | succ n ih =>
    intro S l1 w h hw
    replace ih := fun S l1 w h => ih S l1 w h hw
    rw [f_Mo_undo_11] at h
    have q : S kr jr = S kr jr := rfl
    rcases ob_i h with ⟨c_14, h⟩ | ⟨c_14, h⟩
    · skip
      obtain ⟨g_76, h⟩ := ob_g h
      obtain ⟨g_77, h⟩ := ob_g h
      obtain ⟨S_77, e_77, h⟩ := ob_s h
      replace q := sF_w e_77 q (Or.inl (fun z => hw (z)))
      obtain ⟨g_90, h⟩ := ob_g h
      obtain ⟨g_91, h⟩ := ob_g h
      obtain ⟨S_91, e_91, h⟩ := ob_s h
      replace q := sF_w e_91 q (Or.inl (fun z => hw (z)))
      obtain ⟨g_104, h⟩ := ob_g h
      obtain ⟨g_105, h⟩ := ob_g h
      obtain ⟨S_105, e_105, h⟩ := ob_s h
      replace q := sF_w e_105 q (Or.inl (fun z => hw (z)))
      cases h
      exact q
    · skip
      obtain ⟨l2_18, e_18, h⟩ := ob_s h
      exact (w_Mo_undo_19 (f_Mo_undo_11 n) ih FU S l1 l2_18 _ h hw).trans q
set_option maxHeartbeats 4000000 in
theorem w_Mo_undo  {S : St} {w : Int32 × St} (h : f_Mo_undo S = some w) {kr jr : Nat} (hw : ¬ (kr = 1)) : w.2 kr jr = S kr jr := by
  unfold f_Mo_undo at h
  have q : S kr jr = S kr jr := rfl
  rcases ob_i h with ⟨c_4, h⟩ | ⟨c_4, h⟩
  · skip
    cases h
    exact q
  · skip
    obtain ⟨l1_10, e_10, h⟩ := ob_s h
    exact (w_Mo_undo_11 FU S l1_10 _ h hw).trans q
set_option maxHeartbeats 4000000 in
theorem w_Mo_check_62 {kr jr : Nat}  (k_28 : St → Int32 → Int32 → Option (Int32 × St)) (hk_28 : ∀ (S : St) (l1 : Int32) (l2 : Int32) (w : Int32 × St), k_28 S l1 l2 = some w → w.2 kr jr = S kr jr) (S : St) (l1 : Int32) (l2 : Int32) (s0 : Int32) (s1 : Int32) (w : Int32 × St) (h : f_Mo_check_62 k_28 S l1 l2 s0 s1 = some w) (hw : ¬ ((kr = 0 ∧ (jr = 7)))) : w.2 kr jr = S kr jr := by
  unfold f_Mo_check_62 at h
  have q : S kr jr = S kr jr := rfl
  rcases ob_i h with ⟨c_62, h⟩ | ⟨c_62, h⟩
  · skip
    obtain ⟨l2_67, e_67, h⟩ := ob_s h
    exact (hk_28 S l1 l2_67 _ h).trans q
  · skip
    cases h
    exact q
set_option maxHeartbeats 4000000 in
theorem w_Mo_check_28 {kr jr : Nat}  : ∀ (n : Nat) (S : St) (l1 : Int32) (l2 : Int32) (w : Int32 × St), f_Mo_check_28 n S l1 l2 = some w → ¬ ((kr = 0 ∧ (jr = 7))) → w.2 kr jr = S kr jr := by
  intro n
  induction n with
  | zero =>
    intro S l1 l2 w h hw
    rw [f_Mo_check_28] at h
    cases h
  | succ n ih =>
    intro S l1 l2 w h hw
    replace ih := fun S l1 l2 w h => ih S l1 l2 w h hw
    rw [f_Mo_check_28] at h
    have q : S kr jr = S kr jr := rfl
    rcases ob_i h with ⟨c_30, h⟩ | ⟨c_30, h⟩
    · skip
      cases h
      exact q
    · skip
      obtain ⟨v_35, q_35, h⟩ := ob_b h
      obtain ⟨v_40, q_40, h⟩ := ob_b h
      rcases ob_i h with ⟨c_43, h⟩ | ⟨c_43, h⟩
      · skip
        exact (w_Mo_check_62 (f_Mo_check_28 n) ih S l1 l2 (0 : Int32) v_35 _ h hw).trans q
      · skip
        obtain ⟨g_53, h⟩ := ob_g h
        exact (w_Mo_check_62 (f_Mo_check_28 n) ih S l1 l2 (jrem (S 1 (0 + l2).toNatClampNeg) 256) v_35 _ h hw).trans q
set_option maxHeartbeats 4000000 in
theorem w_Mo_check  {S : St} {l1 : Int32} {w : Int32 × St} (h : f_Mo_check S l1 = some w) {kr jr : Nat} (hw : ¬ ((kr = 0 ∧ (jr = 7)))) : w.2 kr jr = S kr jr := by
  unfold f_Mo_check at h
  have q : S kr jr = S kr jr := rfl
  obtain ⟨v_4, q_4, h⟩ := ob_b h
  rcases ob_i h with ⟨c_7, h⟩ | ⟨c_7, h⟩
  · skip
    cases h
    exact q
  · skip
    rcases ob_i h with ⟨c_15, h⟩ | ⟨c_15, h⟩
    · skip
      obtain ⟨S_23, e_23, h⟩ := ob_s h
      replace q := sF_w e_23 q (Decidable.not_and_iff_or_not.mp (fun z => hw (⟨(z).1, (z).2⟩)))
      obtain ⟨l2_27, e_27, h⟩ := ob_s h
      exact (w_Mo_check_28 FU S_23 l1 l2_27 _ h hw).trans q
    · skip
      cases h
      exact q
