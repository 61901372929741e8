/-! KEEP, UNDO -/
theorem cf_spec {S : St} {P Q : Nat} (hP : isP P) (hQ : isP Q) (hPQ : P ≠ Q) : ∃ S', f_Parish_copyFrom S P Q = some S' ∧ (∀ j, j < 24 → S' (P + 1) j = S (Q + 1) j ∧ S' (P + 2) j = S (Q + 2) j ∧ S' (P + 3) j = S (Q + 3) j ∧ S' (P + 4) j = S (Q + 4) j) ∧ (S' P 4 = S Q 4 ∧ S' P 5 = S Q 5 ∧ S' P 6 = S Q 6 ∧ S' P 7 = S Q 7 ∧ S' P 8 = S Q 8 ∧ S' P 9 = S Q 9) ∧ (∀ k j, (k < P ∨ P + 4 < k) → S' k j = S k j) := by
  have e24 : (24 : Int32).toNatClampNeg = 24 := by decide
  have e0 : (0 : Int32).toNatClampNeg = 0 := by decide
  obtain ⟨S', hS'⟩ : ∃ S', f_Parish_copyFrom S P Q = some S' := ⟨_, rfl⟩
  refine ⟨S', hS', ?_, ?_, fun k j hk => w_Parish_copyFrom hS' (by omega)⟩
  · unfold f_Parish_copyFrom at hS'
    simp only [Option.bind_some, Option.some.injEq, e24, e0] at hS'
    subst hS'
    intro j hj
    rcases hP with rfl | rfl | rfl | rfl <;> rcases hQ with rfl | rfl | rfl | rfl <;> first | exact absurd rfl hPQ | simp [sF, sR, sC, upd, va_cpy, hj]
  · unfold f_Parish_copyFrom at hS'
    simp only [Option.bind_some, Option.some.injEq, e24, e0] at hS'
    subst hS'
    rcases hP with rfl | rfl | rfl | rfl <;> rcases hQ with rfl | rfl | rfl | rfl <;> first | exact absurd rfl hPQ | simp [sF, sR, sC, upd, va_cpy]
/-- the reference's copy of a row -/
def cpR (S : St) (k0 k1 m : Nat) : St := sR S k1 (fun j => if j < m then S k0 j else S k1 j)
theorem m_copies {S : St} {k0 k1 : Nat} (h : k0 ≠ k1) : f_Mo_copies S k0 k1 = some (cpR S k0 k1 99) := by
  obtain ⟨F, hF⟩ : ∃ F, FU = F := ⟨_, rfl⟩
  have hF' : 99 < F := by rw [← hF]; exact FU_gt (by omega)
  have key := loopN (fun n j (T : St) => f_Mo_copies_2 k0 k1 n T (nI j)) (fun T => some T) (fun j T => sF T k1 j (T k0 j)) 99 ?_ ?_ 99 F 0 S (by omega) hF'
  · have e : foldN (fun j T => sF T k1 j (T k0 j)) 99 0 S = cpR S k0 k1 99 := by
      have := foldN_inv (g := fun j (T : St) => sF T k1 j (T k0 j)) (fun j T => T = cpR S k0 k1 j) 99 0 S (by funext a b; unfold cpR sR; by_cases c : a = k1 <;> simp [c]) (fun j T _ _ hT => by
        subst hT
        funext a b
        unfold cpR sF sR
        by_cases c : a = k1
        · subst c
          simp only [↓reduceIte, h, upd]
          by_cases d : b = j
          · subst d; simp
          · simp only [d, ↓reduceIte]
            by_cases e1 : b < j
            · rw [if_pos e1, if_pos (by omega)]
            · rw [if_neg e1, if_neg (by omega)]
        · simp only [c, ↓reduceIte])
      simpa using this
    rw [e] at key
    unfold f_Mo_copies
    rw [hF]
    exact key
  · intro n a
    show f_Mo_copies_2 k0 k1 (n + 1) a (nI 99) = _
    rw [f_Mo_copies_2, if_pos (by decide)]
  · intro n j a hj
    show f_Mo_copies_2 k0 k1 (n + 1) a (nI j) = f_Mo_copies_2 k0 k1 n _ (nI (j + 1))
    have c1 : (nI j).toNatClampNeg = j := cl
    have g1 : ig (nI j) 99 = true := gn hj (by omega)
    rw [f_Mo_copies_2, if_neg (show ¬ (99 : Int32) ≤ nI j from nle (b := 99) hj), if_pos g1, if_pos g1, c1, Option.bind_some, Option.bind_some, nI_1]
section STP
variable {LR : St → St → Prop}
theorem st_keep (hL : LRc LR) : STEP (RelL LR) m_W_keep m_Mo_keep 2 2 [] := by
  intro Sx Sm hR
  obtain ⟨t, h, hm⟩ := hR.2.1.np
  have ht := h.1
  obtain ⟨S', c1, c2, c3, c4⟩ := cf_spec (S := Sx) isP_9 isP_4 (by decide)
  have hx : f_W_keep Sx = some (Sx 4 8, sF S' 0 13 1) := by
    unfold f_W_keep
    rw [c1, Option.bind_some, Option.bind_some]
    rw [show sF S' 0 13 1 4 8 = Sx 4 8 from by rw [sF_ne (by omega)]; exact c4 4 8 (by omega)]
  have hmm : f_Mo_keep Sm = some (Sm 1 97, cpR (sF (sF Sm 0 53 1) 0 54 (Sm 0 5)) 1 3 99) := by
    unfold f_Mo_keep
    rw [Option.bind_some, Option.bind_some, m_copies (by decide), Option.bind_some, if_pos g97, e97]
    rw [show sF Sm 0 53 1 0 5 = Sm 0 5 from sF_ne (by omega)]
    rw [show cpR (sF (sF Sm 0 53 1) 0 54 (Sm 0 5)) 1 3 99 1 97 = Sm 1 97 from by unfold cpR sR; simp only [show ¬ (1 : Nat) = 3 by omega, ↓reduceIte]; rw [sF_ne (by omega), sF_ne (by omega)]]
  have hday : Sx 4 8 = Sm 1 97 := h.2.2.2.1.2.2.2.2.1
  have m0 : ∀ k j, k ≠ 3 → cpR (sF (sF Sm 0 53 1) 0 54 (Sm 0 5)) 1 3 99 k j = sF (sF Sm 0 53 1) 0 54 (Sm 0 5) k j := fun k j hk => by unfold cpR sR; rw [if_neg hk]
  rw [← hday] at hmm
  refine ⟨Sx 4 8, sF S' 0 13 1, cpR (sF (sF Sm 0 53 1) 0 54 (Sm 0 5)) 1 3 99, t_W_keep hx, t_Mo_keep hmm, ?_, ?_⟩
  · obtain ⟨n, q1, q2, q3, q4⟩ := hR.1
    refine ⟨n, q1, ?_, ?_, fun i hi => ?_⟩
    · rw [sF_ne (by omega), c4 1 2 (by omega)]; exact q2
    · rw [m0 0 7 (by omega), sF_ne (by omega), sF_ne (by omega)]; exact q3
    · rw [sF_ne (by omega), c4 2 i (by omega), m0 6 i (by omega), sF_ne (by omega), sF_ne (by omega)]; exact q4 i hi
  · obtain ⟨q0, -, ⟨d1, d2, d3⟩, hlr⟩ := hR.2
    have mrow : ∀ k, k ≠ 3 → k ≠ 0 → cpR (sF (sF Sm 0 53 1) 0 54 (Sm 0 5)) 1 3 99 k = Sm k := fun k h1 h2 => fe (fun j => by rw [m0 k j h1, sF_ne (by omega), sF_ne (by omega)])
    have xrow : ∀ k, k ≠ 0 → (k < 9 ∨ 13 < k) → sF S' 0 13 1 k = Sx k := fun k h1 h2 => fe (fun j => by rw [sF_ne (by omega), c4 k j (by omega)])
    refine ⟨?_, ⟨?_, Or.inr ⟨?_, t, ht, ?_, ?_, ?_, ?_⟩⟩, ⟨?_, ?_, ?_⟩, ?_⟩
    · obtain ⟨t, ht, q1, ⟨q2, q3⟩, q4, q5, q6⟩ := q0
      refine ⟨t, ht, by rw [m0 0 5 (by omega), sF_ne (by omega), sF_ne (by omega)]; exact q1, ⟨by rw [xrow 4 (by omega) (by omega)]; exact q2, fun k hk => ?_⟩, ?_, ?_, ?_⟩
      · rw [xrow 5 (by omega) (by omega), xrow 6 (by omega) (by omega), mrow 4 (by omega) (by omega), mrow 5 (by omega) (by omega)]; exact q3 k hk
      · rw [mrow 4 (by omega) (by omega), mrow 5 (by omega) (by omega)]; exact q4
      · rw [mrow 1 (by omega) (by omega)]
        exact q5.congr (fun j => by rw [xrow 7 (by omega) (by omega)]) (fun j => by rw [xrow 8 (by omega) (by omega)]) (fun j _ => by rw [xrow 4 (by omega) (by omega)]) (fun _ => rfl)
      · rw [mrow 1 (by omega) (by omega)]; exact q6
    · rw [sF_at, m0 0 53 (by omega), sF_ne (by omega), sF_at]
    · rw [m0 0 53 (by omega), sF_ne (by omega), sF_at]
    · rw [m0 0 54 (by omega), sF_at]; exact hm.1
    · rw [sF_ne (by omega), c3.2.2.1]; exact h.things
    · have r3 : ∀ j, j < 99 → cpR (sF (sF Sm 0 53 1) 0 54 (Sm 0 5)) 1 3 99 3 j = Sm 1 j := fun j hj => by
        unfold cpR sR
        simp only [↓reduceIte, hj]
        rw [sF_ne (by omega), sF_ne (by omega)]
      obtain ⟨p1, p2, p3, p4, p5, p6⟩ := h.2.2.2.1
      refine ⟨fun k hk => ?_, fun k hk => ?_, fun k hk => ?_, ?_, ?_, ?_⟩
      · rw [sF_ne (by omega), sF_ne (by omega), (c2 k (by omega)).2.2.1, (c2 k (by omega)).2.2.2, r3 k (by omega), r3 (48 + k) (by omega)]; exact p1 k hk
      · rw [sF_ne (by omega), sF_ne (by omega), c3.1, c3.2.1, r3 (24 + k) (by omega), r3 (72 + k) (by omega)]; exact p2 k hk
      · rw [sF_ne (by omega), sF_ne (by omega), c3.1, c3.2.1]; exact p3 k hk
      · rw [sF_ne (by omega), c3.2.2.2.1, r3 96 (by omega)]; exact p4
      · rw [sF_ne (by omega), c3.2.2.2.2.1, r3 97 (by omega)]; exact p5
      · rw [sF_ne (by omega), c3.2.2.2.2.2, r3 98 (by omega)]; exact p6
    · have r3 : ∀ j, j < 99 → cpR (sF (sF Sm 0 53 1) 0 54 (Sm 0 5)) 1 3 99 3 j = Sm 1 j := fun j hj => by
        unfold cpR sR
        simp only [↓reduceIte, hj]
        rw [sF_ne (by omega), sF_ne (by omega)]
      obtain ⟨p1, p2, p3⟩ := h.2.2.2.2
      refine ⟨fun k hk => ?_, ?_, ?_⟩
      · rw [r3 k (by omega), r3 (24 + k) (by omega), r3 (48 + k) (by omega), r3 (72 + k) (by omega)]; exact p1 k hk
      · rw [r3 97 (by omega)]; exact p2
      · rw [r3 98 (by omega)]; exact p3
    · rw [xrow 20 (by omega) (by omega)]; exact d1
    · rw [xrow 20 (by omega) (by omega)]; exact d2
    · intro k hk; rw [xrow 24 (by omega) (by omega)]; exact d3 k hk
    · exact hL Sx Sm _ _ (fun k j a b => by rw [xrow k (by omega) (by omega)]) (fun k j a b => by rw [mrow k (by omega) (by omega)]) (by rw [m0 0 16 (by omega), sF_ne (by omega), sF_ne (by omega)]) hlr
/-! UNDO -/
def cpS (S : St) (row m : Nat) : St := sR S 1 (fun x => if row ≤ x ∧ x < row + m then S 3 x else S 1 x)
theorem mn {a b : Nat} (ha : a ≤ 24) (hb : b ≤ 24) (S : St) : f_Mo_min S (nI a) (nI b) = some (nI (min a b)) := by
  unfold f_Mo_min
  by_cases c : b ≤ a
  · rw [if_pos (yle c), Nat.min_eq_right c]
  · rw [if_neg (nle (by omega)), Nat.min_eq_left (by omega)]
theorem m_undo19 {S : St} {t t' : Nat} (ht : t ≤ 24) (ht' : t' ≤ 24) (h1 : S 0 5 = nI t) (h2 : S 0 54 = nI t') (k : St → Int32 → Option (Int32 × St)) {row F : Nat} (hr : row + 24 ≤ 96) (hF : 24 < F) : f_Mo_undo_19 k F S (nI row) 0 = k (cpS S row (min t t')) (nI (row + 24)) := by
  have key := loopI (fun n j (T : St) => f_Mo_undo_19 k n T (nI row) (nI j)) (fun T => k T (nI (row + 24))) (fun j T => sF T 1 (row + j) (T 3 (row + j))) (min t t') (fun j T => T = cpS S row j) ?_ ?_ (min t t') F 0 S (by omega) (by omega) (by funext a b; unfold cpS sR; by_cases c : a = 1 <;> simp [c]; intro h1 h2; omega)
  · rw [key.2] at key
    exact key.1
  · intro n T hT
    show f_Mo_undo_19 k (n + 1) T (nI row) (nI (min t t')) = _
    subst hT
    rw [f_Mo_undo_19, show cpS S row (min t t') 0 5 = nI t from h1, show cpS S row (min t t') 0 54 = nI t' from h2, mn ht ht', Option.bind_some, if_pos (yle (Nat.le_refl _)), Option.bind_some, show nI row + 24 = nI (row + 24) from nI_add row 24]
  · intro n j T hj hT
    have hj24 : j < 24 := by omega
    subst hT
    refine ⟨?_, ?_⟩
    · show f_Mo_undo_19 k (n + 1) _ (nI row) (nI j) = f_Mo_undo_19 k n _ (nI row) (nI (j + 1))
      have c1 : (nI (row + j)).toNatClampNeg = row + j := cl
      have g1 : ig (nI (row + j)) 99 = true := gn (by omega) (by omega)
      rw [f_Mo_undo_19, show cpS S row j 0 5 = nI t from h1, show cpS S row j 0 54 = nI t' from h2, mn ht ht', Option.bind_some, if_neg (nle hj), nIx, if_pos g1, if_pos g1, c1, Option.bind_some, Option.bind_some, nI_1]
    · funext a b
      unfold cpS sF sR
      by_cases c : a = 1
      · subst c
        simp only [↓reduceIte, upd, show ¬ (3 : Nat) = 1 by omega]
        by_cases d : b = row + j
        · subst d
          rw [if_pos rfl, if_pos (by omega)]
        · rw [if_neg d]
          by_cases e : row ≤ b ∧ b < row + j
          · rw [if_pos e, if_pos (by omega)]
          · rw [if_neg e, if_neg (by omega)]
      · simp only [c, ↓reduceIte]
def unR (r s : Nat → Int32) (m : Nat) : Nat → Int32 := fun x => if (x < m ∨ (24 ≤ x ∧ x < 24 + m) ∨ (48 ≤ x ∧ x < 48 + m) ∨ (72 ≤ x ∧ x < 72 + m) ∨ (96 ≤ x ∧ x ≤ 98)) then s x else r x
theorem m_undo {S : St} {t t' : Nat} (ht : t ≤ 24) (ht' : t' ≤ 24) (h1 : S 0 5 = nI t) (h2 : S 0 54 = nI t') (h3 : ¬ S 0 53 = 0) : f_Mo_undo S = some (1, sR S 1 (unR (S 1) (S 3) (min t t'))) := by
  obtain ⟨F, hF⟩ : ∃ F, FU = F := ⟨_, rfl⟩
  have hF' : 99 < F := by rw [← hF]; exact FU_gt (by omega)
  unfold f_Mo_undo
  rw [if_neg h3, Option.bind_some, hF]
  obtain ⟨F, rfl⟩ : ∃ z, F = z + 5 := ⟨F - 5, by omega⟩
  have u : ∀ (n : Nat) (T : St) (row : Nat), row + 24 ≤ 96 → T 0 5 = nI t → T 0 54 = nI t' → f_Mo_undo_11 (n + 1) T (nI row) = f_Mo_undo_11 n (cpS T row (min t t')) (nI (row + 24)) := by
    intro n T row hr q1 q2
    rw [f_Mo_undo_11, if_neg (show ¬ (96 : Int32) ≤ nI row from nle (b := 96) (by omega)), Option.bind_some, hF]
    exact m_undo19 ht ht' q1 q2 _ hr (by omega)
  have s1 : f_Mo_undo_11 (F + 5) S 0 = f_Mo_undo_11 (F + 4) (cpS S 0 (min t t')) (nI 24) := u (F + 4) S 0 (by omega) h1 h2
  have s2 : f_Mo_undo_11 (F + 4) (cpS S 0 (min t t')) (nI 24) = f_Mo_undo_11 (F + 3) (cpS (cpS S 0 (min t t')) 24 (min t t')) (nI 48) := u (F + 3) _ 24 (by omega) h1 h2
  have s3 : f_Mo_undo_11 (F + 3) (cpS (cpS S 0 (min t t')) 24 (min t t')) (nI 48) = f_Mo_undo_11 (F + 2) (cpS (cpS (cpS S 0 (min t t')) 24 (min t t')) 48 (min t t')) (nI 72) := u (F + 2) _ 48 (by omega) h1 h2
  have s4 : f_Mo_undo_11 (F + 2) (cpS (cpS (cpS S 0 (min t t')) 24 (min t t')) 48 (min t t')) (nI 72) = f_Mo_undo_11 (F + 1) (cpS (cpS (cpS (cpS S 0 (min t t')) 24 (min t t')) 48 (min t t')) 72 (min t t')) (nI 96) := u (F + 1) _ 72 (by omega) h1 h2
  rw [s1, s2, s3, s4, f_Mo_undo_11, if_pos (by decide), if_pos g96, if_pos g96, Option.bind_some, if_pos g97, if_pos g97, Option.bind_some, if_pos g98, if_pos g98, Option.bind_some, e96, e97, e98]
  congr 2
  funext a b
  unfold unR cpS sF sR
  by_cases c : a = 1
  · subst c
    simp only [↓reduceIte, upd, show ¬ (3 : Nat) = 1 by omega]
    by_cases d1 : b = 98
    · subst d1; simp
    by_cases d2 : b = 97
    · subst d2; simp
    by_cases d3 : b = 96
    · subst d3; simp
    simp only [d1, d2, d3, ↓reduceIte]
    by_cases f1 : 72 ≤ b ∧ b < 72 + min t t'
    · rw [if_pos f1, if_pos (by omega)]
    rw [if_neg f1]
    by_cases f2 : 48 ≤ b ∧ b < 48 + min t t'
    · rw [if_pos f2, if_pos (by omega)]
    rw [if_neg f2]
    by_cases f3 : 24 ≤ b ∧ b < 24 + min t t'
    · rw [if_pos f3, if_pos (by omega)]
    rw [if_neg f3]
    by_cases f4 : 0 ≤ b ∧ b < 0 + min t t'
    · rw [if_pos f4, if_pos (by omega)]
    · rw [if_neg f4, if_neg (by omega)]
  · simp only [c, ↓reduceIte]
theorem back_bt : ∀ m, m < 25 → ∀ i, i < 32 → bt (jshl 1 (nI m) - 1) i = decide (i < m) := by decide +kernel
def xcp (S : St) (P Q m : Nat) : St := fun a b => if (a = P + 3 ∧ b < m) then S (Q + 3) b else if (a = P + 4 ∧ b < m) then S (Q + 4) b else S a b
theorem x_back {S : St} {t t' : Nat} (ht : t ≤ 24) (ht' : t' ≤ 24) (h1 : S 4 6 = nI t) (h2 : S 9 6 = nI t') : ∃ S', f_Parish_comeBackTo S 4 9 = some S' ∧ (∀ k, k < min t t' → S' 7 k = S 12 k ∧ S' 8 k = S 13 k) ∧ (∀ k, min t t' ≤ k → S' 7 k = S 7 k ∧ S' 8 k = S 8 k) ∧ (∀ i, i < 32 → bt (S' 4 4) i = (if i < min t t' then bt (S 9 4) i else bt (S 4 4) i) ∧ bt (S' 4 5) i = (if i < min t t' then bt (S 9 5) i else bt (S 4 5) i)) ∧ S' 4 7 = S 9 7 ∧ S' 4 8 = S 9 8 ∧ S' 4 9 = S 9 9 ∧ S' 4 6 = S 4 6 ∧ (∀ k j, k ≠ 4 → k ≠ 7 → k ≠ 8 → S' k j = S k j) := by
  obtain ⟨F, hF⟩ : ∃ F, FU = F := ⟨_, rfl⟩
  have hF' : 99 < F := by rw [← hF]; exact FU_gt (by omega)
  have hmin : jmin (S 4 6) (S 9 6) = nI (min t t') := by
    rw [h1, h2]
    unfold jmin
    by_cases c : t' < t
    · rw [if_pos (ylt c), Nat.min_eq_right (by omega)]
    · rw [if_neg (nlt' (by omega)), Nat.min_eq_left (by omega)]
  have loop : f_Parish_comeBackTo_14 4 9 F S (nI (min t t')) 0 = f_Parish_comeBackTo_55 4 9 (xcp S 4 9 (min t t')) (nI (min t t')) := by
    have key := loopI (fun n j (T : St) => f_Parish_comeBackTo_14 4 9 n T (nI (min t t')) (nI j)) (fun T => f_Parish_comeBackTo_55 4 9 T (nI (min t t'))) (fun j T => sF (sF T 7 j (T 12 j)) 8 j (sF T 7 j (T 12 j) 13 j)) (min t t') (fun j T => T = xcp S 4 9 j) ?_ ?_ (min t t') F 0 S (by omega) (by omega) (by funext a b; unfold xcp; simp)
    · rw [key.2] at key
      exact key.1
    · intro n T hT
      show f_Parish_comeBackTo_14 4 9 (n + 1) T (nI (min t t')) (nI (min t t')) = _
      rw [f_Parish_comeBackTo_14, if_pos (yle (Nat.le_refl _))]
    · intro n j T hj hT
      subst hT
      refine ⟨?_, ?_⟩
      · show f_Parish_comeBackTo_14 4 9 (n + 1) _ (nI (min t t')) (nI j) = f_Parish_comeBackTo_14 4 9 n _ (nI (min t t')) (nI (j + 1))
        have c1 : (nI j).toNatClampNeg = j := cl
        have g1 : ig (nI j) 24 = true := gn (by omega) (by omega)
        rw [f_Parish_comeBackTo_14, if_neg (nle hj), if_neg (n24 (show j < 24 by omega)), if_pos g1, if_pos g1, Option.bind_some, if_pos g1, if_pos g1, Option.bind_some, Option.bind_some, c1, nI_1]
      · funext a b
        unfold xcp sF sR
        by_cases c : a = 8
        · subst c
          simp only [show ¬ (8 : Nat) = 4 + 3 by omega, show (8 : Nat) = 4 + 4 by omega, ↓reduceIte, upd, false_and, true_and, show ¬ (13 : Nat) = 7 by omega, show ¬ (4 + 4 : Nat) = 7 by omega]
          by_cases d : b = j
          · subst d
            simp
          · rw [if_neg d]
            by_cases e : b < j
            · rw [if_pos e, if_pos (by omega)]
            · rw [if_neg e, if_neg (by omega)]
        · by_cases c7 : a = 7
          · subst c7
            simp only [show (7 : Nat) = 4 + 3 by omega, ↓reduceIte, upd, true_and, show ¬ (4 + 3 : Nat) = 8 by omega, show ¬ (4 + 3 : Nat) = 4 + 4 by omega, false_and]
            by_cases d : b = j
            · subst d
              simp
            · rw [if_neg d]
              by_cases e : b < j
              · rw [if_pos e, if_pos (by omega)]
              · rw [if_neg e, if_neg (by omega)]
          · simp only [c, c7, ↓reduceIte, show ¬ a = 4 + 3 by omega, show ¬ a = 4 + 4 by omega, false_and]
  have ex : f_Parish_comeBackTo S 4 9 = f_Parish_comeBackTo_55 4 9 (xcp S 4 9 (min t t')) (nI (min t t')) := by
    unfold f_Parish_comeBackTo
    rw [Option.bind_some, Option.bind_some, hF, hmin]
    exact loop
  have xr : ∀ a b, a ≠ 7 → a ≠ 8 → xcp S 4 9 (min t t') a b = S a b := fun a b q1 q2 => by unfold xcp; rw [if_neg (by omega), if_neg (by omega)]
  rw [ex]
  unfold f_Parish_comeBackTo_55
  refine ⟨_, rfl, fun k hk => ⟨?_, ?_⟩, fun k hk => ⟨?_, ?_⟩, fun i hi => ⟨?_, ?_⟩, ?_, ?_, ?_, ?_, fun k j q1 q2 q3 => ?_⟩
  · rw [sF_ne (by omega), sF_ne (by omega), sF_ne (by omega), sF_ne (by omega), sF_ne (by omega)]
    unfold xcp; rw [if_pos ⟨rfl, hk⟩]
  · rw [sF_ne (by omega), sF_ne (by omega), sF_ne (by omega), sF_ne (by omega), sF_ne (by omega)]
    unfold xcp; rw [if_neg (by omega), if_pos ⟨rfl, hk⟩]
  · rw [sF_ne (by omega), sF_ne (by omega), sF_ne (by omega), sF_ne (by omega), sF_ne (by omega)]
    unfold xcp; rw [if_neg (by omega), if_neg (by omega)]
  · rw [sF_ne (by omega), sF_ne (by omega), sF_ne (by omega), sF_ne (by omega), sF_ne (by omega)]
    unfold xcp; rw [if_neg (by omega), if_neg (by omega)]
  · rw [sF_ne (by omega), sF_ne (by omega), sF_ne (by omega), sF_ne (by omega), sF_at, xr _ _ (by omega) (by omega), xr _ _ (by omega) (by omega), b_or, b_and, b_and, b_xor, back_bt _ (by omega) i hi, b_m1 i hi]
    by_cases c : i < min t t'
    · simp [c]
    · simp [c]
  · rw [sF_ne (by omega), sF_ne (by omega), sF_ne (by omega), sF_at, sF_ne (by omega), sF_ne (by omega), xr _ _ (by omega) (by omega), xr _ _ (by omega) (by omega), b_or, b_and, b_and, b_xor, back_bt _ (by omega) i hi, b_m1 i hi]
    by_cases c : i < min t t'
    · simp [c]
    · simp [c]
  · rw [sF_ne (by omega), sF_ne (by omega), sF_at, sF_ne (by omega), sF_ne (by omega), xr _ _ (by omega) (by omega)]
  · rw [sF_ne (by omega), sF_at, sF_ne (by omega), sF_ne (by omega), sF_ne (by omega), xr _ _ (by omega) (by omega)]
  · rw [sF_at, sF_ne (by omega), sF_ne (by omega), sF_ne (by omega), sF_ne (by omega), xr _ _ (by omega) (by omega)]
  · rw [sF_ne (by omega), sF_ne (by omega), sF_ne (by omega), sF_ne (by omega), sF_ne (by omega), xr _ _ (by omega) (by omega)]
  · rw [sF_ne (by omega), sF_ne (by omega), sF_ne (by omega), sF_ne (by omega), sF_ne (by omega), xr _ _ (by omega) (by omega)]
theorem st_undo (hL : LRc LR) : STEP (RelL LR) m_W_undo m_Mo_undo 3 2 [] := by
  intro Sx Sm hR
  obtain ⟨hT, ⟨t, ht, q1, ⟨q2, q3⟩, q4, q5, q6⟩, ⟨k1, k2⟩, hD, hlr⟩ := id hR
  rcases k2 with k2 | ⟨k2, t', ht', k3, k4, k5, k6⟩
  · have h1 : f_W_undo Sx = some (0, Sx) := by unfold f_W_undo; rw [k1, if_pos k2]
    have h2 : f_Mo_undo Sm = some (0, Sm) := by unfold f_Mo_undo; rw [if_pos k2]
    exact ⟨0, Sx, Sm, t_W_undo h1, t_Mo_undo h2, hR⟩
  obtain ⟨S', c0, c1, c2, c3, c4, c5, c6, c7, c8⟩ := x_back ht ht' q2 k4
  have h1 : f_W_undo Sx = some (1, S') := by unfold f_W_undo; rw [k1, k2, if_neg i10, c0]; rfl
  have h2 : f_Mo_undo Sm = some (1, sR Sm 1 (unR (Sm 1) (Sm 3) (min t t'))) := m_undo ht ht' q1 k3 (by rw [k2]; decide)
  have mr : ∀ k, k ≠ 1 → sR Sm 1 (unR (Sm 1) (Sm 3) (min t t')) k = Sm k := fun k hk => by unfold sR; rw [if_neg hk]
  have m1 : sR Sm 1 (unR (Sm 1) (Sm 3) (min t t')) 1 = unR (Sm 1) (Sm 3) (min t t') := by unfold sR; rw [if_pos rfl]
  have uo : ∀ k, k < t → ¬ k < min t t' → unR (Sm 1) (Sm 3) (min t t') k = Sm 1 k ∧ unR (Sm 1) (Sm 3) (min t t') (24 + k) = Sm 1 (24 + k) ∧ unR (Sm 1) (Sm 3) (min t t') (48 + k) = Sm 1 (48 + k) ∧ unR (Sm 1) (Sm 3) (min t t') (72 + k) = Sm 1 (72 + k) := fun k hk hn => by
    unfold unR
    refine ⟨?_, ?_, ?_, ?_⟩ <;> rw [if_neg (by omega)]
  have ui : ∀ k, k < min t t' → unR (Sm 1) (Sm 3) (min t t') k = Sm 3 k ∧ unR (Sm 1) (Sm 3) (min t t') (24 + k) = Sm 3 (24 + k) ∧ unR (Sm 1) (Sm 3) (min t t') (48 + k) = Sm 3 (48 + k) ∧ unR (Sm 1) (Sm 3) (min t t') (72 + k) = Sm 3 (72 + k) := fun k hk => by
    unfold unR
    refine ⟨?_, ?_, ?_, ?_⟩ <;> rw [if_pos (by omega)]
  refine ⟨1, S', sR Sm 1 (unR (Sm 1) (Sm 3) (min t t')), t_W_undo h1, t_Mo_undo h2, ?_, ?_⟩
  · obtain ⟨n, z1, z2, z3, z4⟩ := hT
    exact ⟨n, z1, by rw [c8 1 2 (by omega) (by omega) (by omega)]; exact z2, by rw [mr 0 (by omega)]; exact z3, fun i hi => by rw [c8 2 i (by omega) (by omega) (by omega), mr 6 (by omega)]; exact z4 i hi⟩
  · refine Core.now hL hR.2 ?_ (fun k j _ hk => c8 k j (by omega) (by omega) (by omega)) (fun k j _ hk => by rw [mr k (by omega)])
    refine ⟨t, ht, by rw [mr 0 (by omega)]; exact q1, ⟨by rw [c7]; exact q2, fun k hk => ?_⟩, ?_, ?_, ?_⟩
    · rw [c8 5 k (by omega) (by omega) (by omega), c8 6 k (by omega) (by omega) (by omega), mr 4 (by omega), mr 5 (by omega)]; exact q3 k hk
    · rw [mr 4 (by omega), mr 5 (by omega)]; exact q4
    · rw [m1]
      obtain ⟨p1, p2, p3, p4, p5, p6⟩ := q5
      obtain ⟨o1, o2, o3, o4, o5, o6⟩ := k5
      refine ⟨fun k hk => ?_, fun k hk => ?_, fun k hk => ?_, ?_, ?_, ?_⟩
      · by_cases c : k < min t t'
        · rw [show S' (4 + 3) k = Sx 12 k from (c1 k c).1, show S' (4 + 4) k = Sx 13 k from (c1 k c).2, (ui k c).1, (ui k c).2.2.1]; exact o1 k (by omega)
        · rw [show S' (4 + 3) k = Sx 7 k from (c2 k (by omega)).1, show S' (4 + 4) k = Sx 8 k from (c2 k (by omega)).2, (uo k hk c).1, (uo k hk c).2.2.1]; exact p1 k hk
      · rw [(c3 k (by omega)).1, (c3 k (by omega)).2]
        by_cases c : k < min t t'
        · rw [if_pos c, if_pos c, (ui k c).2.1, (ui k c).2.2.2]; exact o2 k (by omega)
        · rw [if_neg c, if_neg c, (uo k hk c).2.1, (uo k hk c).2.2.2]; exact p2 k hk
      · by_cases c : k < 32
        · rw [(c3 k c).1, (c3 k c).2, if_neg (by omega), if_neg (by omega)]; exact p3 k hk
        · exact ⟨b_big (by omega), b_big (by omega)⟩
      · rw [c4, o4]; unfold unR; rw [if_pos (by omega)]
      · rw [c5, o5]; unfold unR; rw [if_pos (by omega)]
      · rw [c6, o6]; unfold unR; rw [if_pos (by omega)]
    · rw [m1]
      refine ⟨fun k hk => ?_, ?_, ?_⟩
      · by_cases c : k < min t t'
        · rw [(ui k c).1, (ui k c).2.1, (ui k c).2.2.1, (ui k c).2.2.2]; exact k6.1 k (by omega)
        · rw [(uo k hk c).1, (uo k hk c).2.1, (uo k hk c).2.2.1, (uo k hk c).2.2.2]; exact q6.1 k hk
      · unfold unR; rw [if_pos (by omega)]; exact k6.2.1
      · unfold unR; rw [if_pos (by omega)]; exact k6.2.2
end STP
