/-! what the days change, seen from both sides: r is the reference's row -/
def NP (S : St) (P t : Nat) (r wh wa : Nat → Int32) : Prop := t ≤ 24 ∧ PS S P t wh wa ∧ WS t wh wa ∧ PR S P t r ∧ RR t r
def NM (M : St) (t : Nat) : Prop := M 0 5 = nI t ∧ t ≤ 24
theorem NowR.np {Sx Sm : St} (h : NowR Sx Sm) : ∃ t, NP Sx 4 t (Sm 1) (Sm 4) (Sm 5) ∧ NM Sm t := by
  obtain ⟨t, h1, h2, h3, h4, h5, h6⟩ := h
  exact ⟨t, ⟨h1, h3, h4, h5, h6⟩, h2, h1⟩
def gLeft (wh r : Nat → Int32) (who : Int32) (k : Nat) (a : Int32) : Int32 := if wh k = who then (if r (72 + k) = 0 then a + 1 else a) else a
def gDays (wh r : Nat → Int32) (who : Int32) (k : Nat) (a : Int32) : Int32 := if wh k = who then (if r (72 + k) = 0 then a + r (48 + k) else a) else a
def gLight (wh r : Nat → Int32) (who : Int32) (k : Nat) (a : Int32) : Int32 := if r (24 + k) = 1 then (if who = 16 ∨ wh k = who then a + r k else a) else a
def gWait (wa : Nat → Int32) (x : Int32) (k : Nat) (a : Int32) : Int32 := if wa k = x then a + 1 else a
def gOwn (wh r : Nat → Int32) (k : Nat) (a : Int32) : Int32 := if r (72 + k) = 0 then a ||| jshl 1 (wh k) else a
section X
variable {S : St} {P t : Nat} {r wh wa : Nat → Int32}
theorem NP.done (h : NP S P t r wh wa) {k : Nat} (hk : k < t) : f_Parish_isDone S P (nI k) = some (r (72 + k)) := by
  obtain ⟨ht, -, -, ⟨-, p2, -⟩, r1, -⟩ := h
  rw [done_e (by omega), (p2 k hk).2]
  rcases (r1 k hk).2.2.2 with e | e <;> rw [e] <;> rfl
theorem NP.lit (h : NP S P t r wh wa) {k : Nat} (hk : k < t) : f_Parish_isLit S P (nI k) = some (r (24 + k)) := by
  obtain ⟨ht, -, -, ⟨-, p2, -⟩, r1, -⟩ := h
  rw [lit_e (by omega), (p2 k hk).1]
  rcases (r1 k hk).2.1 with e | e <;> rw [e] <;> rfl
theorem NP.things (h : NP S P t r wh wa) : S P 6 = nI t := h.2.1.1
theorem NP.own (h : NP S P t r wh wa) {k : Nat} (hk : k < t) : S (P + 1) k = wh k := (h.2.1.2 k hk).1
theorem NP.wait (h : NP S P t r wh wa) {k : Nat} (hk : k < t) : S (P + 2) k = pw (wa k) := (h.2.1.2 k hk).2
theorem NP.len (h : NP S P t r wh wa) {k : Nat} (hk : k < t) : S (P + 3) k = r k := (h.2.2.2.1.1 k hk).1
theorem NP.off (h : NP S P t r wh wa) {k : Nat} (hk : k < t) : S (P + 4) k = r (48 + k) := (h.2.2.2.1.1 k hk).2
theorem NP.dn (h : NP S P t r wh wa) {k : Nat} (hk : k < t) : r (72 + k) = 0 ∨ r (72 + k) = 1 := (h.2.2.2.2.1 k hk).2.2.2
theorem NP.lt (h : NP S P t r wh wa) {k : Nat} (hk : k < t) : r (24 + k) = 0 ∨ r (24 + k) = 1 := (h.2.2.2.2.1 k hk).2.1
theorem x_leftOf (h : NP S P t r wh wa) (who : Int32) : f_Parish_leftOf S P who = some (foldN (gLeft wh r who) t 0 0) := by
  have ht := h.1
  have key := loopN (fun n j a => f_Parish_leftOf_4 P n S who a (nI j)) (fun a => some a) (gLeft wh r who) t ?_ ?_ t FU 0 0 (by omega) (FU_gt (by omega))
  · exact key
  · intro n a
    show f_Parish_leftOf_4 P (n + 1) S who a (nI t) = _
    rw [f_Parish_leftOf_4, h.things, if_pos (yle (Nat.le_refl t))]
  · intro n j a hj
    show f_Parish_leftOf_4 P (n + 1) S who a (nI j) = f_Parish_leftOf_4 P n S who _ (nI (j + 1))
    have c1 : (nI j).toNatClampNeg = j := cl
    rw [f_Parish_leftOf_4, h.things, if_neg (nle hj), if_neg (n24 (show j < 24 by omega)), if_pos (gn (show j < 24 by omega) (by omega)), c1, h.own hj, h.done hj]
    unfold gLeft f_Parish_leftOf_39
    simp only [Option.bind_some, nI_1]
    by_cases h1 : wh j = who
    · rcases h.dn hj with e | e
      · simp only [h1, e, ↓reduceIte]
      · simp only [h1, e, i10, ↓reduceIte]
    · simp only [h1, ↓reduceIte]
theorem x_putOffBy (h : NP S P t r wh wa) (who : Int32) : f_Parish_putOffBy S P who = some (foldN (gDays wh r who) t 0 0) := by
  have ht := h.1
  have key := loopN (fun n j a => f_Parish_putOffBy_4 P n S who a (nI j)) (fun a => some a) (gDays wh r who) t ?_ ?_ t FU 0 0 (by omega) (FU_gt (by omega))
  · exact key
  · intro n a
    show f_Parish_putOffBy_4 P (n + 1) S who a (nI t) = _
    rw [f_Parish_putOffBy_4, h.things, if_pos (yle (Nat.le_refl t))]
  · intro n j a hj
    show f_Parish_putOffBy_4 P (n + 1) S who a (nI j) = f_Parish_putOffBy_4 P n S who _ (nI (j + 1))
    have c1 : (nI j).toNatClampNeg = j := cl
    have g1 : ig (nI j) 24 = true := gn (show j < 24 by omega) (by omega)
    rw [f_Parish_putOffBy_4, h.things, if_neg (nle hj), if_neg (n24 (show j < 24 by omega)), if_pos g1, c1, h.own hj, h.done hj, h.off hj]
    unfold gDays f_Parish_putOffBy_45
    simp only [Option.bind_some, nI_1, g1, ↓reduceIte]
    by_cases h1 : wh j = who
    · rcases h.dn hj with e | e
      · simp only [h1, e, ↓reduceIte]
      · simp only [h1, e, i10, ↓reduceIte]
    · simp only [h1, ↓reduceIte]
theorem x_lightOf (h : NP S P t r wh wa) (who : Int32) : f_Parish_lightOf S P who = some (foldN (gLight wh r who) t 0 0) := by
  have ht := h.1
  have key := loopN (fun n j a => f_Parish_lightOf_4 P n S who a (nI j)) (fun a => some a) (gLight wh r who) t ?_ ?_ t FU 0 0 (by omega) (FU_gt (by omega))
  · exact key
  · intro n a
    show f_Parish_lightOf_4 P (n + 1) S who a (nI t) = _
    rw [f_Parish_lightOf_4, h.things, if_pos (yle (Nat.le_refl t))]
  · intro n j a hj
    show f_Parish_lightOf_4 P (n + 1) S who a (nI j) = f_Parish_lightOf_4 P n S who _ (nI (j + 1))
    have c1 : (nI j).toNatClampNeg = j := cl
    have g1 : ig (nI j) 24 = true := gn (show j < 24 by omega) (by omega)
    rw [f_Parish_lightOf_4, h.things, if_neg (nle hj), if_neg (n24 (show j < 24 by omega)), h.lit hj]
    unfold gLight f_Parish_lightOf_42 f_Parish_lightOf_51
    simp only [Option.bind_some, nI_1, g1, ↓reduceIte, c1, h.own hj, h.len hj]
    rcases h.lt hj with e | e
    · simp only [e, ↓reduceIte, i01]
    · simp only [e, i10, ↓reduceIte]
      by_cases h1 : who = 16
      · simp only [h1, ↓reduceIte, true_or]
      · by_cases h2 : wh j = who
        · simp only [h1, h2, ↓reduceIte, false_or]
        · simp only [h1, h2, ↓reduceIte, false_or]
theorem x_waitersFor (h : NP S P t r wh wa) {x : Nat} (hx : x < 24) : f_Parish_waitersFor S P (nI x) = some (foldN (gWait wa (nI x)) t 0 0) := by
  have ht := h.1
  have key := loopN (fun n j a => f_Parish_waitersFor_4 P n S (nI x) a (nI j)) (fun a => some a) (gWait wa (nI x)) t ?_ ?_ t FU 0 0 (by omega) (FU_gt (by omega))
  · exact key
  · intro n a
    show f_Parish_waitersFor_4 P (n + 1) S (nI x) a (nI t) = _
    rw [f_Parish_waitersFor_4, h.things, if_pos (yle (Nat.le_refl t))]
  · intro n j a hj
    show f_Parish_waitersFor_4 P (n + 1) S (nI x) a (nI j) = f_Parish_waitersFor_4 P n S (nI x) _ (nI (j + 1))
    have c1 : (nI j).toNatClampNeg = j := cl
    have g1 : ig (nI j) 24 = true := gn (show j < 24 by omega) (by omega)
    rw [f_Parish_waitersFor_4, h.things, if_neg (nle hj), if_neg (n24 (show j < 24 by omega)), if_pos g1, c1, h.wait hj]
    unfold gWait f_Parish_waitersFor_31 pw
    simp only [Option.bind_some, nI_1]
    by_cases h1 : wa j = -1
    · have h2 : ¬ (-2 : Int32) = nI x := fun e => nI_m2 (by omega) e.symm
      have h3 : ¬ (-1 : Int32) = nI x := fun e => nI_m1 (by omega) e.symm
      simp only [h1, h2, h3, ↓reduceIte]
    · by_cases h2 : wa j = nI x
      · simp only [h1, h2, ↓reduceIte]
        rw [if_neg (fun e => h1 (h2.trans e)), if_pos rfl]
      · simp only [h1, h2, ↓reduceIte]
theorem x_ownersLeft (h : NP S P t r wh wa) : f_Parish_ownersLeft S P = some (foldN (gOwn wh r) t 0 0) := by
  have ht := h.1
  have key := loopN (fun n j a => f_Parish_ownersLeft_4 P n S a (nI j)) (fun a => some a) (gOwn wh r) t ?_ ?_ t FU 0 0 (by omega) (FU_gt (by omega))
  · exact key
  · intro n a
    show f_Parish_ownersLeft_4 P (n + 1) S a (nI t) = _
    rw [f_Parish_ownersLeft_4, h.things, if_pos (yle (Nat.le_refl t))]
  · intro n j a hj
    show f_Parish_ownersLeft_4 P (n + 1) S a (nI j) = f_Parish_ownersLeft_4 P n S _ (nI (j + 1))
    have c1 : (nI j).toNatClampNeg = j := cl
    have g1 : ig (nI j) 24 = true := gn (show j < 24 by omega) (by omega)
    rw [f_Parish_ownersLeft_4, h.things, if_neg (nle hj), if_neg (n24 (show j < 24 by omega)), h.done hj]
    unfold gOwn f_Parish_ownersLeft_37
    simp only [Option.bind_some, nI_1, g1, ↓reduceIte, c1, h.own hj]
    rcases h.dn hj with e | e
    · simp only [e, ↓reduceIte]
    · simp only [e, i10, ↓reduceIte]
end X
section M
variable {M S : St} {t : Nat} {P : Nat} {wa : Nat → Int32}
theorem NM.left (h : NM M t) {k : Nat} (hk : k < t) : f_Mo_isLeft M (nI k) = some (if M 1 (72 + k) = 0 then 1 else 0) := isL_y h.1 h.2 hk
theorem m_leftOf (h : NM M t) (who : Int32) : f_Mo_leftOf M who = some (foldN (gLeft (M 4) (M 1) who) t 0 0) := by
  have ht := h.2
  have key := loopN (fun n j a => f_Mo_leftOf_4 n M who a (nI j)) (fun a => some a) (gLeft (M 4) (M 1) who) t ?_ ?_ t FU 0 0 (by omega) (FU_gt (by omega))
  · exact key
  · intro n a
    show f_Mo_leftOf_4 (n + 1) M who a (nI t) = _
    rw [f_Mo_leftOf_4, h.1, if_pos (yle (Nat.le_refl t))]
  · intro n j a hj
    show f_Mo_leftOf_4 (n + 1) M who a (nI j) = f_Mo_leftOf_4 n M who _ (nI (j + 1))
    have c1 : (nI j).toNatClampNeg = j := cl
    have g1 : ig (nI j) 24 = true := gn (show j < 24 by omega) (by omega)
    rw [f_Mo_leftOf_4, h.1, if_neg (nle hj), h.left hj]
    unfold gLeft f_Mo_leftOf_34
    simp only [Option.bind_some, nI_1, g1, ↓reduceIte, c1]
    by_cases h1 : M 1 (72 + j) = 0
    · by_cases h2 : M 4 j = who
      · simp only [h1, h2, i10, ↓reduceIte]
      · simp only [h1, h2, i10, ↓reduceIte]
    · simp only [h1, ↓reduceIte, ite_self]
theorem m_daysOf (h : NM M t) (who : Int32) : f_Mo_daysOf M who = some (foldN (gDays (M 4) (M 1) who) t 0 0) := by
  have ht := h.2
  have key := loopN (fun n j a => f_Mo_daysOf_4 n M who a (nI j)) (fun a => some a) (gDays (M 4) (M 1) who) t ?_ ?_ t FU 0 0 (by omega) (FU_gt (by omega))
  · exact key
  · intro n a
    show f_Mo_daysOf_4 (n + 1) M who a (nI t) = _
    rw [f_Mo_daysOf_4, h.1, if_pos (yle (Nat.le_refl t))]
  · intro n j a hj
    show f_Mo_daysOf_4 (n + 1) M who a (nI j) = f_Mo_daysOf_4 n M who _ (nI (j + 1))
    have c1 : (nI j).toNatClampNeg = j := cl
    have c2 : (nI (48 + j)).toNatClampNeg = 48 + j := cl
    have g1 : ig (nI j) 24 = true := gn (show j < 24 by omega) (by omega)
    have g2 : ig (nI (48 + j)) 99 = true := gn (by omega) (by omega)
    rw [f_Mo_daysOf_4, h.1, if_neg (nle hj), h.left hj]
    unfold gDays f_Mo_daysOf_42
    simp only [Option.bind_some, nI_1, g1, ↓reduceIte, c1, a48, g2, c2]
    by_cases h1 : M 1 (72 + j) = 0
    · by_cases h2 : M 4 j = who
      · simp only [h1, h2, i10, ↓reduceIte]
      · simp only [h1, h2, i10, ↓reduceIte]
    · simp only [h1, ↓reduceIte, ite_self]
theorem m_lightOf (h : NM M t) (hr : ∀ k, k < t → M 1 (24 + k) = 0 ∨ M 1 (24 + k) = 1) (who : Int32) : f_Mo_lightOf M who = some (foldN (gLight (M 4) (M 1) who) t 0 0) := by
  have ht := h.2
  have key := loopN (fun n j a => f_Mo_lightOf_4 n M who a (nI j)) (fun a => some a) (gLight (M 4) (M 1) who) t ?_ ?_ t FU 0 0 (by omega) (FU_gt (by omega))
  · exact key
  · intro n a
    show f_Mo_lightOf_4 (n + 1) M who a (nI t) = _
    rw [f_Mo_lightOf_4, h.1, if_pos (yle (Nat.le_refl t))]
  · intro n j a hj
    show f_Mo_lightOf_4 (n + 1) M who a (nI j) = f_Mo_lightOf_4 n M who _ (nI (j + 1))
    have c1 : (nI j).toNatClampNeg = j := cl
    have c2 : (nI (24 + j)).toNatClampNeg = 24 + j := cl
    have g1 : ig (nI j) 24 = true := gn (show j < 24 by omega) (by omega)
    have g2 : ig (nI (24 + j)) 99 = true := gn (by omega) (by omega)
    have g3 : ig (nI j) 99 = true := gn (by omega) (by omega)
    rw [f_Mo_lightOf_4, h.1, if_neg (nle hj)]
    unfold gLight f_Mo_lightOf_41 f_Mo_lightOf_52
    simp only [Option.bind_some, nI_1, g1, ↓reduceIte, c1, a24, g2, c2, z0I, g3]
    rcases hr j hj with e | e
    · simp only [e, ↓reduceIte, i01]
    · simp only [e, ↓reduceIte]
      by_cases h1 : who = 16
      · simp only [h1, ↓reduceIte, true_or]
      · by_cases h2 : M 4 j = who
        · simp only [h1, h2, ↓reduceIte, false_or]
        · simp only [h1, h2, ↓reduceIte, false_or]
theorem m_waitersOf (h : NM M t) (x : Int32) : f_Mo_waitersOf M x = some (foldN (gWait (M 5) x) t 0 0) := by
  have ht := h.2
  have key := loopN (fun n j a => f_Mo_waitersOf_4 n M x a (nI j)) (fun a => some a) (gWait (M 5) x) t ?_ ?_ t FU 0 0 (by omega) (FU_gt (by omega))
  · exact key
  · intro n a
    show f_Mo_waitersOf_4 (n + 1) M x a (nI t) = _
    rw [f_Mo_waitersOf_4, h.1, if_pos (yle (Nat.le_refl t))]
  · intro n j a hj
    show f_Mo_waitersOf_4 (n + 1) M x a (nI j) = f_Mo_waitersOf_4 n M x _ (nI (j + 1))
    have c1 : (nI j).toNatClampNeg = j := cl
    have g1 : ig (nI j) 24 = true := gn (show j < 24 by omega) (by omega)
    rw [f_Mo_waitersOf_4, h.1, if_neg (nle hj)]
    unfold gWait f_Mo_waitersOf_26
    simp only [Option.bind_some, nI_1, g1, ↓reduceIte, c1]
    by_cases h2 : M 5 j = x
    · simp only [h2, ↓reduceIte]
    · simp only [h2, ↓reduceIte]
end M
section STP
variable {LR : St → St → Prop}
theorem st_light (a : Int32) : STEP (RelL LR) m_W_light m_Mo_light 3 2 [a] := by
  intro Sx Sm hR
  obtain ⟨t, h, hm⟩ := hR.2.1.np
  have key : ∃ r, f_W_light Sx a = some r ∧ f_Mo_light Sm a = some r := by
    unfold f_W_light f_Mo_light f_W_within f_Mo_in
    by_cases h1 : a < 0
    · simp only [h1, ↓reduceIte, Option.bind_some]; exact ⟨_, rfl, rfl⟩
    · by_cases h2 : (16 : Int32) < a
      · simp only [h1, h2, ↓reduceIte, Option.bind_some]; exact ⟨_, rfl, rfl⟩
      · simp only [h1, h2, ↓reduceIte, Option.bind_some, i10, x_lightOf h, m_lightOf hm (fun k hk => h.lt hk)]; exact ⟨_, rfl, rfl⟩
  obtain ⟨r, hx, hm⟩ := key
  exact ⟨r, Sx, Sm, t_W_light hx, t_Mo_light hm, hR⟩
end STP
