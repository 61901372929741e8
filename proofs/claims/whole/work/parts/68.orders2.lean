/-! ORDERS, the reference's way -/
theorem ib0 : (if (false = true) then (1 : Int32) else 0) = 0 := rfl
theorem ib1 : ¬ (if (true = true) then (1 : Int32) else 0) = 0 := by decide
def TH (r : Nat → Int32) (t : Nat) (th : Nat → Nat) : Prop := ∀ i, i < fb_ct (lf r) t → th i < t ∧ lf r (th i) = true ∧ fb_ct (lf r) (th i) = i
theorem TH.ex (r : Nat → Int32) (t : Nat) : ∃ th, TH r t th := by
  have h : ∀ i, ∃ k, i < fb_ct (lf r) t → k < t ∧ lf r k = true ∧ fb_ct (lf r) k = i := fun i => by
    by_cases hi : i < fb_ct (lf r) t
    · obtain ⟨k, h1, h2, h3⟩ := fb_ct_kth hi
      exact ⟨k, fun _ => ⟨h1, h2, h3⟩⟩
    · exact ⟨0, fun z => absurd z hi⟩
  exact ⟨fun i => Classical.choose (h i), fun i hi => Classical.choose_spec (h i) hi⟩
section FO
variable {r : Nat → Int32} {t : Nat} {th : Nat → Nat}
theorem rk_lt {k : Nat} (hk : k < t) (h : lf r k = true) : fb_ct (lf r) k < fb_ct (lf r) t := by
  have := fb_ct_mono (lf r) (m := k + 1) (n := t) (by omega)
  rw [fb_ct_succ, if_pos h] at this
  omega
theorem TH.rk (h : TH r t th) {k : Nat} (hk : k < t) (hl : lf r k = true) : th (fb_ct (lf r) k) = k := by
  obtain ⟨-, h2, h3⟩ := h _ (rk_lt hk hl)
  exact fb_ct_kth_one h2 hl h3
theorem TH.inj (h : TH r t th) {i j : Nat} (hi : i < fb_ct (lf r) t) (hj : j < fb_ct (lf r) t) (e : th i = th j) : i = j := by
  rw [← (h i hi).2.2, ← (h j hj).2.2, e]
theorem TH.sum (h : TH r t th) (f : Nat → Nat) : ∀ q, q ≤ t → fb_sm (fun k => if lf r k then f k else 0) q = fb_sm (fun i => f (th i)) (fb_ct (lf r) q)
  | 0, _ => rfl
  | q + 1, hq => by
    rw [fb_sm_succ, h.sum f q (by omega), fb_ct_succ]
    cases hl : lf r q with
    | false => rfl
    | true =>
      simp only [↓reduceIte]
      rw [fb_sm_succ, h.rk (by omega) hl]
theorem eL_cong {par : Nat → Nat} {n : Nat} : ∀ s (U V : PSet), (∀ k, k < n → U k = V k) → eL par n s U = eL par n s V
  | 0, _, _, _ => rfl
  | s + 1, U, V, h => by
    rw [eL, eL]
    apply fb_sm_cong
    intro j hj
    have l : leafB par n U j = leafB par n V j := by
      unfold leafB
      apply decide_eq_decide.mpr
      constructor
      · intro z c hc hv; exact z c hc (by rw [h c hc]; exact hv)
      · intro z c hc hv; exact z c hc (by rw [← h c hc]; exact hv)
    rw [h j hj, l, eL_cong s (del U j) (del V j) (fun k hk => by unfold del; rw [h k hk])]
/-- the set of a mask -/
def UM (r : Nat → Int32) (m : Nat) : PSet := fun k => lf r k && m.testBit (fb_ct (lf r) k)
def idl (r wa : Nat → Int32) (t m : Nat) : Prop := ∀ k, k < t → lf r k = true → m.testBit (fb_ct (lf r) k) = true → pt r wa t k < t → m.testBit (fb_ct (lf r) (pt r wa t k)) = true
theorem xor_lt {m i : Nat} (h : m.testBit i = true) : m ^^^ 2 ^ i < m := by
  have e : (m ^^^ 2 ^ i) &&& m = m ^^^ 2 ^ i := by
    apply Nat.eq_of_testBit_eq
    intro q
    rw [Nat.testBit_and, fb_bit_flip]
    by_cases hq : q = i
    · subst hq; rw [h]; simp
    · simp [hq]
  have l : m ^^^ 2 ^ i ≤ m := by rw [← e]; exact Nat.and_le_right
  have n : m ^^^ 2 ^ i ≠ m := fun z => by
    have := fb_bit_flip m i i
    rw [z, h] at this
    simp at this
  omega
theorem UM_del {m i : Nat} (h : TH r t th) (hi : i < fb_ct (lf r) t) (hb : m.testBit i = true) : del (UM r m) (th i) = UM r (m ^^^ 2 ^ i) := by
  obtain ⟨h1, h2, h3⟩ := h i hi
  funext k
  unfold del UM
  rw [fb_bit_flip]
  by_cases e : k = th i
  · rw [if_pos e, e, h3, hb]; simp
  · rw [if_neg e]
    cases hl : lf r k with
    | false => rfl
    | true =>
      have : ¬ fb_ct (lf r) k = i := fun z => e (fb_ct_kth_one hl h2 (by rw [z, h3]))
      simp [this]
end FO
section M
variable {S : St} {t n : Nat} {th : Nat → Nat} {r wa : Nat → Int32}
theorem m_has {m i : Nat} (hm : m < 2 ^ 31) (hi : i < 32) : f_Mo_has S (nI m) (nI i) = some (if m.testBit i then 1 else 0) := by
  unfold f_Mo_has
  rw [shr1 hm hi]
  cases m.testBit i with
  | false => rfl
  | true => rfl
theorem m_placeOf (h : TH r t th) (hn : fb_ct (lf r) t = n) (n12 : n ≤ 12) (ht : t ≤ 24) (h24 : ∀ i, i < n → S 24 i = nI (th i)) {a : Nat} (ha : a < t) : f_Mo_placeOf S (nI a) (nI n) = some (if lf r a then nI (fb_ct (lf r) a) else -1) := by
  obtain ⟨F0, hF0⟩ : ∃ F, FU = F := ⟨_, rfl⟩
  have hF0' : 300 < F0 := by rw [← hF0]; exact FU_gt (by omega)
  have key : ∀ d i F, i + d = n → d < F → (∀ i', i' < i → th i' ≠ a) → f_Mo_placeOf_2 F S (nI a) (nI n) (nI i) = some (if lf r a then nI (fb_ct (lf r) a) else -1) := by
    intro d
    induction d with
    | zero =>
      intro i F hi hF hno
      obtain ⟨F, rfl⟩ : ∃ z, F = z + 1 := ⟨F - 1, by omega⟩
      rw [f_Mo_placeOf_2, if_pos (yle (by omega))]
      cases hl : lf r a with
      | false => rfl
      | true =>
        have := rk_lt ha hl
        exact absurd (h.rk ha hl) (hno _ (by omega))
    | succ d ih =>
      intro i F hi hF hno
      obtain ⟨F, rfl⟩ : ∃ z, F = z + 1 := ⟨F - 1, by omega⟩
      have c1 : (nI i).toNatClampNeg = i := cl
      obtain ⟨b1, b2, b3⟩ := h i (by omega)
      rw [f_Mo_placeOf_2, if_neg (nle (by omega)), if_pos (gn (by omega) (by omega)), c1, h24 i (by omega)]
      by_cases e : th i = a
      · rw [if_pos (by rw [e]), ← e, b2, b3]; rfl
      · rw [if_neg (fun z => e (nI_inj (by omega) (by omega) z)), Option.bind_some, nI_1]
        exact ih (i + 1) F (by omega) (by omega) (fun i' hi' => by
          by_cases q : i' = i
          · rw [q]; exact e
          · exact hno i' (by omega))
  unfold f_Mo_placeOf
  rw [Option.bind_some, hF0]
  exact key n 0 F0 (by omega) (by omega) (fun _ z => by omega)
theorem and_not {m i : Nat} (hm : m < 4096) (hi : i < 12) (hb : m.testBit i = true) : nI m &&& (jshl 1 (nI i) ^^^ (-1)) = nI (m ^^^ 2 ^ i) := by
  apply b_ext
  intro q hq
  have := xor_lt hb
  rw [b_and, b_xor, b_m1 q hq, bt_shl1 (by omega) hq, bt_nI (by omega), bt_nI (by omega), fb_bit_flip]
  by_cases e : q = i
  · subst e; rw [hb]; simp
  · simp [e]
def lfy (wa : Nat → Int32) (th : Nat → Nat) (n m i : Nat) : Prop := ∀ j, j < n → m.testBit j = true → wa (th j) ≠ nI (th i)
theorem m_waysTo (h : TH r t th) (hn : fb_ct (lf r) t = n) (n12 : n ≤ 12) (ht : t ≤ 24) (h24 : ∀ i, i < n → S 24 i = nI (th i)) {m i : Nat} (hm : m < 2 ^ n) (hi : i < n) (hb : m.testBit i = true) : ∃ b : Bool, (b = true ↔ lfy (S 5) th n m i) ∧ f_Mo_waysTo S (nI m) (nI i) (nI n) = some (if b then S 25 (m ^^^ 2 ^ i) else 0) := by
  obtain ⟨F0, hF0⟩ : ∃ F, FU = F := ⟨_, rfl⟩
  have hF0' : 300 < F0 := by rw [← hF0]; exact FU_gt (by omega)
  have hpp : 2 ^ n ≤ 4096 := Nat.pow_le_pow_right (by omega : 2 > 0) n12
  have key : ∀ d j F, j + d = n → d < F → (∀ j', j' < j → m.testBit j' = true → S 5 (th j') ≠ nI (th i)) → ∃ b : Bool, (b = true ↔ lfy (S 5) th n m i) ∧ f_Mo_waysTo_3 F S (nI m) (nI i) (nI n) (nI j) = some (if b then S 25 (m ^^^ 2 ^ i) else 0) := by
    intro d
    induction d with
    | zero =>
      intro j F hj hF hno
      obtain ⟨F, rfl⟩ : ∃ z, F = z + 1 := ⟨F - 1, by omega⟩
      have lt := xor_lt hb
      have c1 : (nI (m ^^^ 2 ^ i)).toNatClampNeg = m ^^^ 2 ^ i := cl
      refine ⟨true, ⟨fun _ j' hj' => hno j' (by omega), fun _ => rfl⟩, ?_⟩
      rw [f_Mo_waysTo_3, if_pos (yle (by omega)), and_not (by omega) (by omega) hb, if_pos (gn (by omega) (by omega)), c1, if_pos rfl]
    | succ d ih =>
      intro j F hj hF hno
      obtain ⟨F, rfl⟩ : ∃ z, F = z + 1 := ⟨F - 1, by omega⟩
      obtain ⟨b1, b2, b3⟩ := h j (by omega)
      have c1 : (nI j).toNatClampNeg = j := cl
      have c2 : (nI i).toNatClampNeg = i := cl
      have c3 : (nI (th j)).toNatClampNeg = th j := cl
      rw [f_Mo_waysTo_3, if_neg (nle (by omega)), m_has (by omega) (by omega), Option.bind_some]
      unfold f_Mo_waysTo_41
      rw [Option.bind_some, nI_1]
      cases hbj : m.testBit j with
      | false =>
        rw [if_pos ib0]
        exact ih (j + 1) F (by omega) (by omega) (fun j' hj' hb' => by
          by_cases q : j' = j
          · rw [q, hbj] at hb'; cases hb'
          · exact hno j' (by omega) hb')
      | true =>
        rw [if_neg ib1, c1, c2, h24 j (by omega), h24 i hi, c3, if_pos (gn (by omega) (by omega)), if_pos (gn (by omega) (by omega)), if_pos (gn (by omega) (by omega))]
        by_cases e : S 5 (th j) = nI (th i)
        · rw [if_pos e]
          exact ⟨false, ⟨fun z => Bool.noConfusion z, fun z => absurd e (z j (by omega) hbj)⟩, rfl⟩
        · rw [if_neg e]
          exact ih (j + 1) F (by omega) (by omega) (fun j' hj' hb' => by
            by_cases q : j' = j
            · rw [q]; exact e
            · exact hno j' (by omega) hb')
  unfold f_Mo_waysTo
  rw [Option.bind_some, hF0]
  exact key n 0 F0 (by omega) (by omega) (fun _ z => by omega)
/-- what the thing i adds to the mask m -/
def tmI (r wa : Nat → Int32) (t : Nat) (th : Nat → Nat) (n : Nat) (d : Nat → Int32) (m i : Nat) : Int32 := if m.testBit i && leafB (pt r wa t) t (UM r m) (th i) then d (m ^^^ 2 ^ i) else 0
theorem lfy_leaf (h : TH r t th) (hn : fb_ct (lf r) t = n) (hw : ∀ k, k < t → wa k = -1 ∨ ∃ a, a < k ∧ wa k = nI a) (ht : t ≤ 24) {m i : Nat} (hi : i < n) : lfy wa th n m i ↔ leafB (pt r wa t) t (UM r m) (th i) = true := by
  obtain ⟨h1, h2, h3⟩ := h i (by omega)
  have eq : ∀ c, c < t → lf r c = true → (pt r wa t c = th i ↔ wa c = nI (th i)) := fun c hc hl => by
    rcases hw c hc with e | ⟨a, a1, a2⟩
    · rw [pt_no e, e]
      constructor
      · intro z; omega
      · intro z; exact absurd z.symm (nI_m1 (by omega))
    · rw [pt_yes a2 (by omega), hl, a2, Bool.true_and]
      constructor
      · intro z
        cases hla : lf r a with
        | false => rw [hla, if_neg (by decide)] at z; omega
        | true => rw [hla, if_pos rfl] at z; rw [z]
      · intro z
        have z' := nI_inj (by omega) (by omega) z
        rw [z', h2, if_pos rfl]
  unfold lfy leafB
  rw [decide_eq_true_eq]
  constructor
  · intro z c hc hu
    unfold UM at hu
    rw [Bool.and_eq_true] at hu
    have r1 := rk_lt hc hu.1
    have := z (fb_ct (lf r) c) (by omega) hu.2
    rw [h.rk hc hu.1] at this
    exact fun q => this ((eq c hc hu.1).mp q)
  · intro z j hj hb q
    obtain ⟨b1, b2, b3⟩ := h j (by omega)
    refine z (th j) b1 ?_ ((eq _ b1 b2).mpr q)
    unfold UM
    rw [b2, b3, hb]; rfl
theorem m_ord75 (h : TH r t th) (hn : fb_ct (lf r) t = n) (n12 : n ≤ 12) (ht : t ≤ 24) (hw : ∀ k, k < t → wa k = -1 ∨ ∃ a, a < k ∧ wa k = nI a) {m : Nat} (hm : m < 2 ^ n) (K : St → Int32 → Int32 → Option (Int32 × St)) : ∀ d i F (S : St), i + d = n → d < F → (∀ i, i < n → S 24 i = nI (th i)) → S 5 = wa → ∃ S', f_Mo_orders_75 K F S (nI n) (nI m) (nI i) = K S' (nI n) (nI (m + 1)) ∧ (∀ k, k ≠ 25 → S' k = S k) ∧ (∀ j, j ≠ m → S' 25 j = S 25 j) ∧ (idl r wa t m → S' 25 m = foldN (fun i a => a + tmI r wa t th n (S 25) m i) d i (S 25 m)) := by
  have hpp : 2 ^ n ≤ 4096 := Nat.pow_le_pow_right (by omega : 2 > 0) n12
  intro d
  induction d with
  | zero =>
    intro i F S hi hF h24 hS
    obtain ⟨F, rfl⟩ : ∃ z, F = z + 1 := ⟨F - 1, by omega⟩
    refine ⟨S, ?_, fun _ _ => rfl, fun _ _ => rfl, fun _ => rfl⟩
    rw [f_Mo_orders_75, if_pos (yle (by omega)), Option.bind_some, nI_1]
  | succ d ih =>
    intro i F S hi hF h24 hS
    obtain ⟨F, rfl⟩ : ∃ z, F = z + 1 := ⟨F - 1, by omega⟩
    have hin : i < n := by omega
    obtain ⟨b1, b2, b3⟩ := h i (by omega)
    have c1 : (nI i).toNatClampNeg = i := cl
    have c3 : (nI (th i)).toNatClampNeg = th i := cl
    have c4 : (nI m).toNatClampNeg = m := cl
    -- pass over it
    have skip : (idl r wa t m → tmI r wa t th n (S 25) m i = 0) → ∃ S', f_Mo_orders_75 K F S (nI n) (nI m) (nI (i + 1)) = K S' (nI n) (nI (m + 1)) ∧ (∀ k, k ≠ 25 → S' k = S k) ∧ (∀ j, j ≠ m → S' 25 j = S 25 j) ∧ (idl r wa t m → S' 25 m = foldN (fun i a => a + tmI r wa t th n (S 25) m i) (d + 1) i (S 25 m)) := fun hz => by
      obtain ⟨S', e1, e2, e3, e4⟩ := ih (i + 1) F S (by omega) (by omega) h24 hS
      refine ⟨S', e1, e2, e3, fun hid => ?_⟩
      rw [e4 hid, foldN, hz hid, Int32.add_zero]
    have add : m.testBit i = true → ∃ S', f_Mo_orders_140 K (f_Mo_orders_75 K F) S (nI n) (nI m) (nI i) = K S' (nI n) (nI (m + 1)) ∧ (∀ k, k ≠ 25 → S' k = S k) ∧ (∀ j, j ≠ m → S' 25 j = S 25 j) ∧ (idl r wa t m → S' 25 m = foldN (fun i a => a + tmI r wa t th n (S 25) m i) (d + 1) i (S 25 m)) := fun hb => by
      obtain ⟨b, hb1, hb2⟩ := m_waysTo h hn n12 ht h24 hm hin hb
      rw [hS, lfy_leaf h hn hw ht hin] at hb1
      have be : b = leafB (pt r wa t) t (UM r m) (th i) := by
        cases b with
        | false =>
          cases q : leafB (pt r wa t) t (UM r m) (th i) with
          | false => rfl
          | true => exact hb1.mpr q
        | true => exact (hb1.mp rfl).symm
      have te : (if b then S 25 (m ^^^ 2 ^ i) else 0) = tmI r wa t th n (S 25) m i := by
        unfold tmI
        rw [hb, Bool.true_and, be]
      unfold f_Mo_orders_140 f_Mo_orders_160
      rw [if_pos (gn (by omega) (by omega)), hb2, Option.bind_some, if_pos (gn (by omega) (by omega)), Option.bind_some, Option.bind_some, nI_1, c4, te]
      obtain ⟨S', e1, e2, e3, e4⟩ := ih (i + 1) F (sF S 25 m (S 25 m + tmI r wa t th n (S 25) m i)) (by omega) (by omega) (fun i hi => by rw [sF_ne (by omega)]; exact h24 i hi) (by rw [sF_rne (by omega)]; exact hS)
      refine ⟨S', e1, fun k hk => by rw [e2 k hk, sF_rne hk], fun j hj => by rw [e3 j hj, sF_ne (Or.inr hj)], fun hid => ?_⟩
      rw [e4 hid, foldN, sF_at]
      apply foldN_cong
      intro k a _ _
      have : tmI r wa t th n (sF S 25 m (S 25 m + tmI r wa t th n (S 25) m i) 25) m k = tmI r wa t th n (S 25) m k := by
        unfold tmI
        cases hk : m.testBit k with
        | false => rfl
        | true =>
          have lt := xor_lt hk
          rw [sF_ne (Or.inr (by omega))]
      rw [this]
    have z0 : m.testBit i = false → tmI r wa t th n (S 25) m i = 0 := fun z => by unfold tmI; rw [z]; rfl
    have w115 : ∀ s0 : Int32, (s0 = -1 ∨ ∃ p, p < n ∧ s0 = nI p ∧ (idl r wa t m → m.testBit i = true → m.testBit p = true)) → ∃ S', f_Mo_orders_115 K (f_Mo_orders_75 K F) S (nI n) (nI m) (nI i) s0 = K S' (nI n) (nI (m + 1)) ∧ (∀ k, k ≠ 25 → S' k = S k) ∧ (∀ j, j ≠ m → S' 25 j = S 25 j) ∧ (idl r wa t m → S' 25 m = foldN (fun i a => a + tmI r wa t th n (S 25) m i) (d + 1) i (S 25 m)) := fun s0 hs => by
      unfold f_Mo_orders_115
      rw [m_has (by omega) (by omega), Option.bind_some]
      unfold f_Mo_orders_160
      rw [Option.bind_some, nI_1]
      cases hb : m.testBit i with
      | false =>
        rw [if_pos ib0]
        exact skip (fun _ => z0 hb)
      | true =>
        rw [if_neg ib1]
        rcases hs with e | ⟨p, p1, p2, p3⟩
        · rw [if_pos e]; exact add hb
        · rw [p2, if_neg (nI_m1 (by omega)), m_has (by omega) (by omega), Option.bind_some]
          cases hp : m.testBit p with
          | false =>
            rw [if_pos ib0]
            exact skip (fun hid => by have := p3 hid hb; rw [hp] at this; cases this)
          | true =>
            rw [if_neg ib1]; exact add hb
    rw [f_Mo_orders_75, if_neg (nle (by omega)), c1, h24 i hin, c3, hS, if_pos (gn (by omega) (by omega)), if_pos (gn (by omega) (by omega))]
    rcases hw (th i) b1 with e | ⟨a, a1, a2⟩
    · rw [if_pos e]
      exact w115 (-1) (Or.inl rfl)
    · rw [a2, if_neg (nI_m1 (by omega)), if_pos (gn (by omega) (by omega)), if_pos (gn (by omega) (by omega)), m_placeOf h hn n12 ht h24 (by omega), Option.bind_some]
      apply w115
      cases hla : lf r a with
      | false => exact Or.inl rfl
      | true =>
        have r1 := rk_lt (t := t) (by omega) hla
        refine Or.inr ⟨fb_ct (lf r) a, by omega, rfl, fun hid hb => ?_⟩
        have pe : pt r wa t (th i) = a := by rw [pt_yes a2 (by omega), b2, hla]; rfl
        have := hid (th i) b1 b2 (by rw [b3]; exact hb) (by omega)
        rw [pe] at this
        exact this
theorem fold_sum (f : Nat → Nat) : ∀ d i a, foldN (fun i (a : Int32) => a + nI (f i)) d i (nI (a + fb_sm f i)) = nI (a + fb_sm f (i + d))
  | 0, _, _ => rfl
  | d + 1, i, a => by
    rw [foldN, nIx, Nat.add_assoc, ← fb_sm_succ, fold_sum f d (i + 1) a]
    congr 3
    omega
def oInv (r wa : Nat → Int32) (t m : Nat) (d : Nat → Int32) : Prop := ∀ m', m' < m → idl r wa t m' → d m' = nI (eL (pt r wa t) t (fb_ct (UM r m') t) (UM r m'))
theorem tm_sum (h : TH r t th) (hn : fb_ct (lf r) t = n) {m : Nat} {d : Nat → Int32} (hm : m < 2 ^ n) (hid : idl r wa t m) (hI : oInv r wa t m d) : foldN (fun i a => a + tmI r wa t th n d m i) n 0 (if m = 0 then 1 else 0) = nI (eL (pt r wa t) t (fb_ct (UM r m) t) (UM r m)) := by
  by_cases m0 : m = 0
  · subst m0
    rw [if_pos rfl]
    have z : fb_ct (UM r 0) t = 0 := fb_ct_zero.mpr (fun k _ => by unfold UM; rw [Nat.zero_testBit, Bool.and_false])
    rw [z, eL, foldN_cong (g' := fun i (a : Int32) => a + nI ((fun _ => 0) i)) _ _ _ (fun k a _ _ => by unfold tmI; rw [Nat.zero_testBit]; rfl)]
    have := fold_sum (fun _ => 0) n 0 1
    rw [fb_sm_const, fb_sm_const] at this
    simp only [Nat.mul_zero, Nat.add_zero] at this
    exact this
  · rw [if_neg m0]
    have hp : 0 < fb_ct (UM r m) t := by
      have : ∃ i, m.testBit i = true := by
        refine Classical.byContradiction fun hx => m0 ?_
        apply Nat.eq_of_testBit_eq
        intro i
        rw [Nat.zero_testBit]
        cases q : m.testBit i with
        | false => rfl
        | true => exact absurd ⟨i, q⟩ hx
      obtain ⟨i, hi⟩ := this
      have hin : i < n := by
        refine Classical.byContradiction fun hx => ?_
        have : m < 2 ^ i := Nat.lt_of_lt_of_le hm (Nat.pow_le_pow_right (by omega) (by omega))
        rw [Nat.testBit_lt_two_pow this] at hi
        cases hi
      obtain ⟨b1, b2, b3⟩ := h i (by omega)
      exact fb_ct_pos.mpr ⟨th i, b1, by unfold UM; rw [b2, b3, hi]; rfl⟩
    obtain ⟨s, hs⟩ : ∃ s, fb_ct (UM r m) t = s + 1 := ⟨fb_ct (UM r m) t - 1, by omega⟩
    rw [hs, eL]
    have e1 : fb_sm (fun j => if UM r m j && leafB (pt r wa t) t (UM r m) j then eL (pt r wa t) t s (del (UM r m) j) else 0) t = fb_sm (fun k => if lf r k then (if m.testBit (fb_ct (lf r) k) && leafB (pt r wa t) t (UM r m) k then eL (pt r wa t) t s (del (UM r m) k) else 0) else 0) t := by
      apply fb_sm_cong
      intro k hk
      have : UM r m k = (lf r k && m.testBit (fb_ct (lf r) k)) := rfl
      rw [this]
      cases lf r k with
      | false => rfl
      | true => rw [Bool.true_and, if_pos rfl]
    rw [e1, h.sum _ t (Nat.le_refl _), hn]
    have fs := fold_sum (fun i => if m.testBit (fb_ct (lf r) (th i)) && leafB (pt r wa t) t (UM r m) (th i) then eL (pt r wa t) t s (del (UM r m) (th i)) else 0) n 0 0
    rw [Nat.zero_add, Nat.zero_add, Nat.zero_add] at fs
    refine Eq.trans ?_ fs
    show foldN _ n 0 (nI 0) = _
    have c0 : fb_sm (fun i => if m.testBit (fb_ct (lf r) (th i)) && leafB (pt r wa t) t (UM r m) (th i) then eL (pt r wa t) t s (del (UM r m) (th i)) else 0) 0 = 0 := rfl
    rw [c0]
    apply foldN_cong
    intro i a _ hi
    congr 1
    obtain ⟨b1, b2, b3⟩ := h i (by omega)
    unfold tmI
    show _ = nI (if m.testBit (fb_ct (lf r) (th i)) && leafB (pt r wa t) t (UM r m) (th i) then eL (pt r wa t) t s (del (UM r m) (th i)) else 0)
    rw [b3]
    cases hc : (m.testBit i && leafB (pt r wa t) t (UM r m) (th i)) with
    | false => rfl
    | true =>
      rw [if_pos rfl, if_pos rfl]
      rw [Bool.and_eq_true] at hc
      have ud := UM_del h (by omega) hc.1
      have um : UM r m (th i) = true := by unfold UM; rw [b2, b3, hc.1]; rfl
      have sz := del_size b1 um hs
      rw [ud] at sz ⊢
      rw [hI _ (xor_lt hc.1) ?_, sz]
      intro k hk hl hbk hpk
      rw [fb_bit_flip] at hbk ⊢
      have l2 := pt_lf hpk
      have nk : fb_ct (lf r) k ≠ i := fun z => by rw [z, hc.1] at hbk; simp at hbk
      have bk : m.testBit (fb_ct (lf r) k) = true := by simpa [nk] using hbk
      have bp := hid k hk hl bk hpk
      have np : fb_ct (lf r) (pt r wa t k) ≠ i := fun z => by
        have e := fb_ct_kth_one l2.2 b2 (by rw [z, b3])
        have lv := hc.2
        unfold leafB at lv
        exact (of_decide_eq_true lv) k hk (by unfold UM; rw [hl, bk]; rfl) e
      rw [bp]; simp [np]
theorem m_ord51 (h : TH r t th) (hn : fb_ct (lf r) t = n) (n12 : n ≤ 12) (ht : t ≤ 24) (hw : ∀ k, k < t → wa k = -1 ∨ ∃ a, a < k ∧ wa k = nI a) {F0 : Nat} (hF0 : FU = F0) (hF0' : 300 < F0) : ∀ d m F (S : St), m + d = 2 ^ n → d < F → (∀ i, i < n → S 24 i = nI (th i)) → S 5 = wa → oInv r wa t m (S 25) → ∃ S', f_Mo_orders_51 F S (nI n) (nI m) = some (nI (eL (pt r wa t) t n (lf r)), S') := by
  have hpp : 2 ^ n ≤ 4096 := Nat.pow_le_pow_right (by omega : 2 > 0) n12
  have hp1 : 0 < 2 ^ n := Nat.two_pow_pos n
  intro d
  induction d with
  | zero =>
    intro m F S hm hF h24 hS hI
    obtain ⟨F, rfl⟩ : ∃ z, F = z + 1 := ⟨F - 1, by omega⟩
    have c1 : (nI (2 ^ n - 1)).toNatClampNeg = 2 ^ n - 1 := cl
    have bits : ∀ k, k < t → lf r k = true → (2 ^ n - 1).testBit (fb_ct (lf r) k) = true := fun k hk hl => by
      have := rk_lt hk hl
      rw [Nat.testBit_two_pow_sub_one]
      exact decide_eq_true (by omega)
    have ue : ∀ k, k < t → UM r (2 ^ n - 1) k = lf r k := fun k hk => by
      unfold UM
      cases hl : lf r k with
      | false => rfl
      | true => rw [bits k hk hl]; rfl
    refine ⟨S, ?_⟩
    rw [f_Mo_orders_51, shl1 (by omega), if_pos (yle (by omega)), show nI (2 ^ n) - 1 = nI (2 ^ n - 1) from pk_sub (a := 2 ^ n) (b := 1) (by omega), if_pos (gn (by omega) (by omega)), c1, hI (2 ^ n - 1) (by omega) (fun k hk hl _ hp => bits _ hp (pt_lf hp).2), fb_ct_cong ue, hn, eL_cong n _ _ ue]
  | succ d ih =>
    intro m F S hm hF h24 hS hI
    obtain ⟨F, rfl⟩ : ∃ z, F = z + 1 := ⟨F - 1, by omega⟩
    have c1 : (nI m).toNatClampNeg = m := cl
    obtain ⟨v, hv⟩ : ∃ v : Int32, v = if m = 0 then 1 else 0 := ⟨_, rfl⟩
    obtain ⟨S', e1, e2, e3, e4⟩ := m_ord75 h hn n12 ht hw (show m < 2 ^ n by omega) (f_Mo_orders_51 F) n 0 F0 (sF S 25 m v) (by omega) (by omega) (fun i hi => by rw [sF_ne (by omega)]; exact h24 i hi) (by rw [sF_rne (by omega)]; exact hS)
    have I' : oInv r wa t (m + 1) (S' 25) := fun m' hm' hid => by
      by_cases q : m' = m
      · subst q
        rw [e4 hid, sF_at, hv]
        refine Eq.trans ?_ (tm_sum h hn (by omega) hid hI)
        apply foldN_cong
        intro i a _ _
        have : tmI r wa t th n (sF S 25 m' (if m' = 0 then 1 else 0) 25) m' i = tmI r wa t th n (S 25) m' i := by
          unfold tmI
          cases hk : m'.testBit i with
          | false => rfl
          | true =>
            have lt := xor_lt hk
            rw [sF_ne (Or.inr (by omega))]
        rw [← this]
      · rw [e3 m' q, sF_ne (Or.inr q)]
        exact hI m' (by omega) hid
    obtain ⟨S2, g⟩ := ih (m + 1) F S' (by omega) (by omega) (fun i hi => by rw [e2 24 (by omega), sF_ne (by omega)]; exact h24 i hi) (by rw [e2 5 (by omega), sF_rne (by omega)]; exact hS) I'
    refine ⟨S2, ?_⟩
    rw [f_Mo_orders_51, shl1 (by omega), if_neg (nle (by omega))]
    unfold f_Mo_orders_72
    rw [if_pos (gn (by omega) (by omega)), if_pos (gn (by omega) (by omega)), c1, hF0, Option.bind_some, Option.bind_some, Option.bind_some, Option.bind_some]
    have e1' : f_Mo_orders_75 (f_Mo_orders_51 F) F0 (sF S 25 m v) (nI n) (nI m) 0 = some (nI (eL (pt r wa t) t n (lf r)), S2) := e1.trans g
    by_cases m0 : m = 0
    · rw [if_pos (by rw [m0]; rfl)]
      rw [if_pos m0] at hv
      rw [hv] at e1'
      exact e1'
    · rw [if_neg (show ¬ nI m = 0 from fun z => m0 (nI_inj (b := 0) (by omega) (by omega) z))]
      rw [if_neg m0] at hv
      rw [hv] at e1'
      exact e1'
theorem m_ord4 {M : St} (hm : NM M t) (h : TH (M 1) t th) (n : Nat) (hn : fb_ct (lf (M 1)) t = n) (K : Int32 × St → Prop) (h13 : ∀ S', 12 < n → K (-4, S')) {F0 : Nat} (hF0 : FU = F0) (h51 : ∀ S', n ≤ 12 → (∀ k, k ≠ 24 → S' k = M k) → (∀ i, i < n → S' 24 i = nI (th i)) → ∃ w, f_Mo_orders_51 F0 S' (nI n) 0 = some w ∧ K w) : ∀ d j F (S : St), j + d = t → d < F → fb_ct (lf (M 1)) j ≤ 12 → (∀ k, k ≠ 24 → S k = M k) → (∀ i, i < fb_ct (lf (M 1)) j → S 24 i = nI (th i)) → ∃ w, f_Mo_orders_4 F S (nI (fb_ct (lf (M 1)) j)) (nI j) = some w ∧ K w := by
  have ht := hm.2
  intro d
  induction d with
  | zero =>
    intro j F S hj hF hc hS h24
    obtain ⟨F, rfl⟩ : ∃ z, F = z + 1 := ⟨F - 1, by omega⟩
    have : j = t := by omega
    subst this
    rw [f_Mo_orders_4, hS 0 (by omega), hm.1, if_pos (yle (Nat.le_refl _)), Option.bind_some, hF0, hn]
    rw [hn] at hc h24
    exact h51 S hc hS h24
  | succ d ih =>
    intro j F S hj hF hc hS h24
    obtain ⟨F, rfl⟩ : ∃ z, F = z + 1 := ⟨F - 1, by omega⟩
    have hjt : j < t := by omega
    have i1 := fb_ct_succ (lf (M 1)) j
    rw [f_Mo_orders_4, hS 0 (by omega), hm.1, if_neg (nle hjt), isL_y (by rw [hS 0 (by omega)]; exact hm.1) ht hjt, hS 1 (by omega), Option.bind_some]
    unfold f_Mo_orders_43
    simp only [Option.bind_some, nI_1]
    cases hl : lf (M 1) j with
    | false =>
      have hz : ¬ M 1 (72 + j) = 0 := of_decide_eq_false hl
      have i1 : fb_ct (lf (M 1)) (j + 1) = fb_ct (lf (M 1)) j := by rw [i1, hl]; rfl
      rw [if_neg hz, if_pos rfl, ← i1]
      exact ih (j + 1) F S (by omega) (by omega) (by omega) hS (by rw [i1]; exact h24)
    | true =>
      have hz : M 1 (72 + j) = 0 := of_decide_eq_true hl
      rw [hl, if_pos rfl] at i1
      rw [if_pos hz, if_neg i10]
      by_cases c12 : fb_ct (lf (M 1)) j = 12
      · rw [if_pos (by rw [c12]; rfl)]
        have := rk_lt hjt hl
        exact ⟨_, rfl, h13 _ (by omega)⟩
      · have c1 : (nI (fb_ct (lf (M 1)) j)).toNatClampNeg = fb_ct (lf (M 1)) j := cl
        have n12 : ¬ nI (fb_ct (lf (M 1)) j) = 12 := fun z => c12 (nI_inj (b := 12) (by omega) (by omega) z)
        rw [if_neg n12, if_pos (gn (by omega) (by omega)), c1, ← i1]
        refine ih (j + 1) F _ (by omega) (by omega) (by omega) (fun k hk => by rw [sF_rne hk]; exact hS k hk) (fun i hi => ?_)
        by_cases q : i = fb_ct (lf (M 1)) j
        · rw [q, sF_at, h.rk hjt hl]
        · rw [sF_ne (Or.inr q)]
          exact h24 i (by omega)
end M
section STP
variable {LR : St → St → Prop}
theorem st_orders (hL : LRc LR) : STEP (RelL LR) m_W_orders m_Mo_orders 4 4 [] := by
  intro Sx Sm hR
  obtain ⟨F0, hF0⟩ : ∃ F, FU = F := ⟨_, rfl⟩
  have hF0' : 5000 < F0 := by rw [← hF0]; exact FU_gt (by omega)
  obtain ⟨t, hx, hm⟩ := hR.2.1.np
  obtain ⟨th, hth⟩ := TH.ex (Sm 1) t
  have ht := hm.2
  have h1 := x_ordersLeft hx
  obtain ⟨n, hn⟩ : ∃ n, fb_ct (lf (Sm 1)) t = n := ⟨_, rfl⟩
  rw [hn] at h1
  obtain ⟨v, hv⟩ : ∃ v : Int32, v = if n ≤ 12 then nI (eF (pt (Sm 1) (Sm 5) t) t n (lf (Sm 1))) else -4 := ⟨_, rfl⟩
  rw [← hv] at h1
  have h2 : ∃ w, f_Mo_orders_4 F0 Sm (nI (fb_ct (lf (Sm 1)) 0)) (nI 0) = some w ∧ w.1 = v := by
    refine m_ord4 hm hth n hn (fun w => w.1 = v) (fun S' z => by rw [hv, if_neg (by omega)]) hF0 (fun S' n12 hS h24 => ?_) t 0 F0 Sm (by omega) (by omega) (by show 0 ≤ 12; omega) (fun _ _ => rfl) (fun i hi => absurd hi (Nat.not_lt_zero i))
    have hpp : 2 ^ n ≤ 4096 := Nat.pow_le_pow_right (by omega : 2 > 0) n12
    obtain ⟨S2, g⟩ := m_ord51 hth hn n12 ht hx.wal hF0 (by omega) (2 ^ n) 0 F0 S' (by omega) (by omega) h24 (hS 5 (by omega)) (fun _ z => absurd z (Nat.not_lt_zero _))
    refine ⟨_, g, ?_⟩
    show nI _ = v
    rw [hv, if_pos n12, eLF (pt_lt hx.wal ht) n _ hn]
  obtain ⟨w, h2, hw⟩ := h2
  have h3 : f_Mo_orders Sm = some w := by
    unfold f_Mo_orders
    rw [Option.bind_some, Option.bind_some, hF0]
    exact h2
  have h4 : f_W_orders Sx = some v := by
    unfold f_W_orders
    rw [h1, Option.bind_some]
  refine ⟨v, Sx, w.2, t_W_orders h4, hw ▸ t_Mo_orders h3, ?_⟩
  obtain ⟨n', q1, q2, q3, q4⟩ := hR.1
  refine ⟨⟨n', q1, q2, ?_, ?_⟩, hR.2.congr hL (fun _ _ _ => rfl) (fun k j hk => ?_)⟩
  · rw [w_Mo_orders h3 (by omega)]; exact q3
  · intro i hi
    rw [w_Mo_orders h3 (by omega)]; exact q4 i hi
  · unfold RM at hk
    exact w_Mo_orders h3 (by omega)
end STP
