/-! WAITING: how few must end, the reference's sets; the call -/
theorem xor_lt16 {m i : Nat} (hm : m < 65536) (hb : m.testBit i = true) : i < 16 := by
  apply Classical.byContradiction
  intro hx
  rw [Nat.testBit_lt_two_pow (Nat.lt_of_lt_of_le (show m < 2 ^ 16 by omega) (Nat.pow_le_pow_right (by omega) (by omega)))] at hb
  cases hb
theorem and_not16 {m i : Nat} (hm : m < 65536) (hb : m.testBit i = true) : nI m &&& (jshl 1 (nI i) ^^^ (-1)) = nI (m ^^^ 2 ^ i) := by
  apply b_ext
  intro q hq
  have := xor_lt hb
  have i16 := xor_lt16 hm hb
  rw [b_and, b_xor, b_m1 q hq, bt_shl1 (by omega) hq, bt_nI (by omega), bt_nI (by omega), fb_bit_flip]
  by_cases e : q = i
  · subst e; rw [hb]; simp
  · simp [e]
def INV (e : Nat → Nat → Bool) (E : Nat → Nat) (m c p : Nat) : Prop := (c = (if m = 0 then 0 else 1000000) ∧ ∀ q, q < p → m.testBit q = false) ∨ ((∃ q, q < p ∧ m.testBit q = true ∧ c = E q + cP e m q) ∧ ∀ q, q < p → m.testBit q = true → c ≤ E q + cP e m q)
theorem m_must {T : St} (hlow : ∀ a b, a < 16 → 16 ≤ b → bt (T 33 a) b = false) (hself : ∀ a, eM T a a = false) : ∃ k T', f_Mo_mustEnd T = some (nI k, T') ∧ DPv (eM T) 65535 k ∧ ∀ r j, r ≠ 34 → T' r j = T r j := by
  obtain ⟨F0, hF0⟩ : ∃ F, FU = F := ⟨_, rfl⟩
  have hF0' : 70000 < F0 := by rw [← hF0]; exact FU_gt (by omega)
  obtain ⟨e, he⟩ : ∃ e, eM T = e := ⟨_, rfl⟩
  have ee : ∀ a b, a < 16 → b < 16 → e a b = bt (T 33 a) b := fun a b ha hb => by rw [← he]; exact eM_e ha hb
  rw [he] at hself
  have k27 : ∀ (K : St → Int32 → Option (Int32 × St)) (m : Nat) (T0 : St) (E : Nat → Nat), m < 65536 → (∀ r j, r ≠ 34 → T0 r j = T r j) → (∀ q, q < 16 → m.testBit q = true → T0 34 (m ^^^ 2 ^ q) = nI (E q) ∧ DPv e (m ^^^ 2 ^ q) (E q)) → ∀ n p F (T1 : St) (c : Nat), p + n = 16 → n < F → (∀ r j, (r ≠ 34 ∨ j ≠ m) → T1 r j = T0 r j) → T1 34 m = nI c → c ≤ 1000000 → INV e E m c p → ∃ T2 c', f_Mo_mustEnd_27 K F T1 (nI m) (nI p) = K T2 (nI (m + 1)) ∧ (∀ r j, (r ≠ 34 ∨ j ≠ m) → T2 r j = T0 r j) ∧ T2 34 m = nI c' ∧ INV e E m c' 16 := by
    intro K m T0 E hm hT0 hE n
    induction n with
    | zero =>
      intro p F T1 c hp hF h1 h2 h3 h4
      obtain ⟨F, rfl⟩ : ∃ v, F = v + 1 := ⟨F - 1, by omega⟩
      have : p = 16 := by omega
      subst this
      exact ⟨T1, c, by rw [f_Mo_mustEnd_27, if_pos y16, nI_1, Option.bind_some], h1, h2, h4⟩
    | succ n ih =>
      intro p F T1 c hp hF h1 h2 h3 h4
      obtain ⟨F, rfl⟩ : ∃ v, F = v + 1 := ⟨F - 1, by omega⟩
      rw [f_Mo_mustEnd_27, if_neg (n16 (by omega)), m_has (by omega) (by omega), Option.bind_some]
      unfold f_Mo_mustEnd_85
      by_cases hb : m.testBit p = true
      · have m0 : m ≠ 0 := fun z => by rw [z, Nat.zero_testBit] at hb; cases hb
        obtain ⟨E1, E2⟩ := hE p (by omega) hb
        have ele := E2.le
        have xl := xor_lt hb
        have cm : (nI m).toNatClampNeg = m := cl
        have cp : (nI p).toNatClampNeg = p := cl
        have cr : (nI (m ^^^ 2 ^ p)).toNatClampNeg = m ^^^ 2 ^ p := cl
        have t33 : T1 33 p = T 33 p := by rw [h1 33 p (by omega), hT0 33 p (by omega)]
        obtain ⟨x, hx⟩ : ∃ x, T 33 p &&& nI (m ^^^ 2 ^ p) = x := ⟨_, rfl⟩
        have bx : ∀ i, bt x i = (bt (T 33 p) i && (m ^^^ 2 ^ p).testBit i) := fun i => by rw [← hx, b_and, bt_nI (by omega)]
        have x16 : un x < 65536 := by
          refine Nat.lt_pow_two_of_testBit (n := 16) _ (fun i hi => ?_)
          rw [← un_bt, bx, hlow p i (by omega) hi]; rfl
        have pp : pop (un x) = cP e m p := by
          unfold pop cP
          refine fb_ct_cong (fun b hb' => ?_)
          rw [← un_bt, bx, ee p b (by omega) hb']
        have mb : f_Mo_bits T1 x = some (nI (cP e m p)) := by
          have := m_bits (S := T1) x16
          rw [un_nI, pp] at this
          exact this
        have cle : cP e m p ≤ 16 := fb_ct_le _ 16
        have t34 : T1 34 (m ^^^ 2 ^ p) = nI (E p) := by rw [h1 34 _ (by omega)]; exact E1
        rw [if_pos hb, if_neg i10, and_not16 hm hb, Option.bind_some, if_pos (gn (by omega) (by omega)), if_pos (gn (by omega) (by omega)), if_pos (gn (by omega) (by omega)), cp, t33, hx, mb, Option.bind_some, cm, cr, h2, t34, nI_add]
        have nx : ∀ c', c' ≤ 1000000 → INV e E m c' (p + 1) → ∃ T2 c'', ((some (sF T1 34 m (nI c'))).bind fun S_84 => (some (nI p + 1)).bind fun l2_85 => f_Mo_mustEnd_27 K F S_84 (nI m) l2_85) = K T2 (nI (m + 1)) ∧ (∀ r j, (r ≠ 34 ∨ j ≠ m) → T2 r j = T0 r j) ∧ T2 34 m = nI c'' ∧ INV e E m c'' 16 := fun c' hc' hi' => by
          rw [Option.bind_some, nI_1, Option.bind_some]
          exact ih (p + 1) F _ c' (by omega) (by omega) (fun r j hr => by rw [sF_ne hr]; exact h1 r j hr) sF_at hc' hi'
        unfold f_Mo_min
        by_cases cc : E p + cP e m p ≤ c
        · rw [if_pos (yle cc), Option.bind_some, if_pos (gn (by omega) (by omega))]
          refine nx (E p + cP e m p) (by omega) (Or.inr ⟨⟨p, by omega, hb, rfl⟩, fun q hq hqb => ?_⟩)
          by_cases z : q = p
          · rw [z]; exact Nat.le_refl _
          · rcases h4 with ⟨-, h4⟩ | ⟨-, h4⟩
            · rw [h4 q (by omega)] at hqb; cases hqb
            · exact Nat.le_trans cc (h4 q (by omega) hqb)
        · rw [if_neg (nle (by omega)), Option.bind_some, if_pos (gn (by omega) (by omega))]
          refine nx c h3 ?_
          rcases h4 with ⟨h4, -⟩ | ⟨⟨q0, a1, a2, a3⟩, h4⟩
          · rw [if_neg m0] at h4; omega
          · refine Or.inr ⟨⟨q0, by omega, a2, a3⟩, fun q hq hqb => ?_⟩
            by_cases z : q = p
            · rw [z]; omega
            · exact h4 q (by omega) hqb
      · have hb' : m.testBit p = false := Bool.eq_false_iff.mpr hb
        rw [if_neg hb, if_pos rfl, nI_1, Option.bind_some]
        refine ih (p + 1) F T1 c (by omega) (by omega) h1 h2 h3 ?_
        rcases h4 with ⟨a1, a2⟩ | ⟨⟨q0, a1, a2, a3⟩, h4⟩
        · refine Or.inl ⟨a1, fun q hq => ?_⟩
          by_cases z : q = p
          · rw [z]; exact hb'
          · exact a2 q (by omega)
        · refine Or.inr ⟨⟨q0, by omega, a2, a3⟩, fun q hq hqb => ?_⟩
          by_cases z : q = p
          · rw [z, hb'] at hqb; cases hqb
          · exact h4 q (by omega) hqb
  have k2 : ∀ n m F (T1 : St), m + n = 65536 → n < F → (∀ r j, r ≠ 34 → T1 r j = T r j) → (∀ m', m' < m → ∃ k, T1 34 m' = nI k ∧ DPv e m' k) → ∃ k T', f_Mo_mustEnd_2 F T1 (nI m) = some (nI k, T') ∧ DPv e 65535 k ∧ ∀ r j, r ≠ 34 → T' r j = T r j := by
    intro n
    induction n with
    | zero =>
      intro m F T1 hm hF h1 h2
      obtain ⟨F, rfl⟩ : ∃ v, F = v + 1 := ⟨F - 1, by omega⟩
      have : m = 65536 := by omega
      subst this
      obtain ⟨k, k1, k2⟩ := h2 65535 (by omega)
      have c1 : (65535 : Int32).toNatClampNeg = 65535 := cl (n := 65535)
      exact ⟨k, T1, by rw [f_Mo_mustEnd_2, if_pos (show (65536 : Int32) ≤ nI 65536 from yle (a := 65536) (Nat.le_refl _)), if_pos (show ig (65535 : Int32) 65536 = true from gn (j := 65535) (by omega) (by omega)), c1, k1], k2, h1⟩
    | succ n ih =>
      intro m F T1 hm hF h1 h2
      obtain ⟨F, rfl⟩ : ∃ v, F = v + 1 := ⟨F - 1, by omega⟩
      have cm : (nI m).toNatClampNeg = m := cl
      have hc : ∀ q, ∃ k, q < 16 → m.testBit q = true → T1 34 (m ^^^ 2 ^ q) = nI k ∧ DPv e (m ^^^ 2 ^ q) k := fun q => by
        by_cases hb : m.testBit q = true
        · obtain ⟨k, k1, k2⟩ := h2 (m ^^^ 2 ^ q) (xor_lt hb)
          exact ⟨k, fun _ _ => ⟨k1, k2⟩⟩
        · exact ⟨0, fun _ z => absurd z hb⟩
      obtain ⟨E, hE⟩ : ∃ E : Nat → Nat, ∀ q, q < 16 → m.testBit q = true → T1 34 (m ^^^ 2 ^ q) = nI (E q) ∧ DPv e (m ^^^ 2 ^ q) (E q) := ⟨fun q => Classical.choose (hc q), fun q => Classical.choose_spec (hc q)⟩
      have go : ∀ c0, c0 = (if m = 0 then 0 else 1000000) → ∃ k T', f_Mo_mustEnd_24 (f_Mo_mustEnd_2 F) T1 (nI m) (nI c0) (nI m) = some (nI k, T') ∧ DPv e 65535 k ∧ ∀ r j, r ≠ 34 → T' r j = T r j := fun c0 hc0 => by
        have cle : c0 ≤ 1000000 := by rw [hc0]; by_cases z : m = 0; · rw [if_pos z]; omega
                                      · rw [if_neg z]; omega
        obtain ⟨T2, c', g1, g2, g3, g4⟩ := k27 (f_Mo_mustEnd_2 F) m T1 E (by omega) h1 hE 16 0 F0 (sF T1 34 m (nI c0)) c0 (by omega) (by omega) (fun r j hr => sF_ne hr) sF_at cle (Or.inl ⟨hc0, fun q hq => by omega⟩)
        have g1' : f_Mo_mustEnd_27 (f_Mo_mustEnd_2 F) F0 (sF T1 34 m (nI c0)) (nI m) 0 = f_Mo_mustEnd_2 F T2 (nI (m + 1)) := g1
        unfold f_Mo_mustEnd_24
        rw [if_pos (gn (by omega) (by omega)), cm, Option.bind_some, Option.bind_some, hF0, g1']
        have dv : DPv e m c' := by
          by_cases m0 : m = 0
          · rw [m0]
            rcases g4 with ⟨a1, -⟩ | ⟨⟨q, -, a2, -⟩, -⟩
            · rw [if_pos m0] at a1; rw [a1]; exact dp_0
            · rw [m0, Nat.zero_testBit] at a2; cases a2
          · rcases g4 with ⟨-, a2⟩ | ⟨⟨q, a1, a2, a3⟩, a4⟩
            · refine absurd (Nat.eq_of_testBit_eq (fun i => ?_)) m0
              rw [Nat.zero_testBit]
              by_cases z : i < 16
              · exact a2 i z
              · exact Bool.eq_false_iff.mpr (fun y => z (xor_lt16 (by omega) y))
            · exact dp_step hself (by omega) (by omega) (fun p hp hb => (hE p hp hb).2) a4 ⟨q, a1, a2, a3⟩
        refine ih (m + 1) F T2 (by omega) (by omega) (fun r j hr => by rw [g2 r j (Or.inl hr)]; exact h1 r j hr) (fun m' hm' => ?_)
        by_cases z : m' = m
        · rw [z]; exact ⟨c', g3, dv⟩
        · obtain ⟨k, k1, k2⟩ := h2 m' (by omega)
          exact ⟨k, by rw [g2 34 m' (Or.inr z)]; exact k1, k2⟩
      rw [f_Mo_mustEnd_2, if_neg (show ¬ (65536 : Int32) ≤ nI m from nle (b := 65536) (by omega))]
      by_cases m0 : m = 0
      · rw [if_pos (show nI m = 0 by rw [m0]; rfl)]
        exact go 0 (by rw [if_pos m0])
      · rw [if_neg (show ¬ nI m = 0 from nI_k 0 (by omega) (by omega) m0)]
        exact go 1000000 (by rw [if_neg m0])
  unfold f_Mo_mustEnd
  rw [Option.bind_some, hF0, he]
  exact k2 65536 0 F0 T (by omega) (by omega) (fun _ _ _ => rfl) (fun m' hm' => by omega)
/-! the twos are read -/
def RDW (S T : St) (i : Nat) : Prop := (∀ a, a < 16 → S 50 a = T 33 a) ∧ LX S ∧ (∀ a, a < 16 → bt (S 50 a) a = false) ∧ cn2 (eX S) ≤ i
def EndM (d : Int32) (T : St) : Option (Int32 × St) := if d = 0 then (f_Mo_forEver T).bind fun v => some (v, T) else (f_Mo_mustEnd T).bind fun w => some (w.1, w.2)
theorem x_fill0 (S : St) (k : Nat) : ∃ S', f_JA_fillI S k 0 = some S' ∧ ∀ j, j < 16 → S' k j = 0 := by
  obtain ⟨F0, hF0⟩ : ∃ F, FU = F := ⟨_, rfl⟩
  have hF0' : 300 < F0 := by rw [← hF0]; exact FU_gt (by omega)
  have k5 : ∀ m i F (S1 : St), i + m = 16 → m < F → (∀ j, j < i → S1 k j = 0) → ∃ S', f_JA_fillI_5 k F S1 0 (nI i) (nI 16) = some S' ∧ ∀ j, j < 16 → S' k j = 0 := by
    intro m
    induction m with
    | zero =>
      intro i F S1 hi hF h
      obtain ⟨F, rfl⟩ : ∃ v, F = v + 1 := ⟨F - 1, by omega⟩
      have : i = 16 := by omega
      subst this
      exact ⟨S1, by rw [f_JA_fillI_5, if_pos (yle (Nat.le_refl _))], h⟩
    | succ m ih =>
      intro i F S1 hi hF h
      obtain ⟨F, rfl⟩ : ∃ v, F = v + 1 := ⟨F - 1, by omega⟩
      have c1 : (nI i).toNatClampNeg = i := cl
      rw [f_JA_fillI_5, if_neg (nle (by omega)), if_pos (gn (by omega) (by omega)), c1, Option.bind_some, nI_1, Option.bind_some]
      refine ih (i + 1) F _ (by omega) (by omega) (fun j hj => ?_)
      by_cases z : j = i
      · rw [z, sF_at]
      · rw [sF_ne (Or.inr z)]; exact h j (by omega)
  unfold f_JA_fillI
  rw [Option.bind_some, Option.bind_some, hF0]
  exact k5 16 0 F0 S (by omega) (by omega) (fun j hj => by omega)
theorem rd_wait {n : Nat} {b : Nat → Nat} (hn : n ≤ 20) (d : Int32) : ∀ m i F F' (S T : St), i + m = n → m < F → m < F' → XB S (2 * n) b → MB T (2 * n) b → RDW S T i → ∃ S' T', (∀ r j, r ≠ 50 → S' r j = S r j) ∧ (∀ r j, r ≠ 33 → T' r j = T r j) ∧ ((f_Waits_read_18 F S (nI n) (nI i) = some (1, S') ∧ f_Mo_waiting_59 F' T (nI n) d (nI i) = EndM d T' ∧ RDW S' T' n) ∨ (f_Waits_read_18 F S (nI n) (nI i) = some (0, S') ∧ f_Mo_waiting_59 F' T (nI n) d (nI i) = some (-3, T'))) := by
  intro m
  induction m with
  | zero =>
    intro i F F' S T hi hF hF' hX hM h
    obtain ⟨F, rfl⟩ : ∃ v, F = v + 1 := ⟨F - 1, by omega⟩
    obtain ⟨F', rfl⟩ : ∃ v, F' = v + 1 := ⟨F' - 1, by omega⟩
    have : i = n := by omega
    subst this
    exact ⟨S, T, fun _ _ _ => rfl, fun _ _ _ => rfl, Or.inl ⟨by rw [f_Waits_read_18, if_pos (yle (Nat.le_refl _))], by rw [f_Mo_waiting_59, if_pos (yle (Nat.le_refl _))]; rfl, h⟩⟩
  | succ m ih =>
    intro i F F' S T hi hF hF' hX hM h
    obtain ⟨F, rfl⟩ : ∃ v, F = v + 1 := ⟨F - 1, by omega⟩
    obtain ⟨F', rfl⟩ : ∃ v, F' = v + 1 := ⟨F' - 1, by omega⟩
    obtain ⟨p, hp⟩ : ∃ p, b (2 * i) = p := ⟨_, rfl⟩
    obtain ⟨q, hq⟩ : ∃ q, b (2 * i + 1) = q := ⟨_, rfl⟩
    have p256 : p < 256 := by rw [← hp]; exact (hX.2.2 (2 * i) (by omega)).2
    have q256 : q < 256 := by rw [← hq]; exact (hX.2.2 (2 * i + 1) (by omega)).2
    obtain ⟨A, hA⟩ : ∃ A, f_Waits_read_18 (F + 1) S (nI n) (nI i) = A := ⟨_, rfl⟩
    obtain ⟨B, hB⟩ : ∃ B, f_Mo_waiting_59 (F' + 1) T (nI n) d (nI i) = B := ⟨_, rfl⟩
    rw [hA, hB]
    rw [f_Waits_read_18, if_neg (nle (by omega)), m2, show nI (2 * i) + 1 = nI (2 * i + 1) from nI_add (2 * i) 1, hX.at (by omega), hX.at (by omega), hp, hq, Option.bind_some, Option.bind_some] at hA
    rw [f_Mo_waiting_59, if_neg (nle (by omega)), m2, show nI (2 * i) + 1 = nI (2 * i + 1) from nI_add (2 * i) 1, hM.oct (by omega), hM.oct (by omega), hp, hq, Option.bind_some, Option.bind_some] at hB
    have no : ¬ nI p < 0 := nI_lt0 (by omega)
    have noq : ¬ nI q < 0 := nI_lt0 (by omega)
    by_cases c1 : 16 ≤ p
    · rw [wi_n (Or.inr (show (15 : Int32) < nI p from ylt (a := 15) (by omega))), Option.bind_some, if_pos rfl] at hA
      rw [if_pos (show (16 : Int32) ≤ nI p from yle (a := 16) c1)] at hB
      exact ⟨S, T, fun _ _ _ => rfl, fun _ _ _ => rfl, Or.inr ⟨hA.symm, hB.symm⟩⟩
    · rw [wi_y no (show ¬ (15 : Int32) < nI p from nlt' (b := p) (a := 15) (by omega)), Option.bind_some, if_neg i10] at hA
      rw [if_neg (show ¬ (16 : Int32) ≤ nI p from nle (b := 16) (by omega))] at hB
      by_cases c2 : 16 ≤ q
      · rw [wi_n (Or.inr (show (15 : Int32) < nI q from ylt (a := 15) (by omega))), Option.bind_some, if_pos rfl] at hA
        rw [if_pos (show (16 : Int32) ≤ nI q from yle (a := 16) c2)] at hB
        exact ⟨S, T, fun _ _ _ => rfl, fun _ _ _ => rfl, Or.inr ⟨hA.symm, hB.symm⟩⟩
      · rw [wi_y noq (show ¬ (15 : Int32) < nI q from nlt' (b := q) (a := 15) (by omega)), Option.bind_some, if_neg i10] at hA
        rw [if_neg (show ¬ (16 : Int32) ≤ nI q from nle (b := 16) (by omega))] at hB
        by_cases c3 : p = q
        · rw [if_pos (by rw [c3])] at hA hB
          exact ⟨S, T, fun _ _ _ => rfl, fun _ _ _ => rfl, Or.inr ⟨hA.symm, hB.symm⟩⟩
        · have ne : ¬ nI p = nI q := nI_k q (by omega) (by omega) c3
          have cp : (nI p).toNatClampNeg = p := cl
          have gp : ig (nI p) 16 = true := gn (by omega) (by omega)
          obtain ⟨h1, h2, h3, h4⟩ := h
          obtain ⟨S1, hS1⟩ : ∃ S1, sF S 50 p (S 50 p ||| jshl 1 (nI q)) = S1 := ⟨_, rfl⟩
          obtain ⟨T1, hT1⟩ : ∃ T1, sF T 33 p (T 33 p ||| jshl 1 (nI q)) = T1 := ⟨_, rfl⟩
          have fS : ∀ r j, r ≠ 50 → S1 r j = S r j := fun r j hr => by rw [← hS1, sF_ne (Or.inl hr)]
          have fT : ∀ r j, r ≠ 33 → T1 r j = T r j := fun r j hr => by rw [← hT1, sF_ne (Or.inl hr)]
          have e1 : eX S1 = st2 (eX S) p q true := by
            funext a b'
            unfold st2
            by_cases w : a = p ∧ b' = q
            · rw [if_pos w, w.1, w.2, eX_e (by omega) (by omega), ← hS1, sF_at, b_set (by omega)]
              simp
            · rw [if_neg w]
              unfold eX
              by_cases w1 : a = p
              · have w2 : b' ≠ q := fun y => w ⟨w1, y⟩
                rw [w1, ← hS1, sF_at, b_set (by omega)]
                simp [w2]
              · rw [← hS1, sF_ne (Or.inr w1)]
          have rd : RDW S1 T1 (i + 1) := by
            refine ⟨fun a ha => ?_, fun a b' ha hb' => ?_, fun a ha => ?_, ?_⟩
            · rw [← hS1, ← hT1]
              by_cases w : a = p
              · rw [w, sF_at, sF_at, h1 p (by omega)]
              · rw [sF_ne (Or.inr w), sF_ne (Or.inr w)]; exact h1 a ha
            · rw [← hS1]
              by_cases w : a = p
              · rw [w, sF_at, b_set (by omega), h2 p b' (by omega) hb', decide_eq_false (by omega)]; rfl
              · rw [sF_ne (Or.inr w)]; exact h2 a b' ha hb'
            · rw [← hS1]
              by_cases w : a = p
              · rw [w, sF_at, b_set (by omega), h3 p (by omega), decide_eq_false c3]; rfl
              · rw [sF_ne (Or.inr w)]; exact h3 a ha
            · rw [e1]
              have := cn2_st (d := eX S) (x := p) (y := q) (v := true) (by omega) (by omega)
              simp only [reduceIte] at this
              omega
          obtain ⟨S', T', g1, g2, g3⟩ := ih (i + 1) F F' S1 T1 (by omega) (by omega) (by omega) (hX.congr (fe (fun j => fS 1 j (by omega))) (fe (fun j => fS 2 j (by omega)))) (hM.congr (fe (fun j => fT 6 j (by omega)))) rd
          refine ⟨S', T', fun r j hr => by rw [g1 r j hr]; exact fS r j hr, fun r j hr => by rw [g2 r j hr]; exact fT r j hr, ?_⟩
          rw [if_neg ne, if_pos gp, if_pos gp, cp, hS1, Option.bind_some, nI_1, Option.bind_some] at hA
          rw [if_neg ne, if_pos gp, if_pos gp, cp, hT1, Option.bind_some, nI_1, Option.bind_some] at hB
          rw [hA, hB] at g3
          exact g3
theorem eXM {S T : St} (h : ∀ a, a < 16 → S 50 a = T 33 a) : eM T = eX S := by
  funext a b
  unfold eM eX
  by_cases ha : a < 16
  · rw [h a ha]
  · simp [ha]
theorem st_waiting {LR : St → St → Prop} (hL : LRc LR) (a d : Int32) : STEP (RelL LR) m_W_waiting m_Mo_waiting 62 3 [a, d] := by
  intro Sx Sm hR
  obtain ⟨F, hF⟩ : ∃ F, FU = F := ⟨_, rfl⟩
  have hF' : 300 < F := by rw [← hF]; exact FU_gt (by omega)
  have no : f_W_waiting Sx a d = some (-1, Sx) → f_Mo_waiting Sm a d = some (-1, Sm) → ∃ r Sx' Sm', Ct SX m_W_waiting 62 (.ref 0 :: [a, d].map Value.int) Sx (some r) Sx' ∧ Ct SM m_Mo_waiting 3 (.ref 0 :: [a, d].map Value.int) Sm (some r) Sm' ∧ RelL LR Sx' Sm' := fun e1 e2 => ⟨-1, Sx, Sm, t_W_waiting e1, t_Mo_waiting e2, hR⟩
  by_cases hc : a < 1 ∨ (20 : Int32) < a
  · exact no (by unfold f_W_waiting; rw [wi_n hc]; rfl) (by unfold f_Mo_waiting; rw [in_n hc]; rfl)
  have n1 : ¬ a < 1 := fun z => hc (Or.inl z)
  have n2 : ¬ (20 : Int32) < a := fun z => hc (Or.inr z)
  by_cases hc3 : d < 0 ∨ (1 : Int32) < d
  · exact no (by unfold f_W_waiting; rw [wi_y n1 n2, wi_n hc3]; rfl) (by unfold f_Mo_waiting; rw [in_y n1 n2, in_n hc3]; rfl)
  have n5 : ¬ d < 0 := fun z => hc3 (Or.inl z)
  have n6 : ¬ (1 : Int32) < d := fun z => hc3 (Or.inr z)
  obtain ⟨n, q1, q2, rfl⟩ := rngN (a := 1) (b := 20) (by omega) n1 n2
  rcases tk hR.1 (2 * n) (by omega) with ⟨b, t1, t2, t3, t4⟩ | ⟨t1, t2⟩
  · -- the rows are emptied
    obtain ⟨Sa, a1, a2⟩ := x_fill0 (tX Sx (2 * n)) 50
    obtain ⟨Sb, b1, b2⟩ := x_fill0 Sa 51
    have fb : ∀ r j, r ≠ 50 → r ≠ 51 → Sb r j = tX Sx (2 * n) r j := fun r j h1 h2 => by rw [w_JA_fillI b1 (by omega), w_JA_fillI a1 (by omega)]
    have z50 : ∀ j, j < 16 → Sb 50 j = 0 := fun j hj => by rw [w_JA_fillI b1 (by omega)]; exact a2 j hj
    have k38 : ∀ m i F (T1 : St), i + m = 16 → m < F → (∀ r j, r ≠ 33 → T1 r j = tM Sm r j) → (∀ j, j < i → T1 33 j = 0) → ∃ T2, f_Mo_waiting_38 F T1 (nI n) d (nI i) = f_Mo_waiting_59 FU T2 (nI n) d 0 ∧ (∀ r j, r ≠ 33 → T2 r j = tM Sm r j) ∧ ∀ j, j < 16 → T2 33 j = 0 := by
      intro m
      induction m with
      | zero =>
        intro i F T1 hi hF h1 h2
        obtain ⟨F, rfl⟩ : ∃ v, F = v + 1 := ⟨F - 1, by omega⟩
        have : i = 16 := by omega
        subst this
        exact ⟨T1, by rw [f_Mo_waiting_38, if_pos y16, Option.bind_some], h1, h2⟩
      | succ m ih =>
        intro i F T1 hi hF h1 h2
        obtain ⟨F, rfl⟩ : ∃ v, F = v + 1 := ⟨F - 1, by omega⟩
        have c1 : (nI i).toNatClampNeg = i := cl
        rw [f_Mo_waiting_38, if_neg (n16 (by omega)), if_pos (gn (by omega) (by omega)), c1, Option.bind_some, nI_1, Option.bind_some]
        refine ih (i + 1) F _ (by omega) (by omega) (fun r j hr => by rw [sF_ne (Or.inl hr)]; exact h1 r j hr) (fun j hj => ?_)
        by_cases z : j = i
        · rw [z, sF_at]
        · rw [sF_ne (Or.inr z)]; exact h2 j (by omega)
    obtain ⟨Tb, c1, c2, c3⟩ := k38 16 0 F (tM Sm) (by omega) (by omega) (fun _ _ _ => rfl) (fun j hj => by omega)
    rw [hF] at c1
    have rd0 : RDW Sb Tb 0 := ⟨fun a ha => by rw [z50 a ha, c3 a ha], fun a b' ha _ => by rw [z50 a ha]; exact b_0 b', fun a ha => by rw [z50 a ha]; exact b_0 a, by
      rw [cn2_0 (fun a b' => ?_)]
      · exact Nat.le_refl _
      · unfold eX
        by_cases ha : a < 16
        · rw [z50 a ha, b_0]; simp
        · simp [ha]⟩
    have hXb : XB Sb (2 * n) b := t3.congr (fe (fun j => fb 1 j (by omega) (by omega))) (fe (fun j => fb 2 j (by omega) (by omega)))
    have hMb : MB Tb (2 * n) b := t4.congr (fe (fun j => c2 6 j (by omega)))
    obtain ⟨S', T', f1, f2, f3⟩ := rd_wait (b := b) q2 d n 0 F F Sb Tb (by omega) (by omega) (by omega) hXb hMb rd0
    have hx : f_W_waiting Sx (nI n) d = ((f_Waits_read_18 F Sb (nI n) (nI 0)).bind fun w_39 => if w_39.1 = 0 then some ((-3), w_39.2) else if d = 0 then (f_Waits_forEver w_39.2).bind fun v_56 => some (v_56, w_39.2) else (f_Waits_fewestToEnd w_39.2).bind fun w_66 => some (w_66.1, w_66.2)) := by
      unfold f_W_waiting f_Waits_read
      rw [wi_y n1 n2, Option.bind_some, if_neg i10, wi_y n5 n6, Option.bind_some, if_neg i10, m2, t1, Option.bind_some, if_neg i10, a1, Option.bind_some, b1, Option.bind_some, Option.bind_some, hF]
      rfl
    have hm : f_Mo_waiting Sm (nI n) d = f_Mo_waiting_59 F Tb (nI n) d (nI 0) := by
      unfold f_Mo_waiting
      rw [in_y n1 n2, Option.bind_some, if_neg i10, in_y n5 n6, Option.bind_some, if_neg i10, m2, if_pos t2, Option.bind_some, Option.bind_some, hF]
      exact c1
    have x12 : ∀ r j, r ≠ 50 → r ≠ 51 → S' r j = tX Sx (2 * n) r j := fun r j h1 h2 => by rw [f1 r j h1]; exact fb r j h1 h2
    have fin : ∀ (r : Int32) (Sx' Sm' : St), f_W_waiting Sx (nI n) d = some (r, Sx') → f_Mo_waiting Sm (nI n) d = some (r, Sm') → FR 0 S' Sx' → Sm' 0 7 = 0 → ∃ r Sx' Sm', Ct SX m_W_waiting 62 (.ref 0 :: [nI n, d].map Value.int) Sx (some r) Sx' ∧ Ct SM m_Mo_waiting 3 (.ref 0 :: [nI n, d].map Value.int) Sm (some r) Sm' ∧ RelL LR Sx' Sm' := fun r Sx' Sm' e1 e2 e3 e4 => by
      refine ⟨r, Sx', Sm', t_W_waiting e1, t_Mo_waiting e2, hR.taken hL (fun k j hk => ?_) (fun k j hk => ?_) ?_ e4⟩
      · unfold RX at hk
        rw [e3 k j (by omega) (by omega), x12 k j (by omega) (by omega)]
        unfold tX
        rw [sF_ne (by omega), sF_ne (by omega)]
      · unfold RM at hk
        exact w_Mo_waiting e2 (by omega)
      · rw [e3 1 2 (by omega) (by omega), x12 1 2 (by omega) (by omega)]
        unfold tX
        exact sF_at
    have t07 : T' 0 7 = 0 := by
      rw [f2 0 7 (by omega), c2 0 7 (by omega)]
      unfold tM
      exact sF_at
    rcases f3 with ⟨g1, g2, g3, g4, g5, g6⟩ | ⟨g1, g2⟩
    · have em : eM T' = eX S' := eXM g3
      rw [g1, Option.bind_some, if_neg i10] at hx
      rw [g2] at hm
      unfold EndM at hm
      by_cases d0 : d = 0
      · obtain ⟨v, v1, v2⟩ := x_forEver S'
        obtain ⟨v', w1, w2⟩ := m_forEver T'
        rw [em] at w2
        rw [if_pos d0, v1, Option.bind_some] at hx
        rw [if_pos d0, w1, Option.bind_some, ← v2.one w2] at hm
        exact fin v S' T' hx hm (fun _ _ _ _ => rfl) t07
      · have s51 : sX S' = fun _ _ => false := by
          funext a b'
          unfold sX
          by_cases ha : a < 16
          · rw [f1 51 a (by omega), b2 a ha, b_0]; simp
          · simp [ha]
        have hself : ∀ a, eX S' a a = false := fun a => by
          by_cases ha : a < 16
          · rw [eX_e ha ha]; exact g5 a ha
          · unfold eX; simp [ha]
        obtain ⟨v, S2, v0, v1, v2, v3, v4⟩ := x_fewest g4 s51
        obtain ⟨k, T2, w1, w2, w3⟩ := m_must (T := T') (fun a b' ha hb' => by rw [← g3 a ha]; exact g4 a b' ha hb') (by rw [em]; exact hself)
        rw [em] at w2
        obtain ⟨u1, u2⟩ := dp_full w2
        have k10 : k ≤ 10 := u2 _ 10 (pk10 hself (Nat.le_trans g6 q2))
        have kv : k = v := by
          have : ¬ k < v := fun z => v2 k z u1
          have : k ≤ v := by
            rcases v3 with v3 | v3
            · omega
            · exact u2 _ v v3
          omega
        rw [if_neg d0, v1, Option.bind_some] at hx
        rw [if_neg d0, w1, Option.bind_some, kv] at hm
        exact fin (nI v) S2 T2 hx hm v4 (by rw [w3 0 7 (by omega)]; exact t07)
    · rw [g1, Option.bind_some, if_pos rfl] at hx
      rw [g2] at hm
      exact fin (-3) S' T' hx hm (fun _ _ _ _ => rfl) t07
  · refine no ?_ ?_
    · unfold f_W_waiting
      rw [wi_y n1 n2, Option.bind_some, if_neg i10, wi_y n5 n6, Option.bind_some, if_neg i10, m2, t1]; rfl
    · unfold f_Mo_waiting
      rw [in_y n1 n2, Option.bind_some, if_neg i10, in_y n5 n6, Option.bind_some, if_neg i10, m2, if_neg t2]
