/-! BRIGHTEST -/
theorem lrow_at {S : St} {k i : Nat} {v : Int64} : lrow (sL S k i v k) i = v := by
  unfold lrow sL
  simp only [sR, ↓reduceIte]
  rw [pk_un (by omega), pk_us, pk_us, m64_hl]
theorem lrow_ne {S : St} {k i j : Nat} {v : Int64} (h : j ≠ i) : lrow (sL S k i v k) j = lrow (S k) j := by
  unfold lrow sL
  simp only [sR, ↓reduceIte]
  rw [pk_un (by omega), pk_un (by omega), pk_un (by omega), pk_un (by omega)]
theorem sL_rne {S : St} {k i r : Nat} {v : Int64} (h : r ≠ k) : sL S k i v r = S r := by unfold sL sR; rw [if_neg h]
theorem XB.congr {S S' : St} {c : Nat} {b : Nat → Nat} (h : XB S c b) (h1 : S' 1 = S 1) (h2 : S' 2 = S 2) : XB S' c b := by
  unfold XB; rw [h1, h2]; exact h
theorem MB.congr {S S' : St} {c : Nat} {b : Nat → Nat} (h : MB S c b) (h1 : S' 6 = S 6) : MB S' c b := by
  unfold MB; rw [h1]; exact h
def vs (b : Nat → Nat) (i p : Nat) : Bool := decide (¬ vis b (nI p) i = 0)
theorem x_fillJ {S : St} : ∃ S', f_JA_fillJ S 0 = some S' ∧ (∀ k, k ≠ 55 → S' k = S k) ∧ ∀ i, i < 48 → lrow (S' 55) i = 0 := by
  obtain ⟨F, hF⟩ : ∃ F, FU = F := ⟨_, rfl⟩
  have hF' : 300 < F := by rw [← hF]; exact FU_gt (by omega)
  have key : ∀ m j F (S : St), j + m = 48 → m < F → (∀ i, i < j → lrow (S 55) i = 0) → ∃ S', f_JA_fillJ_6 F S 0 (nI j) (nI 48) = some S' ∧ (∀ k, k ≠ 55 → S' k = S k) ∧ ∀ i, i < 48 → lrow (S' 55) i = 0 := by
    intro m
    induction m with
    | zero =>
      intro j F S hj hF h
      obtain ⟨F, rfl⟩ : ∃ z, F = z + 1 := ⟨F - 1, by omega⟩
      exact ⟨S, by rw [f_JA_fillJ_6, if_pos (yle (by omega))], fun _ _ => rfl, fun i hi => h i (by omega)⟩
    | succ m ih =>
      intro j F S hj hF h
      obtain ⟨F, rfl⟩ : ∃ z, F = z + 1 := ⟨F - 1, by omega⟩
      have c1 : (nI j).toNatClampNeg = j := cl
      obtain ⟨S', e1, e2, e3⟩ := ih (j + 1) F (sL S 55 j 0) (by omega) (by omega) (fun i hi => by
        by_cases q : i = j
        · subst q; exact lrow_at
        · rw [lrow_ne q]; exact h i (by omega))
      refine ⟨S', ?_, fun k hk => by rw [e2 k hk, sL_rne hk], e3⟩
      rw [f_JA_fillJ_6, if_neg (nle (by omega)), if_pos (gn (by omega) (by omega)), Option.bind_some, Option.bind_some, c1, nI_1]
      exact e1
  obtain ⟨S', e1, e2, e3⟩ := key 48 0 F S (by omega) (by omega) (fun i hi => by omega)
  refine ⟨S', ?_, e2, e3⟩
  unfold f_JA_fillJ
  rw [Option.bind_some, Option.bind_some, hF]
  exact e1
/-- the view, filled up to light i and its place p -/
def Vw (S : St) (b : Nat → Nat) (i p : Nat) : Prop := ∀ i' w j, i' < 12 → w < 4 → j < 64 → btL (lrow (S 55) (4 * i' + w)) j = (vs b i' (64 * w + j) && decide (i' < i ∨ (i' = i ∧ 64 * w + j < p)))
theorem Vw_set {S : St} {b : Nat → Nat} {i p : Nat} (h : Vw S b i p) (hi : i < 12) (hp : p < 256) (hv : vs b i p = true) : Vw (sL S 55 (4 * i + p / 64) (lrow (S 55) (4 * i + p / 64) ||| lshl 1 (nI (p % 64)))) b i (p + 1) := by
  intro i' w j h1 h2 h3
  have o1 : btL 1 = fun k => decide (k = 0) := by
    funext k
    rcases Nat.lt_or_ge k 64 with q | q
    · have : ∀ k, k < 64 → btL 1 k = decide (k = 0) := by decide +kernel
      exact this k q
    · unfold btL
      rw [BitVec.getLsbD_of_ge _ _ q, decide_eq_false (by omega)]
  by_cases q : 4 * i' + w = 4 * i + p / 64
  · have q1 : i' = i := by omega
    have q2 : w = p / 64 := by omega
    subst q1 q2
    rw [lrow_at, bL_or, h i' (p / 64) j h1 h2 h3, bL_shl _ (by omega) _ h3, o1]
    by_cases e : j = p % 64
    · have e2 : 64 * (p / 64) + j = p := by omega
      rw [e2, hv]
      simp [e]
    · have e1 : (decide (p % 64 ≤ j) && (fun k => decide (k = 0)) (j - p % 64)) = false := by
        show (decide (p % 64 ≤ j) && decide (j - p % 64 = 0)) = false
        by_cases z : p % 64 ≤ j
        · rw [decide_eq_false (show ¬ j - p % 64 = 0 by omega), Bool.and_false]
        · rw [decide_eq_false z]; rfl
      rw [e1, Bool.or_false]
      congr 1
      apply decide_eq_decide.mpr
      omega
  · rw [lrow_ne q, h i' w j h1 h2 h3]
    congr 1
    apply decide_eq_decide.mpr
    omega
theorem Vw_no {S : St} {b : Nat → Nat} {i p : Nat} (h : Vw S b i p) (hv : vs b i p = false) : Vw S b i (p + 1) := by
  intro i' w j h1 h2 h3
  rw [h i' w j h1 h2 h3]
  by_cases q : i' = i ∧ 64 * w + j = p
  · rw [q.1, q.2, hv]; rfl
  · congr 1
    apply decide_eq_decide.mpr
    omega
theorem x_fill23 {n : Nat} {b : Nat → Nat} {i : Nat} (hn : n ≤ 12) (hi : i < n) (K : St → Int32 → Int32 → Option St) : ∀ m p F (S : St), p + m = 256 → m < F → XB S (2 * n) b → Vw S b i p → ∃ S', f_Shore_fillView_23 K F S (nI n) (nI i) (nI p) = K S' (nI n) (nI (i + 1)) ∧ (∀ k, k ≠ 55 → S' k = S k) ∧ Vw S' b (i + 1) 0 := by
  intro m
  induction m with
  | zero =>
    intro p F S hp hF hb h
    obtain ⟨F, rfl⟩ : ∃ z, F = z + 1 := ⟨F - 1, by omega⟩
    refine ⟨S, ?_, fun _ _ => rfl, ?_⟩
    · rw [f_Shore_fillView_23, if_pos (show (256 : Int32) ≤ nI p from yle (a := 256) (by omega)), Option.bind_some, nI_1]
    · intro i' w j h1 h2 h3
      rw [h i' w j h1 h2 h3]
      congr 1
      apply decide_eq_decide.mpr
      omega
  | succ m ih =>
    intro p F S hp hF hb h
    obtain ⟨F, rfl⟩ : ∃ z, F = z + 1 := ⟨F - 1, by omega⟩
    have q1 : nI i * 4 + nI p / 64 = nI (4 * i + p / 64) := by
      rw [show nI i * 4 = nI (i * 4) from pk_mul i 4, show nI p / 64 = nI (p / 64) from pk_div (d := 64) (by omega) (by omega) (by omega), nI_add, Nat.mul_comm]
    have q2 : jrem (nI p) 64 = nI (p % 64) := pk_rem (d := 64) (by omega) (by omega) (by omega)
    have g1 : ig (nI (4 * i + p / 64)) 48 = true := gn (by omega) (by omega)
    have c1 : (nI (4 * i + p / 64)).toNatClampNeg = 4 * i + p / 64 := cl
    rw [f_Shore_fillView_23, if_neg (show ¬ (256 : Int32) ≤ nI p from nle (b := 256) (by omega)), x_isSeen hb hi, Option.bind_some]
    unfold f_Shore_fillView_61
    simp only [q1, q2, g1, c1, nI_1, Option.bind_some, ↓reduceIte]
    by_cases c : vis b (nI p) i = 0
    · have c' : vs b i p = false := by unfold vs; simp [c]
      rw [if_pos c]
      exact ih (p + 1) F S (by omega) (by omega) hb (Vw_no h c')
    · have c' : vs b i p = true := by unfold vs; simp [c]
      rw [if_neg c]
      obtain ⟨S', e1, e2, e3⟩ := ih (p + 1) F (sL S 55 (4 * i + p / 64) (lrow (S 55) (4 * i + p / 64) ||| lshl 1 (nI (p % 64)))) (by omega) (by omega) (hb.congr (sL_rne (by omega)) (sL_rne (by omega))) (Vw_set h (by omega) (by omega) c')
      exact ⟨S', e1, fun k hk => by rw [e2 k hk, sL_rne hk], e3⟩
theorem x_fill10 {n : Nat} {b : Nat → Nat} (hn : n ≤ 12) {F0 : Nat} (hF0 : FU = F0) (hF0' : 300 < F0) : ∀ m i F (S : St), i + m = n → m < F → XB S (2 * n) b → Vw S b i 0 → ∃ S', f_Shore_fillView_10 F S (nI n) (nI i) = some S' ∧ (∀ k, k ≠ 55 → S' k = S k) ∧ Vw S' b n 0 := by
  intro m
  induction m with
  | zero =>
    intro i F S hi hF hb h
    obtain ⟨F, rfl⟩ : ∃ z, F = z + 1 := ⟨F - 1, by omega⟩
    have : i = n := by omega
    subst this
    exact ⟨S, by rw [f_Shore_fillView_10, if_pos (yle (Nat.le_refl _))], fun _ _ => rfl, h⟩
  | succ m ih =>
    intro i F S hi hF hb h
    obtain ⟨F, rfl⟩ : ∃ z, F = z + 1 := ⟨F - 1, by omega⟩
    obtain ⟨S1, e1, e2, e3⟩ := x_fill23 hn (show i < n by omega) (f_Shore_fillView_10 F) 256 0 F0 S (by omega) (by omega) hb h
    obtain ⟨S2, e4, e5, e6⟩ := ih (i + 1) F S1 (by omega) (by omega) (hb.congr (e2 1 (by omega)) (e2 2 (by omega))) e3
    refine ⟨S2, ?_, fun k hk => by rw [e5 k hk, e2 k hk], e6⟩
    rw [f_Shore_fillView_10, if_neg (nle (by omega)), if_neg (show ¬ (12 : Int32) ≤ nI i from nle (b := 12) (by omega)), Option.bind_some, hF0, ← e4]
    exact e1
theorem x_fill {S : St} {n : Nat} {b : Nat → Nat} (hn : n ≤ 12) (hb : XB S (2 * n) b) : ∃ S', f_Shore_fillView S (nI n) = some S' ∧ (∀ k, k ≠ 55 → S' k = S k) ∧ Vw S' b n 0 := by
  obtain ⟨F, hF⟩ : ∃ F, FU = F := ⟨_, rfl⟩
  have hF' : 300 < F := by rw [← hF]; exact FU_gt (by omega)
  obtain ⟨S1, e1, e2, e3⟩ := x_fillJ (S := S)
  obtain ⟨S2, e4, e5, e6⟩ := x_fill10 hn hF hF' n 0 F S1 (by omega) (by omega) (hb.congr (e2 1 (by omega)) (e2 2 (by omega))) (fun i' w j h1 h2 h3 => by
    rw [e3 _ (by omega), bL_0, decide_eq_false (by omega), Bool.and_false])
  refine ⟨S2, ?_, fun k hk => by rw [e5 k hk, e2 k hk], e6⟩
  unfold f_Shore_fillView
  rw [e1, Option.bind_some, Option.bind_some, hF]
  exact e4
def anyN (p : Nat → Bool) : Nat → Bool
  | 0 => false
  | m + 1 => anyN p m || p m
theorem anyN_ex {p : Nat → Bool} : ∀ {m : Nat}, anyN p m = true ↔ ∃ i, i < m ∧ p i = true
  | 0 => by simp [anyN]
  | m + 1 => by
    rw [anyN, Bool.or_eq_true, anyN_ex (m := m)]
    constructor
    · rintro (⟨o, h1, h2⟩ | h)
      · exact ⟨o, by omega, h2⟩
      · exact ⟨m, by omega, h⟩
    · rintro ⟨o, h1, h2⟩
      rcases Nat.lt_or_ge o m with q | q
      · exact Or.inl ⟨o, q, h2⟩
      · have : o = m := by omega
        subst this
        exact Or.inr h2
def lits (b : Nat → Nat) (n m p : Nat) : Bool := anyN (fun i => m.testBit i && vs b i p) n
def plc (b : Nat → Nat) (n m : Nat) : Nat := fb_ct (lits b n m) 256
theorem bt_nI {m i : Nat} (h : m < 2 ^ 32) : bt (nI m) i = m.testBit i := by rw [un_bt, un_of h]
theorem x_pl17 {S : St} {n m : Nat} {b : Nat → Nat} (hn : n ≤ 12) (hm : m < 4096) (hv : Vw S b n 0) (K : St → Int32 → Int32 → Int32 → Int32 → Option Int32) (a : Int32) {w : Nat} (hw : w < 4) : ∀ k i F (x : Int64), i + k = n → k < F → (∀ j, j < 64 → btL x j = anyN (fun i => m.testBit i && vs b i (64 * w + j)) i) → f_Shore_placesOf_17 K F S (nI m) (nI n) a (nI w) x (nI i) = K S (nI m) (nI n) (a + nI (fb_ct (fun j => lits b n m (64 * w + j)) 64)) (nI (w + 1)) := by
  intro k
  induction k with
  | zero =>
    intro i F x hi hF hx
    obtain ⟨F, rfl⟩ : ∃ z, F = z + 1 := ⟨F - 1, by omega⟩
    have : i = n := by omega
    subst this
    rw [f_Shore_placesOf_17, if_pos (yle (Nat.le_refl _))]
    unfold f_Shore_placesOf_62
    rw [bc_L, Option.bind_some, Option.bind_some, Option.bind_some, nI_1, fb_ct_cong hx]
    rfl
  | succ k ih =>
    intro i F x hi hF hx
    obtain ⟨F, rfl⟩ : ∃ z, F = z + 1 := ⟨F - 1, by omega⟩
    have q1 : nI i * 4 + nI w = nI (4 * i + w) := by
      rw [show nI i * 4 = nI (i * 4) from pk_mul i 4, nI_add, Nat.mul_comm]
    have g1 : ig (nI (4 * i + w)) 48 = true := gn (by omega) (by omega)
    have c1 : (nI (4 * i + w)).toNatClampNeg = 4 * i + w := cl
    rw [f_Shore_placesOf_17, if_neg (nle (by omega)), if_neg (show ¬ (12 : Int32) ≤ nI i from nle (b := 12) (by omega))]
    unfold f_Shore_placesOf_56
    simp only [q1, g1, c1, nI_1, Option.bind_some, ↓reduceIte]
    have bb : (jushr (nI m) (nI i) &&& 1) = 0 ↔ m.testBit i = false := by rw [bt1 (by omega), bt_nI (by omega)]
    cases hb : m.testBit i with
    | false =>
      rw [if_pos (bb.mpr hb)]
      refine ih (i + 1) F x (by omega) (by omega) (fun j hj => ?_)
      rw [hx j hj, anyN, hb, Bool.false_and, Bool.or_false]
    | true =>
      rw [if_neg (fun z => by rw [bb.mp z] at hb; cases hb)]
      refine ih (i + 1) F _ (by omega) (by omega) (fun j hj => ?_)
      rw [bL_or, hx j hj, anyN, hb, Bool.true_and, hv i w j (by omega) hw hj, decide_eq_true (Or.inl (show i < n by omega)), Bool.and_true]
theorem x_placesOf {S : St} {n m : Nat} {b : Nat → Nat} (hn : n ≤ 12) (hm : m < 4096) (hv : Vw S b n 0) : f_Shore_placesOf S (nI m) (nI n) = some (nI (plc b n m)) := by
  obtain ⟨F0, hF0⟩ : ∃ F, FU = F := ⟨_, rfl⟩
  have hF0' : 300 < F0 := by rw [← hF0]; exact FU_gt (by omega)
  have key : ∀ k w F, w + k = 4 → k < F → f_Shore_placesOf_5 F S (nI m) (nI n) (nI (fb_ct (lits b n m) (64 * w))) (nI w) = some (nI (plc b n m)) := by
    intro k
    induction k with
    | zero =>
      intro w F hw hF
      obtain ⟨F, rfl⟩ : ∃ z, F = z + 1 := ⟨F - 1, by omega⟩
      have : w = 4 := by omega
      subst this
      rw [f_Shore_placesOf_5, if_pos (show (4 : Int32) ≤ nI 4 from yle (Nat.le_refl 4))]
      rfl
    | succ k ih =>
      intro w F hw hF
      obtain ⟨F, rfl⟩ : ∃ z, F = z + 1 := ⟨F - 1, by omega⟩
      have e := x_pl17 hn hm hv (f_Shore_placesOf_5 F) (nI (fb_ct (lits b n m) (64 * w))) (show w < 4 by omega) n 0 F0 0 (by omega) (by omega) (fun j _ => bL_0 j)
      have e' : f_Shore_placesOf_17 (f_Shore_placesOf_5 F) F0 S (nI m) (nI n) (nI (fb_ct (lits b n m) (64 * w))) (nI w) 0 0 = _ := e
      have ih1 := ih (w + 1) F (by omega) (by omega)
      rw [show 64 * (w + 1) = 64 * w + 64 by omega, fb_ct_split] at ih1
      rw [f_Shore_placesOf_5, if_neg (show ¬ (4 : Int32) ≤ nI w from nle (b := 4) (by omega)), Option.bind_some, Option.bind_some, hF0, e', nI_add]
      exact ih1
  unfold f_Shore_placesOf
  rw [Option.bind_some, Option.bind_some, hF0]
  exact key 4 0 F0 (by omega) (by omega)
/-! the reference's -/
def Wv (S : St) (b : Nat → Nat) (n p i : Nat) : Prop := ∀ p' i', p' < 256 → i' < 12 → (p' < p → i' < n → bt (S 36 p') i' = vs b i' p') ∧ (p' = p → (i' < i → bt (S 36 p') i' = vs b i' p') ∧ (i ≤ i' → bt (S 36 p') i' = false))
theorem m_br67 {n : Nat} {b : Nat → Nat} {p : Nat} (hn : n ≤ 12) (hp : p < 256) (K : St → Int32 → Int32 → Int32 → Int32 → Option (Int32 × St)) (x y : Int32) : ∀ m i F (S : St), i + m = n → m < F → MB S (2 * n) b → Wv S b n p i → ∃ S', f_Mo_brightest_67 K F S (nI n) x y (nI p) (nI i) = K S' (nI n) x y (nI (p + 1)) ∧ (∀ k, k ≠ 36 → S' k = S k) ∧ Wv S' b n p n := by
  intro m
  induction m with
  | zero =>
    intro i F S hi hF hb h
    obtain ⟨F, rfl⟩ : ∃ z, F = z + 1 := ⟨F - 1, by omega⟩
    have : i = n := by omega
    subst this
    exact ⟨S, by rw [f_Mo_brightest_67, if_pos (yle (Nat.le_refl _)), Option.bind_some, nI_1], fun _ _ => rfl, h⟩
  | succ m ih =>
    intro i F S hi hF hb h
    obtain ⟨F, rfl⟩ : ∃ z, F = z + 1 := ⟨F - 1, by omega⟩
    have g1 : ig (nI p) 256 = true := gn (by omega) (by omega)
    have c1 : (nI p).toNatClampNeg = p := cl
    rw [f_Mo_brightest_67, if_neg (nle (by omega)), m_isSeen hb (by omega), Option.bind_some]
    unfold f_Mo_brightest_103
    simp only [g1, c1, nI_1, Option.bind_some, ↓reduceIte]
    by_cases c : vis b (nI p) i = 0
    · have c' : vs b i p = false := by unfold vs; simp [c]
      rw [if_pos c]
      refine ih (i + 1) F S (by omega) (by omega) hb (fun p' i' h1 h2 => ⟨(h p' i' h1 h2).1, fun e => ⟨fun z => ?_, fun z => ((h p' i' h1 h2).2 e).2 (by omega)⟩⟩)
      by_cases q : i' = i
      · subst q e
        rw [((h p' i' h1 h2).2 rfl).2 (Nat.le_refl _), c']
      · exact ((h p' i' h1 h2).2 e).1 (by omega)
    · have c' : vs b i p = true := by unfold vs; simp [c]
      rw [if_neg c]
      have o1 : ∀ i', i' < 32 → bt (jshl 1 (nI i)) i' = decide (i' = i) := by
        intro i' hi'
        unfold jshl
        rw [b_shl i (by omega) _ hi']
        have : ∀ k, k < 32 → bt 1 k = decide (k = 0) := by decide
        by_cases q : i ≤ i'
        · rw [decide_eq_true q, this _ (by omega), Bool.true_and]
          apply decide_eq_decide.mpr; omega
        · rw [decide_eq_false q, decide_eq_false (by omega)]; rfl
      obtain ⟨S', e1, e2, e3⟩ := ih (i + 1) F (sF S 36 p (S 36 p ||| jshl 1 (nI i))) (by omega) (by omega) (hb.congr (sF_rne (by omega))) (fun p' i' h1 h2 => by
        by_cases q : p' = p
        · subst q
          refine ⟨fun z => by omega, fun _ => ⟨fun z => ?_, fun z => ?_⟩⟩
          · rw [sF_at, b_or, o1 _ (by omega)]
            by_cases q2 : i' = i
            · subst q2; rw [c', decide_eq_true rfl, Bool.or_true]
            · rw [decide_eq_false q2, Bool.or_false]; exact ((h p' i' h1 h2).2 rfl).1 (by omega)
          · rw [sF_at, b_or, o1 _ (by omega), decide_eq_false (by omega), Bool.or_false]; exact ((h p' i' h1 h2).2 rfl).2 (by omega)
        · refine ⟨fun z1 z2 => ?_, fun z => absurd z q⟩
          rw [sF_ne (Or.inr q)]
          exact (h p' i' h1 h2).1 z1 z2)
      exact ⟨S', e1, fun k hk => by rw [e2 k hk, sF_rne hk], e3⟩
theorem m_br48 {n : Nat} {b : Nat → Nat} (hn : n ≤ 12) (x y : Int32) {F0 : Nat} (hF0 : FU = F0) (hF0' : 300 < F0) : ∀ m p F (S : St), p + m = 256 → m < F → MB S (2 * n) b → (∀ p' i', p' < p → i' < n → bt (S 36 p') i' = vs b i' p') → ∃ S', f_Mo_brightest_48 F S (nI n) x y (nI p) = f_Mo_brightest_124 F0 S' (nI n) x y (-1) (-1) 0 ∧ (∀ k, k ≠ 36 → S' k = S k) ∧ (∀ p' i', p' < 256 → i' < n → bt (S' 36 p') i' = vs b i' p') := by
  intro m
  induction m with
  | zero =>
    intro p F S hp hF hb h
    obtain ⟨F, rfl⟩ : ∃ z, F = z + 1 := ⟨F - 1, by omega⟩
    exact ⟨S, by rw [f_Mo_brightest_48, if_pos (show (256 : Int32) ≤ nI p from yle (a := 256) (by omega)), Option.bind_some, Option.bind_some, Option.bind_some, hF0], fun _ _ => rfl, fun p' i' z1 z2 => h p' i' (by omega) z2⟩
  | succ m ih =>
    intro p F S hp hF hb h
    obtain ⟨F, rfl⟩ : ∃ z, F = z + 1 := ⟨F - 1, by omega⟩
    have g1 : ig (nI p) 256 = true := gn (by omega) (by omega)
    have c1 : (nI p).toNatClampNeg = p := cl
    obtain ⟨S1, e1, e2, e3⟩ := m_br67 hn (show p < 256 by omega) (f_Mo_brightest_48 F) x y n 0 F0 (sF S 36 p 0) (by omega) (by omega) (hb.congr (sF_rne (by omega))) (fun p' i' h1 h2 => by
      by_cases q : p' = p
      · subst q
        exact ⟨fun z => by omega, fun _ => ⟨fun z => by omega, fun _ => by rw [sF_at, b_0]⟩⟩
      · refine ⟨fun z1 z2 => ?_, fun z => absurd z q⟩
        rw [sF_ne (Or.inr q)]
        exact h p' i' z1 z2)
    obtain ⟨S2, e4, e5, e6⟩ := ih (p + 1) F S1 (by omega) (by omega) (hb.congr (by rw [e2 6 (by omega), sF_rne (by omega)])) (fun p' i' z1 z2 => by
      by_cases q : p' = p
      · exact ((e3 p' i' (by omega) (by omega)).2 q).1 z2
      · exact (e3 p' i' (by omega) (by omega)).1 (by omega) z2)
    refine ⟨S2, ?_, fun k hk => by rw [e5 k hk, e2 k hk, sF_rne hk], e6⟩
    rw [f_Mo_brightest_48, if_neg (show ¬ (256 : Int32) ≤ nI p from nle (b := 256) (by omega)), if_pos g1, Option.bind_some, Option.bind_some, c1, hF0, ← e4]
    exact e1
theorem and0 {x y : Int32} : x &&& y = 0 ↔ ∀ i, i < 32 → (bt x i && bt y i) = false := by
  constructor
  · intro h i _
    rw [← b_and, h, b_0]
  · intro h
    apply b_ext
    intro i hi
    rw [b_and, b_0]; exact h i hi
theorem m_bright {S : St} {n m : Nat} {b : Nat → Nat} (hn : n ≤ 12) (hm : m < 2 ^ n) (hv : ∀ p i, p < 256 → i < n → bt (S 36 p) i = vs b i p) : f_Mo_brightOf S (nI m) = some (nI (plc b n m)) := by
  obtain ⟨F0, hF0⟩ : ∃ F, FU = F := ⟨_, rfl⟩
  have hF0' : 300 < F0 := by rw [← hF0]; exact FU_gt (by omega)
  have hm2 : m < 4096 := Nat.lt_of_lt_of_le hm (Nat.pow_le_pow_right (by omega) hn)
  have a0 : ∀ p, p < 256 → ((S 36 p &&& nI m = 0) ↔ lits b n m p = false) := by
    intro p hp
    rw [and0]
    constructor
    · intro h
      cases q : lits b n m p with
      | false => rfl
      | true =>
        obtain ⟨i, h1, h2⟩ := anyN_ex.mp q
        rw [Bool.and_eq_true] at h2
        have := h i (by omega)
        rw [hv p i hp h1, bt_nI (by omega), h2.1, h2.2] at this
        cases this
    · intro h i hi
      by_cases q : i < n
      · rw [hv p i hp q, bt_nI (by omega)]
        cases z : vs b i p && m.testBit i with
        | false => rfl
        | true =>
          have : lits b n m p = true := anyN_ex.mpr ⟨i, q, by rw [Bool.and_comm]; exact z⟩
          rw [h] at this; cases this
      · rw [bt_nI (by omega), Nat.testBit_lt_two_pow (Nat.lt_of_lt_of_le hm (Nat.pow_le_pow_right (by omega) (by omega))), Bool.and_false]
  have key : ∀ k p F, p + k = 256 → k < F → f_Mo_brightOf_4 F S (nI m) (nI (fb_ct (lits b n m) p)) (nI p) = some (nI (plc b n m)) := by
    intro k
    induction k with
    | zero =>
      intro p F hp hF
      obtain ⟨F, rfl⟩ : ∃ z, F = z + 1 := ⟨F - 1, by omega⟩
      have : p = 256 := by omega
      subst this
      rw [f_Mo_brightOf_4, if_pos (show (256 : Int32) ≤ nI 256 from yle (Nat.le_refl 256))]
      rfl
    | succ k ih =>
      intro p F hp hF
      obtain ⟨F, rfl⟩ : ∃ z, F = z + 1 := ⟨F - 1, by omega⟩
      have ih1 := ih (p + 1) F (by omega) (by omega)
      rw [fb_ct_succ] at ih1
      rw [f_Mo_brightOf_4, if_neg (show ¬ (256 : Int32) ≤ nI p from nle (b := 256) (by omega)), if_pos (gn (show p < 256 by omega) (by omega)), cl (n := p)]
      unfold f_Mo_brightOf_26
      rw [Option.bind_some, Option.bind_some, nI_1, Option.bind_some, nI_1]
      cases q : lits b n m p with
      | false =>
        rw [if_pos ((a0 p (by omega)).mpr q)]
        rw [q] at ih1
        exact ih1
      | true =>
        rw [if_neg (fun z => by rw [(a0 p (by omega)).mp z] at q; cases q)]
        rw [q] at ih1
        exact ih1
  unfold f_Mo_brightOf
  rw [Option.bind_some, Option.bind_some, hF0]
  exact key 256 0 F0 (by omega) (by omega)
def pop (m : Nat) : Nat := fb_ct (fun i => m.testBit i) 16
theorem shr1 {m k : Nat} (hm : m < 2 ^ 31) (hk : k < 32) : jshr (nI m) (nI k) &&& 1 = nI (if m.testBit k then 1 else 0) := by
  have h1 : jshr (nI m) (nI k) = nI (m / 2 ^ k) := pk_shrN hm _ k (s_l k hk)
  rw [h1, show (1 : Int32) = nI (2 ^ 1 - 1) from rfl, fa_mask, Nat.testBit_eq_decide_div_mod_eq]
  congr 1
  have := Nat.mod_two_eq_zero_or_one (m / 2 ^ k)
  rcases this with e | e
  · rw [show 2 ^ 1 = 2 from rfl, e]; rfl
  · rw [show 2 ^ 1 = 2 from rfl, e]; rfl
theorem m_bits {S : St} {m : Nat} (hm : m < 65536) : f_Mo_bits S (nI m) = some (nI (pop m)) := by
  obtain ⟨F0, hF0⟩ : ∃ F, FU = F := ⟨_, rfl⟩
  have hF0' : 300 < F0 := by rw [← hF0]; exact FU_gt (by omega)
  have key : ∀ k p F, p + k = 16 → k < F → f_Mo_bits_4 F S (nI m) (nI (fb_ct (fun i => m.testBit i) p)) (nI p) = some (nI (pop m)) := by
    intro k
    induction k with
    | zero =>
      intro p F hp hF
      obtain ⟨F, rfl⟩ : ∃ z, F = z + 1 := ⟨F - 1, by omega⟩
      have : p = 16 := by omega
      subst this
      rw [f_Mo_bits_4, if_pos (show (16 : Int32) ≤ nI 16 from yle (Nat.le_refl 16))]
      rfl
    | succ k ih =>
      intro p F hp hF
      obtain ⟨F, rfl⟩ : ∃ z, F = z + 1 := ⟨F - 1, by omega⟩
      have ih1 := ih (p + 1) F (by omega) (by omega)
      rw [fb_ct_succ] at ih1
      rw [f_Mo_bits_4, if_neg (show ¬ (16 : Int32) ≤ nI p from nle (b := 16) (by omega)), shr1 (by omega) (by omega), Option.bind_some, Option.bind_some, nI_add, nI_1]
      exact ih1
  unfold f_Mo_bits
  rw [Option.bind_some, Option.bind_some, hF0]
  exact key 16 0 F0 (by omega) (by omega)
theorem x_bits {S : St} {m : Nat} (hm : m < 65536) : f_JI_bitCount S (nI m) = some (nI (pop m)) := by
  rw [bc_I]
  congr 2
  rw [show (32 : Nat) = 16 + 16 from rfl, fb_ct_split]
  have z : fb_ct (fun k => bt (nI m) (16 + k)) 16 = 0 := fb_ct_zero.mpr (fun k _ => by
    show bt (nI m) (16 + k) = false
    rw [bt_nI (by omega)]
    exact Nat.testBit_lt_two_pow (Nat.lt_of_lt_of_le hm (Nat.pow_le_pow_right (n := 2) (i := 16) (by omega) (by omega))))
  rw [z, Nat.add_zero]
  exact fb_ct_cong (fun k _ => bt_nI (by omega))
theorem pop_low : ∀ m, m ≤ 12 → pop (2 ^ m - 1) = m := by decide +kernel
theorem shl1 {n : Nat} (h : n ≤ 30) : jshl 1 (nI n) = nI (2 ^ n) := by
  have := pk_shlN (n := 1) (nI n &&& 31) n (s_l n (by omega)) (by rw [Nat.one_mul]; exact Nat.pow_lt_pow_right (by omega) (by omega))
  rw [Nat.one_mul] at this
  exact this
theorem best_eq {S T : St} {n m : Nat} {b : Nat → Nat} (hn : n ≤ 12) (h1 : 1 ≤ m) (h2 : m ≤ n) (hx : Vw S b n 0) (hv : ∀ p i, p < 256 → i < n → bt (T 36 p) i = vs b i p) (d : Int32) : ∀ k c F F' (bx mo bm : Int32), c + k = 2 ^ n → 1 ≤ c → k < F → k < F' → ((bx = 0 ∧ mo = -1 ∧ bm = -1 ∧ ∀ a, a < c → pop a ≠ m) ∨ ∃ a, a < 2 ^ n ∧ bx = nI a ∧ bm = nI a ∧ mo = nI (plc b n a)) → ∃ a, a < 2 ^ n ∧ f_Shore_bestLights_13 F S (nI n) (nI m) bx mo (nI c) = some (nI a, S) ∧ f_Mo_brightest_124 F' T (nI n) (nI m) d mo bm (nI c) = some (if d = 0 then nI (plc b n a) else nI a, T) := by
  have hp : 2 ^ n ≤ 4096 := Nat.pow_le_pow_right (by omega : 2 > 0) hn
  intro k
  induction k with
  | zero =>
    intro c F F' bx mo bm hc hc1 hF hF' hI
    obtain ⟨F, rfl⟩ : ∃ z, F = z + 1 := ⟨F - 1, by omega⟩
    obtain ⟨F', rfl⟩ : ∃ z, F' = z + 1 := ⟨F' - 1, by omega⟩
    rcases hI with ⟨-, -, -, q⟩ | ⟨a, q1, q2, q3, q4⟩
    · have l1 : 2 ^ m ≤ 2 ^ n := Nat.pow_le_pow_right (by omega) h2
      have l2 : 0 < 2 ^ m := Nat.two_pow_pos _
      exact absurd (pop_low m (by omega)) (q (2 ^ m - 1) (by omega))
    · refine ⟨a, q1, ?_, ?_⟩
      · rw [f_Shore_bestLights_13, shl1 (by omega), if_pos (yle (by omega)), q2]
      · rw [f_Mo_brightest_124, shl1 (by omega), if_pos (yle (by omega)), q3, q4]
        by_cases hd : d = 0
        · rw [if_pos hd, if_pos hd]
        · rw [if_neg hd, if_neg hd]
  | succ k ih =>
    intro c F F' bx mo bm hc hc1 hF hF' hI
    obtain ⟨F, rfl⟩ : ∃ z, F = z + 1 := ⟨F - 1, by omega⟩
    obtain ⟨F', rfl⟩ : ∃ z, F' = z + 1 := ⟨F' - 1, by omega⟩
    rw [f_Shore_bestLights_13, f_Mo_brightest_124, shl1 (by omega), if_neg (nle (by omega)), if_neg (nle (by omega)), x_bits (by omega), m_bits (by omega), Option.bind_some, Option.bind_some, x_placesOf hn (by omega) hx, m_bright hn (by omega) hv, Option.bind_some, Option.bind_some, Option.bind_some]
    unfold f_Shore_bestLights_53 f_Mo_brightest_167
    rw [nI_1, Option.bind_some, Option.bind_some, Option.bind_some, Option.bind_some]
    have pl : pop c ≤ 16 := fb_ct_le _ _
    have lb : plc b n c ≤ 256 := fb_ct_le _ _
    by_cases e : pop c = m
    · have e0 : nI (pop c) = nI m := by rw [e]
      rw [if_pos e0, if_pos e0]
      by_cases q : mo < nI (plc b n c)
      · rw [if_pos q, if_neg (fun z => (fa_of_lt q).2.1 z)]
        exact ih (c + 1) F F' (nI c) (nI (plc b n c)) (nI c) (by omega) (by omega) (by omega) (by omega) (Or.inr ⟨c, by omega, rfl, rfl, rfl⟩)
      · rw [if_neg q, if_pos (fa_of_nlt q)]
        refine ih (c + 1) F F' bx mo bm (by omega) (by omega) (by omega) (by omega) ?_
        rcases hI with ⟨-, z, -, -⟩ | z
        · exfalso
          apply q
          rw [z]
          apply (fa_lt _ _).mpr
          rw [nI_toInt (by omega)]
          have : (-1 : Int32).toInt = -1 := by decide
          omega
        · exact Or.inr z
    · have e1 : ¬ nI (pop c) = nI m := fun z => e (nI_inj (by omega) (by omega) z)
      rw [if_neg e1, if_neg e1]
      refine ih (c + 1) F F' bx mo bm (by omega) (by omega) (by omega) (by omega) ?_
      rcases hI with ⟨z1, z2, z3, z4⟩ | z
      · refine Or.inl ⟨z1, z2, z3, fun a ha => ?_⟩
        by_cases w : a = c
        · subst w; exact e
        · exact z4 a (by omega)
      · exact Or.inr z
section STP
variable {LR : St → St → Prop}
theorem st_brightest (hL : LRc LR) (a b' d : Int32) : STEP (RelL LR) m_W_brightest m_Mo_brightest 5 3 [a, b', d] := by
  intro Sx Sm hR
  obtain ⟨F, hF⟩ : ∃ F, FU = F := ⟨_, rfl⟩
  have hF' : 5000 < F := by rw [← hF]; exact FU_gt (by omega)
  have no : f_W_brightest Sx a b' d = some (-1, Sx) → f_Mo_brightest Sm a b' d = some (-1, Sm) → ∃ r Sx' Sm', Ct SX m_W_brightest 5 (.ref 0 :: [a, b', d].map Value.int) Sx (some r) Sx' ∧ Ct SM m_Mo_brightest 3 (.ref 0 :: [a, b', d].map Value.int) Sm (some r) Sm' ∧ RelL LR Sx' Sm' := fun e1 e2 => ⟨-1, Sx, Sm, t_W_brightest e1, t_Mo_brightest e2, hR⟩
  by_cases hc : a < 1 ∨ (12 : Int32) < a
  · exact no (by unfold f_W_brightest; rw [wi_n hc]; rfl) (by unfold f_Mo_brightest; rw [in_n hc]; rfl)
  have n1 : ¬ a < 1 := fun z => hc (Or.inl z)
  have n2 : ¬ (12 : Int32) < a := fun z => hc (Or.inr z)
  by_cases hc2 : b' < 1 ∨ a < b'
  · exact no (by unfold f_W_brightest; rw [wi_y n1 n2, wi_n hc2]; rfl) (by unfold f_Mo_brightest; rw [in_y n1 n2, in_n hc2]; rfl)
  have n3 : ¬ b' < 1 := fun z => hc2 (Or.inl z)
  have n4 : ¬ a < b' := fun z => hc2 (Or.inr z)
  by_cases hc3 : d < 0 ∨ (1 : Int32) < d
  · exact no (by unfold f_W_brightest; rw [wi_y n1 n2, wi_y n3 n4, wi_n hc3]; rfl) (by unfold f_Mo_brightest; rw [in_y n1 n2, in_y n3 n4, in_n hc3]; rfl)
  have n5 : ¬ d < 0 := fun z => hc3 (Or.inl z)
  have n6 : ¬ (1 : Int32) < d := fun z => hc3 (Or.inr z)
  obtain ⟨n, q1, q2, rfl⟩ := rngN (a := 1) (b := 12) (by omega) n1 n2
  obtain ⟨m, q3, q4, rfl⟩ := rngN (a := 1) (b := n) (by omega) n3 n4
  rcases tk hR.1 (2 * n) (by omega) with ⟨b, t1, t2, t3, t4⟩ | ⟨t1, t2⟩
  · obtain ⟨S1, e1, e2, e3⟩ := x_fill q2 t3
    obtain ⟨T1, e4, e5, e6⟩ := m_br48 q2 (nI m) d hF (by omega) 256 0 F (tM Sm) (by omega) (by omega) t4 (fun p' i' z => by omega)
    obtain ⟨F2, hF2⟩ : ∃ z, F = z + 1 := ⟨F - 1, by omega⟩
    have hpp : 2 ^ n ≤ 4096 := Nat.pow_le_pow_right (by omega : 2 > 0) q2
    have hp1 : 0 < 2 ^ n := Nat.two_pow_pos n
    obtain ⟨A, g0, g1, g2⟩ := best_eq q2 q3 q4 e3 e6 d (2 ^ n - 1) 1 F F2 0 (-1) (-1) (by omega) (by omega) (by omega) (by omega) (Or.inl ⟨rfl, rfl, rfl, fun a ha => by
      have : a = 0 := by omega
      subst this
      have : pop 0 = 0 := by decide
      omega⟩)
    have st0 : f_Mo_brightest_124 F T1 (nI n) (nI m) d (-1) (-1) 0 = some (if d = 0 then nI (plc b n A) else nI A, T1) := by
      rw [hF2, f_Mo_brightest_124, shl1 (by omega), if_neg (show ¬ nI (2 ^ n) ≤ 0 from nle (a := 0) hp1 (by omega)), show (0 : Int32) = nI 0 from rfl, m_bits (by omega), Option.bind_some, if_neg (fun z => by
        have := nI_inj (a := pop 0) (b := m) (by decide) (by omega) z
        have h0 : pop 0 = 0 := by decide
        omega)]
      unfold f_Mo_brightest_167
      rw [Option.bind_some, nI_1]
      exact g2
    have h1 : f_W_brightest Sx (nI n) (nI m) d = some (if d = 0 then nI (plc b n A) else nI A, S1) := by
      unfold f_W_brightest f_Shore_bestLights
      rw [wi_y n1 n2, Option.bind_some, if_neg i10, wi_y n3 n4, Option.bind_some, if_neg i10, wi_y n5 n6, Option.bind_some, if_neg i10, m2, t1, Option.bind_some, if_neg i10, e1, Option.bind_some, Option.bind_some, Option.bind_some, Option.bind_some, hF]
      have g1' : f_Shore_bestLights_13 F S1 (nI n) (nI m) 0 (-1) 1 = some (nI A, S1) := g1
      rw [g1', Option.bind_some, Option.bind_some, x_placesOf q2 (by omega) e3, Option.bind_some]
      by_cases hd : d = 0
      · rw [if_pos hd, if_pos hd]
      · rw [if_neg hd, if_neg hd]
    have h2 : f_Mo_brightest Sm (nI n) (nI m) d = some (if d = 0 then nI (plc b n A) else nI A, T1) := by
      unfold f_Mo_brightest
      rw [in_y n1 n2, Option.bind_some, if_neg i10, in_y n3 n4, Option.bind_some, if_neg i10, in_y n5 n6, Option.bind_some, if_neg i10, m2, if_pos t2, Option.bind_some, Option.bind_some, hF, ← st0]
      exact e4
    generalize (if d = 0 then nI (plc b n A) else nI A) = r at h1 h2
    refine ⟨r, S1, T1, t_W_brightest h1, t_Mo_brightest h2, hR.taken hL (fun k j hk => ?_) (fun k j hk => ?_) ?_ ?_⟩
    · unfold RX at hk
      rw [e2 k (by omega)]; unfold tX; rw [sF_ne (by omega), sF_ne (by omega)]
    · unfold RM at hk
      rw [e5 k (by omega)]; unfold tM; rw [sF_ne (by omega)]
    · rw [e2 1 (by omega)]; unfold tX; exact sF_at
    · rw [e5 0 (by omega)]; unfold tM; exact sF_at
  · refine no ?_ ?_
    · unfold f_W_brightest
      rw [wi_y n1 n2, Option.bind_some, if_neg i10, wi_y n3 n4, Option.bind_some, if_neg i10, wi_y n5 n6, Option.bind_some, if_neg i10, m2, t1]; rfl
    · unfold f_Mo_brightest
      rw [in_y n1 n2, Option.bind_some, if_neg i10, in_y n3 n4, Option.bind_some, if_neg i10, in_y n5 n6, Option.bind_some, if_neg i10, m2, if_neg t2]
end STP
