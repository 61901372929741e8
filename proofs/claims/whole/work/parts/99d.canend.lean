/-! WAITING: how few must end, the class's search -/
theorem x_ringAt {S : St} {dd i : Nat} (h : 16 * dd + i < 176) : f_Waits_ringAt S (nI dd) (nI i) = some (S 53 (16 * dd + i)) := by
  have e6 : nI dd * 16 + nI i = nI (16 * dd + i) := by
    rw [show nI dd * 16 = nI (dd * 16) from pk_mul dd 16, nI_add, Nat.mul_comm]
  have c1 : (nI (16 * dd + i)).toNatClampNeg = 16 * dd + i := cl
  unfold f_Waits_ringAt
  rw [e6, Option.bind_some, if_neg (nI_lt0 (by omega)), if_neg (show ¬ Int32.ofNat 176 ≤ nI (16 * dd + i) from nle (b := 176) (by omega)), if_pos (gn (by omega) (by omega)), c1]
theorem and_one {v : Int32} {p : Nat} (hp : p < 32) : v &&& jshl 1 (nI p) = 0 ↔ bt v p = false := by
  rw [and0]
  constructor
  · intro h
    have := h p hp
    rw [b_one hp, decide_eq_true rfl, Bool.and_true] at this
    exact this
  · intro h i hi
    rw [b_one hp]
    by_cases c : i = p
    · rw [c, h]; rfl
    · rw [decide_eq_false c]; cases bt v i <;> rfl
theorem nxt_lt {n i : Nat} (h : 1 ≤ n) : nxt n i < n := by
  unfold nxt
  by_cases c : i + 1 < n
  · rw [if_pos c]; exact c
  · rw [if_neg c]; omega
def CEs (k : St → Int32 → Int32 → Option (Int32 × St)) (m : Nat) : Prop := ∀ (S : St) (dd : Nat), m + dd ≤ 9 → LX S → ∃ v S', k S (nI m) (nI dd) = some (v, S') ∧ FR dd S S' ∧ ((v = 1 ∧ PK (eX S) (sX S) m) ∨ (v = 0 ∧ ¬ PK (eX S) (sX S) m))
/-- in the loop: S as it was, S1 as it is, those tried of l5 stay -/
def LI (dd z : Nat) (g : Nat → Nat) (S S1 : St) (i : Nat) (l5 : Int32) : Prop := (∀ r j, r ≠ 51 → r ≠ 52 → (r = 53 → j < 16 * (dd + 1)) → S1 r j = S r j) ∧ (∀ a, 16 ≤ a → S1 51 a = S 51 a) ∧ (∀ a b, a < 16 → (bt (S1 51 a) b = true ↔ bt (S 51 a) b = true ∨ ∃ j, j < i ∧ bt l5 j = true ∧ a = g j ∧ b = g (nxt z j))) ∧ (∀ j, j < i → bt l5 j = true → bt (S 51 (g j)) (g (nxt z j)) = false) ∧ ∀ j, i ≤ j → bt l5 j = false
section CE
variable {S : St} {dd z m : Nat} {g : Nat → Nat}
theorem LI.more {S1 : St} {i : Nat} {l5 : Int32} (h : LI dd z g S S1 i l5) : LI dd z g S S1 (i + 1) l5 := by
  obtain ⟨h1, h2, h3, h4, h5⟩ := h
  refine ⟨h1, h2, fun a b ha => (h3 a b ha).trans ⟨fun q => ?_, fun q => ?_⟩, fun j hj q => ?_, fun j hj => h5 j (by omega)⟩
  · rcases q with q | ⟨j, q1, q2⟩
    · exact Or.inl q
    · exact Or.inr ⟨j, by omega, q2⟩
  · rcases q with q | ⟨j, q1, q2, q3⟩
    · exact Or.inl q
    · have : j ≠ i := fun y => by rw [y, h5 i (Nat.le_refl _)] at q2; cases q2
      exact Or.inr ⟨j, by omega, q2, q3⟩
  · have : j ≠ i := fun y => by rw [y, h5 i (Nat.le_refl _)] at q; cases q
    exact h4 j (by omega) q
/-- behind one try -/
theorem LI.tried {S1 S2 : St} {i : Nat} {l5 : Int32} (h : LI dd z g S S1 i l5) (hi : i < 16) (hx : g i < 16) (hy : g (nxt z i) < 16) (hs : bt (S1 51 (g i)) (g (nxt z i)) = false) (hf : ∀ r j, r ≠ 51 → r ≠ 52 → (r = 53 → j < 16 * (dd + 1)) → S2 r j = S1 r j) (h51 : ∀ j, S2 51 j = if j = g i then S1 51 (g i) ||| jshl 1 (nI (g (nxt z i))) else S1 51 j) : LI dd z g S S2 (i + 1) (l5 ||| jshl 1 (nI i)) := by
  obtain ⟨h1, h2, h3, h4, h5⟩ := h
  have bo : ∀ j, j ≠ i → bt (l5 ||| jshl 1 (nI i)) j = bt l5 j := fun j hj => by rw [b_set (by omega), decide_eq_false hj, Bool.or_false]
  have bi : bt (l5 ||| jshl 1 (nI i)) i = true := by rw [b_set (by omega), decide_eq_true rfl, Bool.or_true]
  refine ⟨fun r j a b c => by rw [hf r j a b c]; exact h1 r j a b c, fun a ha => by rw [h51 a, if_neg (by omega)]; exact h2 a ha, fun a b ha => ?_, fun j hj q => ?_, fun j hj => by rw [bo j (by omega)]; exact h5 j (by omega)⟩
  · have key' : (∃ j, j < i + 1 ∧ bt (l5 ||| jshl 1 (nI i)) j = true ∧ a = g j ∧ b = g (nxt z j)) ↔ (∃ j, j < i ∧ bt l5 j = true ∧ a = g j ∧ b = g (nxt z j)) ∨ (a = g i ∧ b = g (nxt z i)) := by
      constructor
      · intro ⟨j, q1, q2, q3⟩
        by_cases y : j = i
        · rw [y] at q3; exact Or.inr q3
        · rw [bo j y] at q2; exact Or.inl ⟨j, by omega, q2, q3⟩
      · intro q
        rcases q with ⟨j, q1, q2, q3⟩ | q
        · exact ⟨j, by omega, by rw [bo j (by omega)]; exact q2, q3⟩
        · exact ⟨i, by omega, bi, q⟩
    rw [key', h51 a]
    by_cases y : a = g i
    · rw [if_pos y, b_set (by omega), Bool.or_eq_true, ← y, h3 a b ha]
      constructor
      · intro q
        rcases q with (q | q) | q
        · exact Or.inl q
        · exact Or.inr (Or.inl q)
        · exact Or.inr (Or.inr ⟨rfl, of_decide_eq_true q⟩)
      · intro q
        rcases q with q | q | q
        · exact Or.inl (Or.inl q)
        · exact Or.inl (Or.inr q)
        · exact Or.inr (decide_eq_true q.2)
    · rw [if_neg y, h3 a b ha]
      constructor
      · intro q
        rcases q with q | q
        · exact Or.inl q
        · exact Or.inr (Or.inl q)
      · intro q
        rcases q with q | q | q
        · exact Or.inl q
        · exact Or.inr q
        · exact absurd q.1 y
  · by_cases y : j = i
    · rw [y]
      cases c : bt (S 51 (g i)) (g (nxt z i)) with
      | false => rfl
      | true => rw [(h3 (g i) (g (nxt z i)) hx).mpr (Or.inl c)] at hs; cases hs
    · rw [bo j y] at q
      exact h4 j (by omega) q
theorem LI.sub {S1 : St} {i : Nat} {l5 : Int32} (h : LI dd z g S S1 i l5) {a b : Nat} (q : sX S a b = true) : sX S1 a b = true := by
  unfold sX at q ⊢
  obtain ⟨q1, q2⟩ := Bool.and_eq_true _ _ |>.mp q
  obtain ⟨q2, q3⟩ := Bool.and_eq_true _ _ |>.mp q2
  rw [q1, q2, (h.2.2.1 a b (of_decide_eq_true q1)).mpr (Or.inl q3)]; rfl
/-- those that stay are none of d -/
theorem LI.none {e d : Nat → Nat → Bool} {S1 : St} {i : Nat} {l5 : Int32} (h : LI dd z g S S1 i l5) (hd : KD e (sX S) d) (hj : ∀ j, j < i → d (g j) (g (nxt z j)) = false) {a b : Nat} (ha : a < 16) (hb : b < 16) (q : bt (S1 51 a) b = true) : d a b = false := by
  rcases (h.2.2.1 a b ha).mp q with q | ⟨j, q1, q2, q3, q4⟩
  · cases y : d a b with
    | false => rfl
    | true =>
      have := (hd.1 a b y).2
      rw [sX_e ha hb, q] at this
      cases this
  · rw [q3, q4]; exact hj j q1
theorem k41 {K : St → Int32 → Int32 → Option (Int32 × St)} (hK : CEs K (m - 1)) (hm : 1 ≤ m) (hmd : m + dd ≤ 9) (hl : LX S) (hz : 1 ≤ z) (hz16 : z ≤ 16) (hg : ∀ i, i < z → S 53 (16 * dd + i) = nI (g i)) (hr : ∀ i, i < z → g i < 16 ∧ eX S (g i) (g (nxt z i)) = true) : ∀ n i F (S1 : St) (l4 l5 : Int32), i + n = z → n < F → LI dd z g S S1 i l5 → ((l4 = 0 ∧ ∀ d, KD (eX S) (sX S) d → cn2 d ≤ m → ∀ j, j < i → d (g j) (g (nxt z j)) = false) ∨ (l4 = 1 ∧ PK (eX S) (sX S) m)) → ∃ S3 l4' l5' i', i' ≤ z ∧ f_Waits_canEnd_41 K F S1 (nI m) (nI dd) (nI z) l4 l5 (nI i) = f_Waits_canEnd_164 K S3 (nI dd) (nI z) l4' l5' ∧ LI dd z g S S3 i' l5' ∧ ((l4' = 1 ∧ PK (eX S) (sX S) m) ∨ (l4' = 0 ∧ ¬ PK (eX S) (sX S) m)) := by
  intro n
  induction n with
  | zero =>
    intro i F S1 l4 l5 hi hF h1 h2
    obtain ⟨F, rfl⟩ : ∃ v, F = v + 1 := ⟨F - 1, by omega⟩
    have : i = z := by omega
    subst this
    refine ⟨S1, l4, l5, i, Nat.le_refl _, by rw [f_Waits_canEnd_41, if_pos (yle (Nat.le_refl _))], h1, ?_⟩
    rcases h2 with ⟨a1, a2⟩ | a
    · refine Or.inr ⟨a1, fun ⟨d, d1, d2⟩ => ?_⟩
      obtain ⟨j, j1, j2⟩ := kd_hit d1 hz hr
      rw [a2 d d1 d2 j j1] at j2
      cases j2
    · exact Or.inl a
  | succ n ih =>
    intro i F S1 l4 l5 hi hF h1 h2
    obtain ⟨F, rfl⟩ : ∃ v, F = v + 1 := ⟨F - 1, by omega⟩
    rw [f_Waits_canEnd_41, if_neg (nle (by omega))]
    rcases h2 with ⟨a1, a2⟩ | ⟨a1, a2⟩
    · have c53 : ∀ j, j < z → S1 53 (16 * dd + j) = nI (g j) := fun j hj => by rw [h1.1 53 _ (by omega) (by omega) (by omega)]; exact hg j hj
      obtain ⟨x, hx⟩ : ∃ x, g i = x := ⟨_, rfl⟩
      obtain ⟨y, hy⟩ : ∃ y, g (nxt z i) = y := ⟨_, rfl⟩
      have nl := nxt_lt (i := i) hz
      have x16 : x < 16 := by rw [← hx]; exact (hr i (by omega)).1
      have y16' : y < 16 := by rw [← hy]; exact (hr _ nl).1
      have exy : eX S x y = true := by rw [← hx, ← hy]; exact (hr i (by omega)).2
      have cx : (nI x).toNatClampNeg = x := cl
      have gx : ig (nI x) 16 = true := gn x16 (by omega)
      have e80 : (if nI z ≤ nI i + 1 then f_Waits_canEnd_80 K (f_Waits_canEnd_41 K F) S1 (nI m) (nI dd) (nI z) l4 l5 (nI i) (nI x) (0 : Int32) (nI dd) (1 : Int32) else f_Waits_canEnd_80 K (f_Waits_canEnd_41 K F) S1 (nI m) (nI dd) (nI z) l4 l5 (nI i) (nI x) (nI i + 1) (nI dd) (1 : Int32)) = f_Waits_canEnd_80 K (f_Waits_canEnd_41 K F) S1 (nI m) (nI dd) (nI z) l4 l5 (nI i) (nI x) (nI (nxt z i)) (nI dd) (1 : Int32) := by
        rw [nI_1]
        unfold nxt
        by_cases c : i + 1 < z
        · rw [if_neg (nle c), if_pos c]
        · rw [if_pos (yle (by omega)), if_neg c]; rfl
      rw [if_pos a1, x_ringAt (by omega), c53 i (by omega), hx, Option.bind_some, e80]
      unfold f_Waits_canEnd_80 f_Waits_canEnd_158
      rw [x_ringAt (by omega), c53 _ nl, hy, Option.bind_some, Option.bind_some, if_pos gx, cx]
      by_cases c : bt (S1 51 x) y = false
      · rw [if_pos ((and_one (by omega)).mpr c), if_pos gx, if_pos gx, Option.bind_some]
        obtain ⟨S2, hS2⟩ : ∃ S2, sF S1 50 x (S1 50 x &&& (jshl 1 (nI y) ^^^ (-1))) = S2 := ⟨_, rfl⟩
        have r50 : ∀ j, S1 50 j = S 50 j := fun j => h1.1 50 j (by omega) (by omega) (by omega)
        have lx2 : LX S2 := fun a b ha hb => by
          rw [← hS2]
          by_cases q : a = x
          · rw [q, sF_at, b_clr (by omega), r50 x, hl x b x16 hb]; rfl
          · rw [sF_ne (Or.inr q), r50 a]; exact hl a b ha hb
        have e2 : eX S2 = st2 (eX S) x y false := by
          funext a b
          unfold st2
          by_cases q : a = x ∧ b = y
          · rw [if_pos q, q.1, q.2, eX_e x16 y16', ← hS2, sF_at, b_clr (by omega)]
            simp
          · rw [if_neg q]
            unfold eX
            by_cases q1 : a = x
            · have q2 : b ≠ y := fun w => q ⟨q1, w⟩
              rw [q1, ← hS2, sF_at, b_clr (by omega), r50 x]
              simp [q2]
            · rw [← hS2, sF_ne (Or.inr q1), r50 a]
        have s2 : sX S2 = sX S1 := sX_cg (fun j _ => by rw [← hS2, sF_ne (by omega)])
        obtain ⟨v, S4, g1, g2, g3⟩ := hK S2 (dd + 1) (by omega) lx2
        rw [hS2, show nI m - 1 = nI (m - 1) from pk_sub (b := 1) hm, show nI dd + 1 = nI (dd + 1) from nI_add dd 1, g1, Option.bind_some, Option.bind_some, if_pos gx, if_pos gx, Option.bind_some, if_pos gx, if_pos gx, Option.bind_some, Option.bind_some, nI_1, Option.bind_some]
        obtain ⟨S5, hS5⟩ : ∃ S5, sF S4 50 x (S4 50 x ||| jshl 1 (nI y)) = S5 := ⟨_, rfl⟩
        have s5 : ∀ r j, r ≠ 52 → (r = 53 → j < 16 * (dd + 1)) → S5 r j = S1 r j := fun r j hr' hj => by
          by_cases q : r = 50 ∧ j = x
          · obtain ⟨rfl, rfl⟩ := q
            rw [← hS5, sF_at, g2 50 _ (by omega) (by omega), ← hS2, sF_at]
            apply b_ext
            intro b hb
            rw [b_set (by omega), b_clr (by omega)]
            by_cases w : b = y
            · rw [w, decide_eq_true rfl, r50, ← eX_e x16 y16', exy]; rfl
            · rw [decide_eq_false w]; cases bt (S1 50 j) b <;> rfl
          · rw [← hS5, sF_ne (by omega), g2 r j hr' hj, ← hS2, sF_ne (by omega)]
        have li := h1.tried (S2 := sF S5 51 x (S5 51 x ||| jshl 1 (nI y))) (by omega) (by rw [hx]; exact x16) (by rw [hy]; exact y16') (by rw [hx, hy]; exact c) (fun r j b1 b2 b3 => by rw [sF_ne (Or.inl b1)]; exact s5 r j b2 b3) (fun j => by
          rw [hx, hy]
          by_cases q : j = x
          · rw [if_pos q, q, sF_at, s5 51 x (by omega) (by omega)]
          · rw [if_neg q, sF_ne (Or.inr q), s5 51 j (by omega) (by omega)])
        rw [hS5]
        refine ih (i + 1) F _ v _ (by omega) (by omega) li ?_
        rw [e2, s2] at g3
        rcases g3 with ⟨b1, d, d1, d2⟩ | ⟨b1, b2⟩
        · refine Or.inr ⟨b1, st2 d x y true, kd_up exy ?_ d1 (fun a b q => h1.sub q), ?_⟩
          · cases q : sX S x y with
            | false => rfl
            | true =>
              have := h1.sub q
              rw [sX_e x16 y16', c] at this
              cases this
          · have := cn2_st (d := d) (x := x) (y := y) (v := true) x16 y16'
            simp only [reduceIte] at this
            omega
        · refine Or.inl ⟨b1, fun d d1 d2 j hj => ?_⟩
          by_cases q : j = i
          · rw [q, hx, hy]
            cases w : d x y with
            | false => rfl
            | true =>
              refine absurd ⟨st2 d x y false, kd_down d1 (fun a b u1 u2 => ?_), ?_⟩ b2
              · cases w' : sX S1 a b with
                | false => rfl
                | true =>
                  exfalso
                  have lt : a < 16 ∧ b < 16 := eX_lt (d1.1 a b u1).1
                  rw [sX_e lt.1 lt.2] at w'
                  have := h1.none d1 (a2 d d1 d2) lt.1 lt.2 w'
                  rw [u1] at this
                  cases this
              · have := cn2_st (d := d) (x := x) (y := y) (v := false) x16 y16'
                rw [w] at this
                simp only [reduceIte, Bool.false_eq_true] at this
                omega
          · exact a2 d d1 d2 j (by omega)
      · have c' : bt (S1 51 x) y = true := ts_nf c
        rw [if_neg (fun q => c ((and_one (by omega)).mp q)), nI_1, Option.bind_some]
        refine ih (i + 1) F S1 l4 l5 (by omega) (by omega) h1.more (Or.inl ⟨a1, fun d d1 d2 j hj => ?_⟩)
        by_cases q : j = i
        · rw [q, hx, hy]; exact h1.none d1 (a2 d d1 d2) x16 y16' c'
        · exact a2 d d1 d2 j (by omega)
    · rw [if_neg (by rw [a1]; exact i10)]
      exact ⟨S1, l4, l5, i, by omega, rfl, h1, Or.inl ⟨a1, a2⟩⟩
theorem k164 {K : St → Int32 → Int32 → Option (Int32 × St)} {S3 : St} {l4 l5 : Int32} {i' : Nat} (hd : dd ≤ 9) (hz : 1 ≤ z) (hz16 : z ≤ 16) (hi' : i' ≤ z) (hg : ∀ i, i < z → S 53 (16 * dd + i) = nI (g i)) (hr : ∀ i, i < z → g i < 16) (h : LI dd z g S S3 i' l5) (h4 : l4 = 0 ∨ l4 = 1) : ∃ S', f_Waits_canEnd_164 K S3 (nI dd) (nI z) l4 l5 = some (l4, S') ∧ FR (dd + 1) S S' := by
  obtain ⟨F0, hF0⟩ : ∃ F, FU = F := ⟨_, rfl⟩
  have hF0' : 300 < F0 := by rw [← hF0]; exact FU_gt (by omega)
  obtain ⟨h1, h2, h3, h4', h5⟩ := h
  have hT : ∀ a b, (∃ j, j < i' ∧ bt l5 j = true ∧ a = g j ∧ b = g (nxt z j)) ↔ ∃ j, j < z ∧ bt l5 j = true ∧ a = g j ∧ b = g (nxt z j) := fun a b => by
    constructor
    · intro ⟨j, q1, q2⟩; exact ⟨j, by omega, q2⟩
    · intro ⟨j, q1, q2, q3⟩
      refine ⟨j, ?_, q2, q3⟩
      apply Classical.byContradiction
      intro q
      rw [h5 j (by omega)] at q2
      cases q2
  have k167 : ∀ n i F (S1 : St), i + n = z → n < F → (∀ r j, r ≠ 51 → r ≠ 52 → (r = 53 → j < 16 * (dd + 1)) → S1 r j = S r j) → (∀ a, 16 ≤ a → S1 51 a = S 51 a) → (∀ a b, a < 16 → (bt (S1 51 a) b = true ↔ (bt (S 51 a) b = true ∨ ∃ j, j < z ∧ bt l5 j = true ∧ a = g j ∧ b = g (nxt z j)) ∧ ¬ ∃ j, j < i ∧ bt l5 j = true ∧ a = g j ∧ b = g (nxt z j))) → ∃ S', f_Waits_canEnd_167 K F S1 (nI dd) (nI z) l4 l5 (nI i) = some (l4, S') ∧ FR (dd + 1) S S' := by
    intro n
    induction n with
    | zero =>
      intro i F S1 hi hF c1 c2 c3
      obtain ⟨F, rfl⟩ : ∃ v, F = v + 1 := ⟨F - 1, by omega⟩
      have : i = z := by omega
      subst this
      refine ⟨S1, by rw [f_Waits_canEnd_167, if_pos (yle (Nat.le_refl _)), if_pos h4], fun r j hr' hj => ?_⟩
      by_cases q : r = 51
      · rw [q]
        by_cases a16 : j < 16
        · apply b_ext
          intro b hb
          have iff1 : bt (S1 51 j) b = true ↔ bt (S 51 j) b = true := by
            rw [c3 j b a16]
            constructor
            · intro ⟨q1, q2⟩
              rcases q1 with q1 | q1
              · exact q1
              · exact absurd q1 q2
            · intro q1
              refine ⟨Or.inl q1, fun ⟨j', w1, w2, w3, w4⟩ => ?_⟩
              obtain ⟨j'', w1', w2', w3', w4'⟩ := (hT j b).mpr ⟨j', w1, w2, w3, w4⟩
              have := h4' j'' w1' w2'
              rw [← w3', ← w4', q1] at this
              cases this
          cases w : bt (S 51 j) b with
          | true => exact iff1.mpr w
          | false => exact ts_nt (fun w' => by rw [iff1.mp w'] at w; cases w)
        · exact c2 j (by omega)
      · exact c1 r j q hr' hj
    | succ n ih =>
      intro i F S1 hi hF c1 c2 c3
      obtain ⟨F, rfl⟩ : ∃ v, F = v + 1 := ⟨F - 1, by omega⟩
      rw [f_Waits_canEnd_167, if_neg (nle (by omega))]
      by_cases c : bt l5 i = false
      · rw [if_pos ((bt1 (by omega)).mpr c)]
        unfold f_Waits_canEnd_223
        rw [nI_1, Option.bind_some]
        refine ih (i + 1) F S1 (by omega) (by omega) c1 c2 (fun a b ha => (c3 a b ha).trans ?_)
        have : (∃ j, j < i ∧ bt l5 j = true ∧ a = g j ∧ b = g (nxt z j)) ↔ ∃ j, j < i + 1 ∧ bt l5 j = true ∧ a = g j ∧ b = g (nxt z j) := by
          constructor
          · intro ⟨j, q1, q2⟩; exact ⟨j, by omega, q2⟩
          · intro ⟨j, q1, q2, q3⟩
            have : j ≠ i := fun y => by rw [y, c] at q2; cases q2
            exact ⟨j, by omega, q2, q3⟩
        rw [this]
      · have c' : bt l5 i = true := ts_nf c
        have c53 : ∀ j, j < z → S1 53 (16 * dd + j) = nI (g j) := fun j hj => by rw [c1 53 _ (by omega) (by omega) (by omega)]; exact hg j hj
        obtain ⟨x, hx⟩ : ∃ x, g i = x := ⟨_, rfl⟩
        obtain ⟨y, hy⟩ : ∃ y, g (nxt z i) = y := ⟨_, rfl⟩
        have nl := nxt_lt (i := i) hz
        have x16 : x < 16 := by rw [← hx]; exact hr i (by omega)
        have y16' : y < 16 := by rw [← hy]; exact hr _ nl
        have cx : (nI x).toNatClampNeg = x := cl
        have gx : ig (nI x) 16 = true := gn x16 (by omega)
        have e215 : (if nI z ≤ nI i + 1 then f_Waits_canEnd_215 K (f_Waits_canEnd_167 K F) S1 (nI dd) (nI z) l4 l5 (nI i) (0 : Int32) (nI dd) (1 : Int32) (S1 51 x) (nI x) else f_Waits_canEnd_215 K (f_Waits_canEnd_167 K F) S1 (nI dd) (nI z) l4 l5 (nI i) (nI i + 1) (nI dd) (1 : Int32) (S1 51 x) (nI x)) = f_Waits_canEnd_215 K (f_Waits_canEnd_167 K F) S1 (nI dd) (nI z) l4 l5 (nI i) (nI (nxt z i)) (nI dd) (1 : Int32) (S1 51 x) (nI x) := by
          rw [nI_1]
          unfold nxt
          by_cases c : i + 1 < z
          · rw [if_neg (nle c), if_pos c]
          · rw [if_pos (yle (by omega)), if_neg c]; rfl
        rw [if_neg (fun q => c ((bt1 (by omega)).mp q)), x_ringAt (by omega), c53 i (by omega), hx, Option.bind_some, if_pos gx, cx, e215]
        unfold f_Waits_canEnd_215 f_Waits_canEnd_223
        rw [x_ringAt (by omega), c53 _ nl, hy, Option.bind_some, if_pos gx, cx, Option.bind_some, nI_1, Option.bind_some]
        refine ih (i + 1) F _ (by omega) (by omega) (fun r j b1 b2 b3 => by rw [sF_ne (Or.inl b1)]; exact c1 r j b1 b2 b3) (fun a ha => by rw [sF_ne (Or.inr (by omega))]; exact c2 a ha) (fun a b ha => ?_)
        have key' : (∃ j, j < i + 1 ∧ bt l5 j = true ∧ a = g j ∧ b = g (nxt z j)) ↔ (∃ j, j < i ∧ bt l5 j = true ∧ a = g j ∧ b = g (nxt z j)) ∨ (a = x ∧ b = y) := by
          constructor
          · intro ⟨j, q1, q2, q3⟩
            by_cases w : j = i
            · rw [w, hx, hy] at q3; exact Or.inr q3
            · exact Or.inl ⟨j, by omega, q2, q3⟩
          · intro q
            rcases q with ⟨j, q1, q2, q3⟩ | q
            · exact ⟨j, by omega, q2, q3⟩
            · exact ⟨i, by omega, c', by rw [hx]; exact q.1, by rw [hy]; exact q.2⟩
        rw [key', not_or, ← and_assoc, ← c3 a b ha]
        by_cases w : a = x
        · rw [w, sF_at, b_clr (by omega), Bool.and_eq_true]
          constructor
          · intro ⟨q1, q2⟩
            exact ⟨q1, fun q => by rw [decide_eq_true q.2] at q2; cases q2⟩
          · intro ⟨q1, q2⟩
            exact ⟨q1, by rw [decide_eq_false (fun q => q2 ⟨rfl, q⟩)]; rfl⟩
        · rw [sF_ne (Or.inr w)]
          exact ⟨fun q => ⟨q, fun q2 => w q2.1⟩, fun q => q.1⟩
  unfold f_Waits_canEnd_164
  rw [Option.bind_some, hF0]
  refine k167 z 0 F0 S3 (by omega) (by omega) h1 h2 (fun a b ha => ?_)
  rw [h3 a b ha, hT a b]
  exact ⟨fun q => ⟨q, fun ⟨j, hj, _⟩ => by omega⟩, fun q => q.1⟩
theorem ce_step {K : St → Int32 → Int32 → Option (Int32 × St)} (hK : 1 ≤ m → CEs K (m - 1)) : CEs (f_Waits_canEnd K) m := by
  intro S dd hmd hl
  obtain ⟨F0, hF0⟩ : ∃ F, FU = F := ⟨_, rfl⟩
  have hF0' : 300 < F0 := by rw [← hF0]; exact FU_gt (by omega)
  obtain ⟨z, S2, g1, g2, g3, g4⟩ := x_short (dd := dd) hl (by omega)
  have r50 : ∀ j, S2 50 j = S 50 j := fun j => g2 50 j (by omega) (by omega)
  have r51 : ∀ j, S2 51 j = S 51 j := fun j => g2 51 j (by omega) (by omega)
  have e2 : eX S2 = eX S := eX_cg (fun j _ => r50 j)
  have s2 : sX S2 = sX S := sX_cg (fun j _ => r51 j)
  have lx2 : LX S2 := fun a b ha hb => by rw [r50 a]; exact hl a b ha hb
  unfold f_Waits_canEnd
  rw [g1, Option.bind_some, Option.bind_some]
  rcases g4 with ⟨z0, r, hr⟩ | ⟨hz, g, hg, hr⟩
  · rw [if_pos (show nI z = 0 by rw [z0]; rfl)]
    exact ⟨1, S2, rfl, g2, Or.inl ⟨rfl, fun _ _ => false, ⟨fun a b q => (by cases q), r, hr⟩, by rw [cn2_0 (fun _ _ => rfl)]; omega⟩⟩
  · rw [if_neg (show ¬ nI z = 0 from nI_k 0 (by omega) (by omega) (by omega))]
    by_cases m0 : m = 0
    · rw [if_pos (show nI m ≤ 0 by rw [m0]; decide)]
      refine ⟨0, S2, rfl, g2, Or.inr ⟨rfl, fun ⟨d, d1, d2⟩ => ?_⟩⟩
      obtain ⟨i, i1, i2⟩ := kd_hit d1 hz hr
      have := cn2_st (d := d) (x := g i) (y := g (nxt z i)) (v := false) (hr i i1).1 (hr _ (nxt_lt hz)).1
      rw [i2] at this
      simp only [reduceIte, Bool.false_eq_true] at this
      omega
    · rw [if_neg (show ¬ nI m ≤ 0 from nle (a := 0) (by omega)), x_two S2 lx2, Option.bind_some, e2]
      have rm := r2_max (eX S)
      by_cases c : m < r2 (eX S)
      · rw [if_pos (ylt c)]
        refine ⟨0, S2, rfl, g2, Or.inr ⟨rfl, fun ⟨d, d1, d2⟩ => ?_⟩⟩
        have := r2_le d1
        omega
      · rw [if_neg (nlt' (by omega)), if_pos (show nI dd < 10 from ylt (b := 10) (by omega)), Option.bind_some, Option.bind_some, Option.bind_some, hF0]
        obtain ⟨S3, l4', l5', i', q1, q2, q3, q4⟩ := k41 (S := S2) (K := K) (dd := dd) (z := z) (g := g) (hK (by omega)) (by omega) hmd lx2 hz g3 hg (by rw [e2]; exact hr) z 0 F0 S2 0 0 (by omega) (by omega) ⟨fun _ _ _ _ _ => rfl, fun _ _ => rfl, fun a b ha => ⟨fun q => Or.inl q, fun q => by
          rcases q with q | ⟨j, hj, _⟩
          · exact q
          · omega⟩, fun j hj => by omega, fun j _ => b_0 j⟩ (Or.inl ⟨rfl, fun d _ _ j hj => by omega⟩)
        have q2' : f_Waits_canEnd_41 K F0 S2 (nI m) (nI dd) (nI z) 0 0 0 = f_Waits_canEnd_164 K S3 (nI dd) (nI z) l4' l5' := q2
        obtain ⟨S', w1, w2⟩ := k164 (K := K) (S := S2) (by omega) hz g3 q1 hg (fun i hi => (hr i hi).1) q3 (by
          rcases q4 with ⟨q, -⟩ | ⟨q, -⟩
          · exact Or.inr q
          · exact Or.inl q)
        rw [q2', w1]
        rw [e2, s2] at q4
        exact ⟨l4', S', rfl, fun r j b1 b2 => by rw [w2 r j b1 (fun q => by have := b2 q; omega)]; exact g2 r j b1 b2, q4⟩
theorem fce : ∀ d m, m < d → CEs (FCE d) m
  | 0, m, h => by omega
  | d + 1, m, h => ce_step (K := FCE d) (fun _ => fce d (m - 1) (by omega))
end CE
theorem x_fewest {S : St} (hl : LX S) (hs : sX S = fun _ _ => false) : ∃ v S', v ≤ 10 ∧ f_Waits_fewestToEnd S = some (nI v, S') ∧ (∀ j, j < v → ¬ PK (eX S) (fun _ _ => false) j) ∧ (v = 10 ∨ PK (eX S) (fun _ _ => false) v) ∧ FR 0 S S' := by
  obtain ⟨F0, hF0⟩ : ∃ F, FU = F := ⟨_, rfl⟩
  have hF0' : 300 < F0 := by rw [← hF0]; exact FU_gt (by omega)
  have k5 : ∀ n j F (S1 : St), j + n = 10 → n < F → FR 0 S S1 → (∀ i, i < j → ¬ PK (eX S) (fun _ _ => false) i) → ∃ v S', v ≤ 10 ∧ f_Waits_fewestToEnd_5 F S1 (nI j) = some (nI v, S') ∧ (∀ j, j < v → ¬ PK (eX S) (fun _ _ => false) j) ∧ (v = 10 ∨ PK (eX S) (fun _ _ => false) v) ∧ FR 0 S S' := by
    intro n
    induction n with
    | zero =>
      intro j F S1 hj hF h1 h2
      obtain ⟨F, rfl⟩ : ∃ v, F = v + 1 := ⟨F - 1, by omega⟩
      have : j = 10 := by omega
      subst this
      exact ⟨10, S1, Nat.le_refl _, by rw [f_Waits_fewestToEnd_5, if_pos (by decide)]; rfl, h2, Or.inl rfl, h1⟩
    | succ n ih =>
      intro j F S1 hj hF h1 h2
      obtain ⟨F, rfl⟩ : ∃ v, F = v + 1 := ⟨F - 1, by omega⟩
      have e1 : eX S1 = eX S := eX_cg (fun j _ => h1 50 j (by omega) (by omega))
      have s1 : sX S1 = fun _ _ => false := (sX_cg (fun j _ => h1 51 j (by omega) (by omega))).trans hs
      obtain ⟨v, S2, g1, g2, g3⟩ := fce 15 j (by omega) S1 0 (by omega) (fun a b ha hb => by rw [h1 50 a (by omega) (by omega)]; exact hl a b ha hb)
      rw [e1, s1] at g3
      have g1' : F_Waits_canEnd S1 (nI j) 0 = some (v, S2) := g1
      have fr : FR 0 S S2 := fun r i b1 b2 => by rw [g2 r i b1 b2]; exact h1 r i b1 b2
      rw [f_Waits_fewestToEnd_5, if_neg (show ¬ (10 : Int32) ≤ nI j from nle (b := 10) (by omega)), g1', Option.bind_some]
      rcases g3 with ⟨a1, a2⟩ | ⟨a1, a2⟩
      · rw [if_neg (by rw [a1]; exact i10)]
        exact ⟨j, S2, by omega, rfl, h2, Or.inr a2, fr⟩
      · rw [if_pos a1, nI_1, Option.bind_some]
        refine ih (j + 1) F S2 (by omega) (by omega) fr (fun i hi => ?_)
        by_cases q : i = j
        · rw [q]; exact a2
        · exact h2 i (by omega)
  have low : ∀ i, i < r2 (eX S) → ¬ PK (eX S) (fun _ _ => false) i := fun i hi ⟨d, d1, d2⟩ => by
    have := r2_le d1
    omega
  unfold f_Waits_fewestToEnd
  rw [x_two S hl, Option.bind_some, hF0]
  have rm := r2_max (eX S)
  by_cases c : r2 (eX S) ≤ 10
  · exact k5 (10 - r2 (eX S)) (r2 (eX S)) F0 S (by omega) (by omega) (fun _ _ _ _ => rfl) low
  · obtain ⟨F1, rfl⟩ : ∃ v, F0 = v + 1 := ⟨F0 - 1, by omega⟩
    refine ⟨10, S, Nat.le_refl _, ?_, fun j hj => low j (by omega), Or.inl rfl, fun _ _ _ _ => rfl⟩
    rw [f_Waits_fewestToEnd_5, if_pos (show (10 : Int32) ≤ nI (r2 (eX S)) from yle (a := 10) (by omega))]
    rfl
