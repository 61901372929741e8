/-! ORDERS -/
def pt (r wa : Nat → Int32) (t k : Nat) : Nat := if lf r k then (if wa k = -1 then t else if lf r (wa k).toNatClampNeg then (wa k).toNatClampNeg else t) else t
theorem pt_no {r wa : Nat → Int32} {t k : Nat} (h : wa k = -1) : pt r wa t k = t := by
  unfold pt
  rw [if_pos h]
  split <;> rfl
theorem pt_yes {r wa : Nat → Int32} {t k a : Nat} (h : wa k = nI a) (ha : a < 2 ^ 31) : pt r wa t k = if lf r k && lf r a then a else t := by
  unfold pt
  have : ¬ wa k = -1 := by rw [h]; exact nI_m1 ha
  rw [if_neg this, h, cl ha]
  cases lf r k with
  | false => rfl
  | true => simp
section FO
variable {r wa : Nat → Int32} {t : Nat}
theorem pt_lt (hw : ∀ k, k < t → wa k = -1 ∨ ∃ a, a < k ∧ wa k = nI a) (ht : t ≤ 24) : ∀ v, v < t → pt r wa t v < v ∨ t ≤ pt r wa t v := by
  intro v hv
  rcases hw v hv with e | ⟨a, h1, h2⟩
  · rw [pt_no e]; exact Or.inr (Nat.le_refl _)
  · rw [pt_yes h2 (by omega)]
    split
    · exact Or.inl h1
    · exact Or.inr (Nat.le_refl _)
theorem pt_lf {k : Nat} (h : pt r wa t k < t) : lf r k = true ∧ lf r (pt r wa t k) = true := by
  unfold pt at h ⊢
  cases q : lf r k with
  | false => rw [if_neg (by rw [q]; decide)] at h; omega
  | true =>
    rw [if_pos q] at h
    refine ⟨rfl, ?_⟩
    rw [if_pos rfl]
    by_cases q2 : wa k = -1
    · rw [if_pos q2] at h; omega
    · rw [if_neg q2] at h ⊢
      by_cases q3 : lf r (wa k).toNatClampNeg = true
      · rw [if_pos q3]; exact q3
      · rw [if_neg q3] at h; omega
theorem lf_up : upC (pt r wa t) t (lf r) := fun c _ h _ => (pt_lf h).1
theorem dsc_le {par : Nat → Nat} {n : Nat} (hp : ∀ v, v < n → par v < v ∨ n ≤ par v) {v : Nat} : ∀ u, u < n → dsc par n v u = true → v ≤ u := by
  intro u
  induction u using Nat.strongRecOn with
  | _ u ih =>
    intro hu h
    rw [dsc_eq hp hu, Bool.or_eq_true, decide_eq_true_eq, Bool.and_eq_true, decide_eq_true_eq] at h
    rcases h with e | ⟨h1, h2⟩
    · omega
    · have q := hp u hu
      have := ih (par u) (by omega) h1 h2
      omega
theorem dsc_lf (hw : ∀ k, k < t → wa k = -1 ∨ ∃ a, a < k ∧ wa k = nI a) (ht : t ≤ 24) {k u : Nat} (hk : lf r k = true) (hu : u < t) (h : dsc (pt r wa t) t k u = true) : lf r u = true := by
  rw [dsc_eq (pt_lt hw ht) hu, Bool.or_eq_true, decide_eq_true_eq, Bool.and_eq_true, decide_eq_true_eq] at h
  rcases h with e | ⟨h1, h2⟩
  · rw [e]; exact hk
  · exact (pt_lf h1).1
end FO
section X
variable {S : St} {P t : Nat} {r wh wa : Nat → Int32}
theorem NP.wal (h : NP S P t r wh wa) : ∀ k, k < t → wa k = -1 ∨ ∃ a, a < k ∧ wa k = nI a := fun k hk => (h.2.2.1 k hk).2
theorem x_need (h : NP S P t r wh wa) {k : Nat} (hkt : k < t) (hl : lf r k = true) : f_Parish_leftThatNeed S P (nI k) = some (nI (hk (pt r wa t) t k)) := by
  have ht := h.1
  have hp := pt_lt (r := r) h.wal ht
  obtain ⟨F, hF⟩ : ∃ F, FU = F := ⟨_, rfl⟩
  have hF' : 300 < F := by rw [← hF]; exact FU_gt (by omega)
  have key : ∀ m j F (x : Int32), j + m = t → m < F → k < j → (∀ u, u < 32 → bt x u = (decide (u < j) && dsc (pt r wa t) t k u)) → f_Parish_leftThatNeed_8 P F S x (nI j) = some (nI (hk (pt r wa t) t k)) := by
    intro m
    induction m with
    | zero =>
      intro j F x hj hF hkj hx
      obtain ⟨F, rfl⟩ : ∃ z, F = z + 1 := ⟨F - 1, by omega⟩
      have : j = t := by omega
      subst this
      rw [f_Parish_leftThatNeed_8, h.things, if_pos (yle (Nat.le_refl _))]
      unfold f_Parish_leftThatNeed_80
      rw [bc_I, Option.bind_some]
      congr 2
      rw [show (32 : Nat) = j + (32 - j) by omega, fb_ct_split]
      have z : fb_ct (fun u => bt x (j + u)) (32 - j) = 0 := fb_ct_zero.mpr (fun u hu => by
        show bt x (j + u) = false
        rw [hx (j + u) (by omega), decide_eq_false (by omega), Bool.false_and])
      rw [z, Nat.add_zero]
      exact fb_ct_cong (fun u hu => by rw [hx u (by omega), decide_eq_true hu, Bool.true_and])
    | succ m ih =>
      intro j F x hj hF hkj hx
      obtain ⟨F, rfl⟩ : ∃ z, F = z + 1 := ⟨F - 1, by omega⟩
      have hjt : j < t := by omega
      have g1 : ig (nI j) 24 = true := gn (by omega) (by omega)
      have c1 : (nI j).toNatClampNeg = j := cl
      have stay : dsc (pt r wa t) t k j = false → f_Parish_leftThatNeed_8 P F S x (nI (j + 1)) = some (nI (hk (pt r wa t) t k)) := fun hd => by
        refine ih (j + 1) F x (by omega) (by omega) (by omega) (fun u hu => ?_)
        rw [hx u hu]
        by_cases q : u = j
        · subst q; rw [hd, Bool.and_false, Bool.and_false]
        · congr 1; apply decide_eq_decide.mpr; omega
      have dj := dsc_eq (v := k) hp hjt
      rw [decide_eq_false (show ¬ j = k by omega), Bool.false_or] at dj
      rw [f_Parish_leftThatNeed_8, h.things, if_neg (nle hjt), if_neg (n24 (show j < 24 by omega)), if_pos g1, c1, h.wait hjt]
      unfold f_Parish_leftThatNeed_52 f_Parish_leftThatNeed_53 f_Parish_leftThatNeed_74
      rcases h.wal j hjt with e | ⟨a, a1, a2⟩
      · have hn : f_Parish_has S P (pw (wa j)) = some 0 := has_n h.things (Or.inl (by rw [e]; decide))
        rw [hn, Option.bind_some, if_pos rfl, if_pos rfl, Option.bind_some, nI_1]
        apply stay
        rw [dj, pt_no e, decide_eq_false (Nat.lt_irrefl _), Bool.false_and]
      · have pwa : pw (wa j) = nI a := by unfold pw; rw [a2, if_neg (nI_m1 (by omega))]
        have hn : f_Parish_has S P (nI a) = some 1 := has_y h.things ht (by omega)
        rw [pwa, hn, Option.bind_some, if_neg i10, if_pos g1]
        simp only [if_neg i10, ↓reduceIte, nI_1, Option.bind_some, h.done hjt]
        have bx := hx a (by omega)
        rw [decide_eq_true a1, Bool.true_and] at bx
        have bb : (jushr x (nI a) &&& 1) = 0 ↔ dsc (pt r wa t) t k a = false := by rw [bt1 (by omega), bx]
        have pe := pt_yes (r := r) (t := t) a2 (by omega)
        cases hd : dsc (pt r wa t) t k a with
        | false =>
          rw [if_pos (bb.mpr hd)]
          apply stay
          rw [dj, pe]
          split
          · rw [hd, Bool.and_false]
          · rw [decide_eq_false (Nat.lt_irrefl _), Bool.false_and]
        | true =>
          rw [if_neg (fun z => by rw [bb.mp z] at hd; cases hd)]
          have la := dsc_lf h.wal ht hl (show a < t by omega) hd
          cases hlj : lf r j with
          | false =>
            have : ¬ r (72 + j) = 0 := of_decide_eq_false hlj
            rw [if_neg this]
            apply stay
            rw [dj, pe, hlj, Bool.false_and, if_neg (by decide), decide_eq_false (Nat.lt_irrefl _), Bool.false_and]
          | true =>
            have : r (72 + j) = 0 := of_decide_eq_true hlj
            rw [if_pos this]
            refine ih (j + 1) F _ (by omega) (by omega) (by omega) (fun u hu => ?_)
            rw [b_or, hx u hu, bt_shl1 (by omega) hu]
            have djt : dsc (pt r wa t) t k j = true := by rw [dj, pe, hlj, la, Bool.and_self, if_pos rfl, decide_eq_true (show a < t by omega), hd]; rfl
            by_cases q : u = j
            · subst q
              rw [decide_eq_true rfl, Bool.or_true, djt, decide_eq_true (Nat.lt_succ_self u)]; rfl
            · rw [decide_eq_false q, Bool.or_false]
              congr 1; apply decide_eq_decide.mpr; omega
  unfold f_Parish_leftThatNeed
  rw [Option.bind_some, Option.bind_some, nI_1, hF]
  refine key (t - (k + 1)) (k + 1) F _ (by omega) (by omega) (by omega) (fun u hu => ?_)
  rw [bt_shl1 (by omega) hu]
  by_cases q : u = k
  · subst q
    rw [decide_eq_true rfl, decide_eq_true (Nat.lt_succ_self u), dsc_eq hp (by omega), decide_eq_true rfl]; rfl
  · rw [decide_eq_false q]
    by_cases q2 : u < k + 1
    · cases hd : dsc (pt r wa t) t k u with
      | false => rw [Bool.and_false]
      | true =>
        have := dsc_le hp u (by omega) hd
        omega
    · rw [decide_eq_false q2, Bool.false_and]
theorem fac_pos : ∀ s, 0 < fac s
  | 0 => by decide
  | s + 1 => Nat.mul_pos (fac_pos s) (Nat.succ_pos s)
theorem fac12 : ∀ s, s ≤ 12 → fac s ≤ 479001600 := by decide
theorem hk_le (par : Nat → Nat) (n v : Nat) : hk par n v ≤ n := fb_ct_le _ _
theorem x_ordersLeft (h : NP S P t r wh wa) : f_Parish_ordersLeft S P = some (if fb_ct (lf r) t ≤ 12 then nI (eF (pt r wa t) t (fb_ct (lf r) t) (lf r)) else -4) := by
  have ht := h.1
  have hp := pt_lt (r := r) h.wal ht
  obtain ⟨F0, hF0⟩ : ∃ F, FU = F := ⟨_, rfl⟩
  have hF0' : 300 < F0 := by rw [← hF0]; exact FU_gt (by omega)
  have hs : fb_ct (lf r) t ≤ t := fb_ct_le _ _
  unfold f_Parish_ordersLeft
  rw [h.many, Option.bind_some, h.things, h.left, Option.bind_some]
  obtain ⟨s, hse⟩ : ∃ s, fb_ct (lf r) t = s := ⟨_, rfl⟩
  rw [hse] at hs ⊢
  by_cases c : s ≤ 12
  · rw [if_pos c, if_pos (show nI s ≤ 12 from yle (b := 12) c), Option.bind_some, Option.bind_some, hF0]
    have hh := hook hp s (lf r) hse lf_up
    have fp := fac_pos s
    have f12 := fac12 s c
    have pU : prU (pt r wa t) t (lf r) ≠ 0 := fun z => by rw [z, Nat.mul_zero] at hh; omega
    have pU2 : prU (pt r wa t) t (lf r) ≤ fac s := by
      rw [← hh]
      refine Nat.le_mul_of_pos_left _ ?_
      rcases Nat.eq_zero_or_pos (eF (pt r wa t) t s (lf r)) with z | z
      · rw [z, Nat.zero_mul] at hh; omega
      · exact z
    -- the share
    have k2 : ∀ m j F, j + m = t → m < F → f_Parish_ordersLeft_51 P F S (lN (fac s)) (lN (prN (fun v => if lf r v then hk (pt r wa t) t v else 1) j)) (nI j) = some (nI (eF (pt r wa t) t s (lf r))) := by
      intro m
      induction m with
      | zero =>
        intro j F hj hF
        obtain ⟨F, rfl⟩ : ∃ z, F = z + 1 := ⟨F - 1, by omega⟩
        have : j = t := by omega
        subst this
        rw [f_Parish_ordersLeft_51, h.things, if_pos (yle (Nat.le_refl _))]
        unfold f_Parish_ordersLeft_94
        have e0 : prN (fun v => if lf r v then hk (pt r wa j) j v else 1) j = prU (pt r wa j) j (lf r) := rfl
        rw [e0]
        have n0 : ¬ lN (prU (pt r wa j) j (lf r)) = 0 := fun z => pU ((pk_lEQ (b := 0) (by omega) (by omega)).mp z)
        have n1 : ¬ lg_cmp (lN (prU (pt r wa j) j (lf r))) 0 = 0 := by
          unfold lg_cmp
          intro z
          split at z
          · exact absurd z (by decide)
          · exact absurd z (by decide)
        rw [if_neg n1, if_pos n0, pk_lDiv (by omega) (by omega) (by omega), lN_i, ← hh, Nat.mul_div_cancel _ (by omega)]
      | succ m ih =>
        intro j F hj hF
        obtain ⟨F, rfl⟩ : ∃ z, F = z + 1 := ⟨F - 1, by omega⟩
        have hjt : j < t := by omega
        have ih1 := ih (j + 1) F (by omega) (by omega)
        rw [prN] at ih1
        have hl := hk_le (pt r wa t) t j
        rw [f_Parish_ordersLeft_51, h.things, if_neg (nle hjt), if_neg (n24 (show j < 24 by omega)), h.done hjt, Option.bind_some]
        unfold f_Parish_ordersLeft_88
        cases hlj : lf r j with
        | false =>
          have : ¬ r (72 + j) = 0 := of_decide_eq_false hlj
          rw [if_neg this, Option.bind_some, nI_1]
          rw [hlj, if_neg (by decide), Nat.mul_one] at ih1
          exact ih1
        | true =>
          have : r (72 + j) = 0 := of_decide_eq_true hlj
          rw [if_pos this, x_need h hjt hlj, Option.bind_some, Option.bind_some, Option.bind_some, nI_1, nI_l (by omega), lN_mul]
          rw [hlj, if_pos rfl] at ih1
          exact ih1
    -- all
    have k1 : ∀ m j F, j + m = s + 1 → 1 ≤ j → m < F → f_Parish_ordersLeft_27 P F S (nI s) (lN (fac (j - 1))) (nI j) = some (nI (eF (pt r wa t) t s (lf r))) := by
      intro m
      induction m with
      | zero =>
        intro j F hj h1 hF
        obtain ⟨F, rfl⟩ : ∃ z, F = z + 1 := ⟨F - 1, by omega⟩
        rw [f_Parish_ordersLeft_27, if_pos (ylt (by omega)), Option.bind_some, Option.bind_some, hF0, show j - 1 = s by omega]
        exact k2 t 0 F0 (by omega) (by omega)
      | succ m ih =>
        intro j F hj h1 hF
        obtain ⟨F, rfl⟩ : ∃ z, F = z + 1 := ⟨F - 1, by omega⟩
        have ih1 := ih (j + 1) F (by omega) (by omega) (by omega)
        obtain ⟨j, rfl⟩ : ∃ z, j = z + 1 := ⟨j - 1, by omega⟩
        rw [f_Parish_ordersLeft_27, if_neg (nlt' (by omega)), Option.bind_some, Option.bind_some, nI_l (by omega), lN_mul, nI_1]
        exact ih1
    by_cases c0 : s = 0
    · obtain ⟨F1, rfl⟩ : ∃ z, F0 = z + 1 := ⟨F0 - 1, by omega⟩
      rw [f_Parish_ordersLeft_27, if_pos (show nI s < 2 from ylt (b := 2) (by omega)), Option.bind_some, Option.bind_some, hF0]
      have := k2 t 0 (F1 + 1) (by omega) (by omega)
      have f0 : fac s = 1 := by rw [c0]; rfl
      rw [f0] at this
      exact this
    · exact k1 (s - 1) 2 F0 (by omega) (by omega) (by omega)
  · rw [if_neg c, if_neg (show ¬ nI s ≤ 12 from nle (a := 12) (by omega))]
end X
