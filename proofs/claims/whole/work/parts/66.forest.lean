/-! ORDERS: how many orders a forest has -/
theorem sm_swap (f : Nat → Nat → Nat) (m : Nat) : ∀ n, fb_sm (fun i => fb_sm (fun j => f i j) m) n = fb_sm (fun j => fb_sm (fun i => f i j) n) m
  | 0 => by
    have : ∀ m, fb_sm (fun _ => 0) m = 0 := fun m => by rw [fb_sm_const]; omega
    show 0 = fb_sm (fun _ => 0) m
    rw [this]
  | n + 1 => by
    rw [fb_sm_succ, sm_swap f m n, ← fb_sm_add]
    exact fb_sm_cong (fun k _ => (fb_sm_succ _ _).symm)
theorem sm_if {c : Prop} [Decidable c] (f : Nat → Nat) (n : Nat) : (if c then fb_sm f n else 0) = fb_sm (fun i => if c then f i else 0) n := by
  by_cases h : c
  · simp only [h, ↓reduceIte]
  · simp only [h, ↓reduceIte]
    rw [fb_sm_const]; omega
theorem sm_mulr (f : Nat → Nat) (c : Nat) : ∀ n, fb_sm f n * c = fb_sm (fun i => f i * c) n
  | 0 => Nat.zero_mul _
  | n + 1 => by rw [fb_sm_succ, fb_sm_succ, Nat.add_mul, sm_mulr f c n]
theorem sm_one {f : Nat → Nat} {n i : Nat} (hi : i < n) (h : ∀ j, j < n → j ≠ i → f j = 0) : fb_sm f n = f i := by
  have e := fb_sm_upd (fun _ => 0) (f i) hi
  rw [fb_sm_const] at e
  have e2 : fb_sm f n = fb_sm (fun k => if k = i then f i else 0) n := fb_sm_cong (fun k hk => by
    by_cases q : k = i
    · rw [if_pos q, q]
    · rw [if_neg q, h k hk q])
  rw [e2]
  omega
def prN (f : Nat → Nat) : Nat → Nat
  | 0 => 1
  | n + 1 => prN f n * f n
theorem prN_cong {f g : Nat → Nat} : ∀ {n : Nat}, (∀ k, k < n → f k = g k) → prN f n = prN g n
  | 0, _ => rfl
  | n + 1, h => by rw [prN, prN, prN_cong (fun k hk => h k (by omega)), h n (by omega)]
theorem prN_upd {f g : Nat → Nat} {i c : Nat} : ∀ {n : Nat}, i < n → (∀ k, k ≠ i → f k = g k) → f i = g i * c → prN f n = prN g n * c
  | 0, h, _, _ => by omega
  | n + 1, h, h1, h2 => by
    rw [prN, prN]
    by_cases q : i = n
    · subst q
      rw [h2, prN_cong (n := i) (fun k hk => h1 k (by omega)), Nat.mul_assoc]
    · rw [prN_upd (n := n) (by omega) h1 h2, h1 n (by omega), Nat.mul_assoc, Nat.mul_assoc, Nat.mul_comm c]
section FO
variable (par : Nat → Nat) (n : Nat)
abbrev PSet := Nat → Bool
def del (U : PSet) (j : Nat) : PSet := fun k => if k = j then false else U k
def leafB (U : PSet) (j : Nat) : Bool := decide (∀ c, c < n → U c = true → par c ≠ j)
def rootB (U : PSet) (j : Nat) : Bool := !(decide (par j < n) && U (par j))
def eL : Nat → PSet → Nat
  | 0, _ => 1
  | s + 1, U => fb_sm (fun j => if U j && leafB par n U j then eL s (del U j) else 0) n
def eF : Nat → PSet → Nat
  | 0, _ => 1
  | s + 1, U => fb_sm (fun j => if U j && rootB par n U j then eF s (del U j) else 0) n
variable {par n}
theorem del_size {U : PSet} {j s : Nat} (hj : j < n) (h : U j = true) (hs : fb_ct U n = s + 1) : fb_ct (del U j) n = s := by
  have e := fb_ct_upd U false hj
  rw [h, hs] at e
  have : fb_ct (del U j) n = fb_ct (fun k => if k = j then false else U k) n := rfl
  simp only [↓reduceIte, Bool.false_eq_true] at e
  omega
theorem del_comm (U : PSet) (i j : Nat) : del (del U i) j = del (del U j) i := by
  funext k
  unfold del
  by_cases h1 : k = i
  · by_cases h2 : k = j
    · simp only [h1, h2, ↓reduceIte, ite_self]
    · simp only [h1, ↓reduceIte, ite_self]
  · simp only [h1, ↓reduceIte]
theorem pair_eq (hp : ∀ v, v < n → par v < v ∨ n ≤ par v) {U : PSet} {i j : Nat} (hi : i < n) (hj : j < n) : ((U j && leafB par n U j) && (del U j i && rootB par n (del U j) i)) = ((U i && rootB par n U i) && (del U i j && leafB par n (del U i) j)) := by
  apply Bool.eq_iff_iff.mpr
  simp only [Bool.and_eq_true, leafB, rootB, del, decide_eq_true_eq, Bool.not_eq_true']
  constructor
  · rintro ⟨⟨u1, u2⟩, u3, u4⟩
    by_cases e : i = j
    · simp [e] at u3
    · rw [if_neg e] at u3
      refine ⟨⟨u3, ?_⟩, ?_, decide_eq_true (fun c hc hu => ?_)⟩
      · by_cases q : par i < n
        · have q1 : par i ≠ j := u2 i hi u3
          rw [if_neg q1] at u4
          exact u4
        · rw [decide_eq_false q]; rfl
      · rw [if_neg (fun z => e z.symm)]; exact u1
      · by_cases q : c = i
        · rw [if_pos q] at hu; cases hu
        · rw [if_neg q] at hu
          exact u2 c hc hu
  · rintro ⟨⟨u1, u2⟩, u3, u4⟩
    by_cases e : j = i
    · simp [e] at u3
    · rw [if_neg e] at u3
      refine ⟨⟨u3, fun c hc hu => ?_⟩, ?_, ?_⟩
      · by_cases q : c = i
        · subst q
          intro z
          rw [z, u3, decide_eq_true hj] at u2
          cases u2
        · exact (of_decide_eq_true u4) c hc (by rw [if_neg q]; exact hu)
      · rw [if_neg (fun z => e z.symm)]; exact u1
      · by_cases q : par i = j
        · rw [if_pos q, Bool.and_false]
        · rw [if_neg q]; exact u2
theorem ct_two {U : PSet} {i j : Nat} (hi : i < n) (hj : j < n) (h1 : U i = true) (h2 : U j = true) (hs : fb_ct U n = 1) : i = j := by
  have e := del_size hi h1 hs
  by_cases q : j = i
  · exact q.symm
  · have : 0 < fb_ct (del U i) n := fb_ct_pos.mpr ⟨j, hj, by unfold del; rw [if_neg q]; exact h2⟩
    omega
theorem eLF (hp : ∀ v, v < n → par v < v ∨ n ≤ par v) : ∀ s U, fb_ct U n = s → eL par n s U = eF par n s U := by
  intro s
  induction s using Nat.strongRecOn with
  | _ s ih =>
    intro U hs
    match s, ih, hs with
    | 0, _, _ => rfl
    | 1, ih, hs =>
      rw [eL, eF]
      apply fb_sm_cong
      intro j hj
      rw [eL, eF]
      cases hu : U j with
      | false => rfl
      | true =>
        have l : leafB par n U j = true := by
          unfold leafB
          rw [decide_eq_true_eq]
          intro c hc huc z
          have : c = j := ct_two hc hj huc hu hs
          subst this
          have := hp c hc
          omega
        have r : rootB par n U j = true := by
          unfold rootB
          rw [Bool.not_eq_true']
          by_cases q : par j < n
          · cases hz : U (par j) with
            | false => rw [Bool.and_false]
            | true =>
              have : par j = j := ct_two q hj hz hu hs
              have := hp j hj
              omega
          · rw [decide_eq_false q]; rfl
        rw [l, r]
    | s + 2, ih, hs =>
      have a1 : eL par n (s + 2) U = fb_sm (fun j => fb_sm (fun i => if (U j && leafB par n U j) && (del U j i && rootB par n (del U j) i) then eF par n s (del (del U j) i) else 0) n) n := by
        rw [eL]
        apply fb_sm_cong
        intro j hj
        cases hu : (U j && leafB par n U j) with
        | false =>
          rw [if_neg (by decide)]
          simp only [Bool.false_and, Bool.false_eq_true, ↓reduceIte]
          rw [fb_sm_const]; omega
        | true =>
          rw [if_pos rfl]
          rw [Bool.and_eq_true] at hu
          rw [ih (s + 1) (by omega) (del U j) (del_size hj hu.1 hs), eF]
          apply fb_sm_cong
          intro i hi
          rw [Bool.true_and]
      have a2 : eF par n (s + 2) U = fb_sm (fun i => fb_sm (fun j => if (U i && rootB par n U i) && (del U i j && leafB par n (del U i) j) then eF par n s (del (del U i) j) else 0) n) n := by
        rw [eF]
        apply fb_sm_cong
        intro i hi
        cases hu : (U i && rootB par n U i) with
        | false =>
          rw [if_neg (by decide)]
          simp only [Bool.false_and, Bool.false_eq_true, ↓reduceIte]
          rw [fb_sm_const]; omega
        | true =>
          rw [if_pos rfl]
          rw [Bool.and_eq_true] at hu
          have hs1 := del_size hi hu.1 hs
          rw [← ih (s + 1) (by omega) (del U i) hs1, eL]
          apply fb_sm_cong
          intro j hj
          rw [Bool.true_and]
          cases hu2 : (del U i j && leafB par n (del U i) j) with
          | false => rfl
          | true =>
            rw [Bool.and_eq_true] at hu2
            rw [if_pos rfl, if_pos rfl]
            exact ih s (by omega) _ (del_size hj hu2.1 hs1)
      rw [a1, a2, sm_swap]
      apply fb_sm_cong
      intro i hi
      apply fb_sm_cong
      intro j hj
      show (if (U j && leafB par n U j) && (del U j i && rootB par n (del U j) i) then eF par n s (del (del U j) i) else 0) = _
      rw [pair_eq hp hi hj, del_comm]
/-! who is below whom -/
def dscF (par : Nat → Nat) (n v : Nat) : Nat → Nat → Bool
  | 0, u => decide (u = v)
  | f + 1, u => decide (u = v) || (decide (par u < n) && dscF par n v f (par u))
def dsc (par : Nat → Nat) (n v u : Nat) : Bool := dscF par n v u u
theorem dscF_more (hp : ∀ v, v < n → par v < v ∨ n ≤ par v) {v : Nat} : ∀ f u, u < n → u ≤ f → dscF par n v (f + 1) u = dscF par n v f u := by
  intro f
  induction f with
  | zero =>
    intro u hu hf
    rw [dscF, dscF]
    have : ¬ par u < n := by have := hp u hu; omega
    rw [decide_eq_false this, Bool.false_and, Bool.or_false]
  | succ f ih =>
    intro u hu hf
    show (decide (u = v) || (decide (par u < n) && dscF par n v (f + 1) (par u))) = (decide (u = v) || (decide (par u < n) && dscF par n v f (par u)))
    by_cases q : par u < n
    · rw [ih (par u) q (by have := hp u hu; omega)]
    · rw [decide_eq_false q, Bool.false_and, Bool.false_and]
theorem dscF_eq (hp : ∀ v, v < n → par v < v ∨ n ≤ par v) {v : Nat} : ∀ f u, u < n → u ≤ f → dscF par n v f u = dsc par n v u := by
  intro f
  induction f with
  | zero => intro u hu hf; have : u = 0 := by omega
            subst this; rfl
  | succ f ih =>
    intro u hu hf
    by_cases q : u = f + 1
    · subst q; rfl
    · rw [dscF_more hp f u hu (by omega), ih u hu (by omega)]
theorem dsc_eq (hp : ∀ v, v < n → par v < v ∨ n ≤ par v) {v u : Nat} (hu : u < n) : dsc par n v u = (decide (u = v) || (decide (par u < n) && dsc par n v (par u))) := by
  rw [← dscF_eq hp (u + 1) u hu (by omega), dscF]
  by_cases q : par u < n
  · rw [dscF_eq hp u (par u) q (by have := hp u hu; omega)]
  · rw [decide_eq_false q, Bool.false_and, Bool.false_and]
def hk (par : Nat → Nat) (n v : Nat) : Nat := fb_ct (dsc par n v) n
def upC (par : Nat → Nat) (n : Nat) (U : PSet) : Prop := ∀ c, c < n → par c < n → U (par c) = true → U c = true
theorem up_dsc (hp : ∀ v, v < n → par v < v ∨ n ≤ par v) {U : PSet} (hU : upC par n U) {i : Nat} (hi : U i = true) : ∀ u, u < n → dsc par n i u = true → U u = true := by
  intro u
  induction u using Nat.strongRecOn with
  | _ u ih =>
    intro hu h
    rw [dsc_eq hp hu, Bool.or_eq_true, decide_eq_true_eq, Bool.and_eq_true, decide_eq_true_eq] at h
    rcases h with e | ⟨h1, h2⟩
    · rw [e]; exact hi
    · exact hU u hu h1 (ih (par u) (by have := hp u hu; omega) h1 h2)
theorem one_root (hp : ∀ v, v < n → par v < v ∨ n ≤ par v) {U : PSet} (hU : upC par n U) : ∀ u, u < n → fb_sm (fun i => if (U i && rootB par n U i) && dsc par n i u then 1 else 0) n = if U u then 1 else 0 := by
  intro u
  induction u using Nat.strongRecOn with
  | _ u ih =>
    intro hu
    cases hc : U u with
    | false =>
      rw [if_neg (by decide)]
      have : ∀ i, i < n → (if (U i && rootB par n U i) && dsc par n i u then 1 else 0) = 0 := by
        intro i hi
        rw [if_neg]
        intro z
        rw [Bool.and_eq_true, Bool.and_eq_true] at z
        rw [up_dsc hp hU z.1.1 u hu z.2] at hc
        cases hc
      rw [fb_sm_cong this, fb_sm_const]; omega
    | true =>
      rw [if_pos rfl]
      cases hr : rootB par n U u with
      | true =>
        rw [sm_one hu]
        · rw [hc, hr, dsc_eq hp hu, decide_eq_true rfl]; rfl
        · intro i hi hne
          rw [if_neg]
          intro z
          rw [Bool.and_eq_true, Bool.and_eq_true] at z
          have z2 := z.2
          rw [dsc_eq hp hu, Bool.or_eq_true, decide_eq_true_eq, Bool.and_eq_true, decide_eq_true_eq] at z2
          rcases z2 with e | ⟨e1, e2⟩
          · exact hne e.symm
          · have := up_dsc hp hU z.1.1 _ e1 e2
            unfold rootB at hr
            rw [this, decide_eq_true e1] at hr
            cases hr
      | false =>
        have hr' : par u < n ∧ U (par u) = true := by
          unfold rootB at hr
          rw [Bool.not_eq_false', Bool.and_eq_true, decide_eq_true_eq] at hr
          exact hr
        have ih1 := ih (par u) (by have := hp u hu; omega) hr'.1
        rw [hr'.2, if_pos rfl] at ih1
        refine Eq.trans ?_ ih1
        apply fb_sm_cong
        intro i hi
        rw [dsc_eq hp hu, decide_eq_true hr'.1, Bool.true_and]
        by_cases e : u = i
        · subst e
          rw [hr, Bool.and_false, Bool.false_and, Bool.false_and]
        · rw [decide_eq_false e, Bool.false_or]
theorem ct_sm (p : Nat → Bool) : ∀ n, fb_ct p n = fb_sm (fun i => if p i then 1 else 0) n
  | 0 => rfl
  | n + 1 => by rw [fb_ct_succ, fb_sm_succ, ct_sm p n]
theorem roots_sum (hp : ∀ v, v < n → par v < v ∨ n ≤ par v) {U : PSet} (hU : upC par n U) : fb_sm (fun i => if U i && rootB par n U i then hk par n i else 0) n = fb_ct U n := by
  have e : ∀ i, i < n → (if U i && rootB par n U i then hk par n i else 0) = fb_sm (fun u => if (U i && rootB par n U i) && dsc par n i u then 1 else 0) n := by
    intro i hi
    cases (U i && rootB par n U i) with
    | false =>
      simp only [Bool.false_and, Bool.false_eq_true, ↓reduceIte]
      rw [fb_sm_const]; omega
    | true =>
      rw [if_pos rfl, hk, ct_sm]
      simp only [Bool.true_and]
  rw [fb_sm_cong e, sm_swap, ct_sm]
  exact fb_sm_cong (fun u hu => one_root hp hU u hu)
def prU (par : Nat → Nat) (n : Nat) (U : PSet) : Nat := prN (fun v => if U v then hk par n v else 1) n
def fac : Nat → Nat
  | 0 => 1
  | s + 1 => fac s * (s + 1)
theorem hook (hp : ∀ v, v < n → par v < v ∨ n ≤ par v) : ∀ s U, fb_ct U n = s → upC par n U → eF par n s U * prU par n U = fac s := by
  intro s
  induction s with
  | zero =>
    intro U hs hU
    have z := fb_ct_zero.mp hs
    rw [eF, prU, prN_cong (g := fun _ => 1) (fun k hk => by rw [z k hk]; rfl)]
    have : ∀ n, prN (fun _ => 1) n = 1 := fun n => by
      induction n with
      | zero => rfl
      | succ n ih => rw [prN, ih]
    rw [this]; rfl
  | succ s ih =>
    intro U hs hU
    rw [eF, sm_mulr]
    have e : ∀ j, j < n → (if U j && rootB par n U j then eF par n s (del U j) else 0) * prU par n U = (if U j && rootB par n U j then hk par n j else 0) * fac s := by
      intro j hj
      cases hu : (U j && rootB par n U j) with
      | false => simp only [Bool.false_eq_true, ↓reduceIte, Nat.zero_mul]
      | true =>
        rw [if_pos rfl, if_pos rfl]
        rw [Bool.and_eq_true] at hu
        have hd : upC par n (del U j) := by
          intro c hc hpc h
          unfold del at h ⊢
          by_cases q : par c = j
          · rw [if_pos q] at h; cases h
          · rw [if_neg q] at h
            by_cases q2 : c = j
            · subst q2
              have h2 := hu.2
              unfold rootB at h2
              rw [h, decide_eq_true hpc] at h2
              cases h2
            · rw [if_neg q2]; exact hU c hc hpc h
        have i1 := ih (del U j) (del_size hj hu.1 hs) hd
        have pe : prU par n U = prU par n (del U j) * hk par n j := by
          unfold prU
          apply prN_upd hj
          · intro k hk
            unfold del
            rw [if_neg hk]
          · unfold del
            rw [if_pos rfl, hu.1]
            simp
        rw [pe, ← Nat.mul_assoc, i1, Nat.mul_comm]
    rw [fb_sm_cong e, ← sm_mulr, roots_sum hp hU, hs, fac, Nat.mul_comm]
end FO
