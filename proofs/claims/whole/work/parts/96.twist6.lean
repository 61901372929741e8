/-! the order of a permutation of few points -/
def itr (s : Nat → Nat) : Nat → Nat → Nat
  | 0, a => a
  | k + 1, a => s (itr s k a)
theorem itr_add (s : Nat → Nat) (i a : Nat) : ∀ j, itr s (i + j) a = itr s j (itr s i a)
  | 0 => rfl
  | j + 1 => by show s (itr s (i + j) a) = s (itr s j (itr s i a)); rw [itr_add s i a j]
section PO
variable {s : Nat → Nat} {st : Nat}
theorem itr_inj (hs : ∀ a d, s a = s d → a = d) : ∀ k a d, itr s k a = itr s k d → a = d
  | 0, _, _, h => h
  | k + 1, a, d, h => itr_inj hs k a d (hs _ _ h)
theorem itr_lt (hl : ∀ a, a < st → s a < st) : ∀ k a, a < st → itr s k a < st
  | 0, _, h => h
  | k + 1, a, h => hl _ (itr_lt hl k a h)
theorem itr_mul {k a : Nat} (h : itr s k a = a) : ∀ m, itr s (k * m) a = a
  | 0 => rfl
  | m + 1 => by rw [Nat.mul_succ, itr_add, itr_mul h m, h]
/-- p is the least -/
def perO (s : Nat → Nat) (a p : Nat) : Prop := 1 ≤ p ∧ itr s p a = a ∧ ∀ m, 1 ≤ m → m < p → ¬ itr s m a = a
theorem per_ex (hs : ∀ a d, s a = s d → a = d) (hl : ∀ a, a < st → s a < st) {a : Nat} (ha : a < st) : ∃ p, perO s a p ∧ p ≤ st := by
  have ex : ∃ m, 1 ≤ m ∧ m ≤ st ∧ itr s m a = a := by
    apply Classical.byContradiction
    intro hx
    have := fb_holes st (st + 1) (fun i => itr s i a) (fun i _ => itr_lt hl i a ha) (fun i j hij hj e => hx ⟨j - i, by omega, by omega, by
      have e' : itr s i a = itr s j a := e
      rw [show j = (j - i) + i by omega, itr_add] at e'
      exact (itr_inj hs i _ _ e').symm⟩)
    omega
  have key' : ∀ n, (∃ m, 1 ≤ m ∧ m ≤ n ∧ itr s m a = a) → ∃ p, perO s a p ∧ p ≤ n := by
    intro n
    induction n with
    | zero => intro ⟨m, h1, h2, _⟩; omega
    | succ n ih =>
      intro ⟨m, h1, h2, h3⟩
      by_cases c : ∃ m, 1 ≤ m ∧ m ≤ n ∧ itr s m a = a
      · obtain ⟨p, q1, q2⟩ := ih c
        exact ⟨p, q1, by omega⟩
      · have : m = n + 1 := by
          apply Classical.byContradiction
          intro hx
          exact c ⟨m, h1, by omega, h3⟩
        subst this
        exact ⟨n + 1, ⟨by omega, h3, fun k k1 k2 k3 => c ⟨k, k1, by omega, k3⟩⟩, by omega⟩
  exact key' st ex
theorem per_same (hs : ∀ a d, s a = s d → a = d) {a p i j : Nat} (h : perO s a p) (hi : i < p) (hj : j < p) (e : itr s i a = itr s j a) : i = j := by
  have go : ∀ i j, i < j → j < p → itr s i a = itr s j a → False := by
    intro i j hij hj e
    rw [show j = (j - i) + i by omega, itr_add] at e
    exact h.2.2 (j - i) (by omega) (by omega) (itr_inj hs i _ _ e).symm
  rcases Nat.lt_trichotomy i j with c | c | c
  · exact (go i j c hj e).elim
  · exact c
  · exact (go j i c hi e.symm).elim
theorem per_meet (hs : ∀ a d, s a = s d → a = d) {a b p q i j : Nat} (h : perO s a p) (g : perO s b q) (e : itr s i a = itr s j b) : p = q := by
  have tr : ∀ m, itr s m a = a ↔ itr s m b = b := by
    intro m
    have l1 : itr s m a = a ↔ itr s m (itr s i a) = itr s i a := by
      rw [← itr_add, Nat.add_comm, itr_add]
      exact ⟨fun z => by rw [z], fun z => itr_inj hs i _ _ z⟩
    have l2 : itr s m b = b ↔ itr s m (itr s j b) = itr s j b := by
      rw [← itr_add, Nat.add_comm, itr_add]
      exact ⟨fun z => by rw [z], fun z => itr_inj hs j _ _ z⟩
    rw [l1, l2, e]
  apply Classical.byContradiction
  intro ne
  rcases Nat.lt_or_gt_of_ne ne with c | c
  · exact g.2.2 p h.1 c ((tr p).mp h.2.1)
  · exact h.2.2 q g.1 c ((tr q).mpr g.2.1)
/-- three cycles have room -/
theorem per_three (hs : ∀ a d, s a = s d → a = d) (hl : ∀ a, a < st → s a < st) {a b d p q r : Nat} (ha : a < st) (hb : b < st) (hd : d < st) (h : perO s a p) (g : perO s b q) (k : perO s d r) (n1 : p ≠ q) (n2 : p ≠ r) (n3 : q ≠ r) : p + q + r ≤ st := by
  refine fb_holes st (p + q + r) (fun i => if i < p then itr s i a else if i < p + q then itr s (i - p) b else itr s (i - p - q) d) (fun i hi => ?_) (fun i j hij hj e => ?_)
  · show (if i < p then itr s i a else if i < p + q then itr s (i - p) b else itr s (i - p - q) d) < st
    by_cases c1 : i < p
    · rw [if_pos c1]; exact itr_lt hl _ _ ha
    · rw [if_neg c1]
      by_cases c2 : i < p + q
      · rw [if_pos c2]; exact itr_lt hl _ _ hb
      · rw [if_neg c2]; exact itr_lt hl _ _ hd
  · have e' : (if i < p then itr s i a else if i < p + q then itr s (i - p) b else itr s (i - p - q) d) = (if j < p then itr s j a else if j < p + q then itr s (j - p) b else itr s (j - p - q) d) := e
    by_cases c1 : i < p
    · rw [if_pos c1] at e'
      by_cases d1 : j < p
      · rw [if_pos d1] at e'
        have := per_same hs h c1 d1 e'
        omega
      · rw [if_neg d1] at e'
        by_cases d2 : j < p + q
        · rw [if_pos d2] at e'; exact n1 (per_meet hs h g e')
        · rw [if_neg d2] at e'; exact n2 (per_meet hs h k e')
    · rw [if_neg c1, if_neg (show ¬ j < p by omega)] at e'
      by_cases c2 : i < p + q
      · rw [if_pos c2] at e'
        by_cases d2 : j < p + q
        · rw [if_pos d2] at e'
          have := per_same hs g (by omega) (by omega) e'
          omega
        · rw [if_neg d2] at e'; exact n3 (per_meet hs g k e')
      · rw [if_neg c2, if_neg (show ¬ j < p + q by omega)] at e'
        have := per_same hs k (by omega) (by omega) e'
        omega
theorem per_two (hs : ∀ a d, s a = s d → a = d) (hl : ∀ a, a < st → s a < st) {a b p q : Nat} (ha : a < st) (hb : b < st) (h : perO s a p) (g : perO s b q) (n1 : p ≠ q) : p + q ≤ st := by
  refine fb_holes st (p + q) (fun i => if i < p then itr s i a else itr s (i - p) b) (fun i hi => ?_) (fun i j hij hj e => ?_)
  · show (if i < p then itr s i a else itr s (i - p) b) < st
    by_cases c1 : i < p
    · rw [if_pos c1]; exact itr_lt hl _ _ ha
    · rw [if_neg c1]; exact itr_lt hl _ _ hb
  · have e' : (if i < p then itr s i a else itr s (i - p) b) = (if j < p then itr s j a else itr s (j - p) b) := e
    by_cases c1 : i < p
    · rw [if_pos c1] at e'
      by_cases d1 : j < p
      · rw [if_pos d1] at e'
        have := per_same hs h c1 d1 e'
        omega
      · rw [if_neg d1] at e'
        exact n1 (per_meet hs h g e')
    · rw [if_neg c1, if_neg (show ¬ j < p by omega)] at e'
      have := per_same hs g (by omega) (by omega) e'
      omega
theorem ord15 (hs : ∀ a d, s a = s d → a = d) (hl : ∀ a, a < st → s a < st) (h8 : st ≤ 8) : ∃ k, 1 ≤ k ∧ k ≤ 15 ∧ ∀ a, a < st → itr s k a = a := by
  have fin : ∀ k, 1 ≤ k → k ≤ 15 → (∀ a p, a < st → perO s a p → p ≤ st → p ∣ k) → ∃ k, 1 ≤ k ∧ k ≤ 15 ∧ ∀ a, a < st → itr s k a = a := by
    intro k k1 k2 hk
    refine ⟨k, k1, k2, fun a ha => ?_⟩
    obtain ⟨p, q1, q2⟩ := per_ex hs hl ha
    obtain ⟨m, hm⟩ := hk a p ha q1 q2
    rw [hm]; exact itr_mul q1.2.1 m
  by_cases big : ∃ a p, a < st ∧ perO s a p ∧ 5 ≤ p
  · obtain ⟨a, p, ha, hp, h5⟩ := big
    have p8 : p ≤ 8 := by
      obtain ⟨p', q1, q2⟩ := per_ex hs hl ha
      have := per_meet hs (i := 0) (j := 0) hp q1 rfl
      omega
    have two : ∀ b q, b < st → perO s b q → q = p ∨ p + q ≤ 8 := fun b q hb hq => by
      by_cases e : q = p
      · exact Or.inl e
      · have := per_two hs hl ha hb hp hq (fun z => e z.symm)
        exact Or.inr (by omega)
    by_cases p5 : p = 5
    · subst p5
      by_cases c3 : ∃ b, b < st ∧ perO s b 3
      · obtain ⟨b, hb, hb3⟩ := c3
        refine fin 15 (by omega) (by omega) (fun d q hd hq _ => ?_)
        have q1 := hq.1
        have q2 : q ≠ 2 := fun z => by
          subst z
          have := per_three hs hl ha hb hd hp hb3 hq (by omega) (by omega) (by omega)
          omega
        rcases two d q hd hq with e | e
        · subst e; exact ⟨3, rfl⟩
        · have : q = 1 ∨ q = 3 := by omega
          rcases this with e | e
          · subst e; exact ⟨15, rfl⟩
          · subst e; exact ⟨5, rfl⟩
      · refine fin 10 (by omega) (by omega) (fun d q hd hq _ => ?_)
        have q1 := hq.1
        have q2 : q ≠ 3 := fun z => by
          subst z
          exact c3 ⟨d, hd, hq⟩
        rcases two d q hd hq with e | e
        · subst e; exact ⟨2, rfl⟩
        · have : q = 1 ∨ q = 2 := by omega
          rcases this with e | e
          · subst e; exact ⟨10, rfl⟩
          · subst e; exact ⟨5, rfl⟩
    · refine fin p (by omega) (by omega) (fun d q hd hq _ => ?_)
      have q1 := hq.1
      rcases two d q hd hq with e | e
      · rw [e]; exact ⟨1, (Nat.mul_one p).symm⟩
      · have : q = 1 ∨ (q = 2 ∧ p = 6) := by omega
        rcases this with e | ⟨e, e2⟩
        · rw [e]; exact ⟨p, (Nat.one_mul p).symm⟩
        · rw [e, e2]; exact ⟨3, rfl⟩
  · refine fin 12 (by omega) (by omega) (fun d q hd hq _ => ?_)
    have q1 := hq.1
    have : q < 5 := by
      apply Classical.byContradiction
      intro hx
      exact big ⟨d, q, hd, hq, by omega⟩
    have : q = 1 ∨ q = 2 ∨ q = 3 ∨ q = 4 := by omega
    rcases this with e | e | e | e
    · rw [e]; exact ⟨12, rfl⟩
    · rw [e]; exact ⟨6, rfl⟩
    · rw [e]; exact ⟨4, rfl⟩
    · rw [e]; exact ⟨3, rfl⟩
end PO
