/-! rows, in their order -/
def PM (n : Nat) (r : Nat → Nat) : Prop := (∀ i, i < n → r i < n) ∧ ∀ i j, i < j → j < n → r i ≠ r j
def lx (n : Nat) (r p : Nat → Nat) : Prop := ∃ k, k < n ∧ (∀ i, i < k → r i = p i) ∧ r k < p k
def eqN (n : Nat) (r p : Nat → Nat) : Prop := ∀ i, i < n → r i = p i
theorem PM.inj {n : Nat} {r : Nat → Nat} (h : PM n r) {i j : Nat} (hi : i < n) (hj : j < n) (e : r i = r j) : i = j := by
  rcases Nat.lt_trichotomy i j with c | c | c
  · exact absurd e (h.2 i j c hj)
  · exact c
  · exact absurd e.symm (h.2 j i c hi)
theorem PM.back {n : Nat} {r p : Nat → Nat} (hr : PM n r) (hp : PM n p) {k : Nat} (hk : k < n) (he : ∀ i, i < k → r i = p i) : ∃ m, k ≤ m ∧ m < n ∧ r m = p k := by
  obtain ⟨m, hm, e⟩ := fb_onto hr.1 hr.2 (hp.1 k hk)
  by_cases c : k ≤ m
  · exact ⟨m, c, hm, e⟩
  · have := hp.inj (by omega) hk ((he m (by omega)).symm.trans e)
    omega
theorem lx_tri {r p : Nat → Nat} : ∀ n, eqN n r p ∨ lx n r p ∨ lx n p r
  | 0 => Or.inl (fun i hi => by omega)
  | n + 1 => by
    rcases lx_tri n with h | ⟨k, h1, h2, h3⟩ | ⟨k, h1, h2, h3⟩
    · rcases Nat.lt_trichotomy (r n) (p n) with c | c | c
      · exact Or.inr (Or.inl ⟨n, by omega, h, c⟩)
      · refine Or.inl (fun i hi => ?_)
        by_cases e : i = n
        · rw [e]; exact c
        · exact h i (by omega)
      · exact Or.inr (Or.inr ⟨n, by omega, fun i hi => (h i hi).symm, c⟩)
    · exact Or.inr (Or.inl ⟨k, by omega, h2, h3⟩)
    · exact Or.inr (Or.inr ⟨k, by omega, h2, h3⟩)
theorem lx_asym {n : Nat} {r p : Nat → Nat} (h : lx n r p) (h' : lx n p r) : False := by
  obtain ⟨k, k1, k2, k3⟩ := h
  obtain ⟨m, m1, m2, m3⟩ := h'
  rcases Nat.lt_trichotomy k m with c | c | c
  · have := m2 k c; omega
  · subst c; omega
  · have := k2 m c; omega
theorem lx_ne {n : Nat} {r p : Nat → Nat} (h : lx n r p) (h' : eqN n r p) : False := by
  obtain ⟨k, k1, k2, k3⟩ := h
  have := h' k k1
  omega
theorem lx_trans {n : Nat} {r p q : Nat → Nat} (h : lx n r p) (h' : lx n p q) : lx n r q := by
  obtain ⟨k, k1, k2, k3⟩ := h
  obtain ⟨m, m1, m2, m3⟩ := h'
  rcases Nat.lt_trichotomy k m with c | c | c
  · exact ⟨k, k1, fun i hi => by rw [k2 i hi, m2 i (by omega)], by rw [← m2 k c]; exact k3⟩
  · subst c; exact ⟨k, k1, fun i hi => by rw [k2 i hi, m2 i hi], by omega⟩
  · exact ⟨m, m1, fun i hi => by rw [k2 i (by omega), m2 i hi], by rw [k2 m c]; exact m3⟩
theorem lx_eq {n : Nat} {r p q : Nat → Nat} (h : lx n r p) (e : eqN n p q) : lx n r q := by
  obtain ⟨k, k1, k2, k3⟩ := h
  exact ⟨k, k1, fun i hi => by rw [k2 i hi, e i (by omega)], by rw [← e k k1]; exact k3⟩
theorem lx_eq' {n : Nat} {r p q : Nat → Nat} (h : lx n r p) (e : eqN n r q) : lx n q p := by
  obtain ⟨k, k1, k2, k3⟩ := h
  exact ⟨k, k1, fun i hi => by rw [← e i (by omega), k2 i hi], by rw [← e k k1]; exact k3⟩
/-- a row that falls from i on -/
def desc (n i : Nat) (r : Nat → Nat) : Prop := ∀ j, i ≤ j → j + 1 < n → r (j + 1) < r j
theorem desc_le {n i : Nat} {r : Nat → Nat} (h : desc n i r) : ∀ d j, i ≤ j → j + d < n → r (j + d) ≤ r j
  | 0, j, _, _ => Nat.le_refl _
  | d + 1, j, h1, h2 => by
    have := desc_le h d j h1 (by omega)
    have := h (j + d) (by omega) (by omega)
    have : j + (d + 1) = j + d + 1 := by omega
    rw [this]; omega
def asc (n i : Nat) (r : Nat → Nat) : Prop := ∀ j, i ≤ j → j + 1 < n → r j < r (j + 1)
theorem asc_le {n i : Nat} {r : Nat → Nat} (h : asc n i r) : ∀ d j, i ≤ j → j + d < n → r j ≤ r (j + d)
  | 0, j, _, _ => Nat.le_refl _
  | d + 1, j, h1, h2 => by
    have := asc_le h d j h1 (by omega)
    have := h (j + d) (by omega) (by omega)
    have : j + (d + 1) = j + d + 1 := by omega
    rw [this]; omega
theorem desc_last {n : Nat} {r p : Nat → Nat} (hr : PM n r) (hp : PM n p) (h : desc n 0 r) : ¬ lx n r p := by
  rintro ⟨k, k1, k2, k3⟩
  obtain ⟨m, m1, m2, m3⟩ := hr.back hp k1 k2
  have := desc_le h (m - k) k (by omega) (by omega)
  rw [show k + (m - k) = m by omega] at this
  omega
/-- the next row: two change places, the rest is turned -/
def nx (r : Nat → Nat) (n i j : Nat) : Nat → Nat := fun k => if k < i then r k else if k = i then r j else (if i + n - k = j then r i else r (i + n - k))
theorem nx_next {n i j : Nat} {r : Nat → Nat} (hr : PM n r) (hi : i + 1 < n) (hd : desc n (i + 1) r) (hij : i < j) (hj : j < n) (h1 : r i < r j) (h2 : ∀ k, j < k → k < n → r k < r i) : PM n (nx r n i j) ∧ lx n r (nx r n i j) ∧ ∀ p, PM n p → lx n r p → eqN n (nx r n i j) p ∨ lx n (nx r n i j) p := by
  have lo : ∀ k, k < i → nx r n i j k = r k := fun k hk => by unfold nx; rw [if_pos hk]
  have at_ : nx r n i j i = r j := by unfold nx; rw [if_neg (by omega), if_pos rfl]
  have hi_ : ∀ k, i < k → nx r n i j k = if i + n - k = j then r i else r (i + n - k) := fun k hk => by unfold nx; rw [if_neg (by omega), if_neg (by omega)]
  have hh : ∀ k m, i < k → k ≤ m → m < n → r m ≤ r k := fun k m h1 h2 h3 => by
    have := desc_le hd (m - k) k (by omega) (by omega)
    rw [show k + (m - k) = m by omega] at this
    exact this
  have hsl : ∀ k m, i < k → k < m → m < n → r m < r k := fun k m h1 h2 h3 => by
    have a := hh k m h1 (by omega) h3
    have b := hr.2 k m h2 h3
    omega
  have bigj : ∀ k, i < k → k ≤ j → r j ≤ r k := fun k h1 h2 => hh k j h1 h2 hj
  have hasc : asc n (i + 1) (nx r n i j) := fun k k1 k2 => by
    rw [hi_ k (by omega), hi_ (k + 1) (by omega)]
    have e : i + n - k = i + n - (k + 1) + 1 := by omega
    obtain ⟨u, hu⟩ : ∃ u, i + n - (k + 1) = u := ⟨_, rfl⟩
    rw [e, hu]
    have u1 : i < u := by omega
    have u2 : u + 1 < n := by omega
    by_cases c1 : u + 1 = j
    · rw [if_pos c1, if_neg (by omega)]
      have := bigj u u1 (by omega); omega
    · by_cases c2 : u = j
      · rw [if_neg c1, if_pos c2]
        exact h2 (u + 1) (by omega) u2
      · rw [if_neg c1, if_neg c2]
        exact hsl u (u + 1) u1 (by omega) u2
  have perm : PM n (nx r n i j) := by
    refine ⟨fun k hk => ?_, fun k m hkm hm => ?_⟩
    · rcases Nat.lt_trichotomy k i with c | c | c
      · rw [lo k c]; exact hr.1 k hk
      · rw [c, at_]; exact hr.1 j hj
      · rw [hi_ k c]
        split
        · exact hr.1 i (by omega)
        · exact hr.1 _ (by omega)
    · rcases Nat.lt_trichotomy k i with c | c | c
      · rw [lo k c]
        rcases Nat.lt_trichotomy m i with d | d | d
        · rw [lo m d]; exact hr.2 k m hkm (by omega)
        · rw [d, at_]; exact hr.2 k j (by omega) hj
        · rw [hi_ m d]
          split
          · exact hr.2 k i c (by omega)
          · exact hr.2 k _ (by omega) (by omega)
      · rw [c, at_, hi_ m (by omega)]
        split
        · exact fun e => by omega
        · rename_i d
          exact fun e => d (hr.inj (by omega) hj e.symm)
      · have a := asc_le hasc (m - (k + 1)) (k + 1) (by omega) (by omega)
        rw [show k + 1 + (m - (k + 1)) = m by omega] at a
        have b := hasc k (by omega) (by omega)
        omega
  refine ⟨perm, ⟨i, by omega, fun k hk => (lo k hk).symm, by rw [at_]; exact h1⟩, fun p hp ⟨k, k1, k2, k3⟩ => ?_⟩
  rcases Nat.lt_trichotomy k i with c | c | c
  · exact Or.inr ⟨k, k1, fun m hm => by rw [lo m (by omega)]; exact k2 m hm, by rw [lo k c]; exact k3⟩
  · subst c
    obtain ⟨m, m1, m2, m3⟩ := hr.back hp k1 k2
    have mk : m ≠ k := fun e => by rw [e] at m3; omega
    have mj : m ≤ j := Classical.byContradiction fun z => by
      have := h2 m (by omega) m2; omega
    have ge := bigj m (by omega) mj
    by_cases e : r j < p k
    · exact Or.inr ⟨k, k1, fun t ht => by rw [lo t ht]; exact k2 t ht, by rw [at_]; exact e⟩
    · have e' : r j = p k := by omega
      rcases lx_tri (r := nx r n k j) (p := p) n with q | q | ⟨t, t1, t2, t3⟩
      · exact Or.inl q
      · exact Or.inr q
      · exfalso
        have tk : k < t := Classical.byContradiction fun z => by
          by_cases t0 : t = k
          · rw [t0, at_] at t3; omega
          · have := lo t (by omega)
            have := k2 t (by omega)
            omega
        obtain ⟨u, u1, u2, u3⟩ := perm.back hp t1 (fun v hv => (t2 v hv).symm)
        have := asc_le hasc (u - t) t (by omega) (by omega)
        rw [show t + (u - t) = u by omega] at this
        omega
  · exfalso
    obtain ⟨m, m1, m2, m3⟩ := hr.back hp k1 k2
    have := hh k m (by omega) m1 m2
    omega
/-! a number that grows from row to row -/
def padR (n : Nat) (r : Nat → Nat) : Nat → Nat := fun i => if i < n then r i else i
def Nr (r : Nat → Nat) : Nat := 65536 * r 0 + 8192 * r 1 + 1024 * r 2 + 128 * r 3 + 16 * r 4 + 2 * r 5 + (if r 7 < r 6 then 1 else 0)
theorem padR_y {n i : Nat} {r : Nat → Nat} (h : i < n) : padR n r i = r i := by unfold padR; rw [if_pos h]
theorem padR_n {n i : Nat} {r : Nat → Nat} (h : ¬ i < n) : padR n r i = i := by unfold padR; rw [if_neg h]
theorem pad_pm {n : Nat} {r : Nat → Nat} (hn : n ≤ 8) (h : PM n r) : PM 8 (padR n r) := by
  refine ⟨fun i hi => ?_, fun i j hij hj => ?_⟩
  · by_cases c : i < n
    · rw [padR_y c]; have := h.1 i c; omega
    · rw [padR_n c]; exact hi
  · by_cases c : i < n
    · have := h.1 i c
      rw [padR_y c]
      by_cases d : j < n
      · rw [padR_y d]; exact h.2 i j hij d
      · rw [padR_n d]; omega
    · rw [padR_n c, padR_n (by omega)]; omega
theorem Nr_lt8 {r p : Nat → Nat} (hr : PM 8 r) (hp : PM 8 p) (h : lx 8 r p) : Nr r < Nr p := by
  obtain ⟨k, k1, k2, k3⟩ := h
  have a0 := hr.1 0 (by omega); have a1 := hr.1 1 (by omega); have a2 := hr.1 2 (by omega); have a3 := hr.1 3 (by omega); have a4 := hr.1 4 (by omega); have a5 := hr.1 5 (by omega)
  have b0 := hp.1 0 (by omega); have b1 := hp.1 1 (by omega); have b2 := hp.1 2 (by omega); have b3 := hp.1 3 (by omega); have b4 := hp.1 4 (by omega); have b5 := hp.1 5 (by omega)
  unfold Nr
  obtain ⟨x, hx, hx1⟩ : ∃ x, (if r 7 < r 6 then 1 else 0) = x ∧ x ≤ 1 := ⟨_, rfl, by split <;> omega⟩
  obtain ⟨y, hy, hy1⟩ : ∃ y, (if p 7 < p 6 then 1 else 0) = y ∧ y ≤ 1 := ⟨_, rfl, by split <;> omega⟩
  rw [hx, hy]
  have hh : k = 0 ∨ k = 1 ∨ k = 2 ∨ k = 3 ∨ k = 4 ∨ k = 5 ∨ k = 6 ∨ k = 7 := by omega
  rcases hh with e | e | e | e | e | e | e | e <;> subst e
  · omega
  · have := k2 0 (by omega); omega
  · have := k2 0 (by omega); have := k2 1 (by omega); omega
  · have := k2 0 (by omega); have := k2 1 (by omega); have := k2 2 (by omega); omega
  · have := k2 0 (by omega); have := k2 1 (by omega); have := k2 2 (by omega); have := k2 3 (by omega); omega
  · have := k2 0 (by omega); have := k2 1 (by omega); have := k2 2 (by omega); have := k2 3 (by omega); have := k2 4 (by omega); omega
  · have c0 := k2 0 (by omega); have c1 := k2 1 (by omega); have c2 := k2 2 (by omega); have c3 := k2 3 (by omega); have c4 := k2 4 (by omega); have c5 := k2 5 (by omega)
    obtain ⟨m, m1, m2, m3⟩ := hr.back hp k1 k2
    have m7 : m = 7 := Classical.byContradiction fun z => by
      have : m = 6 := by omega
      rw [this] at m3; omega
    rw [m7] at m3
    obtain ⟨u, hu, eu⟩ := fb_onto hr.1 hr.2 (hp.1 7 (by omega))
    have u6 : u = 6 := Classical.byContradiction fun z => by
      by_cases u7 : u = 7
      · rw [u7, m3] at eu
        exact hp.2 6 7 (by omega) (by omega) eu
      · have := (k2 u (by omega)).symm.trans eu
        have := hp.inj (by omega) (by omega) this
        omega
    rw [u6] at eu
    rw [if_neg (by omega)] at hx
    rw [if_pos (by omega)] at hy
    omega
  · exfalso
    obtain ⟨m, m1, m2, m3⟩ := hr.back hp k1 k2
    have : m = 7 := by omega
    rw [this] at m3; omega
theorem Nr_lt {n : Nat} {r p : Nat → Nat} (hn : n ≤ 8) (hr : PM n r) (hp : PM n p) (h : lx n r p) : Nr (padR n r) < Nr (padR n p) := by
  refine Nr_lt8 (pad_pm hn hr) (pad_pm hn hp) ?_
  obtain ⟨k, k1, k2, k3⟩ := h
  refine ⟨k, by omega, fun i hi => ?_, ?_⟩
  · unfold padR; rw [if_pos (by omega), if_pos (by omega)]; exact k2 i hi
  · unfold padR; rw [if_pos k1, if_pos k1]; exact k3
theorem Nr_top {n : Nat} {r : Nat → Nat} (hn : n ≤ 8) (hr : PM n r) : Nr (padR n r) < 524288 := by
  have h := (pad_pm hn hr).1
  have a0 := h 0 (by omega); have a1 := h 1 (by omega); have a2 := h 2 (by omega); have a3 := h 3 (by omega); have a4 := h 4 (by omega); have a5 := h 5 (by omega)
  unfold Nr
  have : (if padR n r 7 < padR n r 6 then 1 else 0) ≤ 1 := by split <;> omega
  omega
