/-! the reference goes through all rows -/
def RW (T : St) (n : Nat) (r : Nat → Nat) : Prop := ∀ i, i < n → T 35 i = nI (r i)
def swR (r : Nat → Nat) (i j : Nat) : Nat → Nat := fun k => if k = j then r i else if k = i then r j else r k
theorem swR_e (r : Nat → Nat) (i j k : Nat) : swR r i j k = if k = j then r i else if k = i then r j else r k := rfl
section SP
variable {T : St} {n : Nat} {r : Nat → Nat} {b : Nat → Nat}
theorem m_swap (h : RW T n r) (hn : n ≤ 8) {i j : Nat} (hi : i < n) (hj : j < n) : ∃ T', f_Mo_changesRow T (nI i) (nI j) = some T' ∧ RW T' n (swR r i j) ∧ ∀ k, k ≠ 35 → T' k = T k := by
  have c1 : (nI i).toNatClampNeg = i := cl
  have c2 : (nI j).toNatClampNeg = j := cl
  refine ⟨sF (sF T 35 i (T 35 j)) 35 j (T 35 i), ?_, fun k hk => ?_, fun k hk => by rw [sF_rne hk, sF_rne hk]⟩
  · unfold f_Mo_changesRow
    rw [if_pos (gn (by omega) (by omega)), Option.bind_some, if_pos (gn (by omega) (by omega)), if_pos (gn (by omega) (by omega)), Option.bind_some, if_pos (gn (by omega) (by omega)), Option.bind_some, c1, c2]
  · rw [swR_e]
    by_cases e1 : k = j
    · rw [e1, if_pos rfl, sF_at]; exact h i hi
    · rw [if_neg e1, sF_ne (Or.inr e1)]
      by_cases e2 : k = i
      · rw [e2, if_pos rfl, sF_at]; exact h j hj
      · rw [if_neg e2, sF_ne (Or.inr e2)]; exact h k hk
/-- the row between a and c, turned -/
def rvR (r : Nat → Nat) (a c : Nat) : Nat → Nat := fun k => if a ≤ k ∧ k ≤ c then r (a + c - k) else r k
theorem m_turn (hn : n ≤ 8) : ∀ d a c F (T : St) (r : Nat → Nat), (a ≤ c + 1) → c + 1 - a ≤ d → d < F → c < n → RW T n r → 1 ≤ a → ∃ T', f_Mo_nextRow_80 F T (nI a) (nI c) = some (1, T') ∧ RW T' n (rvR r a c) ∧ ∀ k, k ≠ 35 → T' k = T k := by
  intro d
  induction d with
  | zero =>
    intro a c F T r hac hd hF hc h ha
    obtain ⟨F, rfl⟩ : ∃ v, F = v + 1 := ⟨F - 1, by omega⟩
    refine ⟨T, by rw [f_Mo_nextRow_80, if_pos (yle (by omega))], fun k hk => ?_, fun _ _ => rfl⟩
    unfold rvR
    rw [if_neg (by omega)]; exact h k hk
  | succ d ih =>
    intro a c F T r hac hd hF hc h ha
    obtain ⟨F, rfl⟩ : ∃ v, F = v + 1 := ⟨F - 1, by omega⟩
    by_cases e : c ≤ a
    · refine ⟨T, by rw [f_Mo_nextRow_80, if_pos (yle e)], fun k hk => ?_, fun _ _ => rfl⟩
      unfold rvR
      by_cases q : a ≤ k ∧ k ≤ c
      · rw [if_pos q, show a + c - k = k by omega]; exact h k hk
      · rw [if_neg q]; exact h k hk
    · obtain ⟨T1, e1, e2, e3⟩ := m_swap h hn (show a < n by omega) hc
      obtain ⟨T2, g1, g2, g3⟩ := ih (a + 1) (c - 1) F T1 _ (by omega) (by omega) (by omega) (by omega) e2 (by omega)
      refine ⟨T2, ?_, fun k hk => ?_, fun k hk => by rw [g3 k hk, e3 k hk]⟩
      · have em : nI c + (-1) = nI (c - 1) := by
          have : nI c + (-1) = nI c - 1 := by rw [Int32.sub_eq_add_neg]
          rw [this]; exact pk_sub (b := 1) (by omega)
        rw [f_Mo_nextRow_80, if_neg (nle (by omega)), e1, Option.bind_some, Option.bind_some, nI_1, em, Option.bind_some]
        exact g1
      · rw [g2 k hk]
        congr 1
        unfold rvR
        by_cases q : a ≤ k ∧ k ≤ c
        · rw [if_pos q]
          by_cases q1 : k = a
          · rw [if_neg (by omega), swR_e, if_neg (by omega), if_pos q1, q1]; congr 1; omega
          · by_cases q2 : k = c
            · rw [if_neg (by omega), swR_e, if_pos q2, q2]; congr 1; omega
            · rw [if_pos (by omega), swR_e, if_neg (by omega), if_neg (by omega)]; congr 1; omega
        · rw [if_neg q, if_neg (by omega), swR_e, if_neg (by omega), if_neg (by omega)]
theorem m_next (hn : n ≤ 8) (h1 : 1 ≤ n) (h : RW T n r) (hP : PM n r) : (desc n 0 r ∧ f_Mo_nextRow T (nI n) = some (0, T)) ∨ ∃ r' T', f_Mo_nextRow T (nI n) = some (1, T') ∧ RW T' n r' ∧ (∀ k, k ≠ 35 → T' k = T k) ∧ PM n r' ∧ lx n r r' ∧ ∀ p, PM n p → lx n r p → eqN n r' p ∨ lx n r' p := by
  obtain ⟨F0, hF0⟩ : ∃ F, FU = F := ⟨_, rfl⟩
  have hF0' : 300 < F0 := by rw [← hF0]; exact FU_gt (by omega)
  -- the last rise is found
  have k42 : ∀ i, i + 1 < n → desc n (i + 1) r → r i < r (i + 1) → ∀ d j F, j = i + 1 + d → j < n → d < F → (∀ k, j < k → k < n → r k < r i) → ∃ r' T', f_Mo_nextRow_42 F T (nI n) (nI i) (nI j) = some (1, T') ∧ RW T' n r' ∧ (∀ k, k ≠ 35 → T' k = T k) ∧ PM n r' ∧ lx n r r' ∧ ∀ p, PM n p → lx n r p → eqN n r' p ∨ lx n r' p := by
    intro i hi hd hri d
    have found : ∀ j F, i < j → j < n → r i < r j → (∀ k, j < k → k < n → r k < r i) → ∃ r' T', f_Mo_nextRow_42 (F + 1) T (nI n) (nI i) (nI j) = some (1, T') ∧ RW T' n r' ∧ (∀ k, k ≠ 35 → T' k = T k) ∧ PM n r' ∧ lx n r r' ∧ ∀ p, PM n p → lx n r p → eqN n r' p ∨ lx n r' p := fun j F hij hj hlt hno => by
      have c1 : (nI i).toNatClampNeg = i := cl
      have c2 : (nI j).toNatClampNeg = j := cl
      have p1 := hP.1 i (by omega)
      have p2 := hP.1 j hj
      obtain ⟨T1, e1, e2, e3⟩ := m_swap h hn (show i < n by omega) hj
      obtain ⟨T2, g1, g2, g3⟩ := m_turn hn 10 (i + 1) (n - 1) F0 T1 _ (by omega) (by omega) (by omega) (by omega) e2 (by omega)
      obtain ⟨x1, x2, x3⟩ := nx_next hP hi hd hij hj hlt hno
      refine ⟨nx r n i j, T2, ?_, fun k hk => ?_, fun k hk => by rw [g3 k hk, e3 k hk], x1, x2, x3⟩
      · rw [f_Mo_nextRow_42, if_pos (gn (by omega) (by omega)), if_pos (gn (by omega) (by omega)), c1, c2, h i (by omega), h j hj, if_pos (yle (by omega)), e1, Option.bind_some, nI_1, Option.bind_some, show nI n - 1 = nI (n - 1) from pk_sub (b := 1) (by omega), Option.bind_some, hF0]
        exact g1
      · rw [g2 k hk]
        congr 1
        unfold rvR nx
        by_cases q : i + 1 ≤ k ∧ k ≤ n - 1
        · rw [if_pos q, if_neg (by omega), if_neg (by omega)]
          have : i + 1 + (n - 1) - k = i + n - k := by omega
          rw [this, swR_e]
          by_cases q1 : i + n - k = j
          · rw [if_pos q1, if_pos q1]
          · rw [if_neg q1, if_neg q1, if_neg (by omega)]
        · rw [if_neg q, swR_e, if_neg (by omega)]
          by_cases q1 : k < i
          · rw [if_pos q1, if_neg (by omega)]
          · rw [if_neg q1, if_pos (by omega), if_pos (by omega)]
    induction d with
    | zero =>
      intro j F hj hjn hF hno
      obtain ⟨F, rfl⟩ : ∃ v, F = v + 1 := ⟨F - 1, by omega⟩
      have : j = i + 1 := by omega
      subst this
      exact found (i + 1) F (by omega) hjn hri hno
    | succ d ih =>
      intro j F hj hjn hF hno
      obtain ⟨F, rfl⟩ : ∃ v, F = v + 1 := ⟨F - 1, by omega⟩
      by_cases c : r i < r j
      · exact found j F (by omega) hjn c hno
      · have c1 : (nI i).toNatClampNeg = i := cl
        have c2 : (nI j).toNatClampNeg = j := cl
        have p1 := hP.1 i (by omega)
        have p2 := hP.1 j hjn
        have ne := hP.2 i j (by omega) hjn
        obtain ⟨r', T', a1, a2⟩ := ih (j - 1) F (by omega) (by omega) (by omega) (fun k h1 h2 => by
          by_cases e : k = j
          · rw [e]; omega
          · exact hno k (by omega) h2)
        refine ⟨r', T', ?_, a2⟩
        rw [f_Mo_nextRow_42, if_pos (gn (by omega) (by omega)), if_pos (gn (by omega) (by omega)), c1, c2, h i (by omega), h j hjn, if_neg (nle (by omega)), show nI j - 1 = nI (j - 1) from pk_sub (b := 1) (by omega), Option.bind_some]
        exact a1
  have k4 : ∀ m F, m + 1 < n → m < F → desc n (m + 1) r → (desc n 0 r ∧ f_Mo_nextRow_4 (F + 1) T (nI n) (nI m) = some (0, T)) ∨ ∃ r' T', f_Mo_nextRow_4 (F + 1) T (nI n) (nI m) = some (1, T') ∧ RW T' n r' ∧ (∀ k, k ≠ 35 → T' k = T k) ∧ PM n r' ∧ lx n r r' ∧ ∀ p, PM n p → lx n r p → eqN n r' p ∨ lx n r' p := by
    intro m
    induction m with
    | zero =>
      intro F hm hF hd
      have c1 : (nI 0).toNatClampNeg = 0 := cl
      have c2 : (nI 1).toNatClampNeg = 1 := cl
      have p1 := hP.1 0 (by omega)
      have p2 := hP.1 1 (by omega)
      have ne := hP.2 0 1 (by omega) (by omega)
      by_cases c : r 0 < r 1
      · obtain ⟨r', T', a1, a2⟩ := k42 0 hm hd c (n - 2) (n - 1) F0 (by omega) (by omega) (by omega) (fun k h1 h2 => by omega)
        refine Or.inr ⟨r', T', ?_, a2⟩
        rw [f_Mo_nextRow_4, if_neg (nI_lt0 (by omega)), if_pos (gn (by omega) (by omega)), nI_1, if_pos (gn (by omega) (by omega)), c1, c2, h 0 (by omega), h 1 (by omega), if_pos (yle (by omega))]
        unfold f_Mo_nextRow_32
        rw [if_pos (show 0 ≤ nI 0 by decide), show nI n - 1 = nI (n - 1) from pk_sub (b := 1) (by omega), Option.bind_some, hF0]
        exact a1
      · refine Or.inl ⟨fun j h1 h2 => ?_, ?_⟩
        · by_cases e : j = 0
          · rw [e]; show r 1 < r 0; omega
          · exact hd j (by omega) h2
        · obtain ⟨F, rfl⟩ : ∃ v, F = v + 1 := ⟨F - 1, by omega⟩
          have em : nI 0 - 1 = -1 := by decide
          rw [f_Mo_nextRow_4, if_neg (nI_lt0 (by omega)), if_pos (gn (by omega) (by omega)), nI_1, if_pos (gn (by omega) (by omega)), c1, c2, h 0 (by omega), h 1 (by omega), if_neg (nle (by omega)), em, Option.bind_some, f_Mo_nextRow_4, if_pos (by decide)]
          unfold f_Mo_nextRow_32
          rw [if_neg (by decide)]
    | succ m ih =>
      intro F hm hF hd
      obtain ⟨F, rfl⟩ : ∃ v, F = v + 1 := ⟨F - 1, by omega⟩
      have c1 : (nI (m + 1)).toNatClampNeg = m + 1 := cl
      have c2 : (nI (m + 1 + 1)).toNatClampNeg = m + 1 + 1 := cl
      have p1 := hP.1 (m + 1) (by omega)
      have p2 := hP.1 (m + 1 + 1) (by omega)
      have ne := hP.2 (m + 1) (m + 1 + 1) (by omega) (by omega)
      by_cases c : r (m + 1) < r (m + 1 + 1)
      · obtain ⟨r', T', a1, a2⟩ := k42 (m + 1) hm hd c (n - 1 - (m + 2)) (n - 1) F0 (by omega) (by omega) (by omega) (fun k h1 h2 => by omega)
        refine Or.inr ⟨r', T', ?_, a2⟩
        rw [f_Mo_nextRow_4, if_neg (nI_lt0 (by omega)), if_pos (gn (by omega) (by omega)), nI_1, if_pos (gn (by omega) (by omega)), c1, c2, h _ (by omega), h _ (by omega), if_pos (yle (by omega))]
        unfold f_Mo_nextRow_32
        rw [if_pos (show 0 ≤ nI (m + 1) from yle (a := 0) (by omega)), show nI n - 1 = nI (n - 1) from pk_sub (b := 1) (by omega), Option.bind_some, hF0]
        exact a1
      · have e : f_Mo_nextRow_4 (F + 1 + 1) T (nI n) (nI (m + 1)) = f_Mo_nextRow_4 (F + 1) T (nI n) (nI m) := by
          rw [f_Mo_nextRow_4, if_neg (nI_lt0 (by omega)), if_pos (gn (by omega) (by omega)), nI_1, if_pos (gn (by omega) (by omega)), c1, c2, h _ (by omega), h _ (by omega), if_neg (nle (by omega)), show nI (m + 1) - 1 = nI m from pk_sub (a := m + 1) (b := 1) (by omega), Option.bind_some]
        rw [e]
        exact ih F (by omega) (by omega) (fun j h1 h2 => by
          by_cases q : j = m + 1
          · rw [q]; omega
          · exact hd j (by omega) h2)
  unfold f_Mo_nextRow
  rw [Option.bind_some, hF0]
  obtain ⟨F1, rfl⟩ : ∃ v, F0 = v + 1 := ⟨F0 - 1, by omega⟩
  by_cases c : n = 1
  · refine Or.inl ⟨fun j h1 h2 => by omega, ?_⟩
    rw [c, show nI 1 - 2 = -1 by decide, f_Mo_nextRow_4, if_pos (by decide)]
    unfold f_Mo_nextRow_32
    rw [if_neg (by decide)]
  · rw [show nI n - 2 = nI (n - 2) from pk_sub (b := 2) (by omega)]
    exact k4 (n - 2) F1 (by omega) (by omega) (fun j h1 h2 => by omega)
/-! hours -/
def lst (r : Nat → Nat) : Nat → Nat → List Nat
  | _, 0 => []
  | i, m + 1 => r i :: lst r (i + 1) m
theorem lst_cong {r p : Nat → Nat} : ∀ m i, (∀ j, i ≤ j → j < i + m → r j = p j) → lst r i m = lst p i m
  | 0, _, _ => rfl
  | m + 1, i, h => by rw [lst, lst, h i (by omega) (by omega), lst_cong m (i + 1) (fun j h1 h2 => h j (by omega) (by omega))]
def hrs (b : Nat → Nat) (n : Nat) (r : Nat → Nat) : Nat := jr b (lst r 0 n) 0 0
theorem m_hours (hn : n ≤ 8) (h : RW T n r) (hP : PM n r) (hb : MB T (2 * n) b) : hrs b n r ≤ 5000 ∧ f_Mo_hoursOfRow T (nI n) = some (nI (hrs b n r)) := by
  obtain ⟨F0, hF0⟩ : ∃ F, FU = F := ⟨_, rfl⟩
  have hF0' : 300 < F0 := by rw [← hF0]; exact FU_gt (by omega)
  have key' : ∀ m i F x y, i + m = n → m < F → x ≤ 256 * i → y ≤ 512 * i → jr b (lst r i m) x y ≤ 5000 ∧ f_Mo_hoursOfRow_7 F T (nI n) (nI x) (nI y) (nI i) = some (nI (jr b (lst r i m) x y)) := by
    intro m
    induction m with
    | zero =>
      intro i F x y hi hF hx hy
      obtain ⟨F, rfl⟩ : ∃ v, F = v + 1 := ⟨F - 1, by omega⟩
      refine ⟨?_, by rw [f_Mo_hoursOfRow_7, if_pos (yle (by omega))]; rfl⟩
      show y ≤ 5000
      omega
    | succ m ih =>
      intro i F x y hi hF hx hy
      obtain ⟨F, rfl⟩ : ∃ v, F = v + 1 := ⟨F - 1, by omega⟩
      have ri := hP.1 i (by omega)
      have a1 := (hb.2 (2 * r i) (by omega)).2
      have a2 := (hb.2 (2 * r i + 1) (by omega)).2
      have c1 : (nI i).toNatClampNeg = i := cl
      obtain ⟨q1, q2⟩ := ih (i + 1) F (x + b (2 * r i)) (max (x + b (2 * r i)) y + b (2 * r i + 1)) (by omega) (by omega) (by omega) (by omega)
      refine ⟨q1, ?_⟩
      rw [f_Mo_hoursOfRow_7, if_neg (nle (by omega)), if_pos (gn (by omega) (by omega)), c1, h i (by omega), m2, hb.oct (by omega), Option.bind_some, nI_add, Option.bind_some, m_max, Option.bind_some, jmax_n (by omega) (by omega), if_pos (gn (by omega) (by omega)), nI_1, hb.oct (by omega), Option.bind_some, nI_add, Option.bind_some, nI_1, Option.bind_some]
      exact q2
  obtain ⟨q1, q2⟩ := key' n 0 F0 0 0 (by omega) (by omega) (by omega) (by omega)
  refine ⟨q1, ?_⟩
  unfold f_Mo_hoursOfRow
  rw [Option.bind_some, Option.bind_some, Option.bind_some, hF0]
  exact q2
theorem hrs_eq {p : Nat → Nat} (h : eqN n r p) : hrs b n r = hrs b n p := by
  unfold hrs
  rw [lst_cong n 0 (fun j _ h2 => h j (by omega))]
/-- the best so far, and the first of those -/
def bst (b : Nat → Nat) (n : Nat) (Q : (Nat → Nat) → Prop) (v : Nat) (f : Nat) : Prop := ∃ p0, PM n p0 ∧ Q p0 ∧ v = hrs b n p0 ∧ f = p0 0 ∧ (∀ p, PM n p → Q p → hrs b n p0 ≤ hrs b n p) ∧ ∀ p, PM n p → lx n p p0 → hrs b n p0 < hrs b n p
theorem hrs_le (hn : n ≤ 8) (hP : PM n r) (hb : ∀ i, i < 2 * n → b i < 256) : hrs b n r ≤ 5000 := by
  have key' : ∀ m i x y, i + m = n → x ≤ 256 * i → y ≤ 512 * i → jr b (lst r i m) x y ≤ 5000 := by
    intro m
    induction m with
    | zero =>
      intro i x y hi hx hy
      show y ≤ 5000
      omega
    | succ m ih =>
      intro i x y hi hx hy
      have ri := hP.1 i (by omega)
      have a1 := hb (2 * r i) (by omega)
      have a2 := hb (2 * r i + 1) (by omega)
      exact ih (i + 1) _ _ (by omega) (by omega) (by omega)
  exact key' n 0 0 0 (by omega) (by omega) (by omega)
theorem m_66 (hn : n ≤ 8) (h1 : 1 ≤ n) (d : Int32) : ∀ F (T : St) (r : Nat → Nat) (l3 l4 : Int32), 524288 < F + Nr (padR n r) → RW T n r → PM n r → MB T (2 * n) b → ((l3 = 1000000 ∧ ∀ p, PM n p → ¬ lx n p r) ∨ ∃ v f, l3 = nI v ∧ l4 = nI f ∧ bst b n (fun p => lx n p r) v f) → ∃ v f T', bst b n (fun _ => True) v f ∧ f_Mo_spun_66 F T (nI n) d l3 l4 1 = some (if d = 0 then nI v else nI f, T') ∧ T' 0 = T 0 := by
  intro F
  induction F with
  | zero =>
    intro T r l3 l4 hF h hP
    have := Nr_top hn hP
    omega
  | succ F ih =>
    intro T r l3 l4 hF h hP hb hI
    obtain ⟨e5, e1⟩ := m_hours hn h hP hb
    have hbb : ∀ i, i < 2 * n → b i < 256 := fun i hi => (hb.2 i hi).2
    -- this row is weighed
    obtain ⟨v, f, B1, B2⟩ : ∃ v f, bst b n (fun p => lx n p r ∨ eqN n p r) v f ∧ f_Mo_spun_66 (F + 1) T (nI n) d l3 l4 1 = f_Mo_spun_95 (f_Mo_spun_66 F) T (nI n) d (nI v) (nI f) := by
      have c0 : (0 : Int32).toNatClampNeg = 0 := by decide
      rw [f_Mo_spun_66, if_neg i10, e1, Option.bind_some]
      rcases hI with ⟨e, hno⟩ | ⟨v, f, e2, e3, p0, p1, p2, p3, p4, p5, p6⟩
      · refine ⟨hrs b n r, r 0, ⟨r, hP, Or.inr (fun _ _ => rfl), rfl, rfl, fun p hp hq => ?_, fun p hp hq => absurd hq (hno p hp)⟩, ?_⟩
        · rcases hq with q | q
          · exact absurd q (hno p hp)
          · rw [hrs_eq q]; exact Nat.le_refl _
        · rw [e, if_neg (show ¬ (1000000 : Int32) ≤ nI (hrs b n r) from nle (b := 1000000) (by omega)), if_pos (by decide), c0, h 0 (by omega), Option.bind_some]
      · have pe := hrs_le hn p1 hbb
        by_cases c : hrs b n p0 ≤ hrs b n r
        · refine ⟨v, f, ⟨p0, p1, Or.inl p2, p3, p4, fun p hp hq => ?_, p6⟩, ?_⟩
          · rcases hq with q | q
            · exact p5 p hp q
            · rw [hrs_eq q]; exact c
          · rw [e2, p3, if_pos (yle c (by omega)), e3]
        · refine ⟨hrs b n r, r 0, ⟨r, hP, Or.inr (fun _ _ => rfl), rfl, rfl, fun p hp hq => ?_, fun p hp hq => ?_⟩, ?_⟩
          · rcases hq with q | q
            · have := p5 p hp q; omega
            · rw [hrs_eq q]; exact Nat.le_refl _
          · have := p5 p hp hq; omega
          · rw [e2, p3, if_neg (nle (by omega) (by omega)), if_pos (by decide), c0, h 0 (by omega), Option.bind_some]
    rw [B2]
    unfold f_Mo_spun_95
    rcases m_next hn h1 h hP with ⟨hd, g1⟩ | ⟨r', T', g1, g2, g3, g4, g5, g6⟩
    · obtain ⟨F1, hF1⟩ : ∃ v, F = v + 1 := ⟨F - 1, by have := Nr_top hn hP; omega⟩
      obtain ⟨p0, p1, p2, p3, p4, p5, p6⟩ := B1
      refine ⟨v, f, T, ⟨p0, p1, trivial, p3, p4, fun p hp _ => ?_, p6⟩, ?_, rfl⟩
      · rcases lx_tri (r := p) (p := r) n with q | q | q
        · exact p5 p hp (Or.inr q)
        · exact p5 p hp (Or.inl q)
        · exact absurd q (desc_last hP hp hd)
      · rw [g1, Option.bind_some, Option.bind_some, hF1]
        show f_Mo_spun_66 (F1 + 1) T (nI n) d (nI v) (nI f) 0 = _
        rw [f_Mo_spun_66, if_pos rfl]
        by_cases c : d = 0
        · rw [if_pos c, if_pos c]
        · rw [if_neg c, if_neg c]
    · rw [g1, Option.bind_some, Option.bind_some]
      have nlt := Nr_lt hn hP g4 g5
      have ih1 := ih T' r' (nI v) (nI f) (by omega) g2 g4 (hb.congr (by rw [g3 6 (by omega)])) (Or.inr ⟨v, f, rfl, rfl, ?_⟩)
      · obtain ⟨v', f', T3, i1, i2, i3⟩ := ih1
        exact ⟨v', f', T3, i1, i2, i3.trans (g3 0 (by omega))⟩
      obtain ⟨p0, p1, p2, p3, p4, p5, p6⟩ := B1
      refine ⟨p0, p1, ?_, p3, p4, fun p hp hq => p5 p hp ?_, p6⟩
      · rcases p2 with q | q
        · exact lx_trans q g5
        · exact lx_eq' g5 (fun i hi => (q i hi).symm)
      · rcases lx_tri (r := p) (p := r) n with q | q | q
        · exact Or.inr q
        · exact Or.inl q
        · rcases g6 p hp q with z | z
          · exact absurd (fun i hi => (z i hi).symm) (fun y => lx_ne hq y)
          · exact (lx_asym hq z).elim
end SP
/-! lists and rows -/
def fl : List Nat → Nat → Nat
  | [], _ => 0
  | a :: _, 0 => a
  | _ :: l, i + 1 => fl l i
theorem lst_shift (r : Nat → Nat) : ∀ m i, lst r (i + 1) m = lst (fun j => r (j + 1)) i m
  | 0, _ => rfl
  | m + 1, i => by rw [lst, lst, lst_shift r m (i + 1)]
theorem lst_fl : ∀ l : List Nat, lst (fl l) 0 l.length = l
  | [] => rfl
  | a :: l => by
    show fl (a :: l) 0 :: lst (fl (a :: l)) 1 l.length = a :: l
    rw [lst_shift]
    show a :: lst (fl l) 0 l.length = a :: l
    rw [lst_fl l]
theorem fl_mem : ∀ (l : List Nat) (i : Nat), i < l.length → fl l i ∈ l
  | a :: l, 0, _ => List.mem_cons_self ..
  | a :: l, i + 1, h => List.mem_cons_of_mem _ (fl_mem l i (by simpa using h))
theorem fl_inj : ∀ (l : List Nat), l.Nodup → ∀ i j, i < j → j < l.length → fl l i ≠ fl l j
  | [], _, _, _, _, h => by simp at h
  | a :: l, hn, 0, 0, h, _ => by omega
  | a :: l, hn, 0, j + 1, _, h => fun e => (List.nodup_cons.mp hn).1 (by
      have : fl l j ∈ l := fl_mem l j (by simpa using h)
      have e' : a = fl l j := e
      rw [e']; exact this)
  | a :: l, hn, i + 1, 0, h, _ => by omega
  | a :: l, hn, i + 1, j + 1, h1, h2 => fl_inj l (List.nodup_cons.mp hn).2 i j (by omega) (by simpa using h2)
theorem mem_fl : ∀ (l : List Nat) (k : Nat), k ∈ l → ∃ i, i < l.length ∧ fl l i = k
  | [], k, h => by cases h
  | a :: l, k, h => by
    rcases List.mem_cons.mp h with e | e
    · exact ⟨0, by simp, e.symm⟩
    · obtain ⟨i, h1, h2⟩ := mem_fl l k e
      exact ⟨i + 1, by simpa using h1, h2⟩
theorem isL_len {n : Nat} {l : List Nat} (h : isL (fun k => decide (k < n)) l) : l.length = n := by
  have a : l.length ≤ n := fb_holes n l.length (fl l) (fun i hi => of_decide_eq_true ((h.2 _).mp (fl_mem l i hi))) (fl_inj l h.1)
  have hc : ∀ k, ∃ i, k < n → i < l.length ∧ fl l i = k := fun k => by
    by_cases c : k < n
    · obtain ⟨i, h1, h2⟩ := mem_fl l k ((h.2 k).mpr (decide_eq_true c))
      exact ⟨i, fun _ => ⟨h1, h2⟩⟩
    · exact ⟨0, fun z => absurd z c⟩
  have b : n ≤ l.length := fb_holes l.length n (fun k => Classical.choose (hc k)) (fun k hk => (Classical.choose_spec (hc k) hk).1) (fun i j hij hj e => by
    have h1 := (Classical.choose_spec (hc i) (by omega)).2
    have h2 := (Classical.choose_spec (hc j) hj).2
    have e' : Classical.choose (hc i) = Classical.choose (hc j) := e
    rw [e', h2] at h1
    omega)
  omega
theorem fl_pm {n : Nat} {l : List Nat} (h : isL (fun k => decide (k < n)) l) : PM n (fl l) := by
  have e := isL_len h
  exact ⟨fun i hi => of_decide_eq_true ((h.2 _).mp (fl_mem l i (by omega))), fun i j hij hj => fl_inj l h.1 i j hij (by omega)⟩
theorem lst_mem {r : Nat → Nat} : ∀ m i k, k ∈ lst r i m ↔ ∃ j, i ≤ j ∧ j < i + m ∧ r j = k
  | 0, i, k => ⟨fun z => absurd z List.not_mem_nil, fun ⟨j, h1, h2, _⟩ => by omega⟩
  | m + 1, i, k => by
    rw [lst, List.mem_cons, lst_mem m (i + 1) k]
    constructor
    · rintro (e | ⟨j, h1, h2, h3⟩)
      · exact ⟨i, by omega, by omega, e.symm⟩
      · exact ⟨j, by omega, by omega, h3⟩
    · rintro ⟨j, h1, h2, h3⟩
      by_cases e : j = i
      · rw [e] at h3; exact Or.inl h3.symm
      · exact Or.inr ⟨j, by omega, by omega, h3⟩
theorem lst_nodup {r : Nat → Nat} {n : Nat} (h : PM n r) : ∀ m i, i + m ≤ n → (lst r i m).Nodup
  | 0, _, _ => List.nodup_nil
  | m + 1, i, hi => List.nodup_cons.mpr ⟨fun z => by
      obtain ⟨j, h1, h2, h3⟩ := (lst_mem m (i + 1) (r i)).mp z
      exact h.2 i j (by omega) (by omega) h3.symm, lst_nodup h m (i + 1) (by omega)⟩
/-- what the class finds of those that begin with one, and rows -/
theorem hrs_head {b : Nat → Nat} {n : Nat} (h1 : 1 ≤ n) (r : Nat → Nat) : hrs b n r = jr b (lst r 1 (n - 1)) (b (2 * r 0)) (b (2 * r 0) + b (2 * r 0 + 1)) := by
  obtain ⟨m, rfl⟩ : ∃ m, n = m + 1 := ⟨n - 1, by omega⟩
  unfold hrs
  rw [lst, jr]
  congr 1
  · omega
  · omega
theorem best_row {b : Nat → Nat} {n f v : Nat} (h1 : 1 ≤ n) (hf : f < n) (h : best b (rest n f) (b (2 * f)) (b (2 * f) + b (2 * f + 1)) v) : (∀ p, PM n p → p 0 = f → v ≤ hrs b n p) ∧ ∃ p, PM n p ∧ p 0 = f ∧ hrs b n p = v := by
  obtain ⟨a1, l, ⟨l1, l2⟩, l3⟩ := h
  refine ⟨fun p hp e => ?_, fl (f :: l), ?_, rfl, ?_⟩
  · rw [hrs_head h1 p, e]
    refine a1 _ ⟨lst_nodup hp (n - 1) 1 (by omega), fun k => ?_⟩
    rw [lst_mem]
    unfold rest
    rw [Bool.and_eq_true, decide_eq_true_eq, Bool.not_eq_true', decide_eq_false_iff_not]
    constructor
    · rintro ⟨j, j1, j2, j3⟩
      have := hp.1 j (by omega)
      have := hp.2 0 j (by omega) (by omega)
      omega
    · rintro ⟨k1, k2⟩
      obtain ⟨j, j1, j2⟩ := fb_onto hp.1 hp.2 k1
      have : j ≠ 0 := fun z => by rw [z] at j2; omega
      exact ⟨j, by omega, by omega, j2⟩
  · refine fl_pm ⟨List.nodup_cons.mpr ⟨fun z => ?_, l1⟩, fun k => ?_⟩
    · have := (l2 f).mp z
      unfold rest at this
      rw [decide_eq_true (rfl : f = f), Bool.not_true, Bool.and_false] at this
      cases this
    · rw [List.mem_cons, l2]
      unfold rest
      rw [Bool.and_eq_true, decide_eq_true_eq, Bool.not_eq_true', decide_eq_false_iff_not]
      constructor
      · rintro (e | ⟨e, _⟩)
        · rw [e]; exact hf
        · exact e
      · intro e
        by_cases c : k = f
        · exact Or.inl c
        · exact Or.inr ⟨e, c⟩
  · have hl : isL (fun k => decide (k < n)) (f :: l) := by
      refine ⟨List.nodup_cons.mpr ⟨fun z => ?_, l1⟩, fun k => ?_⟩
      · have := (l2 f).mp z
        unfold rest at this
        rw [decide_eq_true (rfl : f = f), Bool.not_true, Bool.and_false] at this
        cases this
      · rw [List.mem_cons, l2]
        unfold rest
        rw [Bool.and_eq_true, decide_eq_true_eq, Bool.not_eq_true', decide_eq_false_iff_not]
        constructor
        · rintro (e | ⟨e, _⟩)
          · rw [e]; exact hf
          · exact e
        · intro e
          by_cases c : k = f
          · exact Or.inl c
          · exact Or.inr ⟨e, c⟩
    have len := isL_len hl
    unfold hrs
    have e : lst (fl (f :: l)) 0 n = f :: l := by
      have := lst_fl (f :: l)
      rw [len] at this
      exact this
    rw [e, jr, ← l3]
    congr 1
    · omega
    · omega
section STP
variable {LR : St → St → Prop}
theorem st_spun (hL : LRc LR) (a d : Int32) : STEP (RelL LR) m_W_spun m_Mo_spun 6 3 [a, d] := by
  intro Sx Sm hR
  obtain ⟨F, hF⟩ : ∃ F, FU = F := ⟨_, rfl⟩
  have hF' : 600000 < F := by rw [← hF]; exact FU_gt (by omega)
  have no : f_W_spun Sx a d = some (-1, Sx) → f_Mo_spun Sm a d = some (-1, Sm) → ∃ r Sx' Sm', Ct SX m_W_spun 6 (.ref 0 :: [a, d].map Value.int) Sx (some r) Sx' ∧ Ct SM m_Mo_spun 3 (.ref 0 :: [a, d].map Value.int) Sm (some r) Sm' ∧ RelL LR Sx' Sm' := fun e1 e2 => ⟨-1, Sx, Sm, t_W_spun e1, t_Mo_spun e2, hR⟩
  by_cases hc : a < 1 ∨ (8 : Int32) < a
  · exact no (by unfold f_W_spun; rw [wi_n hc]; rfl) (by unfold f_Mo_spun; rw [in_n hc]; rfl)
  have n1 : ¬ a < 1 := fun z => hc (Or.inl z)
  have n2 : ¬ (8 : Int32) < a := fun z => hc (Or.inr z)
  by_cases hc3 : d < 0 ∨ (1 : Int32) < d
  · exact no (by unfold f_W_spun; rw [wi_y n1 n2, wi_n hc3]; rfl) (by unfold f_Mo_spun; rw [in_y n1 n2, in_n hc3]; rfl)
  have n5 : ¬ d < 0 := fun z => hc3 (Or.inl z)
  have n6 : ¬ (1 : Int32) < d := fun z => hc3 (Or.inr z)
  obtain ⟨n, q1, q2, rfl⟩ := rngN (a := 1) (b := 8) (by omega) n1 n2
  rcases tk hR.1 (2 * n) (by omega) with ⟨b, t1, t2, t3, t4⟩ | ⟨t1, t2⟩
  · obtain ⟨f, H, f1, f2, f3, f4, f5⟩ := x_bestFirst t3 q2 q1
    -- the reference's start
    have k38 : ∀ m i F (T : St), i + m = n → m < F → (∀ j, j < i → T 35 j = nI j) → MB T (2 * n) b → (∀ k, k ≠ 35 → T k = tM Sm k) → ∃ T', f_Mo_spun_38 F T (nI n) d (nI i) = f_Mo_spun_66 FU T' (nI n) d 1000000 0 1 ∧ RW T' n (fun j => j) ∧ MB T' (2 * n) b ∧ T' 0 = tM Sm 0 := by
      intro m
      induction m with
      | zero =>
        intro i F T hi hF h hb hk
        obtain ⟨F, rfl⟩ : ∃ v, F = v + 1 := ⟨F - 1, by omega⟩
        have : i = n := by omega
        subst this
        exact ⟨T, by rw [f_Mo_spun_38, if_pos (yle (Nat.le_refl _)), Option.bind_some, Option.bind_some, Option.bind_some], h, hb, hk 0 (by omega)⟩
      | succ m ih =>
        intro i F T hi hF h hb hk
        obtain ⟨F, rfl⟩ : ∃ v, F = v + 1 := ⟨F - 1, by omega⟩
        have c1 : (nI i).toNatClampNeg = i := cl
        rw [f_Mo_spun_38, if_neg (nle (by omega)), if_pos (gn (by omega) (by omega)), c1, Option.bind_some, Option.bind_some, nI_1]
        refine ih (i + 1) F _ (by omega) (by omega) (fun j hj => ?_) (hb.congr (by rw [sF_rne (by omega)])) (fun k hk' => by rw [sF_rne hk']; exact hk k hk')
        by_cases e : j = i
        · rw [e, sF_at]
        · rw [sF_ne (Or.inr e)]; exact h j (by omega)
    obtain ⟨T1, s1, s2, s3, s4⟩ := k38 n 0 F (tM Sm) (by omega) (by omega) (fun j hj => by omega) t4 (fun _ _ => rfl)
    have hid : PM n (fun j => j) := ⟨fun i hi => hi, fun i j hij _ => by show i ≠ j; omega⟩
    have hmin : ∀ p, PM n p → ¬ lx n p (fun j => j) := fun p hp ⟨k, k1, k2, k3⟩ => by
      have e : p (p k) = p k := k2 (p k) k3
      have := hp.inj (by have : p k < k := k3; omega) k1 e
      have k3' : p k < k := k3
      omega
    rw [hF] at s1
    obtain ⟨v, g, T2, ⟨p0, p1, -, p3, p4, p5, p6⟩, e66, e0⟩ := m_66 q2 q1 d F T1 (fun j => j) 1000000 0 (by omega) s2 hid s3 (Or.inl ⟨rfl, hmin⟩)
    -- both are the same
    have Hl : ∀ k, k < n → (∀ p, PM n p → p 0 = k → H k ≤ hrs b n p) ∧ ∃ p, PM n p ∧ p 0 = k ∧ hrs b n p = H k := fun k hk => best_row q1 hk (f3 k hk).2.2
    have g1 : p0 0 < n := p1.1 0 (by omega)
    have hv : H (p0 0) = v := by
      obtain ⟨a1, p, a2, a3, a4⟩ := Hl (p0 0) g1
      have := a1 p0 p1 rfl
      have := p5 p a2 trivial
      omega
    have fg : f = p0 0 := by
      rcases Nat.lt_trichotomy f (p0 0) with c | c | c
      · exfalso
        obtain ⟨-, p, a2, a3, a4⟩ := Hl f f1
        have := p6 p a2 ⟨0, by omega, fun i hi => by omega, by omega⟩
        have := f4 (p0 0) g1
        omega
      · exact c
      · exfalso
        have := f5 (p0 0) c
        obtain ⟨-, p, a2, a3, a4⟩ := Hl f f1
        have := p5 p a2 trivial
        omega
    have hx : f_W_spun Sx (nI n) d = some (if d = 0 then nI v else nI g, tX Sx (2 * n)) := by
      unfold f_W_spun
      rw [wi_y n1 n2, Option.bind_some, if_neg i10, wi_y n5 n6, Option.bind_some, if_neg i10, m2, t1, Option.bind_some, if_neg i10, f2, Option.bind_some]
      rw [p4, ← fg]
      by_cases c : d = 0
      · rw [if_pos c, if_pos c, (f3 f f1).2.1, Option.bind_some, fg, hv]
      · rw [if_neg c, if_neg c]
    have hm : f_Mo_spun Sm (nI n) d = some (if d = 0 then nI v else nI g, T2) := by
      unfold f_Mo_spun
      rw [in_y n1 n2, Option.bind_some, if_neg i10, in_y n5 n6, Option.bind_some, if_neg i10, m2, if_pos t2, Option.bind_some, Option.bind_some, hF]
      exact s1.trans e66
    generalize (if d = 0 then nI v else nI g) = rr at hx hm
    refine ⟨rr, tX Sx (2 * n), T2, t_W_spun hx, t_Mo_spun hm, hR.taken hL (fun k j hk => ?_) (fun k j hk => ?_) ?_ ?_⟩
    · unfold RX at hk
      unfold tX; rw [sF_ne (by omega), sF_ne (by omega)]
    · unfold RM at hk
      exact w_Mo_spun hm (by omega)
    · unfold tX; exact sF_at
    · rw [e0, s4]; unfold tM; exact sF_at
  · refine no ?_ ?_
    · unfold f_W_spun
      rw [wi_y n1 n2, Option.bind_some, if_neg i10, wi_y n5 n6, Option.bind_some, if_neg i10, m2, t1]; rfl
    · unfold f_Mo_spun
      rw [in_y n1 n2, Option.bind_some, if_neg i10, in_y n5 n6, Option.bind_some, if_neg i10, m2, if_neg t2]
end STP
