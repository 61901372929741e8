/-! WAITING: who waits for whom; how few waits must end -/
def cn2 (d : Nat → Nat → Bool) : Nat := fb_sm (fun a => fb_ct (d a) 16) 16
def upG (e d : Nat → Nat → Bool) (r : Nat → Nat) : Prop := ∀ a b, a < 16 → b < 16 → e a b = true → d a b = false → r a < r b
/-- the waits d end, none of them of s: no round is left -/
def KD (e s d : Nat → Nat → Bool) : Prop := (∀ a b, d a b = true → e a b = true ∧ s a b = false) ∧ ∃ r, upG e d r
def PK (e s : Nat → Nat → Bool) (k : Nat) : Prop := ∃ d, KD e s d ∧ cn2 d ≤ k
def st2 (d : Nat → Nat → Bool) (x y : Nat) (v : Bool) : Nat → Nat → Bool := fun a b => if a = x ∧ b = y then v else d a b
section GR
variable {e s d : Nat → Nat → Bool}
theorem st2_at {x y : Nat} {v : Bool} : st2 d x y v x y = v := by unfold st2; rw [if_pos ⟨rfl, rfl⟩]
theorem st2_ne {x y a b : Nat} {v : Bool} (h : ¬ (a = x ∧ b = y)) : st2 d x y v a b = d a b := by unfold st2; rw [if_neg h]
theorem cn2_st {x y : Nat} {v : Bool} (hx : x < 16) (hy : y < 16) : cn2 (st2 d x y v) + (if d x y then 1 else 0) = cn2 d + (if v then 1 else 0) := by
  have e1 : cn2 (st2 d x y v) = fb_sm (fun k => if k = x then fb_ct (fun b => if b = y then v else d x b) 16 else fb_ct (d k) 16) 16 := by
    unfold cn2
    refine fb_sm_cong (fun k hk => ?_)
    show fb_ct (st2 d x y v k) 16 = _
    by_cases c : k = x
    · rw [if_pos c, c]
      refine fb_ct_cong (fun b hb => ?_)
      unfold st2
      by_cases c2 : b = y
      · rw [if_pos ⟨rfl, c2⟩, if_pos c2]
      · rw [if_neg (fun z => c2 z.2), if_neg c2]
    · rw [if_neg c]
      refine fb_ct_cong (fun b hb => ?_)
      exact st2_ne (fun z => c z.1)
  have e2 := fb_sm_upd (fun a => fb_ct (d a) 16) (fb_ct (fun b => if b = y then v else d x b) 16) hx
  have e3 := fb_ct_upd (d x) v hy
  rw [e1]
  have e4 : cn2 d = fb_sm (fun a => fb_ct (d a) 16) 16 := rfl
  omega
theorem cn2_le {d' : Nat → Nat → Bool} (h : ∀ a b, a < 16 → b < 16 → d a b = true → d' a b = true) : cn2 d ≤ cn2 d' := fb_sm_le (fun a ha => fb_ct_sub (fun b hb => h a b ha hb))
theorem cn2_row {D D' : Nat → Nat → Bool} {q : Nat → Bool} {p : Nat} (hp : p < 16) (h0 : ∀ b, b < 16 → D p b = false) (h1 : ∀ a b, a < 16 → b < 16 → D a b = true → D' a b = true) (h2 : ∀ b, b < 16 → q b = true → D' p b = true) : cn2 D + fb_ct q 16 ≤ cn2 D' := by
  have e2 : fb_sm (fun k => if k = p then fb_ct q 16 else fb_ct (D k) 16) 16 + fb_ct (D p) 16 = cn2 D + fb_ct q 16 := fb_sm_upd (fun a => fb_ct (D a) 16) (fb_ct q 16) hp
  have z : fb_ct (D p) 16 = 0 := fb_ct_zero.mpr h0
  have le : fb_sm (fun k => if k = p then fb_ct q 16 else fb_ct (D k) 16) 16 ≤ cn2 D' := by
    refine fb_sm_le (fun a ha => ?_)
    show (if a = p then fb_ct q 16 else fb_ct (D a) 16) ≤ fb_ct (D' a) 16
    by_cases c : a = p
    · rw [if_pos c, c]; exact fb_ct_sub h2
    · rw [if_neg c]; exact fb_ct_sub (fun b hb => h1 a b ha hb)
  omega
theorem cn2_add {d1 d2 : Nat → Nat → Bool} (h0 : ∀ a b, ¬ (d1 a b = true ∧ d2 a b = true)) (h1 : ∀ a b, d1 a b = true → e a b = true) (h2 : ∀ a b, d2 a b = true → e a b = true) : cn2 d1 + cn2 d2 ≤ cn2 e := by
  unfold cn2
  rw [← fb_sm_add]
  refine fb_sm_le (fun a ha => ?_)
  show fb_ct (d1 a) 16 + fb_ct (d2 a) 16 ≤ fb_ct (e a) 16
  rw [← fb_ct_or (fun k _ => h0 a k)]
  refine fb_ct_sub (fun b hb hq => ?_)
  rcases Bool.or_eq_true _ _ |>.mp hq with q | q
  · exact h1 a b q
  · exact h2 a b q
theorem cn2_max : cn2 d ≤ 256 := fb_sm_bound (c := 16) (n := 16) (fun k _ => fb_ct_le _ 16)
theorem cn2_0 (h : ∀ a b, d a b = false) : cn2 d = 0 := by
  have : cn2 d ≤ 16 * 0 := fb_sm_bound (c := 0) (n := 16) (fun k _ => by
    have : fb_ct (d k) 16 = 0 := fb_ct_zero.mpr (fun b _ => h k b)
    show fb_ct (d k) 16 ≤ 0
    omega)
  omega
theorem kd_down {s' : Nat → Nat → Bool} (h : KD e s d) {x y : Nat} (hs : ∀ a b, d a b = true → ¬ (a = x ∧ b = y) → s' a b = false) : KD (st2 e x y false) s' (st2 d x y false) := by
  obtain ⟨h1, r, h2⟩ := h
  refine ⟨fun a b q => ?_, r, fun a b ha hb q1 q2 => ?_⟩
  · by_cases c : a = x ∧ b = y
    · obtain ⟨rfl, rfl⟩ := c
      rw [st2_at] at q
      cases q
    · rw [st2_ne c] at q ⊢
      exact ⟨(h1 a b q).1, hs a b q c⟩
  · by_cases c : a = x ∧ b = y
    · obtain ⟨rfl, rfl⟩ := c
      rw [st2_at] at q1
      cases q1
    · rw [st2_ne c] at q1 q2
      exact h2 a b ha hb q1 q2
theorem kd_up {s' : Nat → Nat → Bool} {x y : Nat} (he : e x y = true) (hs : s x y = false) (h : KD (st2 e x y false) s' d) (hss : ∀ a b, s a b = true → s' a b = true) : KD e s (st2 d x y true) := by
  obtain ⟨h1, r, h2⟩ := h
  refine ⟨fun a b q => ?_, r, fun a b ha hb q1 q2 => ?_⟩
  · by_cases c : a = x ∧ b = y
    · obtain ⟨rfl, rfl⟩ := c
      exact ⟨he, hs⟩
    · rw [st2_ne c] at q
      obtain ⟨g1, g2⟩ := h1 a b q
      rw [st2_ne c] at g1
      refine ⟨g1, ?_⟩
      cases z : s a b with
      | false => rfl
      | true => rw [hss a b z] at g2; cases g2
  · by_cases c : a = x ∧ b = y
    · obtain ⟨rfl, rfl⟩ := c
      rw [st2_at] at q2
      cases q2
    · rw [st2_ne c] at q2
      exact h2 a b ha hb (by rw [st2_ne c]; exact q1) q2
/-- every round has one of the waits that end -/
def nxt (n i : Nat) : Nat := if i + 1 < n then i + 1 else 0
theorem kd_hit (h : KD e s d) {g : Nat → Nat} {n : Nat} (hn : 1 ≤ n) (hg : ∀ i, i < n → g i < 16 ∧ e (g i) (g (nxt n i)) = true) : ∃ i, i < n ∧ d (g i) (g (nxt n i)) = true := by
  obtain ⟨h1, r, h2⟩ := h
  apply Classical.byContradiction
  intro hx
  have nl : ∀ i, nxt n i < n := fun i => by
    unfold nxt
    by_cases c : i + 1 < n
    · rw [if_pos c]; exact c
    · rw [if_neg c]; omega
  have key' : ∀ i, i < n → r (g i) < r (g (nxt n i)) := fun i hi => h2 _ _ (hg i hi).1 (hg _ (nl i)).1 (hg i hi).2 (by
    cases z : d (g i) (g (nxt n i)) with
    | false => rfl
    | true => exact absurd ⟨i, hi, z⟩ hx)
  have up : ∀ i, i < n → r (g 0) + i ≤ r (g i) := by
    intro i
    induction i with
    | zero => intro _; omega
    | succ i ih =>
      intro hi
      have := ih (by omega)
      have k := key' i (by omega)
      unfold nxt at k
      rw [if_pos hi] at k
      omega
  have k := key' (n - 1) (by omega)
  unfold nxt at k
  rw [if_neg (by omega)] at k
  have := up (n - 1) (by omega)
  omega
/-- rounds of two have no wait in common -/
def r2 (e : Nat → Nat → Bool) : Nat := fb_sm (fun a => fb_ct (fun b => e a b && e b a) a) 16
theorem ct_cut (p : Nat → Bool) {a : Nat} (ha : a ≤ 16) : fb_ct p a = fb_sm (fun b => if decide (b < a) && p b then 1 else 0) 16 := by
  rw [← ct_sm, show (16 : Nat) = a + (16 - a) by omega, fb_ct_split]
  have e1 : fb_ct (fun k => decide (k < a) && p k) a = fb_ct p a := fb_ct_cong (fun k hk => by simp [hk])
  have e2 : fb_ct (fun k => (fun k => decide (k < a) && p k) (a + k)) (16 - a) = 0 := fb_ct_zero.mpr (fun k hk => by
    show (decide (a + k < a) && p (a + k)) = false
    rw [decide_eq_false (by omega)]; rfl)
  rw [e1, e2]; rfl
theorem r2_le (h : KD e s d) : r2 e ≤ cn2 d := by
  obtain ⟨h1, r, h2⟩ := h
  have hp : ∀ a b, a < 16 → b < 16 → (e a b && e b a) = true → d a b = true ∨ d b a = true := fun a b ha hb q => by
    have q1 : e a b = true := (Bool.and_eq_true _ _ |>.mp q).1
    have q2 : e b a = true := (Bool.and_eq_true _ _ |>.mp q).2
    cases z1 : d a b with
    | true => exact Or.inl rfl
    | false =>
      cases z2 : d b a with
      | true => exact Or.inr rfl
      | false =>
        have := h2 a b ha hb q1 z1
        have := h2 b a hb ha q2 z2
        omega
  have e1 : r2 e ≤ fb_sm (fun a => fb_sm (fun b => if decide (b < a) && d a b then 1 else 0) 16) 16 + fb_sm (fun a => fb_sm (fun b => if decide (b < a) && d b a then 1 else 0) 16) 16 := by
    unfold r2
    rw [← fb_sm_add]
    refine fb_sm_le (fun a ha => ?_)
    show fb_ct (fun b => e a b && e b a) a ≤ fb_sm (fun b => if decide (b < a) && d a b then 1 else 0) 16 + fb_sm (fun b => if decide (b < a) && d b a then 1 else 0) 16
    rw [← fb_sm_add, ct_cut _ (by omega)]
    refine fb_sm_le (fun b hb => ?_)
    show (if decide (b < a) && (e a b && e b a) then 1 else 0) ≤ (if decide (b < a) && d a b then 1 else 0) + (if decide (b < a) && d b a then 1 else 0)
    by_cases c : b < a
    · by_cases q : (e a b && e b a) = true
      · rcases hp a b ha hb q with z | z
        · simp [c, z]; split <;> omega
        · simp [c, z]; split <;> omega
      · rw [show (e a b && e b a) = false from Bool.eq_false_iff.mpr q]
        simp
    · simp [c]
  rw [sm_swap (fun a b => if decide (b < a) && d b a then 1 else 0) 16 16, ← fb_sm_add] at e1
  refine Nat.le_trans e1 (fb_sm_le (fun a ha => ?_))
  show fb_sm (fun b => if decide (b < a) && d a b then 1 else 0) 16 + fb_sm (fun b => if decide (a < b) && d a b then 1 else 0) 16 ≤ fb_ct (d a) 16
  rw [← fb_sm_add, ct_sm]
  refine fb_sm_le (fun b hb => ?_)
  show (if decide (b < a) && d a b then 1 else 0) + (if decide (a < b) && d a b then 1 else 0) ≤ (if d a b then 1 else 0)
  cases d a b with
  | false => simp
  | true =>
    by_cases c : b < a
    · simp [c, show ¬ a < b by omega]
    · simp [c]; split <;> omega
/-- half of twenty -/
theorem pk10 (hl : ∀ a, e a a = false) (h : cn2 e ≤ 20) : PK e (fun _ _ => false) 10 := by
  have hadd := cn2_add (e := e) (d1 := fun a b => decide (b < a) && e a b) (d2 := fun a b => decide (a < b) && e a b) (fun a b ⟨q1, q2⟩ => by
    have q1' : b < a := of_decide_eq_true (Bool.and_eq_true _ _ |>.mp q1).1
    have q2' : a < b := of_decide_eq_true (Bool.and_eq_true _ _ |>.mp q2).1
    omega) (fun a b q => (Bool.and_eq_true _ _ |>.mp q).2) (fun a b q => (Bool.and_eq_true _ _ |>.mp q).2)
  have ne : ∀ a b, e a b = true → a ≠ b := fun a b q z => by rw [z, hl b] at q; cases q
  by_cases c : cn2 (fun a b => decide (b < a) && e a b) ≤ 10
  · refine ⟨_, ⟨fun a b q => ⟨(Bool.and_eq_true _ _ |>.mp q).2, rfl⟩, fun a => a, fun a b ha hb q1 q2 => ?_⟩, c⟩
    have := ne a b q1
    have : ¬ b < a := fun z => by simp [z, q1] at q2
    show a < b
    omega
  · refine ⟨fun a b => decide (a < b) && e a b, ⟨fun a b q => ⟨(Bool.and_eq_true _ _ |>.mp q).2, rfl⟩, fun a => 16 - a, fun a b ha hb q1 q2 => ?_⟩, by omega⟩
    have := ne a b q1
    have : ¬ a < b := fun z => by simp [z, q1] at q2
    show 16 - a < 16 - b
    omega
/-! no round at all -/
def RC (e : Nat → Nat → Bool) : Nat → Nat → Nat → Prop
  | 0, a, b => a = b
  | n + 1, a, b => ∃ c, c < 16 ∧ e a c = true ∧ RC e n c b
noncomputable def rb (P : Prop) : Bool := @decide P (Classical.propDecidable P)
theorem rb_t {P : Prop} : rb P = true ↔ P := @decide_eq_true_iff P (Classical.propDecidable P)
theorem no_round (h : ∀ v n, v < 16 → ¬ RC e (n + 1) v v) : ∃ r, upG e (fun _ _ => false) r := by
  refine ⟨fun v => 16 - fb_ct (fun x => rb (∃ n, RC e n v x)) 16, fun a b ha hb q _ => ?_⟩
  show 16 - fb_ct (fun x => rb (∃ n, RC e n a x)) 16 < 16 - fb_ct (fun x => rb (∃ n, RC e n b x)) 16
  have na : rb (∃ n, RC e n b a) = false := Bool.eq_false_iff.mpr (fun z => by
    obtain ⟨n, hn⟩ := rb_t.mp z
    exact h a n ha ⟨b, hb, q, hn⟩)
  have e1 : fb_ct (fun k => rb (∃ n, RC e n b k) || decide (k = a)) 16 = fb_ct (fun x => rb (∃ n, RC e n b x)) 16 + fb_ct (fun x => decide (x = a)) 16 := fb_ct_or (p := fun x => rb (∃ n, RC e n b x)) (q := fun x => decide (x = a)) (n := 16) (fun k _ z => by
    have : k = a := of_decide_eq_true z.2
    have z1 : rb (∃ n, RC e n b k) = true := z.1
    rw [this, na] at z1
    cases z1)
  have e2 : 0 < fb_ct (fun x => decide (x = a)) 16 := fb_ct_pos.mpr ⟨a, ha, decide_eq_true rfl⟩
  have e3 : fb_ct (fun k => rb (∃ n, RC e n b k) || decide (k = a)) 16 ≤ fb_ct (fun x => rb (∃ n, RC e n a x)) 16 := fb_ct_sub (fun k hk z => by
    rcases Bool.or_eq_true _ _ |>.mp z with z1 | z1
    · obtain ⟨n, hn⟩ := rb_t.mp z1
      exact rb_t.mpr ⟨n + 1, b, hb, q, hn⟩
    · have : k = a := of_decide_eq_true z1
      exact rb_t.mpr ⟨0, this.symm⟩)
  have e4 := fb_ct_le (fun x => rb (∃ n, RC e n a x)) 16
  omega
theorem no_way {Z : Nat → Prop} {v : Nat} (hz : ∀ a b, Z a → b < 16 → e a b = true → Z b) (hv : ∀ a, Z a → e a v = false) : ∀ n a, Z a → ¬ RC e (n + 1) a v
  | 0, a, ha, ⟨c, hc, q, hr⟩ => by
    have : c = v := hr
    rw [this, hv a ha] at q
    cases q
  | n + 1, a, ha, ⟨c, hc, q, hr⟩ => no_way hz hv n c (hz a c ha hc q) hr
/-- who waits for ever: the greatest set in which each waits for one of it -/
def GF (e : Nat → Nat → Bool) (v : Int32) : Prop := (∀ i, 16 ≤ i → bt v i = false) ∧ (∀ i, i < 16 → bt v i = true → ∃ c, c < 16 ∧ e i c = true ∧ bt v c = true) ∧ ∀ C : Nat → Prop, (∀ i, i < 16 → C i → ∃ c, c < 16 ∧ e i c = true ∧ C c) → ∀ i, i < 16 → C i → bt v i = true
theorem GF.one {v w : Int32} (h : GF e v) (h' : GF e w) : v = w := b_ext (fun i _ => by
  by_cases hi : i < 16
  · cases z : bt v i with
    | true => exact (h'.2.2 (fun i => bt v i = true) (fun i hi q => h.2.1 i hi q) i hi z).symm
    | false =>
      cases z' : bt w i with
      | false => rfl
      | true => rw [h.2.2 (fun i => bt w i = true) (fun i hi q => h'.2.1 i hi q) i hi z'] at z; cases z
  · rw [h.1 i (by omega), h'.1 i (by omega)])
theorem GF.round {w : Int32} (h : GF e w) {v m : Nat} (hv : v < 16) (hr : RC e (m + 1) v v) : bt w v = true := by
  refine h.2.2 (fun x => ∃ n, RC e n x v) (fun i hi ⟨n, hn⟩ => ?_) v hv ⟨0, rfl⟩
  cases n with
  | zero =>
    have : i = v := hn
    rw [this]
    obtain ⟨c, hc, q, q2⟩ := hr
    exact ⟨c, hc, q, m, q2⟩
  | succ n =>
    obtain ⟨c, hc, q, q2⟩ := hn
    exact ⟨c, hc, q, n, q2⟩
/-! the fewest of all orders, set by set -/
def rs (m : Nat) (d : Nat → Nat → Bool) : Nat → Nat → Bool := fun a b => m.testBit a && (m.testBit b && d a b)
def DPv (e : Nat → Nat → Bool) (m k : Nat) : Prop := (∀ (d : Nat → Nat → Bool) (r : Nat → Nat), upG e d r → k ≤ cn2 (rs m d)) ∧ ∃ (d : Nat → Nat → Bool) (r : Nat → Nat) (B : Nat), (∀ a b, d a b = true → e a b = true) ∧ cn2 d ≤ k ∧ (∀ a b, a < 16 → b < 16 → m.testBit a = true → m.testBit b = true → e a b = true → d a b = false → r a < r b) ∧ ∀ a : Nat, r a < B
theorem DPv.le {m k : Nat} (h : DPv e m k) : k ≤ 256 := Nat.le_trans (h.1 e (fun _ => 0) (fun a b _ _ q1 q2 => by rw [q1] at q2; cases q2)) cn2_max
theorem dp_0 : DPv e 0 0 := ⟨fun d r _ => Nat.zero_le _, fun _ _ => false, fun _ => 0, 1, fun a b q => (by cases q), (by rw [cn2_0 (fun _ _ => rfl)]; exact Nat.le_refl _), fun a b _ _ q => (by rw [Nat.zero_testBit] at q; cases q), fun _ => Nat.zero_lt_one⟩
def cP (e : Nat → Nat → Bool) (m p : Nat) : Nat := fb_ct (fun b => e p b && (m ^^^ 2 ^ p).testBit b) 16
theorem dp_step (hl : ∀ a, e a a = false) {m k : Nat} {E : Nat → Nat} (hm : 0 < m) (hm2 : m < 65536) (hE : ∀ p, p < 16 → m.testBit p = true → DPv e (m ^^^ 2 ^ p) (E p)) (h1 : ∀ p, p < 16 → m.testBit p = true → k ≤ E p + cP e m p) (h2 : ∃ p, p < 16 ∧ m.testBit p = true ∧ k = E p + cP e m p) : DPv e m k := by
  have fl : ∀ p i, (m ^^^ 2 ^ p).testBit i = (m.testBit i ^^ decide (i = p)) := fun p i => fb_bit_flip m p i
  have fi : ∀ p, m.testBit p = true → (m ^^^ 2 ^ p).testBit p = false := fun p hp => by rw [fl, hp]; simp
  have fo : ∀ p i, i ≠ p → (m ^^^ 2 ^ p).testBit i = m.testBit i := fun p i hi => by rw [fl]; simp [hi]
  refine ⟨fun d r hr => ?_, ?_⟩
  · -- the one behind all others
    obtain ⟨p0, hp0, hb0, -⟩ := h2
    have ex : ∀ n, (∃ p, p < n ∧ m.testBit p = true) → ∃ p, p < n ∧ m.testBit p = true ∧ ∀ q, q < n → m.testBit q = true → r q ≤ r p := by
      intro n
      induction n with
      | zero => intro ⟨p, hp, _⟩; omega
      | succ n ih =>
        intro ⟨p, hp, hb⟩
        by_cases c : ∃ p, p < n ∧ m.testBit p = true
        · obtain ⟨p', a1, a2, a3⟩ := ih c
          by_cases cn : m.testBit n = true ∧ r p' < r n
          · refine ⟨n, by omega, cn.1, fun q hq hqb => ?_⟩
            by_cases z : q = n
            · rw [z]; exact Nat.le_refl _
            · have := a3 q (by omega) hqb
              have := cn.2
              omega
          · refine ⟨p', by omega, a2, fun q hq hqb => ?_⟩
            by_cases z : q = n
            · rw [z] at hqb ⊢
              have : ¬ r p' < r n := fun y => cn ⟨hqb, y⟩
              omega
            · exact a3 q (by omega) hqb
        · have pn : p = n := by
            apply Classical.byContradiction
            intro z
            exact c ⟨p, by omega, hb⟩
          refine ⟨p, hp, hb, fun q hq hqb => ?_⟩
          have : q = n := by
            apply Classical.byContradiction
            intro z
            exact c ⟨q, by omega, hqb⟩
          rw [this, pn]
          exact Nat.le_refl _
    obtain ⟨p, hp, hb, hmax⟩ := ex 16 ⟨p0, hp0, hb0⟩
    refine Nat.le_trans (h1 p hp hb) (Nat.le_trans (Nat.add_le_add_right ((hE p hp hb).1 d r hr) _) ?_)
    refine cn2_row hp (fun b hb' => ?_) (fun a b ha hb' q => ?_) (fun b hb' q => ?_)
    · unfold rs; rw [fi p hb]; rfl
    · unfold rs at q ⊢
      by_cases c : a = p
      · rw [c, fi p hb] at q; cases q
      · by_cases c2 : b = p
        · rw [c2, fi p hb] at q; simp at q
        · rw [fo p a c, fo p b c2] at q; exact q
    · obtain ⟨q1, q2⟩ := Bool.and_eq_true _ _ |>.mp q
      have c : b ≠ p := fun z => by rw [z, fi p hb] at q2; cases q2
      rw [fo p b c] at q2
      unfold rs
      rw [hb, q2]
      cases z : d p b with
      | true => rfl
      | false =>
        have := hr p b hp hb' q1 z
        have := hmax b hb' q2
        omega
  · obtain ⟨p, hp, hb, hk⟩ := h2
    obtain ⟨-, d, r, B, g1, g2, g3, g4⟩ := hE p hp hb
    refine ⟨fun a b => if a = p then e p b && (m ^^^ 2 ^ p).testBit b else d a b, fun a => if a = p then B else r a, B + 1, fun a b q => ?_, ?_, fun a b ha hb' q1 q2 q3 q4 => ?_, fun a => ?_⟩
    · replace q : (if a = p then e p b && (m ^^^ 2 ^ p).testBit b else d a b) = true := q
      by_cases c : a = p
      · rw [if_pos c] at q
        rw [c]
        exact (Bool.and_eq_true _ _ |>.mp q).1
      · rw [if_neg c] at q
        exact g1 a b q
    · have e2 : fb_sm (fun k => if k = p then cP e m p else fb_ct (d k) 16) 16 + fb_ct (d p) 16 = cn2 d + cP e m p := fb_sm_upd (fun a => fb_ct (d a) 16) (cP e m p) hp
      have e1 : cn2 (fun a b => if a = p then e p b && (m ^^^ 2 ^ p).testBit b else d a b) = fb_sm (fun k => if k = p then cP e m p else fb_ct (d k) 16) 16 := by
        unfold cn2
        refine fb_sm_cong (fun a ha => ?_)
        show fb_ct (fun b => if a = p then e p b && (m ^^^ 2 ^ p).testBit b else d a b) 16 = if a = p then cP e m p else fb_ct (d a) 16
        by_cases c : a = p
        · rw [if_pos c]; unfold cP; exact fb_ct_cong (fun b _ => by rw [if_pos c])
        · rw [if_neg c]; exact fb_ct_cong (fun b _ => by rw [if_neg c])
      omega
    · show (if a = p then B else r a) < (if b = p then B else r b)
      have q4' : (if a = p then e p b && (m ^^^ 2 ^ p).testBit b else d a b) = false := q4
      by_cases c : a = p
      · rw [if_pos c] at q4'
        have nb : b ≠ p := fun z => by rw [c, z, hl p] at q3; cases q3
        rw [fo p b nb, q2, ← c, q3] at q4'
        cases q4'
      · rw [if_neg c] at q4' ⊢
        by_cases c2 : b = p
        · rw [if_pos c2]; exact g4 a
        · rw [if_neg c2]
          exact g3 a b ha hb' (by rw [fo p a c]; exact q1) (by rw [fo p b c2]; exact q2) q3 q4'
    · show (if a = p then B else r a) < B + 1
      by_cases c : a = p
      · rw [if_pos c]; omega
      · rw [if_neg c]; have := g4 a; omega
theorem full_bit : ∀ i, i < 16 → (65535 : Nat).testBit i = true := by decide
theorem dp_full {k : Nat} (h : DPv e 65535 k) : PK e (fun _ _ => false) k ∧ ∀ s j, PK e s j → k ≤ j := by
  obtain ⟨h1, d, r, B, g1, g2, g3, g4⟩ := h
  refine ⟨⟨d, ⟨fun a b q => ⟨g1 a b q, rfl⟩, r, fun a b ha hb q1 q2 => g3 a b ha hb (full_bit a ha) (full_bit b hb) q1 q2⟩, g2⟩, fun s j ⟨d', ⟨q1, r', q2⟩, q3⟩ => ?_⟩
  have := h1 d' r' q2
  have := cn2_le (d := rs 65535 d') (d' := d') (fun a b ha hb q => by
    unfold rs at q
    exact (Bool.and_eq_true _ _ |>.mp (Bool.and_eq_true _ _ |>.mp q).2).2)
  omega
end GR
