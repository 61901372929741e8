/-! HOW MANY BITS: Integer.bitCount, Long.bitCount -/
def val8 : List Nat → Nat
  | [] => 0
  | a :: l => a + 256 * val8 l
theorem and_dig {a b A B : Nat} (ha : a < 256) (hb : b < 256) : (a + 256 * A) &&& (b + 256 * B) = (a &&& b) + 256 * (A &&& B) := by
  apply Nat.eq_of_testBit_eq
  intro i
  have hab : a &&& b < 2 ^ 8 := Nat.lt_of_le_of_lt Nat.and_le_left ha
  rw [Nat.testBit_and, show a + 256 * A = 2 ^ 8 * A + a by omega, show b + 256 * B = 2 ^ 8 * B + b by omega, show (a &&& b) + 256 * (A &&& B) = 2 ^ 8 * (A &&& B) + (a &&& b) by omega, Nat.testBit_two_pow_mul_add _ ha, Nat.testBit_two_pow_mul_add _ hb, Nat.testBit_two_pow_mul_add _ hab]
  by_cases h : i < 8
  · simp only [h, ↓reduceIte, Nat.testBit_and]
  · simp only [h, ↓reduceIte, Nat.testBit_and]
def s1b (a : Nat) : Nat := (a / 2) &&& 85
def s2b (y : Nat) : Nat := (y &&& 51) + ((y / 4) &&& 51)
def s3b (z : Nat) : Nat := z % 16 + z / 16
def p8 (a : Nat) : Nat := fb_ct (fun i => a.testBit i) 8
theorem k55 : ∀ a, a < 256 → ∀ t, t < 2 → (a / 2 + 128 * t) &&& 85 = s1b a := by decide +kernel
theorem k33 : ∀ a, a < 256 → ∀ t, t < 4 → (a / 4 + 64 * t) &&& 51 = (a / 4) &&& 51 := by decide +kernel
theorem k0f : ∀ a, a < 256 → a &&& 15 = a % 16 := by decide +kernel
theorem s1_le : ∀ a, a < 256 → s1b a ≤ a := by decide +kernel
theorem s2_b : ∀ a, a < 256 → s2b (a - s1b a) % 16 ≤ 4 ∧ s2b (a - s1b a) / 16 ≤ 4 ∧ s3b (s2b (a - s1b a)) = p8 a := by decide +kernel
theorem p8_le (a : Nat) : p8 a ≤ 8 := fb_ct_le _ 8
theorem v55 : ∀ l : List Nat, (∀ a ∈ l, a < 256) → (val8 l / 2) &&& val8 (l.map fun _ => 85) = val8 (l.map s1b)
  | [], _ => rfl
  | a :: l, h => by
    have ih := v55 l (fun x hx => h x (List.mem_cons_of_mem _ hx))
    have ha := h a (List.mem_cons_self ..)
    rw [List.map_cons, List.map_cons, val8, val8, val8, ← ih, ← k55 a ha (val8 l % 2) (by omega), ← and_dig (by omega) (by omega), show (a + 256 * val8 l) / 2 = a / 2 + 128 * (val8 l % 2) + 256 * (val8 l / 2) by omega]
theorem vsub : ∀ l : List Nat, (∀ a ∈ l, a < 256) → val8 (l.map s1b) ≤ val8 l ∧ val8 l - val8 (l.map s1b) = val8 (l.map fun a => a - s1b a)
  | [], _ => ⟨Nat.le_refl _, rfl⟩
  | a :: l, h => by
    obtain ⟨i1, i2⟩ := vsub l (fun x hx => h x (List.mem_cons_of_mem _ hx))
    have ha := s1_le a (h a (List.mem_cons_self ..))
    rw [List.map_cons, List.map_cons, val8, val8, val8, ← i2]
    constructor <;> omega
theorem v33 : ∀ l : List Nat, (∀ a ∈ l, a < 256) → (val8 l &&& val8 (l.map fun _ => 51)) + ((val8 l / 4) &&& val8 (l.map fun _ => 51)) = val8 (l.map s2b)
  | [], _ => rfl
  | a :: l, h => by
    have ih := v33 l (fun x hx => h x (List.mem_cons_of_mem _ hx))
    have ha := h a (List.mem_cons_self ..)
    rw [List.map_cons, List.map_cons, val8, val8, val8, ← ih, and_dig ha (by omega), show (a + 256 * val8 l) / 4 = a / 4 + 64 * (val8 l % 4) + 256 * (val8 l / 4) by omega, and_dig (by omega) (by omega), k33 a ha (val8 l % 4) (by omega), s2b]
    omega
theorem v0f : ∀ l : List Nat, (∀ a ∈ l, a % 16 ≤ 4 ∧ a / 16 ≤ 4) → val8 l % 16 ≤ 4 ∧ (val8 l + val8 l / 16) &&& val8 (l.map fun _ => 15) = val8 (l.map s3b)
  | [], _ => ⟨by decide, rfl⟩
  | a :: l, h => by
    obtain ⟨i1, i2⟩ := v0f l (fun x hx => h x (List.mem_cons_of_mem _ hx))
    obtain ⟨h1, h2⟩ := h a (List.mem_cons_self ..)
    rw [List.map_cons, List.map_cons, val8, val8, val8, ← i2]
    refine ⟨by omega, ?_⟩
    rw [show a + 256 * val8 l + (a + 256 * val8 l) / 16 = (a + a / 16 + 16 * (val8 l % 16)) + 256 * (val8 l + val8 l / 16) by omega, and_dig (by omega) (by omega), k0f _ (by omega), s3b, show (a + a / 16 + 16 * (val8 l % 16)) % 16 = a % 16 + a / 16 by omega]
/-- the first three steps, at once -/
theorem v_pop (l : List Nat) (h : ∀ a ∈ l, a < 256) {n y z w : Nat} (e1 : n - ((n / 2) &&& val8 (l.map fun _ => 85)) = y) (e2 : (y &&& val8 (l.map fun _ => 51)) + ((y / 4) &&& val8 (l.map fun _ => 51)) = z) (e3 : (z + z / 16) &&& val8 (l.map fun _ => 15) = w) (hn : n = val8 l) : w = val8 (l.map p8) ∧ (n / 2) &&& val8 (l.map fun _ => 85) ≤ n ∧ y ≤ n ∧ z = val8 (l.map fun a => s2b (a - s1b a)) := by
  subst hn
  obtain ⟨q1, q2⟩ := vsub l h
  rw [v55 l h] at e1 ⊢
  rw [q2] at e1
  have hh : ∀ b ∈ (l.map fun a => a - s1b a), b < 256 := by
    intro b hb
    obtain ⟨a, ha, rfl⟩ := List.mem_map.mp hb
    have := h a ha
    omega
  have e2' := v33 _ hh
  rw [List.map_map, List.map_map] at e2'
  have e2'' : z = val8 (l.map fun a => s2b (a - s1b a)) := by rw [← e2, ← e1]; exact e2'
  have hh3 : ∀ b ∈ (l.map fun a => s2b (a - s1b a)), b % 16 ≤ 4 ∧ b / 16 ≤ 4 := by
    intro b hb
    obtain ⟨a, ha, rfl⟩ := List.mem_map.mp hb
    have := s2_b a (h a ha)
    exact ⟨this.1, this.2.1⟩
  have e3' := (v0f _ hh3).2
  rw [List.map_map, List.map_map] at e3'
  refine ⟨?_, q1, ?_, e2''⟩
  · rw [← e3, e2'']
    refine e3'.trans ?_
    congr 1
    apply List.map_congr_left
    intro a ha
    exact (s2_b a (h a ha)).2.2
  · rw [← e1, ← q2]; omega
theorem v_ct : ∀ l : List Nat, (∀ a ∈ l, a < 256) → fb_ct (fun i => (val8 l).testBit i) (8 * l.length) = (l.map p8).sum
  | [], _ => rfl
  | a :: l, h => by
    have ih := v_ct l (fun x hx => h x (List.mem_cons_of_mem _ hx))
    have ha : a < 2 ^ 8 := h a (List.mem_cons_self ..)
    have e : ∀ i, (val8 (a :: l)).testBit i = if i < 8 then a.testBit i else (val8 l).testBit (i - 8) := fun i => by
      rw [val8, show a + 256 * val8 l = 2 ^ 8 * val8 l + a by omega, Nat.testBit_two_pow_mul_add _ ha]
    rw [List.length_cons, show 8 * (l.length + 1) = 8 + 8 * l.length by omega, fb_ct_split, List.map_cons, List.sum_cons, ← ih]
    congr 1
    · exact fb_ct_cong (fun k hk => by rw [e, if_pos hk])
    · exact fb_ct_cong (fun k hk => by
        show (val8 (a :: l)).testBit (8 + k) = _
        rw [e, if_neg (by omega), show 8 + k - 8 = k by omega])
/-! Int32 as a number below 2^32 -/
def un (x : Int32) : Nat := x.toBitVec.toNat
theorem un_lt (x : Int32) : un x < 2 ^ 32 := x.toBitVec.isLt
theorem un_nI (x : Int32) : nI (un x) = x := by
  apply Int32.toBitVec_inj.mp
  show BitVec.ofNat 32 x.toBitVec.toNat = x.toBitVec
  simp
theorem un_bt (x : Int32) (i : Nat) : bt x i = (un x).testBit i := rfl
theorem un_of {n : Nat} (h : n < 2 ^ 32) : un (nI n) = n := by
  show (BitVec.ofNat 32 n).toNat = n
  rw [BitVec.toNat_ofNat, Nat.mod_eq_of_lt h]
theorem ushr_n {n k : Nat} (h : n < 2 ^ 32) (hk : k < 32) : jushr (nI n) (nI k) = nI (n / 2 ^ k) := by
  apply b_ext
  intro i hi
  unfold jushr
  have h2 : n / 2 ^ k < 2 ^ 32 := Nat.lt_of_le_of_lt (Nat.div_le_self _ _) h
  rw [b_ushr k hk, un_bt, un_bt, un_of h, un_of h2, Nat.testBit_div_two_pow, Nat.add_comm]
theorem bc_I (S : St) (x : Int32) : f_JI_bitCount S x = some (nI (fb_ct (bt x) 32)) := by
  obtain ⟨n, hn⟩ : ∃ n, un x = n := ⟨_, rfl⟩
  have hx : x = nI n := by rw [← hn, un_nI]
  have hl : n < 2 ^ 32 := by rw [← hn]; exact un_lt x
  have hct : fb_ct (bt x) 32 = fb_ct (fun i => n.testBit i) 32 := fb_ct_cong (fun k _ => by rw [un_bt, hn])
  rw [hct, hx]
  obtain ⟨l, hL⟩ : ∃ l : List Nat, l = [n % 256, n / 256 % 256, n / 65536 % 256, n / 16777216] := ⟨_, rfl⟩
  have hb : ∀ a ∈ l, a < 256 := by
    intro a ha
    rw [hL] at ha
    simp only [List.mem_cons, List.not_mem_nil, or_false] at ha
    omega
  have hv : n = val8 l := by rw [hL]; simp only [val8]; omega
  have hc := v_ct l hb
  rw [← hv] at hc
  have hlen : 8 * l.length = 32 := by rw [hL]; rfl
  rw [hlen] at hc
  have M5 : val8 (l.map fun _ => 85) = 1431655765 := by rw [hL]; simp only [List.map_cons, List.map_nil, val8]
  have M3 : val8 (l.map fun _ => 51) = 858993459 := by rw [hL]; simp only [List.map_cons, List.map_nil, val8]
  have M0 : val8 (l.map fun _ => 15) = 252645135 := by rw [hL]; simp only [List.map_cons, List.map_nil, val8]
  obtain ⟨y, hy⟩ : ∃ y, n - ((n / 2) &&& 1431655765) = y := ⟨_, rfl⟩
  obtain ⟨z, hz⟩ : ∃ z, (y &&& 858993459) + ((y / 4) &&& 858993459) = z := ⟨_, rfl⟩
  obtain ⟨w, hw⟩ : ∃ w, (z + z / 16) &&& 252645135 = w := ⟨_, rfl⟩
  obtain ⟨r1, r2, r3, r4⟩ := v_pop l hb (n := n) (y := y) (z := z) (w := w) (by rw [M5]; exact hy) (by rw [M3]; exact hz) (by rw [M0]; exact hw) hv
  rw [M5] at r2
  have zl : z < 2 ^ 32 := by
    have a1 : y &&& 858993459 ≤ 858993459 := Nat.and_le_right
    have a2 : (y / 4) &&& 858993459 ≤ 858993459 := Nat.and_le_right
    omega
  obtain ⟨p0, hp0⟩ : ∃ p, p8 (n % 256) = p := ⟨_, rfl⟩
  obtain ⟨p1, hp1⟩ : ∃ p, p8 (n / 256 % 256) = p := ⟨_, rfl⟩
  obtain ⟨p2, hp2⟩ : ∃ p, p8 (n / 65536 % 256) = p := ⟨_, rfl⟩
  obtain ⟨p3, hp3⟩ : ∃ p, p8 (n / 16777216) = p := ⟨_, rfl⟩
  have b0 := p8_le (n % 256)
  have b1 := p8_le (n / 256 % 256)
  have b2 := p8_le (n / 65536 % 256)
  have b3 := p8_le (n / 16777216)
  rw [hL] at r1 hc
  simp only [List.map_cons, List.map_nil, val8, List.sum_cons, List.sum_nil, hp0, hp1, hp2, hp3] at r1 hc
  rw [hp0] at b0
  rw [hp1] at b1
  rw [hp2] at b2
  rw [hp3] at b3
  unfold f_JI_bitCount
  rw [Option.bind_some, Option.bind_some, Option.bind_some, Option.bind_some, Option.bind_some]
  have s1 : nI n - ((jushr (nI n) 1) &&& 1431655765) = nI y := by
    rw [show jushr (nI n) 1 = nI (n / 2) from ushr_n (k := 1) hl (by omega), show nI (n / 2) &&& 1431655765 = nI ((n / 2) &&& 1431655765) from fa_and _ 1431655765, pk_sub r2, hy]
  have s2 : (nI y &&& 858993459) + ((jushr (nI y) 2) &&& 858993459) = nI z := by
    rw [show jushr (nI y) 2 = nI (y / 4) from ushr_n (k := 2) (by omega) (by omega), show nI (y / 4) &&& 858993459 = nI ((y / 4) &&& 858993459) from fa_and _ 858993459, show nI y &&& 858993459 = nI (y &&& 858993459) from fa_and _ 858993459, nI_add, hz]
  have s3 : (nI z + (jushr (nI z) 4)) &&& 252645135 = nI w := by
    rw [show jushr (nI z) 4 = nI (z / 16) from ushr_n (k := 4) zl (by omega), nI_add, show nI (z + z / 16) &&& 252645135 = nI ((z + z / 16) &&& 252645135) from fa_and _ 252645135, hw]
  have s4 : nI w + jushr (nI w) 8 = nI (w + w / 256) := by
    rw [show jushr (nI w) 8 = nI (w / 256) from ushr_n (k := 8) (by omega) (by omega), nI_add]
  have s5 : nI (w + w / 256) + jushr (nI (w + w / 256)) 16 = nI (w + w / 256 + (w + w / 256) / 65536) := by
    rw [show jushr (nI (w + w / 256)) 16 = nI ((w + w / 256) / 65536) from ushr_n (k := 16) (by omega) (by omega), nI_add]
  rw [s1, s2, s3, s4, s5, show nI (w + w / 256 + (w + w / 256) / 65536) &&& 63 = nI ((w + w / 256 + (w + w / 256) / 65536) % 2 ^ 6) from fa_mask _ 6]
  have d1 : w / 256 = p1 + 256 * (p2 + 256 * p3) := by clear hy hz hw r2 r3 r4; omega
  have d2 : (w + w / 256) / 65536 = p2 + p3 + 256 * p3 := by rw [d1]; clear hy hz hw r2 r3 r4; omega
  congr 2
  rw [d2, d1]
  clear hy hz hw r2 r3 r4
  omega
