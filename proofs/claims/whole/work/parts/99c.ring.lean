/-! WAITING: the shortest round -/
def LX (S : St) : Prop := ∀ a b, a < 16 → 16 ≤ b → bt (S 50 a) b = false
def FR (dd : Nat) (S S' : St) : Prop := ∀ r j, r ≠ 52 → (r = 53 → j < 16 * dd) → S' r j = S r j
def RG (e : Nat → Nat → Bool) (S : St) (dd z : Nat) : Prop := ∃ g : Nat → Nat, (∀ i, i < z → S 53 (16 * dd + i) = nI (g i)) ∧ ∀ i, i < z → g i < 16 ∧ e (g i) (g (nxt z i)) = true
theorem b_one {p v : Nat} (hp : p < 32) : bt (jshl 1 (nI p)) v = decide (v = p) := by
  by_cases hv : v < 32
  · exact bt_shl1 hp hv
  · rw [b_big (by omega), decide_eq_false (by omega)]
theorem x_mark (S : St) (w fr : Int32) : ∃ S', f_Waits_markFrom S w fr = some S' ∧ (∀ r j, r ≠ 52 → S' r j = S r j) ∧ ∀ j, j < 16 → S' 52 j = if bt fr j then w else S 52 j := by
  obtain ⟨F0, hF0⟩ : ∃ F, FU = F := ⟨_, rfl⟩
  have hF0' : 300 < F0 := by rw [← hF0]; exact FU_gt (by omega)
  have k2 : ∀ m i F (S1 : St), i + m = 16 → m < F → (∀ r j, r ≠ 52 → S1 r j = S r j) → (∀ j, j < i → S1 52 j = if bt fr j then w else S 52 j) → (∀ j, i ≤ j → S1 52 j = S 52 j) → ∃ S', f_Waits_markFrom_2 F S1 w fr (nI i) = some S' ∧ (∀ r j, r ≠ 52 → S' r j = S r j) ∧ ∀ j, j < 16 → S' 52 j = if bt fr j then w else S 52 j := by
    intro m
    induction m with
    | zero =>
      intro i F S1 hi hF h1 h2 h3
      obtain ⟨F, rfl⟩ : ∃ v, F = v + 1 := ⟨F - 1, by omega⟩
      have : i = 16 := by omega
      subst this
      exact ⟨S1, by rw [f_Waits_markFrom_2, if_pos y16], h1, h2⟩
    | succ m ih =>
      intro i F S1 hi hF h1 h2 h3
      obtain ⟨F, rfl⟩ : ∃ v, F = v + 1 := ⟨F - 1, by omega⟩
      have c1 : (nI i).toNatClampNeg = i := cl
      rw [f_Waits_markFrom_2, if_neg (n16 (by omega))]
      unfold f_Waits_markFrom_23
      rw [Option.bind_some, nI_1]
      by_cases c : bt fr i = false
      · rw [if_pos ((bt1 (by omega)).mpr c)]
        refine ih (i + 1) F S1 (by omega) (by omega) h1 (fun j hj => ?_) (fun j hj => h3 j (by omega))
        by_cases z : j = i
        · rw [z, c, if_neg (by decide)]; exact h3 i (Nat.le_refl _)
        · exact h2 j (by omega)
      · rw [if_neg (fun z => c ((bt1 (by omega)).mp z)), if_pos (gn (by omega) (by omega)), c1, Option.bind_some, Option.bind_some]
        refine ih (i + 1) F _ (by omega) (by omega) (fun r j hr => by rw [sF_ne (Or.inl hr)]; exact h1 r j hr) (fun j hj => ?_) (fun j hj => by rw [sF_ne (Or.inr (by omega))]; exact h3 j (by omega))
        by_cases z : j = i
        · rw [z, sF_at, if_pos (ts_nf c)]
        · rw [sF_ne (Or.inr z)]; exact h2 j (by omega)
  unfold f_Waits_markFrom
  rw [Option.bind_some, hF0]
  exact k2 16 0 F0 S (by omega) (by omega) (fun _ _ _ => rfl) (fun j hj => by omega) (fun _ _ => rfl)
theorem x_write {S : St} {g : Nat → Nat} {z dd : Nat} (hz : 1 ≤ z) (hz16 : z ≤ 16) (hd : dd ≤ 10) (hg : ∀ i, i < z → g i < 16) (hp : ∀ i, i + 1 < z → S 52 (g (i + 1)) = nI (g i)) : ∃ S', f_Waits_writeRing S (nI (g (z - 1))) (nI z) (nI dd) = some S' ∧ (∀ r j, (r = 53 → j < 16 * dd) → S' r j = S r j) ∧ ∀ i, i < z → S' 53 (16 * dd + i) = nI (g i) := by
  obtain ⟨F0, hF0⟩ : ∃ F, FU = F := ⟨_, rfl⟩
  have hF0' : 300 < F0 := by rw [← hF0]; exact FU_gt (by omega)
  have k8 : ∀ i F (S1 : St), i < z → i + 1 < F → (∀ r j, (r = 53 → j < 16 * dd) → S1 r j = S r j) → (∀ j, i < j → j < z → S1 53 (16 * dd + j) = nI (g j)) → ∃ S', f_Waits_writeRing_8 F S1 (nI dd) (nI (g i)) (nI i) = some S' ∧ (∀ r j, (r = 53 → j < 16 * dd) → S' r j = S r j) ∧ ∀ i, i < z → S' 53 (16 * dd + i) = nI (g i) := by
    intro i
    induction i with
    | zero =>
      intro F S1 hi hF h1 h2
      obtain ⟨F, rfl⟩ : ∃ v, F = v + 2 := ⟨F - 2, by omega⟩
      have e6 : nI dd * 16 + nI 0 = nI (16 * dd + 0) := by
        rw [show nI dd * 16 = nI (dd * 16) from pk_mul dd 16, nI_add, Nat.mul_comm]
      have c1 : (nI (16 * dd + 0)).toNatClampNeg = 16 * dd + 0 := cl
      have cg : (nI (g 0)).toNatClampNeg = g 0 := cl (by have := hg 0 (by omega); omega)
      have g0 := hg 0 (by omega)
      refine ⟨sF S1 53 (16 * dd + 0) (nI (g 0)), ?_, fun r j hr => ?_, fun i hi => ?_⟩
      · rw [f_Waits_writeRing_8, if_neg (nI_lt0 (by omega)), e6, Option.bind_some, if_neg (show ¬ Int32.ofNat 176 ≤ nI (16 * dd + 0) from nle (b := 176) (by omega)), if_pos (gn (by omega) (by omega)), c1, Option.bind_some]
        unfold f_Waits_writeRing_41
        rw [if_pos (gn (by omega) (by omega)), Option.bind_some, Option.bind_some, f_Waits_writeRing_8, if_pos (by decide)]
      · rw [sF_ne (by omega)]; exact h1 r j hr
      · by_cases c : i = 0
        · rw [c, sF_at]
        · rw [sF_ne (by omega)]; exact h2 i (by omega) (by omega)
    | succ i ih =>
      intro F S1 hi hF h1 h2
      obtain ⟨F, rfl⟩ : ∃ v, F = v + 1 := ⟨F - 1, by omega⟩
      have e6 : nI dd * 16 + nI (i + 1) = nI (16 * dd + (i + 1)) := by
        rw [show nI dd * 16 = nI (dd * 16) from pk_mul dd 16, nI_add, Nat.mul_comm]
      have c1 : (nI (16 * dd + (i + 1))).toNatClampNeg = 16 * dd + (i + 1) := cl
      have g0 := hg (i + 1) hi
      have cg : (nI (g (i + 1))).toNatClampNeg = g (i + 1) := cl
      have em : nI (i + 1) + (-1) = nI i := by rw [← Int32.sub_eq_add_neg]; exact pk_sub (a := i + 1) (b := 1) (by omega)
      obtain ⟨S', q1, q2⟩ := ih F (sF S1 53 (16 * dd + (i + 1)) (nI (g (i + 1)))) (by omega) (by omega) (fun r j hr => by rw [sF_ne (by omega)]; exact h1 r j hr) (fun j hj hj' => by
        by_cases c : j = i + 1
        · rw [c, sF_at]
        · rw [sF_ne (by omega)]; exact h2 j (by omega) hj')
      refine ⟨S', ?_, q2⟩
      rw [f_Waits_writeRing_8, if_neg (nI_lt0 (by omega)), e6, Option.bind_some, if_neg (show ¬ Int32.ofNat 176 ≤ nI (16 * dd + (i + 1)) from nle (b := 176) (by omega)), if_pos (gn (by omega) (by omega)), c1, Option.bind_some]
      unfold f_Waits_writeRing_41
      rw [if_pos (gn (by omega) (by omega)), cg, sF_ne (by omega), h1 52 (g (i + 1)) (by omega), hp i hi, em, Option.bind_some, Option.bind_some]
      exact q1
  unfold f_Waits_writeRing
  rw [show nI z - 1 = nI (z - 1) from pk_sub (b := 1) hz, Option.bind_some, hF0]
  exact k8 (z - 1) F0 S (by omega) (by omega) (fun _ _ _ => rfl) (fun j h1 h2 => by omega)
/-! ring by ring outwards -/
def BI (S S1 : St) (v0 : Nat) (R ED N : Int32) (dp : Nat → Nat) (sz w : Nat) : Prop := (∀ r j, r ≠ 52 → S1 r j = S r j) ∧ (∀ v, 16 ≤ v → bt R v = false ∧ bt ED v = false ∧ bt N v = false) ∧ bt R v0 = true ∧ (∀ v, bt R v = true → (v = v0 ∧ dp v = 0) ∨ ∃ u, u < 16 ∧ S1 52 v = nI u ∧ bt R u = true ∧ eX S u v = true ∧ dp v = dp u + 1) ∧ (∀ v, bt ED v = true → bt R v = true ∧ dp v + 1 = sz) ∧ (∀ v, bt N v = true → bt R v = true ∧ dp v = sz) ∧ (∀ v, bt R v = true → bt N v = true ∨ (bt ED v = true ∧ w ≤ v) ∨ (eX S v v0 = false ∧ ∀ u, u < 16 → eX S v u = true → bt R u = true)) ∧ ((∀ v, bt ED v = false) ∨ sz ≤ fb_ct (bt R) 16) ∧ ((∀ v, bt N v = false) ∨ sz + 1 ≤ fb_ct (bt R) 16)
section BF
variable {S S1 : St} {v0 sz w : Nat} {R ED N : Int32} {dp : Nat → Nat}
theorem BI.skip (h : BI S S1 v0 R ED N dp sz w) (hw : bt ED w = false) : BI S S1 v0 R ED N dp sz (w + 1) := by
  obtain ⟨h1, h2, h3, h4, h5, h6, h7, h8⟩ := h
  refine ⟨h1, h2, h3, h4, h5, h6, fun v hv => ?_, h8⟩
  rcases h7 v hv with q | ⟨q1, q2⟩ | q
  · exact Or.inl q
  · have : v ≠ w := fun z => by rw [z, hw] at q1; cases q1
    exact Or.inr (Or.inl ⟨q1, by omega⟩)
  · exact Or.inr (Or.inr q)
theorem BI.grow (hl : LX S) (h : BI S S1 v0 R ED N dp sz w) (hw16 : w < 16) (hw : bt ED w = true) (he : eX S w v0 = false) : ∃ S2 dp', f_Waits_markFrom S1 (nI w) (S1 50 w &&& (R ^^^ (-1))) = some S2 ∧ BI S S2 v0 (R ||| (S1 50 w &&& (R ^^^ (-1)))) ED (N ||| (S1 50 w &&& (R ^^^ (-1)))) dp' sz (w + 1) := by
  obtain ⟨h1, h2, h3, h4, h5, h6, h7, h8, h9⟩ := h
  obtain ⟨fr, hfr⟩ : ∃ fr, S1 50 w &&& (R ^^^ (-1)) = fr := ⟨_, rfl⟩
  have hf : ∀ v, bt fr v = (bt (S 50 w) v && !bt R v) := fun v => by
    rw [← hfr, h1 50 w (by omega)]
    by_cases c : v < 32
    · rw [b_and, b_xor, b_m1 v c]; cases bt (S 50 w) v <;> cases bt R v <;> rfl
    · rw [b_big (by omega), b_big (x := S 50 w) (by omega)]; rfl
  have f1 : ∀ v, bt fr v = true → v < 16 ∧ eX S w v = true ∧ bt R v = false := fun v q => by
    rw [hf] at q
    obtain ⟨q1, q2⟩ := Bool.and_eq_true _ _ |>.mp q
    have v16 : v < 16 := by
      apply Classical.byContradiction
      intro z
      rw [hl w v hw16 (by omega)] at q1
      cases q1
    exact ⟨v16, by rw [eX_e hw16 v16]; exact q1, by simpa using q2⟩
  have f2 : ∀ v, bt R v = true → bt fr v = false := fun v q => by rw [hf, q]; simp
  obtain ⟨S2, g1, g2, g3⟩ := x_mark S1 (nI w) fr
  rw [hfr]
  have orR : ∀ v, bt (R ||| fr) v = true → bt fr v = true ∨ (bt fr v = false ∧ bt R v = true) := fun v q => by
    rw [b_or] at q
    cases z : bt fr v with
    | true => exact Or.inl rfl
    | false => rw [z, Bool.or_false] at q; exact Or.inr ⟨rfl, q⟩
  have inR : ∀ v, bt R v = true → bt (R ||| fr) v = true := fun v q => by rw [b_or, q]; rfl
  have inF : ∀ v, bt fr v = true → bt (R ||| fr) v = true := fun v q => by rw [b_or, q]; simp
  have wR := h5 w hw
  refine ⟨S2, fun v => if bt fr v then sz else dp v, g1, fun r j hr => by rw [g2 r j hr]; exact h1 r j hr, fun v hv => ?_, inR v0 h3, fun v q => ?_, fun v q => ?_, fun v q => ?_, fun v q => ?_, ?_, ?_⟩
  · have z : bt fr v = false := Bool.eq_false_iff.mpr (fun q => by have := (f1 v q).1; omega)
    obtain ⟨a1, a2, a3⟩ := h2 v hv
    rw [b_or, b_or, a1, a3, z]
    exact ⟨rfl, a2, rfl⟩
  · rcases orR v q with q | ⟨z, q⟩
    · obtain ⟨a1, a2, a3⟩ := f1 v q
      refine Or.inr ⟨w, hw16, by rw [g3 v a1, if_pos q], inR w wR.1, a2, ?_⟩
      show (if bt fr v then sz else dp v) = (if bt fr w then sz else dp w) + 1
      rw [if_pos q, f2 w wR.1, if_neg (by decide)]
      exact wR.2.symm
    · rcases h4 v q with ⟨a1, a2⟩ | ⟨u, a1, a2, a3, a4, a5⟩
      · refine Or.inl ⟨a1, ?_⟩
        show (if bt fr v then sz else dp v) = 0
        rw [z, if_neg (by decide)]; exact a2
      · have v16 := (eX_lt a4).2
        refine Or.inr ⟨u, a1, by rw [g3 v v16, z, if_neg (by decide)]; exact a2, inR u a3, a4, ?_⟩
        show (if bt fr v then sz else dp v) = (if bt fr u then sz else dp u) + 1
        rw [z, f2 u a3, if_neg (by decide), if_neg (by decide)]; exact a5
  · refine ⟨inR v (h5 v q).1, ?_⟩
    show (if bt fr v then sz else dp v) + 1 = sz
    rw [f2 v (h5 v q).1, if_neg (by decide)]; exact (h5 v q).2
  · rw [b_or] at q
    cases z : bt fr v with
    | true => exact ⟨inF v z, by show (if bt fr v then sz else dp v) = sz; rw [if_pos z]⟩
    | false =>
      rw [z, Bool.or_false] at q
      exact ⟨inR v (h6 v q).1, by show (if bt fr v then sz else dp v) = sz; rw [z, if_neg (by decide)]; exact (h6 v q).2⟩
  · rcases orR v q with q | ⟨z, q⟩
    · exact Or.inl (by rw [b_or, q]; simp)
    · rcases h7 v q with a | ⟨a1, a2⟩ | ⟨a1, a2⟩
      · exact Or.inl (by rw [b_or, a]; rfl)
      · by_cases c : v = w
        · rw [c]
          refine Or.inr (Or.inr ⟨he, fun u hu y => ?_⟩)
          rw [eX_e hw16 hu] at y
          cases x : bt R u with
          | true => exact inR u x
          | false => exact inF u (by rw [hf, y, x]; rfl)
        · exact Or.inr (Or.inl ⟨a1, by omega⟩)
      · exact Or.inr (Or.inr ⟨a1, fun u hu y => inR u (a2 u hu y)⟩)
  · rcases h8 with a | a
    · exact Or.inl a
    · exact Or.inr (Nat.le_trans a (fb_ct_sub (fun v _ y => inR v y)))
  · by_cases c : ∃ v, bt fr v = true
    · obtain ⟨v, y⟩ := c
      have a : sz ≤ fb_ct (bt R) 16 := by
        rcases h8 with a | a
        · rw [a w] at hw; cases hw
        · exact a
      have e1 := fb_ct_or (p := bt R) (q := bt fr) (n := 16) (fun k _ y => by rw [f2 k y.1] at y; cases y.2)
      have e2 : 0 < fb_ct (bt fr) 16 := fb_ct_pos.mpr ⟨v, (f1 v y).1, y⟩
      have e3 : fb_ct (bt (R ||| fr)) 16 = fb_ct (fun k => bt R k || bt fr k) 16 := fb_ct_cong (fun k _ => b_or _ _ k)
      exact Or.inr (by omega)
    · have z : ∀ v, bt fr v = false := fun v => Bool.eq_false_iff.mpr (fun y => c ⟨v, y⟩)
      rcases h9 with a | a
      · exact Or.inl (fun v => by rw [b_or, a v, z v]; rfl)
      · exact Or.inr (Nat.le_trans a (fb_ct_sub (fun v _ y => inR v y)))
theorem BI.chain (h : BI S S1 v0 R ED N dp sz w) : ∀ k v, bt R v = true → dp v = k → ∃ g : Nat → Nat, g k = v ∧ g 0 = v0 ∧ (∀ i, i ≤ k → g i < 16) ∧ ∀ i, i < k → S1 52 (g (i + 1)) = nI (g i) ∧ eX S (g i) (g (i + 1)) = true
  | 0, v, q, hk => by
    have : v = v0 := by
      rcases h.2.2.2.1 v q with ⟨a, -⟩ | ⟨u, -, -, -, -, a⟩
      · exact a
      · omega
    refine ⟨fun _ => v0, this.symm, rfl, fun i _ => ?_, fun i hi => by omega⟩
    show v0 < 16
    apply Classical.byContradiction
    intro z
    have := (h.2.1 v0 (by omega)).1
    rw [h.2.2.1] at this
    cases this
  | k + 1, v, q, hk => by
    rcases h.2.2.2.1 v q with ⟨-, a⟩ | ⟨u, a1, a2, a3, a4, a5⟩
    · omega
    · obtain ⟨g, b1, b2, b3, b4⟩ := BI.chain h k u a3 (by omega)
      have v16 := (eX_lt a4).2
      refine ⟨fun i => if i ≤ k then g i else v, ?_, ?_, fun i hi => ?_, fun i hi => ?_⟩
      · show (if k + 1 ≤ k then g (k + 1) else v) = v
        rw [if_neg (by omega)]
      · show (if 0 ≤ k then g 0 else v) = v0
        rw [if_pos (by omega)]; exact b2
      · show (if i ≤ k then g i else v) < 16
        by_cases c : i ≤ k
        · rw [if_pos c]; exact b3 i c
        · rw [if_neg c]; exact v16
      · show S1 52 (if i + 1 ≤ k then g (i + 1) else v) = nI (if i ≤ k then g i else v) ∧ eX S (if i ≤ k then g i else v) (if i + 1 ≤ k then g (i + 1) else v) = true
        rw [if_pos (show i ≤ k by omega)]
        by_cases c : i + 1 ≤ k
        · rw [if_pos c]; exact b4 i (by omega)
        · have : i = k := by omega
          rw [if_neg c, this, b1]
          exact ⟨a2, a4⟩
theorem BI.next (h : BI S S1 v0 R ED N dp sz 16) : BI S S1 v0 R N 0 dp (sz + 1) 0 := by
  obtain ⟨h1, h2, h3, h4, h5, h6, h7, h8, h9⟩ := h
  refine ⟨h1, fun v hv => ⟨(h2 v hv).1, (h2 v hv).2.2, b_0 v⟩, h3, h4, fun v q => ⟨(h6 v q).1, by rw [(h6 v q).2]⟩, fun v q => (by rw [b_0] at q; cases q), fun v q => ?_, h9, Or.inl (fun v => b_0 v)⟩
  rcases h7 v q with a | ⟨a1, a2⟩ | a
  · exact Or.inr (Or.inl ⟨a, by omega⟩)
  · rw [(h2 v a2).2.1] at a1; cases a1
  · exact Or.inr (Or.inr a)
theorem BI.closed (h : BI S S1 v0 R ED 0 dp sz w) (he : ∀ v, bt ED v = false) : ∀ n, ¬ RC (eX S) (n + 1) v0 v0 := by
  obtain ⟨h1, h2, h3, h4, h5, h6, h7, h8, h9⟩ := h
  have third : ∀ v, bt R v = true → eX S v v0 = false ∧ ∀ u, u < 16 → eX S v u = true → bt R u = true := fun v q => by
    rcases h7 v q with a | ⟨a1, a2⟩ | a
    · rw [b_0] at a; cases a
    · rw [he v] at a1; cases a1
    · exact a
  intro n
  exact no_way (Z := fun v => bt R v = true) (fun a b ha hb q => (third a ha).2 b hb q) (fun a ha => (third a ha).1) n v0 h3
end BF
theorem x_ringOf {S : St} {v0 most dd : Nat} (hl : LX S) (hv : v0 < 16) (hm : most ≤ 16) (hd : dd ≤ 10) : ∃ z S', f_Waits_findRingOf S (nI v0) (nI most) (nI dd) = some (nI z, S') ∧ ((z = 0 ∧ (∀ r j, r ≠ 52 → S' r j = S r j) ∧ (most = 16 → ∀ n, ¬ RC (eX S) (n + 1) v0 v0)) ∨ (1 ≤ z ∧ z ≤ most ∧ FR dd S S' ∧ RG (eX S) S' dd z)) := by
  obtain ⟨F0, hF0⟩ : ∃ F, FU = F := ⟨_, rfl⟩
  have hF0' : 300 < F0 := by rw [← hF0]; exact FU_gt (by omega)
  have k29 : ∀ (K : St → Int32 → Int32 → Int32 → Int32 → Int32 → Int32 → Option (Int32 × St)) (ED : Int32) (sz : Nat), 1 ≤ sz → sz ≤ 16 → ∀ m w F (S1 : St) (R N : Int32) (dp : Nat → Nat), w + m = 16 → m < F → BI S S1 v0 R ED N dp sz w → (∃ S2 R' N' dp', f_Waits_findRingOf_29 K F S1 (nI v0) (nI most) (nI dd) R ED (nI sz) N (nI w) = K S2 (nI v0) (nI most) (nI dd) R' N' (nI (sz + 1)) ∧ BI S S2 v0 R' ED N' dp' sz 16) ∨ (∃ S2, f_Waits_findRingOf_29 K F S1 (nI v0) (nI most) (nI dd) R ED (nI sz) N (nI w) = some (nI sz, S2) ∧ FR dd S S2 ∧ RG (eX S) S2 dd sz) := by
    intro K ED sz hs1 hs16 m
    induction m with
    | zero =>
      intro w F S1 R N dp hw hF h
      obtain ⟨F, rfl⟩ : ∃ v, F = v + 1 := ⟨F - 1, by omega⟩
      have : w = 16 := by omega
      subst this
      exact Or.inl ⟨S1, R, N, dp, by rw [f_Waits_findRingOf_29, if_pos y16, nI_1, Option.bind_some], h⟩
    | succ m ih =>
      intro w F S1 R N dp hw hF h
      obtain ⟨F, rfl⟩ : ∃ v, F = v + 1 := ⟨F - 1, by omega⟩
      have c1 : (nI w).toNatClampNeg = w := cl
      rw [f_Waits_findRingOf_29, if_neg (n16 (by omega))]
      unfold f_Waits_findRingOf_108
      by_cases c : bt ED w = false
      · rw [if_pos ((bt1 (by omega)).mpr c), nI_1, Option.bind_some]
        exact ih (w + 1) F S1 R N dp (by omega) (by omega) (h.skip c)
      · have c' : bt ED w = true := ts_nf c
        have hx : eX S w v0 = bt (S1 50 w) v0 := by rw [h.1 50 w (by omega)]; exact eX_e (by omega) hv
        rw [if_neg (fun z => c ((bt1 (by omega)).mp z)), if_pos (gn (by omega) (by omega)), c1]
        by_cases q : eX S w v0 = false
        · obtain ⟨S2, dp', g1, g2⟩ := h.grow hl (by omega) c' q
          rw [if_pos ((bt1 (by omega)).mpr (by rw [← hx]; exact q)), if_pos (gn (by omega) (by omega)), Option.bind_some, Option.bind_some, Option.bind_some, g1, Option.bind_some, nI_1, Option.bind_some]
          exact ih (w + 1) F S2 _ _ dp' (by omega) (by omega) g2
        · have q' : eX S w v0 = true := ts_nf q
          obtain ⟨w1, w2⟩ := h.2.2.2.2.1 w c'
          obtain ⟨g, b1, b2, b3, b4⟩ := h.chain (sz - 1) w w1 (by omega)
          obtain ⟨S2, d1, d2, d3⟩ := x_write (S := S1) (g := g) (z := sz) (dd := dd) hs1 hs16 hd (fun i hi => b3 i (by omega)) (fun i hi => (b4 i (by omega)).1)
          rw [b1] at d1
          refine Or.inr ⟨S2, by rw [if_neg (fun z => q (by rw [hx]; exact (bt1 (by omega)).mp z)), d1, Option.bind_some], fun r j hr hj => by rw [d2 r j hj]; exact h.1 r j hr, g, d3, fun i hi => ⟨b3 i (by omega), ?_⟩⟩
          unfold nxt
          by_cases y : i + 1 < sz
          · rw [if_pos y]; exact (b4 i (by omega)).2
          · rw [if_neg y, b2, show i = sz - 1 by omega, b1]; exact q'
  have k12 : ∀ m sz F (S1 : St) (R ED : Int32) (dp : Nat → Nat), sz + m = most + 1 → 1 ≤ sz → m < F → BI S S1 v0 R ED 0 dp sz 0 → ∃ z S', f_Waits_findRingOf_12 F S1 (nI v0) (nI most) (nI dd) R ED (nI sz) = some (nI z, S') ∧ ((z = 0 ∧ (∀ r j, r ≠ 52 → S' r j = S r j) ∧ (most = 16 → ∀ n, ¬ RC (eX S) (n + 1) v0 v0)) ∨ (1 ≤ z ∧ z ≤ most ∧ FR dd S S' ∧ RG (eX S) S' dd z)) := by
    intro m
    induction m with
    | zero =>
      intro sz F S1 R ED dp hs h1 hF h
      obtain ⟨F, rfl⟩ : ∃ v, F = v + 1 := ⟨F - 1, by omega⟩
      refine ⟨0, S1, by rw [f_Waits_findRingOf_12, if_pos (ylt (by omega))]; rfl, Or.inl ⟨rfl, h.1, fun e16 => ?_⟩⟩
      refine h.closed ?_
      rcases h.2.2.2.2.2.2.2.1 with a | a
      · exact a
      · have := fb_ct_le (bt R) 16
        omega
    | succ m ih =>
      intro sz F S1 R ED dp hs h1 hF h
      obtain ⟨F, rfl⟩ : ∃ v, F = v + 1 := ⟨F - 1, by omega⟩
      rw [f_Waits_findRingOf_12, if_neg (nlt' (by omega))]
      by_cases c : ED = 0
      · rw [if_pos c]
        exact ⟨0, S1, rfl, Or.inl ⟨rfl, h.1, fun _ => h.closed (fun v => by rw [c]; exact b_0 v)⟩⟩
      · rw [if_neg c, Option.bind_some, Option.bind_some, hF0]
        rcases k29 (f_Waits_findRingOf_12 F) ED sz h1 (by omega) 16 0 F0 S1 R 0 dp (by omega) (by omega) h with ⟨S2, R', N', dp', g1, g2⟩ | ⟨S2, g1, g2, g3⟩
        · have g1' : f_Waits_findRingOf_29 (f_Waits_findRingOf_12 F) F0 S1 (nI v0) (nI most) (nI dd) R ED (nI sz) 0 0 = f_Waits_findRingOf_12 F S2 (nI v0) (nI most) (nI dd) R' N' (nI (sz + 1)) := g1
          rw [g1']
          exact ih (sz + 1) F S2 R' N' dp' (by omega) (by omega) (by omega) g2.next
        · have g1' : f_Waits_findRingOf_29 (f_Waits_findRingOf_12 F) F0 S1 (nI v0) (nI most) (nI dd) R ED (nI sz) 0 0 = some (nI sz, S2) := g1
          rw [g1']
          exact ⟨sz, S2, rfl, Or.inr ⟨h1, by omega, g2, g3⟩⟩
  unfold f_Waits_findRingOf
  rw [Option.bind_some, Option.bind_some, hF0]
  have one : ∀ v, bt (jshl 1 (nI v0)) v = decide (v = v0) := fun v => b_one (by omega)
  have oneT : ∀ v, bt (jshl 1 (nI v0)) v = true → v = v0 := fun v q => by rw [one] at q; exact of_decide_eq_true q
  refine k12 most 1 F0 S (jshl 1 (nI v0)) (jshl 1 (nI v0)) (fun _ => 0) (by omega) (by omega) (by omega) ⟨fun _ _ _ => rfl, fun v hv' => ?_, by rw [one]; exact decide_eq_true rfl, fun v q => Or.inl ⟨oneT v q, rfl⟩, fun v q => ⟨q, rfl⟩, fun v q => (by rw [b_0] at q; cases q), fun v q => Or.inr (Or.inl ⟨q, by omega⟩), Or.inr (fb_ct_pos.mpr ⟨v0, hv, by rw [one]; exact decide_eq_true rfl⟩), Or.inl (fun v => b_0 v)⟩
  rw [one, b_0]
  exact ⟨decide_eq_false (by omega), decide_eq_false (by omega), rfl⟩
theorem RG.cg {e : Nat → Nat → Bool} {S S' : St} {dd z : Nat} (h : RG e S dd z) (hs : ∀ j, j < 16 * dd + z → S' 53 j = S 53 j) : RG e S' dd z := by
  obtain ⟨g, g1, g2⟩ := h
  exact ⟨g, fun i hi => by rw [hs _ (by omega)]; exact g1 i hi, g2⟩
theorem x_short {S : St} {dd : Nat} (hl : LX S) (hd : dd ≤ 10) : ∃ z S', f_Waits_findShortestRing S (nI dd) = some (nI z, S') ∧ FR dd S S' ∧ z ≤ 16 ∧ ((z = 0 ∧ ∃ r, upG (eX S) (fun _ _ => false) r) ∨ (1 ≤ z ∧ RG (eX S) S' dd z)) := by
  obtain ⟨F0, hF0⟩ : ∃ F, FU = F := ⟨_, rfl⟩
  have hF0' : 300 < F0 := by rw [← hF0]; exact FU_gt (by omega)
  obtain ⟨bits, e1, hb⟩ := x_forEver S
  have k10 : ∀ m i F z (S1 : St), i + m = 16 → m < F → FR dd S S1 → z ≤ 16 → ((z = 0 ∧ ∀ v n, v < i → ¬ RC (eX S) (n + 1) v v) ∨ (1 ≤ z ∧ RG (eX S) S1 dd z)) → ∃ y S', f_Waits_findShortestRing_10 F S1 (nI dd) (nI z) bits (nI i) = some (nI y, S') ∧ FR dd S S' ∧ y ≤ 16 ∧ ((y = 0 ∧ ∃ r, upG (eX S) (fun _ _ => false) r) ∨ (1 ≤ y ∧ RG (eX S) S' dd y)) := by
    intro m
    induction m with
    | zero =>
      intro i F z S1 hi hF h1 hz h2
      obtain ⟨F, rfl⟩ : ∃ v, F = v + 1 := ⟨F - 1, by omega⟩
      have : i = 16 := by omega
      subst this
      refine ⟨z, S1, by rw [f_Waits_findShortestRing_10, if_pos y16], h1, hz, ?_⟩
      rcases h2 with ⟨a1, a2⟩ | a
      · exact Or.inl ⟨a1, no_round (fun v n hv => a2 v n hv)⟩
      · exact Or.inr a
    | succ m ih =>
      intro i F z S1 hi hF h1 hz h2
      obtain ⟨F, rfl⟩ : ∃ v, F = v + 1 := ⟨F - 1, by omega⟩
      rw [f_Waits_findShortestRing_10, if_neg (n16 (by omega))]
      by_cases c2 : z = 2
      · rw [if_pos (show nI z = 2 by rw [c2]; rfl)]
        refine ⟨z, S1, rfl, h1, hz, ?_⟩
        rcases h2 with ⟨a1, -⟩ | a
        · omega
        · exact Or.inr a
      · rw [if_neg (show ¬ nI z = 2 from nI_k 2 (by omega) (by omega) c2)]
        have eqe : eX S1 = eX S := eX_cg (fun j _ => h1 50 j (by omega) (by omega))
        have hl1 : LX S1 := fun a b ha hb' => by rw [h1 50 a (by omega) (by omega)]; exact hl a b ha hb'
        by_cases c : bt bits i = false
        · rw [if_pos ((bt1 (by omega)).mpr c)]
          unfold f_Waits_findShortestRing_64
          rw [nI_1, Option.bind_some]
          refine ih (i + 1) F z S1 (by omega) (by omega) h1 hz ?_
          rcases h2 with ⟨a1, a2⟩ | a
          · refine Or.inl ⟨a1, fun v n hv q => ?_⟩
            by_cases y : v = i
            · rw [y] at q
              have := hb.round (by omega) q
              rw [c] at this
              cases this
            · exact a2 v n (by omega) q
          · exact Or.inr a
        · rw [if_neg (fun y => c ((bt1 (by omega)).mp y))]
          unfold f_Waits_findShortestRing_46 f_Waits_findShortestRing_63 f_Waits_findShortestRing_64
          rcases h2 with ⟨a1, a2⟩ | ⟨a1, a2⟩
          · obtain ⟨z', S2, g1, g2⟩ := x_ringOf (S := S1) (v0 := i) (most := 16) (dd := dd) hl1 (by omega) (by omega) hd
            have g1' : f_Waits_findRingOf S1 (nI i) 16 (nI dd) = some (nI z', S2) := g1
            rw [if_pos (show nI z = 0 by rw [a1]; rfl), g1', Option.bind_some, Option.bind_some]
            rw [eqe] at g2
            rcases g2 with ⟨b1, b2, b3⟩ | ⟨b1, b2, b3, b4⟩
            · rw [if_pos (show nI z' ≤ 0 by rw [b1]; decide), nI_1, Option.bind_some]
              refine ih (i + 1) F z S2 (by omega) (by omega) (fun r j hr hj => by rw [b2 r j hr]; exact h1 r j hr hj) hz (Or.inl ⟨a1, fun v n hv q => ?_⟩)
              by_cases y : v = i
              · rw [y] at q; exact b3 rfl n q
              · exact a2 v n (by omega) q
            · rw [if_neg (show ¬ nI z' ≤ 0 from nle (a := 0) (by omega)), nI_1, Option.bind_some]
              exact ih (i + 1) F z' S2 (by omega) (by omega) (fun r j hr hj => by rw [b3 r j hr hj]; exact h1 r j hr hj) (by omega) (Or.inr ⟨b1, b4⟩)
          · obtain ⟨z', S2, g1, g2⟩ := x_ringOf (S := S1) (v0 := i) (most := z - 1) (dd := dd) hl1 (by omega) (by omega) hd
            rw [if_neg (show ¬ nI z = 0 from nI_k 0 (by omega) (by omega) (by omega)), show nI z - 1 = nI (z - 1) from pk_sub (b := 1) a1, g1, Option.bind_some, Option.bind_some]
            rw [eqe] at g2
            rcases g2 with ⟨b1, b2, b3⟩ | ⟨b1, b2, b3, b4⟩
            · rw [if_pos (show nI z' ≤ 0 by rw [b1]; decide), nI_1, Option.bind_some]
              exact ih (i + 1) F z S2 (by omega) (by omega) (fun r j hr hj => by rw [b2 r j hr]; exact h1 r j hr hj) hz (Or.inr ⟨a1, a2.cg (fun j _ => b2 53 j (by omega))⟩)
            · rw [if_neg (show ¬ nI z' ≤ 0 from nle (a := 0) (by omega)), nI_1, Option.bind_some]
              exact ih (i + 1) F z' S2 (by omega) (by omega) (fun r j hr hj => by rw [b3 r j hr hj]; exact h1 r j hr hj) (by omega) (Or.inr ⟨b1, b4⟩)
  unfold f_Waits_findShortestRing
  rw [Option.bind_some, e1, Option.bind_some, Option.bind_some, hF0]
  exact k10 16 0 F0 0 S (by omega) (by omega) (fun _ _ _ _ => rfl) (by omega) (Or.inl ⟨rfl, fun v n hv => by omega⟩)
