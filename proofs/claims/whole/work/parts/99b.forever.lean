/-! WAITING: who waits for ever; rounds of two -/
theorem b_clr {v : Int32} {p i : Nat} (hp : p < 32) : bt (v &&& (jshl 1 (nI p) ^^^ (-1))) i = (bt v i && !decide (i = p)) := by
  by_cases hi : i < 32
  · rw [b_and, b_xor, bt_shl1 hp hi, b_m1 i hi]
    cases bt v i <;> cases decide (i = p) <;> rfl
  · rw [b_big (by omega), b_big (x := v) (by omega)]; rfl
theorem b_set {v : Int32} {p i : Nat} (hp : p < 32) : bt (v ||| jshl 1 (nI p)) i = (bt v i || decide (i = p)) := by
  by_cases hi : i < 32
  · rw [b_or, bt_shl1 hp hi]
  · rw [b_big (by omega), b_big (x := v) (by omega), decide_eq_false (by omega)]; rfl
theorem and16 {x v : Int32} (hv : ∀ i, 16 ≤ i → bt v i = false) : x &&& v = 0 ↔ ∀ c, c < 16 → bt x c = true → bt v c = false := by
  rw [and0]
  constructor
  · intro h c hc q
    have := h c (by omega)
    rw [q] at this
    simpa using this
  · intro h i hi
    by_cases c : i < 16
    · cases q : bt x i with
      | false => rfl
      | true => rw [h i c q]; rfl
    · rw [hv i (by omega)]; cases bt x i <;> rfl
theorem and1 {x : Int32} : x &&& 1 = 0 ↔ bt x 0 = false := by
  have h1 : bt 1 0 = true := by decide
  constructor
  · intro h
    have := congrArg (fun y => bt y 0) h
    simp only [b_and, b_0, h1, Bool.and_true] at this
    exact this
  · intro h
    apply b_ext
    intro i hi
    rw [b_and, b_0]
    by_cases c : i = 0
    · rw [c, h]; rfl
    · have : ∀ i, i < 32 → i ≠ 0 → bt 1 i = false := by decide
      rw [this i hi c]; cases bt x i <;> rfl
def eX (S : St) (a b : Nat) : Bool := decide (a < 16) && (decide (b < 16) && bt (S 50 a) b)
def sX (S : St) (a b : Nat) : Bool := decide (a < 16) && (decide (b < 16) && bt (S 51 a) b)
def eM (S : St) (a b : Nat) : Bool := decide (a < 16) && (decide (b < 16) && bt (S 33 a) b)
theorem eX_e {S : St} {a b : Nat} (ha : a < 16) (hb : b < 16) : eX S a b = bt (S 50 a) b := by unfold eX; simp [ha, hb]
theorem sX_e {S : St} {a b : Nat} (ha : a < 16) (hb : b < 16) : sX S a b = bt (S 51 a) b := by unfold sX; simp [ha, hb]
theorem eM_e {S : St} {a b : Nat} (ha : a < 16) (hb : b < 16) : eM S a b = bt (S 33 a) b := by unfold eM; simp [ha, hb]
theorem eX_lt {S : St} {a b : Nat} (h : eX S a b = true) : a < 16 ∧ b < 16 := by
  unfold eX at h
  obtain ⟨h1, h2⟩ := Bool.and_eq_true _ _ |>.mp h
  exact ⟨of_decide_eq_true h1, of_decide_eq_true (Bool.and_eq_true _ _ |>.mp h2).1⟩
theorem eX_cg {S S' : St} (h : ∀ j, j < 16 → S' 50 j = S 50 j) : eX S' = eX S := by
  funext a b
  unfold eX
  by_cases ha : a < 16
  · rw [h a ha]
  · simp [ha]
theorem sX_cg {S S' : St} (h : ∀ j, j < 16 → S' 51 j = S 51 j) : sX S' = sX S := by
  funext a b
  unfold sX
  by_cases ha : a < 16
  · rw [h a ha]
  · simp [ha]
section FE
variable {e : Nat → Nat → Bool}
def GI (e : Nat → Nat → Bool) (v : Int32) : Prop := (∀ i, 16 ≤ i → bt v i = false) ∧ ∀ C : Nat → Prop, (∀ i, i < 16 → C i → ∃ c, c < 16 ∧ e i c = true ∧ C c) → ∀ i, i < 16 → C i → bt v i = true
def GS (e : Nat → Nat → Bool) (v : Int32) : Prop := ∀ i, i < 16 → bt v i = true → ∃ c, c < 16 ∧ e i c = true ∧ bt v c = true
theorem GI.gf {v : Int32} (h : GI e v) (h' : GS e v) : GF e v := ⟨h.1, h', h.2⟩
theorem GI_0 : GI e 65535 := ⟨fun i hi => by rw [b_65535]; exact decide_eq_false (by omega), fun C hC i hi _ => by rw [b_65535]; exact decide_eq_true hi⟩
def RI (e : Nat → Nat → Bool) (v0 v : Int32) (i : Nat) : Prop := (∀ j, bt v j = true → bt v0 j = true) ∧ GI e v ∧ (fb_ct (bt v) 16 < fb_ct (bt v0) 16 ∨ (v = v0 ∧ ∀ w, w < i → bt v w = true → ∃ c, c < 16 ∧ e w c = true ∧ bt v c = true))
theorem RI.dead {v0 v : Int32} {i : Nat} (h : RI e v0 v i) (hi : i < 16) (hd : ∀ c, c < 16 → e i c = true → bt v c = false) : RI e v0 (v &&& (jshl 1 (nI i) ^^^ (-1))) (i + 1) := by
  obtain ⟨h1, h2, h3⟩ := h
  by_cases c : bt v i = true
  · have lt : fb_ct (bt (v &&& (jshl 1 (nI i) ^^^ (-1)))) 16 < fb_ct (bt v) 16 := by
      have e1 := fb_ct_upd (bt v) false hi
      rw [c] at e1
      have e2 : fb_ct (bt (v &&& (jshl 1 (nI i) ^^^ (-1)))) 16 = fb_ct (fun k => if k = i then false else bt v k) 16 := fb_ct_cong (fun k hk => by
        rw [b_clr (by omega)]
        by_cases z : k = i
        · simp [z]
        · simp [z])
      rw [e2]
      simp only [reduceIte, Bool.false_eq_true] at e1
      omega
    refine ⟨fun j hj => ?_, ⟨fun j hj => ?_, fun C hC j hj q => ?_⟩, Or.inl ?_⟩
    · rw [b_clr (by omega)] at hj
      exact h1 j (Bool.and_eq_true _ _ |>.mp hj).1
    · rw [b_clr (by omega), h2.1 j hj]; rfl
    · rw [b_clr (by omega), h2.2 C hC j hj q]
      have : j ≠ i := fun z => by
        obtain ⟨c', hc', q1, q2⟩ := hC j hj q
        rw [z] at q1
        have := h2.2 C hC c' hc' q2
        rw [hd c' hc' q1] at this
        cases this
      simp [this]
    · rcases h3 with h3 | ⟨h3, -⟩
      · omega
      · rw [h3] at lt ⊢; exact lt
  · have c' : bt v i = false := Bool.eq_false_iff.mpr c
    have ev : v &&& (jshl 1 (nI i) ^^^ (-1)) = v := b_ext (fun j _ => by
      rw [b_clr (by omega)]
      by_cases z : j = i
      · rw [z, c']; rfl
      · simp [z])
    rw [ev]
    refine ⟨h1, h2, ?_⟩
    rcases h3 with h3 | ⟨h3, h4⟩
    · exact Or.inl h3
    · refine Or.inr ⟨h3, fun w hw q => ?_⟩
      by_cases z : w = i
      · rw [z, c'] at q; cases q
      · exact h4 w (by omega) q
theorem RI.live {v0 v : Int32} {i : Nat} (h : RI e v0 v i) (hd : v = v0 → ∃ c, c < 16 ∧ e i c = true ∧ bt v c = true) : RI e v0 v (i + 1) := by
  obtain ⟨h1, h2, h3⟩ := h
  refine ⟨h1, h2, ?_⟩
  rcases h3 with h3 | ⟨h3, h4⟩
  · exact Or.inl h3
  · refine Or.inr ⟨h3, fun w hw q => ?_⟩
    by_cases z : w = i
    · rw [z]; exact hd h3
    · exact h4 w (by omega) q
theorem RI.beg {v : Int32} (h : GI e v) : RI e v v 0 := ⟨fun _ q => q, h, Or.inr ⟨rfl, fun w hw => by omega⟩⟩
theorem RI.fin {v0 v : Int32} (h : RI e v0 v 16) : (v = v0 ∧ GS e v) ∨ fb_ct (bt v) 16 < fb_ct (bt v0) 16 := by
  rcases h.2.2 with h3 | ⟨h3, h4⟩
  · exact Or.inr h3
  · exact Or.inl ⟨h3, fun i hi q => h4 i hi q⟩
theorem nlive {x v : Int32} (hv : ∀ i, 16 ≤ i → bt v i = false) (h : ¬ x &&& v = 0) : ∃ c, c < 16 ∧ bt x c = true ∧ bt v c = true := by
  apply Classical.byContradiction
  intro hx
  refine h ((and16 hv).mpr (fun c hc q => ?_))
  cases z : bt v c with
  | false => rfl
  | true => exact absurd ⟨c, hc, q, z⟩ hx
end FE
theorem x_forEver (S : St) : ∃ v, f_Waits_forEver S = some v ∧ GF (eX S) v := by
  obtain ⟨F0, hF0⟩ : ∃ F, FU = F := ⟨_, rfl⟩
  have hF0' : 300 < F0 := by rw [← hF0]; exact FU_gt (by omega)
  have k13 : ∀ (K : St → Int32 → Int32 → Option Int32) (l2 v0 : Int32) m i F (v : Int32), i + m = 16 → m < F → RI (eX S) v0 v i → ∃ v1, f_Waits_forEver_13 K F S v l2 (nI i) = K S v1 (l2 + 1) ∧ RI (eX S) v0 v1 16 := by
    intro K l2 v0 m
    induction m with
    | zero =>
      intro i F v hi hF h
      obtain ⟨F, rfl⟩ : ∃ v, F = v + 1 := ⟨F - 1, by omega⟩
      have : i = 16 := by omega
      subst this
      exact ⟨v, by rw [f_Waits_forEver_13, if_pos y16, Option.bind_some], h⟩
    | succ m ih =>
      intro i F v hi hF h
      obtain ⟨F, rfl⟩ : ∃ v, F = v + 1 := ⟨F - 1, by omega⟩
      have c1 : (nI i).toNatClampNeg = i := cl
      rw [f_Waits_forEver_13, if_neg (n16 (by omega)), if_pos (gn (by omega) (by omega)), c1]
      unfold f_Waits_forEver_38
      rw [Option.bind_some, Option.bind_some, nI_1]
      by_cases c : S 50 i &&& v = 0
      · rw [if_pos c]
        exact ih (i + 1) F _ (by omega) (by omega) (h.dead (by omega) (fun c' hc' q => (and16 h.2.1.1).mp c c' hc' (by rw [eX_e (by omega) hc'] at q; exact q)))
      · rw [if_neg c]
        refine ih (i + 1) F _ (by omega) (by omega) (h.live (fun _ => ?_))
        obtain ⟨c', q1, q2, q3⟩ := nlive h.2.1.1 c
        exact ⟨c', q1, by rw [eX_e (by omega) q1]; exact q2, q3⟩
  have k5 : ∀ m k F (v : Int32), k + m = 16 → m < F → GI (eX S) v → (GS (eX S) v ∨ fb_ct (bt v) 16 + k ≤ 16) → ∃ w, f_Waits_forEver_5 F S v (nI k) = some w ∧ GF (eX S) w := by
    intro m
    induction m with
    | zero =>
      intro k F v hk hF h1 h2
      obtain ⟨F, rfl⟩ : ∃ v, F = v + 1 := ⟨F - 1, by omega⟩
      have : k = 16 := by omega
      subst this
      refine ⟨v, by rw [f_Waits_forEver_5, if_pos y16], h1.gf ?_⟩
      rcases h2 with h2 | h2
      · exact h2
      · intro i hi q
        have z : fb_ct (bt v) 16 = 0 := by omega
        rw [fb_ct_zero.mp z i hi] at q
        cases q
    | succ m ih =>
      intro k F v hk hF h1 h2
      obtain ⟨F, rfl⟩ : ∃ v, F = v + 1 := ⟨F - 1, by omega⟩
      obtain ⟨v1, g1, g2⟩ := k13 (f_Waits_forEver_5 F) (nI k) v 16 0 F0 v (by omega) (by omega) (RI.beg h1)
      have g1' : f_Waits_forEver_13 (f_Waits_forEver_5 F) F0 S v (nI k) 0 = f_Waits_forEver_5 F S v1 (nI k + 1) := g1
      rw [f_Waits_forEver_5, if_neg (n16 (by omega)), Option.bind_some, hF0, g1', nI_1]
      refine ih (k + 1) F v1 (by omega) (by omega) g2.2.1 ?_
      rcases g2.fin with ⟨q1, q2⟩ | q
      · exact Or.inl q2
      · rcases h2 with h2 | h2
        · have := fb_ct_sub (p := bt v) (q := bt v1) (n := 16) (fun i hi z => g2.2.1.2 (fun i => bt v i = true) h2 i hi z)
          omega
        · exact Or.inr (by omega)
  unfold f_Waits_forEver
  rw [Option.bind_some, Option.bind_some, hF0]
  exact k5 16 0 F0 65535 (by omega) (by omega) GI_0 (Or.inr (by
    have := fb_ct_le (bt 65535) 16
    omega))
theorem m_forEver (S : St) : ∃ v, f_Mo_forEver S = some v ∧ GF (eM S) v := by
  obtain ⟨F0, hF0⟩ : ∃ F, FU = F := ⟨_, rfl⟩
  have hF0' : 300 < F0 := by rw [← hF0]; exact FU_gt (by omega)
  have k15 : ∀ (K : St → Int32 → Int32 → Option Int32) (v0 : Int32) (hv0 : ∀ i, 16 ≤ i → bt v0 i = false) m i F (v : Int32), i + m = 16 → m < F → RI (eM S) v0 v i → ∃ v1, f_Mo_forEver_15 K F S v v0 (nI i) = K S v1 v0 ∧ RI (eM S) v0 v1 16 := by
    intro K v0 hv0 m
    induction m with
    | zero =>
      intro i F v hi hF h
      obtain ⟨F, rfl⟩ : ∃ v, F = v + 1 := ⟨F - 1, by omega⟩
      have : i = 16 := by omega
      subst this
      exact ⟨v, by rw [f_Mo_forEver_15, if_pos y16], h⟩
    | succ m ih =>
      intro i F v hi hF h
      obtain ⟨F, rfl⟩ : ∃ v, F = v + 1 := ⟨F - 1, by omega⟩
      have c1 : (nI i).toNatClampNeg = i := cl
      rw [f_Mo_forEver_15, if_neg (n16 (by omega)), if_pos (gn (by omega) (by omega)), c1]
      unfold f_Mo_forEver_40
      rw [Option.bind_some, Option.bind_some, nI_1]
      by_cases c : S 33 i &&& v0 = 0
      · rw [if_pos c]
        refine ih (i + 1) F _ (by omega) (by omega) (h.dead (by omega) (fun c' hc' q => ?_))
        have z := (and16 hv0).mp c c' hc' (by rw [eM_e (by omega) hc'] at q; exact q)
        cases y : bt v c' with
        | false => rfl
        | true => rw [h.1 c' y] at z; cases z
      · rw [if_neg c]
        refine ih (i + 1) F _ (by omega) (by omega) (h.live (fun ev => ?_))
        obtain ⟨c', q1, q2, q3⟩ := nlive hv0 c
        exact ⟨c', q1, by rw [eM_e (by omega) q1]; exact q2, by rw [ev]; exact q3⟩
  have k6 : ∀ n F (v l2 : Int32), fb_ct (bt v) 16 ≤ n → n + 2 < F → GI (eM S) v → (v = l2 → GS (eM S) v) → ∃ w, f_Mo_forEver_6 F S v l2 = some w ∧ GF (eM S) w := by
    intro n
    induction n with
    | zero =>
      intro F v l2 hn hF h1 h2
      obtain ⟨F, rfl⟩ : ∃ v, F = v + 2 := ⟨F - 2, by omega⟩
      have gs : GS (eM S) v := fun i hi q => by
        have z : fb_ct (bt v) 16 = 0 := by omega
        rw [fb_ct_zero.mp z i hi] at q
        cases q
      rw [f_Mo_forEver_6]
      by_cases c : v = l2
      · exact ⟨v, by rw [if_pos c], h1.gf gs⟩
      · obtain ⟨v1, g1, g2⟩ := k15 (f_Mo_forEver_6 (F + 1)) v h1.1 16 0 F0 v (by omega) (by omega) (RI.beg h1)
        have g1' : f_Mo_forEver_15 (f_Mo_forEver_6 (F + 1)) F0 S v v 0 = f_Mo_forEver_6 (F + 1) S v1 v := g1
        rw [if_neg c, Option.bind_some, hF0, g1']
        have ev : v1 = v := by
          rcases g2.fin with ⟨q1, -⟩ | q
          · exact q1
          · omega
        rw [ev, f_Mo_forEver_6, if_pos rfl]
        exact ⟨v, rfl, h1.gf gs⟩
    | succ n ih =>
      intro F v l2 hn hF h1 h2
      obtain ⟨F, rfl⟩ : ∃ v, F = v + 2 := ⟨F - 2, by omega⟩
      rw [f_Mo_forEver_6]
      by_cases c : v = l2
      · exact ⟨v, by rw [if_pos c], h1.gf (h2 c)⟩
      · obtain ⟨v1, g1, g2⟩ := k15 (f_Mo_forEver_6 (F + 1)) v h1.1 16 0 F0 v (by omega) (by omega) (RI.beg h1)
        have g1' : f_Mo_forEver_15 (f_Mo_forEver_6 (F + 1)) F0 S v v 0 = f_Mo_forEver_6 (F + 1) S v1 v := g1
        rw [if_neg c, Option.bind_some, hF0, g1']
        rcases g2.fin with ⟨q1, q2⟩ | q
        · rw [q1] at q2 ⊢
          rw [f_Mo_forEver_6, if_pos rfl]
          exact ⟨v, rfl, h1.gf q2⟩
        · exact ih (F + 1) v1 v (by omega) (by omega) g2.2.1 (fun z => by rw [z] at q; omega)
  unfold f_Mo_forEver
  rw [Option.bind_some, Option.bind_some, hF0]
  exact k6 16 F0 65535 0 (fb_ct_le _ 16) (by omega) GI_0 (fun z => absurd z (by decide))
theorem r2_max (e : Nat → Nat → Bool) : r2 e ≤ 256 := fb_sm_bound (c := 16) (n := 16) (fun k hk => by
  show fb_ct (fun b => e k b && e b k) k ≤ 16
  have := fb_ct_le (fun b => e k b && e b k) k
  omega)
theorem x_two (S : St) (hlow : ∀ a b, a < 16 → 16 ≤ b → bt (S 50 a) b = false) : f_Waits_ringsOfTwo S = some (nI (r2 (eX S))) := by
  obtain ⟨F0, hF0⟩ : ∃ F, FU = F := ⟨_, rfl⟩
  have hF0' : 300 < F0 := by rw [← hF0]; exact FU_gt (by omega)
  obtain ⟨e, he⟩ : ∃ e, eX S = e := ⟨_, rfl⟩
  have ee : ∀ a b, a < 16 → b < 16 → e a b = bt (S 50 a) b := fun a b ha hb => by rw [← he]; exact eX_e ha hb
  have k12 : ∀ (K : St → Int32 → Int32 → Option Int32) (c w : Nat), w < 16 → ∀ m o F, o + m = w → m < F → f_Waits_ringsOfTwo_12 K F S (nI (c + fb_ct (fun b => e w b && e b w) o)) (nI w) (nI o) = K S (nI (c + fb_ct (fun b => e w b && e b w) w)) (nI (w + 1)) := by
    intro K c w hw m
    induction m with
    | zero =>
      intro o F ho hF
      obtain ⟨F, rfl⟩ : ∃ v, F = v + 1 := ⟨F - 1, by omega⟩
      have : o = w := by omega
      subst this
      rw [f_Waits_ringsOfTwo_12, if_pos (yle (Nat.le_refl _))]
      unfold f_Waits_ringsOfTwo_57
      rw [Option.bind_some, nI_1]
    | succ m ih =>
      intro o F ho hF
      obtain ⟨F, rfl⟩ : ∃ v, F = v + 1 := ⟨F - 1, by omega⟩
      have c1 : (nI w).toNatClampNeg = w := cl
      have c2 : (nI o).toNatClampNeg = o := cl
      rw [f_Waits_ringsOfTwo_12, if_neg (nle (by omega)), if_pos (gn (by omega) (by omega)), c1]
      by_cases z : S 50 w = 0
      · have al : ∀ x, x ≤ w → fb_ct (fun b => e w b && e b w) x = 0 := fun x hx => fb_ct_zero.mpr (fun b hb => by
          show (e w b && e b w) = false
          rw [ee w b hw (by omega), z, b_0]; rfl)
        rw [if_pos z, al o (by omega), al w (Nat.le_refl _)]
        unfold f_Waits_ringsOfTwo_57
        rw [Option.bind_some, nI_1]
      · have t : (((jushr (S 50 w) (nI o)) &&& (jushr (S 50 o) (nI w))) &&& 1) = 0 ↔ (e w o && e o w) = false := by
          rw [and1, b_and]
          unfold jushr
          rw [b_ushr o (by omega), b_ushr w (by omega), ee w o hw (by omega), ee o w (by omega) hw]
          exact Iff.rfl
        rw [if_neg z, if_pos (gn (by omega) (by omega)), if_pos (gn (by omega) (by omega)), c2]
        have ih1 := ih (o + 1) F (by omega) (by omega)
        rw [fb_ct_succ] at ih1
        unfold f_Waits_ringsOfTwo_51
        rw [Option.bind_some, nI_1]
        by_cases y : (e w o && e o w) = false
        · rw [if_pos (t.mpr y)]
          rw [if_neg (by rw [y]; decide)] at ih1
          exact ih1
        · rw [if_neg (fun q => y (t.mp q)), Option.bind_some, nI_1]
          rw [if_pos (ts_nf y)] at ih1
          exact ih1
  have k4 : ∀ m w F, w + m = 16 → m < F → f_Waits_ringsOfTwo_4 F S (nI (fb_sm (fun a => fb_ct (fun b => e a b && e b a) a) w)) (nI w) = some (nI (r2 e)) := by
    intro m
    induction m with
    | zero =>
      intro w F hw hF
      obtain ⟨F, rfl⟩ : ∃ v, F = v + 1 := ⟨F - 1, by omega⟩
      have : w = 16 := by omega
      subst this
      rw [f_Waits_ringsOfTwo_4, if_pos y16]
      rfl
    | succ m ih =>
      intro w F hw hF
      obtain ⟨F, rfl⟩ : ∃ v, F = v + 1 := ⟨F - 1, by omega⟩
      have g1 := k12 (f_Waits_ringsOfTwo_4 F) (fb_sm (fun a => fb_ct (fun b => e a b && e b a) a) w) w (by omega) w 0 F0 (by omega) (by omega)
      have g1' : f_Waits_ringsOfTwo_12 (f_Waits_ringsOfTwo_4 F) F0 S (nI (fb_sm (fun a => fb_ct (fun b => e a b && e b a) a) w)) (nI w) 0 = f_Waits_ringsOfTwo_4 F S (nI (fb_sm (fun a => fb_ct (fun b => e a b && e b a) a) w + fb_ct (fun b => e w b && e b w) w)) (nI (w + 1)) := g1
      rw [f_Waits_ringsOfTwo_4, if_neg (n16 (by omega)), Option.bind_some, hF0, g1']
      exact ih (w + 1) F (by omega) (by omega)
  unfold f_Waits_ringsOfTwo
  rw [Option.bind_some, Option.bind_some, hF0, he]
  exact k4 15 1 F0 (by omega) (by omega)
