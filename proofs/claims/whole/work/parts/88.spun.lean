/-! SPUN: Johnson's order -/
def jr (b : Nat → Nat) : List Nat → Nat → Nat → Nat
  | [], _, y => y
  | k :: l, x, y => jr b l (x + b (2 * k)) (max (x + b (2 * k)) y + b (2 * k + 1))
def key (b : Nat → Nat) (k : Nat) : Nat := if b (2 * k) < b (2 * k + 1) then b (2 * k) else 1000 - b (2 * k + 1)
theorem jr_mono {b : Nat → Nat} : ∀ (l : List Nat) (x y y' : Nat), y ≤ y' → jr b l x y ≤ jr b l x y'
  | [], _, _, _, h => h
  | k :: l, x, y, y', h => jr_mono l _ _ _ (by omega)
theorem jr_swap {b : Nat → Nat} {i j : Nat} (h1 : b (2 * i + 1) < 256) (h2 : b (2 * j + 1) < 256) (h3 : b (2 * i) < 256) (h : key b i ≤ key b j) (l : List Nat) (x y : Nat) : jr b (i :: j :: l) x y ≤ jr b (j :: i :: l) x y := by
  rw [jr, jr, jr, jr, show x + b (2 * j) + b (2 * i) = x + b (2 * i) + b (2 * j) by omega]
  apply jr_mono
  unfold key at h
  by_cases c1 : b (2 * i) < b (2 * i + 1)
  · by_cases c2 : b (2 * j) < b (2 * j + 1)
    · rw [if_pos c1, if_pos c2] at h; omega
    · rw [if_pos c1, if_neg c2] at h; omega
  · by_cases c2 : b (2 * j) < b (2 * j + 1)
    · rw [if_neg c1, if_pos c2] at h; omega
    · rw [if_neg c1, if_neg c2] at h; omega
theorem jr_front {b : Nat → Nat} {n k : Nat} (hb : ∀ i, i < 2 * n → b i < 256) (hk : k < n) : ∀ (pre post : List Nat) (x y : Nat), (∀ j, j ∈ pre → j < n ∧ key b k ≤ key b j) → jr b (k :: (pre ++ post)) x y ≤ jr b (pre ++ k :: post) x y
  | [], _, _, _, _ => Nat.le_refl _
  | j :: pre, post, x, y, h => by
    obtain ⟨h1, h2⟩ := h j (List.mem_cons_self ..)
    refine Nat.le_trans (jr_swap (hb _ (by omega)) (hb _ (by omega)) (hb _ (by omega)) h2 (pre ++ post) x y) ?_
    show jr b (k :: (pre ++ post)) _ _ ≤ jr b (pre ++ k :: post) _ _
    exact jr_front hb hk pre post _ _ (fun i hi => h i (List.mem_cons_of_mem _ hi))
def isL (U : Nat → Bool) (l : List Nat) : Prop := l.Nodup ∧ ∀ k, k ∈ l ↔ U k = true
section SP
variable {S : St} {n : Nat} {b : Nat → Nat}
theorem t2n {k : Nat} : (2 : Int32) * nI k + 1 = nI (2 * k + 1) := by rw [m2]; exact nI_add _ 1
theorem x_ahead (h : XB S (2 * n) b) (hn : n ≤ 8) {k c : Nat} (hk : k < n) (hc : c < n) : f_Rows_spinsAhead S (nI k) (nI c) = some (if key b k < key b c then 1 else 0) := by
  have a1 := (h.2.2 (2 * k) (by omega)).2
  have a2 := (h.2.2 (2 * k + 1) (by omega)).2
  have a3 := (h.2.2 (2 * c) (by omega)).2
  have a4 := (h.2.2 (2 * c + 1) (by omega)).2
  unfold f_Rows_spinsAhead f_Rows_spinsAhead_30 f_Rows_spinsAhead_61
  rw [m2, m2, nI_1, nI_1, h.at (by omega), Option.bind_some, h.at (by omega), Option.bind_some, h.at (by omega), Option.bind_some, h.at (by omega), Option.bind_some]
  unfold key
  by_cases c1 : b (2 * k) < b (2 * k + 1)
  · have d1 : ¬ nI (b (2 * k + 1)) ≤ nI (b (2 * k)) := nle c1
    by_cases c2 : b (2 * c) < b (2 * c + 1)
    · have d2 : ¬ nI (b (2 * c + 1)) ≤ nI (b (2 * c)) := nle c2
      by_cases c3 : b (2 * k) < b (2 * c)
      · have d3 : ¬ nI (b (2 * c)) ≤ nI (b (2 * k)) := nle c3
        simp only [d1, d2, d3, c1, c2, c3, i10, ↓reduceIte, Option.bind_some]
      · have d3 : nI (b (2 * c)) ≤ nI (b (2 * k)) := yle (by omega)
        simp only [d1, d2, d3, c1, c2, c3, i10, ↓reduceIte, Option.bind_some]
    · have d2 : nI (b (2 * c + 1)) ≤ nI (b (2 * c)) := yle (by omega)
      have c4 : b (2 * k) < 1000 - b (2 * c + 1) := by omega
      simp only [d1, d2, c1, c2, c4, i10, ↓reduceIte, or_true, Option.bind_some]
  · have d1 : nI (b (2 * k + 1)) ≤ nI (b (2 * k)) := yle (by omega)
    by_cases c2 : b (2 * c) < b (2 * c + 1)
    · have d2 : ¬ nI (b (2 * c + 1)) ≤ nI (b (2 * c)) := nle c2
      have c4 : ¬ 1000 - b (2 * k + 1) < b (2 * c) := by omega
      simp only [d1, d2, c1, c2, c4, i01, ↓reduceIte, true_or, Option.bind_some]
    · have d2 : nI (b (2 * c + 1)) ≤ nI (b (2 * c)) := yle (by omega)
      by_cases c3 : b (2 * k + 1) ≤ b (2 * c + 1)
      · have d3 : nI (b (2 * k + 1)) ≤ nI (b (2 * c + 1)) := yle c3
        have c4 : ¬ 1000 - b (2 * k + 1) < 1000 - b (2 * c + 1) := by omega
        simp only [d1, d2, d3, c1, c2, c4, ↓reduceIte, Option.bind_some]
      · have d3 : ¬ nI (b (2 * k + 1)) ≤ nI (b (2 * c + 1)) := nle (by omega)
        have c4 : 1000 - b (2 * k + 1) < 1000 - b (2 * c + 1) := by omega
        simp only [d1, d2, d3, c1, c2, c4, ↓reduceIte, Option.bind_some]
theorem x_next (h : XB S (2 * n) b) (hn : n ≤ 8) {x : Int32} (hex : ∃ k, k < n ∧ bt x k = false) : ∃ k, k < n ∧ bt x k = false ∧ f_Rows_nextToSpin S x (nI n) = some (nI k) ∧ ∀ j, j < n → bt x j = false → key b k ≤ key b j := by
  obtain ⟨F0, hF0⟩ : ∃ F, FU = F := ⟨_, rfl⟩
  have hF0' : 300 < F0 := by rw [← hF0]; exact FU_gt (by omega)
  have key' : ∀ m i F (c : Int32), i + m = n → m < F → ((c = -1 ∧ ∀ j, j < i → bt x j = true) ∨ ∃ k, k < i ∧ bt x k = false ∧ c = nI k ∧ ∀ j, j < i → bt x j = false → key b k ≤ key b j) → ∃ k, k < n ∧ bt x k = false ∧ f_Rows_nextToSpin_5 F S x (nI n) c (nI i) = some (nI k) ∧ ∀ j, j < n → bt x j = false → key b k ≤ key b j := by
    intro m
    induction m with
    | zero =>
      intro i F c hi hF hc
      obtain ⟨F, rfl⟩ : ∃ z, F = z + 1 := ⟨F - 1, by omega⟩
      have : i = n := by omega
      subst this
      rcases hc with ⟨e, hno⟩ | ⟨k, h1, h2, h3, h4⟩
      · obtain ⟨k, hk, hk2⟩ := hex
        rw [hno k hk] at hk2; cases hk2
      · exact ⟨k, h1, h2, by rw [f_Rows_nextToSpin_5, if_pos (yle (Nat.le_refl _)), h3], h4⟩
    | succ m ih =>
      intro i F c hi hF hc
      obtain ⟨F, rfl⟩ : ∃ z, F = z + 1 := ⟨F - 1, by omega⟩
      have e34 : f_Rows_nextToSpin_34 (f_Rows_nextToSpin_5 F) S x (nI n) (nI i) = f_Rows_nextToSpin_5 F S x (nI n) (nI i) (nI (i + 1)) := by
        unfold f_Rows_nextToSpin_34 f_Rows_nextToSpin_37
        rw [Option.bind_some, nI_1]
      have e37 : ∀ c, f_Rows_nextToSpin_37 (f_Rows_nextToSpin_5 F) S x (nI n) c (nI i) = f_Rows_nextToSpin_5 F S x (nI n) c (nI (i + 1)) := fun c => by
        unfold f_Rows_nextToSpin_37
        rw [Option.bind_some, nI_1]
      rw [f_Rows_nextToSpin_5, if_neg (nle (by omega)), e34]
      cases hb : bt x i with
      | true =>
        rw [if_neg (fun z => by rw [(bt1 (by omega)).mp z] at hb; cases hb), e37]
        refine ih (i + 1) F c (by omega) (by omega) ?_
        rcases hc with ⟨e, hno⟩ | ⟨k, h1, h2, h3, h4⟩
        · refine Or.inl ⟨e, fun j hj => ?_⟩
          by_cases q : j = i
          · rw [q]; exact hb
          · exact hno j (by omega)
        · refine Or.inr ⟨k, by omega, h2, h3, fun j hj hj2 => ?_⟩
          by_cases q : j = i
          · rw [q, hb] at hj2; cases hj2
          · exact h4 j (by omega) hj2
      | false =>
        rw [if_pos ((bt1 (by omega)).mpr hb)]
        rcases hc with ⟨e, hno⟩ | ⟨k, h1, h2, h3, h4⟩
        · rw [e, if_pos (by decide)]
          refine ih (i + 1) F _ (by omega) (by omega) (Or.inr ⟨i, by omega, hb, rfl, fun j hj hj2 => ?_⟩)
          by_cases q : j = i
          · rw [q]; exact Nat.le_refl _
          · rw [hno j (by omega)] at hj2; cases hj2
        · rw [h3, if_neg (nI_lt0 (by omega)), x_ahead h hn (by omega) (by omega), Option.bind_some, e37]
          by_cases q : key b i < key b k
          · rw [if_pos q, if_neg i10]
            refine ih (i + 1) F _ (by omega) (by omega) (Or.inr ⟨i, by omega, hb, rfl, fun j hj hj2 => ?_⟩)
            by_cases q2 : j = i
            · rw [q2]; exact Nat.le_refl _
            · have := h4 j (by omega) hj2; omega
          · rw [if_neg q, if_pos rfl]
            refine ih (i + 1) F _ (by omega) (by omega) (Or.inr ⟨k, by omega, h2, rfl, fun j hj hj2 => ?_⟩)
            by_cases q2 : j = i
            · rw [q2]; omega
            · exact h4 j (by omega) hj2
  unfold f_Rows_nextToSpin
  rw [Option.bind_some, Option.bind_some, hF0]
  exact key' n 0 F0 (-1) (by omega) (by omega) (Or.inl ⟨rfl, fun j hj => by omega⟩)
/-- what the class finds: the least that any order of the rest comes to -/
def best (b : Nat → Nat) (U : Nat → Bool) (x y v : Nat) : Prop := (∀ l, isL U l → v ≤ jr b l x y) ∧ ∃ l, isL U l ∧ jr b l x y = v
theorem best_step {k x y v : Nat} {U : Nat → Bool} (hb : ∀ i, i < 2 * n → b i < 256) (hU : ∀ j, U j = true → j < n) (hk : U k = true) (hmin : ∀ j, U j = true → key b k ≤ key b j) (h : best b (del U k) (x + b (2 * k)) (max (x + b (2 * k)) y + b (2 * k + 1)) v) : best b U x y v := by
  obtain ⟨h1, l0, ⟨n0, m0⟩, e0⟩ := h
  refine ⟨fun l ⟨hn, hm⟩ => ?_, k :: l0, ⟨?_, fun j => ?_⟩, e0⟩
  · obtain ⟨pre, post, rfl⟩ := List.append_of_mem ((hm k).mpr hk)
    have nd := List.nodup_append.mp hn
    have nd2 := List.nodup_cons.mp nd.2.1
    have kpre : k ∉ pre := fun z => nd.2.2 k z k (List.mem_cons_self ..) rfl
    refine Nat.le_trans (h1 (pre ++ post) ⟨List.nodup_append.mpr ⟨nd.1, nd2.2, fun a ha c hc => nd.2.2 a ha c (List.mem_cons_of_mem _ hc)⟩, fun j => ?_⟩) (jr_front hb (hU k hk) pre post x y (fun j hj => ?_))
    · unfold del
      have hj := hm j
      rw [List.mem_append, List.mem_cons] at hj
      rw [List.mem_append]
      by_cases e : j = k
      · subst e
        rw [if_pos rfl]
        exact ⟨fun z => z.elim (fun q => absurd q kpre) (fun q => absurd q nd2.1), fun z => by cases z⟩
      · rw [if_neg e, ← hj]
        exact ⟨fun z => z.elim Or.inl (fun q => Or.inr (Or.inr q)), fun z => z.elim Or.inl (fun q => q.elim (fun r => absurd r e) Or.inr)⟩
    · have uj : U j = true := (hm j).mp (List.mem_append.mpr (Or.inl hj))
      exact ⟨hU j uj, hmin j uj⟩
  · refine List.nodup_cons.mpr ⟨fun z => ?_, n0⟩
    have := (m0 k).mp z
    unfold del at this
    rw [if_pos rfl] at this
    cases this
  · rw [List.mem_cons, m0]
    unfold del
    by_cases e : j = k
    · rw [e, if_pos rfl]; exact ⟨fun _ => hk, fun _ => Or.inl rfl⟩
    · rw [if_neg e]; exact ⟨fun z => z.elim (fun q => absurd q e) id, Or.inr⟩
def unS (n : Nat) (x : Int32) (k : Nat) : Bool := decide (k < n) && !(bt x k)
theorem x_35 (h : XB S (2 * n) b) (hn : n ≤ 8) : ∀ m i F (x y : Nat) (z : Int32), i + m = n → m < F → fb_ct (unS n z) n = m → x ≤ 256 * i → y ≤ 512 * i → ∃ v, v ≤ 5000 ∧ f_Rows_hoursBehind_35 F S (nI n) (nI x) (nI y) z (nI i) = some (nI v) ∧ best b (unS n z) x y v := by
  intro m
  induction m with
  | zero =>
    intro i F x y z hi hF hc hx hy
    obtain ⟨F, rfl⟩ : ∃ v, F = v + 1 := ⟨F - 1, by omega⟩
    have none : ∀ k, ¬ unS n z k = true := fun k hk => by
      have kn : k < n := by
        unfold unS at hk
        rw [Bool.and_eq_true, decide_eq_true_eq] at hk
        exact hk.1
      have := fb_ct_zero.mp hc k kn
      rw [this] at hk; cases hk
    refine ⟨y, by omega, ?_, fun l hl => ?_, [], ⟨List.nodup_nil, fun k => ⟨fun q => absurd q List.not_mem_nil, fun q => absurd q (none k)⟩⟩, rfl⟩
    · rw [f_Rows_hoursBehind_35, if_pos (yle (by omega))]
    · cases l with
      | nil => exact Nat.le_refl _
      | cons a l => exact absurd ((hl.2 a).mp (List.mem_cons_self ..)) (none a)
  | succ m ih =>
    intro i F x y z hi hF hc hx hy
    obtain ⟨F, rfl⟩ : ∃ v, F = v + 1 := ⟨F - 1, by omega⟩
    have hex : ∃ k, k < n ∧ bt z k = false := by
      obtain ⟨k, h1, h2⟩ := fb_ct_pos.mp (show 0 < fb_ct (unS n z) n by omega)
      unfold unS at h2
      rw [Bool.and_eq_true, Bool.not_eq_true'] at h2
      exact ⟨k, h1, h2.2⟩
    obtain ⟨k, k1, k2, k3, k4⟩ := x_next h hn hex
    have a1 := (h.2.2 (2 * k) (by omega)).2
    have a2 := (h.2.2 (2 * k + 1) (by omega)).2
    have uk : unS n z k = true := by unfold unS; rw [k2, decide_eq_true k1]; rfl
    have ud : del (unS n z) k = unS n (z ||| jshl 1 (nI k)) := by
      funext j
      unfold del unS
      by_cases e : j = k
      · rw [if_pos e, e, bt_on (by omega) (by omega), if_pos rfl, Bool.not_true, Bool.and_false]
      · rw [if_neg e]
        by_cases jn : j < n
        · rw [bt_on (by omega) (by omega), if_neg e]
        · rw [decide_eq_false jn, Bool.false_and, Bool.false_and]
    have hc2 : fb_ct (unS n (z ||| jshl 1 (nI k))) n = m := by rw [← ud]; exact del_size k1 uk hc
    obtain ⟨v, v1, v2, v3⟩ := ih (i + 1) F (x + b (2 * k)) (max (x + b (2 * k)) y + b (2 * k + 1)) (z ||| jshl 1 (nI k)) (by omega) (by omega) hc2 (by omega) (by omega)
    refine ⟨v, v1, ?_, ?_⟩
    · rw [f_Rows_hoursBehind_35, if_neg (nle (by omega)), k3, Option.bind_some, Option.bind_some, m2, h.at (by omega), Option.bind_some, Option.bind_some, nI_1, h.at (by omega), Option.bind_some, nI_add, jmax_n (by omega) (by omega), nI_add, Option.bind_some, nI_1, Option.bind_some]
      exact v2
    · rw [← ud] at v3
      exact best_step (n := n) (fun i hi => (h.2.2 i hi).2) (fun j hj => by
        unfold unS at hj
        rw [Bool.and_eq_true, decide_eq_true_eq] at hj
        exact hj.1) uk (fun j hj => by
        unfold unS at hj
        rw [Bool.and_eq_true, decide_eq_true_eq, Bool.not_eq_true'] at hj
        exact k4 j hj.1 hj.2) v3
def rest (n f : Nat) (k : Nat) : Bool := decide (k < n) && !(decide (k = f))
theorem x_behind (h : XB S (2 * n) b) (hn : n ≤ 8) {f : Nat} (hf : f < n) : ∃ v, v ≤ 5000 ∧ f_Rows_hoursBehind S (nI f) (nI n) = some (nI v) ∧ best b (rest n f) (b (2 * f)) (b (2 * f) + b (2 * f + 1)) v := by
  obtain ⟨F0, hF0⟩ : ∃ F, FU = F := ⟨_, rfl⟩
  have hF0' : 300 < F0 := by rw [← hF0]; exact FU_gt (by omega)
  have a1 := (h.2.2 (2 * f) (by omega)).2
  have a2 := (h.2.2 (2 * f + 1) (by omega)).2
  have er : unS n (jshl 1 (nI f)) = rest n f := by
    funext k
    unfold unS rest
    by_cases c : k < n
    · rw [bt_shl1 (by omega) (by omega)]
    · rw [decide_eq_false c, Bool.false_and, Bool.false_and]
  have hc : fb_ct (unS n (jshl 1 (nI f))) n = n - 1 := by
    rw [er]
    have hall : fb_ct (fun k => decide (k < n)) n = n := fb_ct_all.mpr (fun k hk => decide_eq_true hk)
    have : fb_ct (del (fun k => decide (k < n)) f) n = n - 1 := del_size hf (decide_eq_true hf) (by omega)
    rw [← this]
    apply fb_ct_cong
    intro k hk
    unfold rest del
    by_cases e : k = f
    · rw [if_pos e, decide_eq_true e, Bool.not_true, Bool.and_false]
    · rw [if_neg e, decide_eq_false e, Bool.not_false, Bool.and_true]
  obtain ⟨v, v1, v2, v3⟩ := x_35 h hn (n - 1) 1 F0 (b (2 * f)) (b (2 * f) + b (2 * f + 1)) (jshl 1 (nI f)) (by omega) (by omega) hc (by omega) (by omega)
  refine ⟨v, v1, ?_, by rw [← er]; exact v3⟩
  unfold f_Rows_hoursBehind
  rw [m2, h.at (by omega), Option.bind_some, nI_1, h.at (by omega), Option.bind_some, nI_add, Option.bind_some, Option.bind_some, Option.bind_some, hF0]
  exact v2
theorem x_bestFirst (h : XB S (2 * n) b) (hn : n ≤ 8) (h1 : 1 ≤ n) : ∃ (f : Nat) (H : Nat → Nat), f < n ∧ f_Rows_bestFirst S (nI n) = some (nI f) ∧ (∀ g, g < n → H g ≤ 5000 ∧ f_Rows_hoursBehind S (nI g) (nI n) = some (nI (H g)) ∧ best b (rest n g) (b (2 * g)) (b (2 * g) + b (2 * g + 1)) (H g)) ∧ (∀ g, g < n → H f ≤ H g) ∧ (∀ g, g < f → H f < H g) := by
  obtain ⟨F0, hF0⟩ : ∃ F, FU = F := ⟨_, rfl⟩
  have hF0' : 300 < F0 := by rw [← hF0]; exact FU_gt (by omega)
  have hH : ∀ g, ∃ v, g < n → v ≤ 5000 ∧ f_Rows_hoursBehind S (nI g) (nI n) = some (nI v) ∧ best b (rest n g) (b (2 * g)) (b (2 * g) + b (2 * g + 1)) v := fun g => by
    by_cases c : g < n
    · obtain ⟨v, v1, v2, v3⟩ := x_behind h hn c
      exact ⟨v, fun _ => ⟨v1, v2, v3⟩⟩
    · exact ⟨0, fun q => absurd q c⟩
  obtain ⟨H, hH⟩ : ∃ H : Nat → Nat, ∀ g, g < n → H g ≤ 5000 ∧ f_Rows_hoursBehind S (nI g) (nI n) = some (nI (H g)) ∧ best b (rest n g) (b (2 * g)) (b (2 * g) + b (2 * g + 1)) (H g) := ⟨fun g => Classical.choose (hH g), fun g hg => Classical.choose_spec (hH g) hg⟩
  have key' : ∀ m i F f, i + m = n → m < F → f < i → (∀ g, g < i → H f ≤ H g) → (∀ g, g < f → H f < H g) → ∃ f', f' < n ∧ f_Rows_bestFirst_12 F S (nI n) (nI f) (nI (H f)) (nI i) = some (nI f') ∧ (∀ g, g < n → H f' ≤ H g) ∧ (∀ g, g < f' → H f' < H g) := by
    intro m
    induction m with
    | zero =>
      intro i F f hi hF hf h2 h3
      obtain ⟨F, rfl⟩ : ∃ v, F = v + 1 := ⟨F - 1, by omega⟩
      have : i = n := by omega
      subst this
      exact ⟨f, hf, by rw [f_Rows_bestFirst_12, if_pos (yle (Nat.le_refl _))], h2, h3⟩
    | succ m ih =>
      intro i F f hi hF hf h2 h3
      obtain ⟨F, rfl⟩ : ∃ v, F = v + 1 := ⟨F - 1, by omega⟩
      obtain ⟨w1, w2, -⟩ := hH i (by omega)
      have wf := (hH f (by omega)).1
      rw [f_Rows_bestFirst_12, if_neg (nle (by omega)), w2, Option.bind_some]
      unfold f_Rows_bestFirst_39
      rw [Option.bind_some, nI_1, Option.bind_some]
      by_cases c : H f ≤ H i
      · rw [if_pos (yle c)]
        exact ih (i + 1) F f (by omega) (by omega) (by omega) (fun g hg => by
          by_cases e : g = i
          · rw [e]; exact c
          · exact h2 g (by omega)) h3
      · rw [if_neg (nle (by omega))]
        exact ih (i + 1) F i (by omega) (by omega) (by omega) (fun g hg => by
          by_cases e : g = i
          · rw [e]; exact Nat.le_refl _
          · have := h2 g (by omega); omega) (fun g hg => by have := h2 g hg; omega)
  obtain ⟨-, e0, -⟩ := hH 0 (by omega)
  obtain ⟨f, f1, f2, f3, f4⟩ := key' (n - 1) 1 F0 0 (by omega) (by omega) (by omega) (fun g hg => by rw [show g = 0 by omega]; exact Nat.le_refl _) (fun g hg => by omega)
  refine ⟨f, H, f1, ?_, hH, f3, f4⟩
  unfold f_Rows_bestFirst
  rw [Option.bind_some, show f_Rows_hoursBehind S 0 (nI n) = some (nI (H 0)) from e0, Option.bind_some, Option.bind_some, hF0]
  exact f2
end SP
