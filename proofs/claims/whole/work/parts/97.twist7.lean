section TH
variable {st t : Nat} {S T : St} {c : Nat → Nat}
def homE (s : Nat → Nat) (st k : Nat) : Prop := ∀ a, a < st → itr s k a = a
theorem hom_least {s : Nat → Nat} (hs : ∀ a d, s a = s d → a = d) (hl : ∀ a, a < st → s a < st) (h8 : st ≤ 8) : ∃ K, 1 ≤ K ∧ K ≤ 15 ∧ homE s st K ∧ ∀ k, 1 ≤ k → k < K → ¬ homE s st k := by
  have key' : ∀ n, (∃ k, 1 ≤ k ∧ k ≤ n ∧ homE s st k) → ∃ K, 1 ≤ K ∧ K ≤ n ∧ homE s st K ∧ ∀ k, 1 ≤ k → k < K → ¬ homE s st k := by
    intro n
    induction n with
    | zero => intro ⟨k, h1, h2, _⟩; omega
    | succ n ih =>
      intro ⟨k, h1, h2, h3⟩
      by_cases q : ∃ k, 1 ≤ k ∧ k ≤ n ∧ homE s st k
      · obtain ⟨K, g1, g2, g3⟩ := ih q
        exact ⟨K, g1, by omega, g3⟩
      · have : k = n + 1 := by
          apply Classical.byContradiction
          intro hx
          exact q ⟨k, h1, by omega, h3⟩
        subst this
        exact ⟨n + 1, h1, Nat.le_refl _, h3, fun k k1 k2 k3 => q ⟨k, k1, by omega, k3⟩⟩
  exact key' 15 (ord15 hs hl h8)
theorem x_48 (h : TWR st S T t 0) (h8 : st ≤ 8) (hc : CD st t S T c) {k : Nat} {l2 : Int32} (G : St → Int32 → Int32 → Int32 → Option (Int32 × St)) : ∀ m i F (S1 : St) (l3 : Int32), i + m = st → m < F → (∀ r j, r ≠ 48 → S1 r j = S r j) → (∀ a, a < i → S1 48 a = nI (itr (tP c t) (k + 1) a)) → (∀ a, i ≤ a → a < st → S1 48 a = nI (itr (tP c t) k a)) → ((l3 = 1 ∧ ∀ a, a < i → itr (tP c t) (k + 1) a = a) ∨ (l3 = 0 ∧ ¬ ∀ a, a < i → itr (tP c t) (k + 1) a = a)) → ∃ S2 l, f_Twist_timesTillHome_48 G F S1 (nI st) l2 l3 (nI i) = G S2 (nI st) l2 l ∧ (∀ r j, r ≠ 48 → S2 r j = S r j) ∧ (∀ a, a < st → S2 48 a = nI (itr (tP c t) (k + 1) a)) ∧ ((l = 1 ∧ homE (tP c t) st (k + 1)) ∨ (l = 0 ∧ ¬ homE (tP c t) st (k + 1))) := by
  have hl : ∀ a, a < st → tP c t a < st := fun a ha => tP_lt hc t (Nat.le_refl _) a ha
  intro m
  induction m with
  | zero =>
    intro i F S1 l3 hi hF hS h1 h2 h3
    obtain ⟨F, rfl⟩ : ∃ v, F = v + 1 := ⟨F - 1, by omega⟩
    have : i = st := by omega
    subst this
    exact ⟨S1, l3, by rw [f_Twist_timesTillHome_48, if_pos (yle (Nat.le_refl _))]; rfl, hS, h1, h3⟩
  | succ m ih =>
    intro i F S1 l3 hi hF hS h1 h2 h3
    obtain ⟨F, rfl⟩ : ∃ v, F = v + 1 := ⟨F - 1, by omega⟩
    have c1 : (nI i).toNatClampNeg = i := cl
    have gi : ig (nI i) 8 = true := gn (by omega) (by omega)
    have il := itr_lt hl k i (by omega)
    have il1 := itr_lt hl (k + 1) i (by omega)
    obtain ⟨S2, hS2⟩ : ∃ S2, sF S1 48 i (nI (itr (tP c t) (k + 1) i)) = S2 := ⟨_, rfl⟩
    have s48 : S2 48 i = nI (itr (tP c t) (k + 1) i) := by rw [← hS2, sF_at]
    have nx := fun l => ih (i + 1) F S2 l (by omega) (by omega) (fun r j hr => by rw [← hS2, sF_ne (Or.inl hr)]; exact hS r j hr) (fun a ha => by
      by_cases e : a = i
      · rw [e]; exact s48
      · rw [← hS2, sF_ne (Or.inr e)]; exact h1 a (by omega)) (fun a ha ha' => by rw [← hS2, sF_ne (Or.inr (by omega))]; exact h2 a (by omega) ha')
    rw [f_Twist_timesTillHome_48, if_neg (nle (by omega)), if_neg (show ¬ (8 : Int32) ≤ nI i from nle (b := 8) (by omega)), if_pos gi, c1, h2 i (Nat.le_refl _) (by omega), x_out h h8 hc il hS, Option.bind_some, if_pos gi, show tP c t (itr (tP c t) k i) = itr (tP c t) (k + 1) i from rfl, hS2, Option.bind_some]
    unfold f_Twist_timesTillHome_99 f_Twist_timesTillHome_100
    rw [show nI i + 1 = nI (i + 1) from nI_add i 1, Option.bind_some, Option.bind_some]
    rcases h3 with ⟨l1, ho⟩ | ⟨l0, ho⟩
    · rw [l1, if_neg i10, if_pos gi, s48]
      by_cases e : itr (tP c t) (k + 1) i = i
      · rw [if_pos (by rw [e])]
        exact nx 1 (Or.inl ⟨rfl, fun a ha => by
          by_cases e' : a = i
          · rw [e']; exact e
          · exact ho a (by omega)⟩)
      · rw [if_neg (nI_k _ (by omega) (by omega) e)]
        exact nx 0 (Or.inr ⟨rfl, fun z => e (z i (by omega))⟩)
    · rw [l0, if_pos rfl]
      exact nx 0 (Or.inr ⟨rfl, fun z => ho (fun a ha => z a (by omega))⟩)
theorem x_home (h : TWR st S T t 0) (h8 : st ≤ 8) (hc : CD st t S T c) {K : Nat} (k1 : 1 ≤ K) (k15 : K ≤ 15) (hK : homE (tP c t) st K) (hm : ∀ k, 1 ≤ k → k < K → ¬ homE (tP c t) st k) : ∃ S', f_Twist_timesTillHome S (nI st) = some (nI K, S') ∧ ∀ r j, r ≠ 48 → S' r j = S r j := by
  obtain ⟨F0, hF0⟩ : ∃ F, FU = F := ⟨_, rfl⟩
  have hF0' : 300 < F0 := by rw [← hF0]; exact FU_gt (by omega)
  have k30 : ∀ m k F (S1 : St) (l3 : Int32), k + m = K → m < F → (∀ r j, r ≠ 48 → S1 r j = S r j) → (∀ a, a < st → S1 48 a = nI (itr (tP c t) k a)) → ((l3 = 1 ∧ 0 < k ∧ homE (tP c t) st k) ∨ (l3 = 0 ∧ (k = 0 ∨ ¬ homE (tP c t) st k))) → ∃ S', f_Twist_timesTillHome_30 F S1 (nI st) (nI k) l3 = some (nI K, S') ∧ ∀ r j, r ≠ 48 → S' r j = S r j := by
    intro m
    induction m with
    | zero =>
      intro k F S1 l3 hk hF hS h1 h3
      obtain ⟨F, rfl⟩ : ∃ v, F = v + 1 := ⟨F - 1, by omega⟩
      have : k = K := by omega
      subst this
      have l1 : l3 = 1 := by
        rcases h3 with ⟨l1, -⟩ | ⟨-, l0⟩
        · exact l1
        · rcases l0 with z | z
          · omega
          · exact absurd hK z
      refine ⟨S1, ?_, hS⟩
      rw [f_Twist_timesTillHome_30, l1, if_neg i10]
      by_cases e : (15 : Int32) ≤ nI k
      · rw [if_pos e]
      · rw [if_neg e]
    | succ m ih =>
      intro k F S1 l3 hk hF hS h1 h3
      obtain ⟨F, rfl⟩ : ∃ v, F = v + 1 := ⟨F - 1, by omega⟩
      have l0 : l3 = 0 := by
        rcases h3 with ⟨-, l1, l2⟩ | ⟨l0, -⟩
        · exact absurd l2 (hm k l1 (by omega))
        · exact l0
      obtain ⟨S2, l, g1, g2, g3, g4⟩ := x_48 h h8 hc (k := k) (l2 := nI (k + 1)) (f_Twist_timesTillHome_30 F) st 0 F0 S1 1 (by omega) (by omega) hS (fun a ha => by omega) (fun a _ ha => h1 a ha) (Or.inl ⟨rfl, fun a ha => by omega⟩)
      obtain ⟨S', e1, e2⟩ := ih (k + 1) F S2 l (by omega) (by omega) g2 g3 (by
        rcases g4 with ⟨q1, q2⟩ | ⟨q1, q2⟩
        · exact Or.inl ⟨q1, by omega, q2⟩
        · exact Or.inr ⟨q1, Or.inr q2⟩)
      refine ⟨S', ?_, e2⟩
      rw [f_Twist_timesTillHome_30, l0, if_neg (show ¬ (15 : Int32) ≤ nI k from nle (b := 15) (by omega)), if_pos rfl, nI_1, Option.bind_some, Option.bind_some, Option.bind_some, hF0]
      exact g1.trans e1
  have k2 : ∀ m i F (S1 : St), i + m = st → m < F → (∀ r j, r ≠ 48 → S1 r j = S r j) → (∀ a, a < i → S1 48 a = nI a) → ∃ S', f_Twist_timesTillHome_2 F S1 (nI st) (nI i) = some (nI K, S') ∧ ∀ r j, r ≠ 48 → S' r j = S r j := by
    intro m
    induction m with
    | zero =>
      intro i F S1 hi hF hS h1
      obtain ⟨F, rfl⟩ : ∃ v, F = v + 1 := ⟨F - 1, by omega⟩
      have : i = st := by omega
      subst this
      rw [f_Twist_timesTillHome_2, if_pos (yle (Nat.le_refl _))]
      unfold f_Twist_timesTillHome_26
      rw [Option.bind_some, Option.bind_some, hF0]
      exact k30 K 0 F0 S1 0 (by omega) (by omega) hS h1 (Or.inr ⟨rfl, Or.inl rfl⟩)
    | succ m ih =>
      intro i F S1 hi hF hS h1
      obtain ⟨F, rfl⟩ : ∃ v, F = v + 1 := ⟨F - 1, by omega⟩
      have c1 : (nI i).toNatClampNeg = i := cl
      rw [f_Twist_timesTillHome_2, if_neg (nle (by omega)), if_neg (show ¬ (8 : Int32) ≤ nI i from nle (b := 8) (by omega)), if_pos (gn (by omega) (by omega)), c1, nI_1, Option.bind_some, Option.bind_some]
      refine ih (i + 1) F _ (by omega) (by omega) (fun r j hr => by rw [sF_ne (Or.inl hr)]; exact hS r j hr) (fun a ha => ?_)
      by_cases e : a = i
      · rw [e, sF_at]
      · rw [sF_ne (Or.inr e)]; exact h1 a (by omega)
  unfold f_Twist_timesTillHome
  rw [Option.bind_some, hF0]
  exact k2 st 0 F0 S (by omega) (by omega) (fun _ _ _ => rfl) (fun a ha => by omega)
theorem ST30.cong {T' : St} {i : Nat} {R : Nat → Nat} (h : ST30 T st c i R) (he : ∀ r j, r ≠ 31 → T' r j = T r j) : ST30 T' st c i R := ⟨fun k hk => by rw [he 30 k (by omega)]; exact h.1 k hk, h.2⟩
theorem m_home (h8 : st ≤ 8) {R : Nat → Nat} (hc : CD st t S T c) {T : St} (hR : ST30 T st c t R) {K : Nat} (k1 : 1 ≤ K) (k15 : K ≤ 15) (hK : homE (tP c t) st K) (hm : ∀ k, 1 ≤ k → k < K → ¬ homE (tP c t) st k) : ∃ T', f_Mo_oftenTill T (nI st) = some (nI K, T') ∧ ∀ r j, r ≠ 31 → T' r j = T r j := by
  have hl : ∀ a, a < st → tP c t a < st := fun a ha => tP_lt hc t (Nat.le_refl _) a ha
  obtain ⟨F0, hF0⟩ : ∃ F, FU = F := ⟨_, rfl⟩
  have hF0' : 300 < F0 := by rw [← hF0]; exact FU_gt (by omega)
  have aH : ∀ k (T1 : St), (∀ a, a < st → T1 31 a = nI (itr (tP c t) k a)) → ∀ m i F, i + m = st → m < F → (∀ a, a < i → itr (tP c t) k a = a) → ∃ l, f_Mo_areHome_2 F T1 (nI st) (nI i) = some l ∧ ((l = 1 ∧ homE (tP c t) st k) ∨ (l = 0 ∧ ¬ homE (tP c t) st k)) := by
    intro k T1 h1 m
    induction m with
    | zero =>
      intro i F hi hF hh
      obtain ⟨F, rfl⟩ : ∃ v, F = v + 1 := ⟨F - 1, by omega⟩
      have : i = st := by omega
      subst this
      exact ⟨1, by rw [f_Mo_areHome_2, if_pos (yle (Nat.le_refl _))], Or.inl ⟨rfl, hh⟩⟩
    | succ m ih =>
      intro i F hi hF hh
      obtain ⟨F, rfl⟩ : ∃ v, F = v + 1 := ⟨F - 1, by omega⟩
      have c1 : (nI i).toNatClampNeg = i := cl
      have il := itr_lt hl k i (by omega)
      rw [f_Mo_areHome_2, if_neg (nle (by omega)), if_pos (gn (by omega) (by omega)), c1, h1 i (by omega)]
      by_cases e : itr (tP c t) k i = i
      · rw [if_pos (by rw [e]), nI_1, Option.bind_some]
        exact ih (i + 1) F (by omega) (by omega) (fun a ha => by
          by_cases e' : a = i
          · rw [e']; exact e
          · exact hh a (by omega))
      · rw [if_neg (nI_k _ (by omega) (by omega) e)]
        exact ⟨0, rfl, Or.inr ⟨rfl, fun z => e (z i (by omega))⟩⟩
  have k36 : ∀ (G : St → Int32 → Int32 → Option (Int32 × St)) k m i F (T1 : St), i + m = st → m < F → (∀ r j, r ≠ 31 → T1 r j = T r j) → (∀ a, a < i → T1 31 a = nI (itr (tP c t) (k + 1) a)) → (∀ a, i ≤ a → a < st → T1 31 a = nI (itr (tP c t) k a)) → ∃ T2, f_Mo_oftenTill_36 G F T1 (nI st) (nI k) (nI i) = G T2 (nI st) (nI (k + 1)) ∧ (∀ r j, r ≠ 31 → T2 r j = T r j) ∧ ∀ a, a < st → T2 31 a = nI (itr (tP c t) (k + 1) a) := by
    intro G k m
    induction m with
    | zero =>
      intro i F T1 hi hF hS h1 h2
      obtain ⟨F, rfl⟩ : ∃ v, F = v + 1 := ⟨F - 1, by omega⟩
      have : i = st := by omega
      subst this
      exact ⟨T1, by rw [f_Mo_oftenTill_36, if_pos (yle (Nat.le_refl _)), nI_1, Option.bind_some], hS, h1⟩
    | succ m ih =>
      intro i F T1 hi hF hS h1 h2
      obtain ⟨F, rfl⟩ : ∃ v, F = v + 1 := ⟨F - 1, by omega⟩
      have c1 : (nI i).toNatClampNeg = i := cl
      have gi : ig (nI i) 8 = true := gn (by omega) (by omega)
      have il := itr_lt hl k i (by omega)
      rw [f_Mo_oftenTill_36, if_neg (nle (by omega)), if_pos gi, c1, h2 i (Nat.le_refl _) (by omega), m_out h8 (hR.cong hS) il (hl _ il), Option.bind_some, if_pos gi, nI_1, Option.bind_some, Option.bind_some]
      refine ih (i + 1) F _ (by omega) (by omega) (fun r j hr => by rw [sF_ne (Or.inl hr)]; exact hS r j hr) (fun a ha => ?_) (fun a ha ha' => by rw [sF_ne (Or.inr (by omega))]; exact h2 a (by omega) ha')
      by_cases e : a = i
      · rw [e, sF_at]; rfl
      · rw [sF_ne (Or.inr e)]; exact h1 a (by omega)
  have k26 : ∀ m k F (T1 : St), k + m = K → 1 ≤ k → m < F → (∀ r j, r ≠ 31 → T1 r j = T r j) → (∀ a, a < st → T1 31 a = nI (itr (tP c t) k a)) → ∃ T', f_Mo_oftenTill_26 F T1 (nI st) (nI k) = some (nI K, T') ∧ ∀ r j, r ≠ 31 → T' r j = T r j := by
    intro m
    induction m with
    | zero =>
      intro k F T1 hk hk1 hF hS h1
      obtain ⟨F, rfl⟩ : ∃ v, F = v + 1 := ⟨F - 1, by omega⟩
      have : k = K := by omega
      subst this
      obtain ⟨l, g1, g2⟩ := aH k T1 h1 st 0 F0 (by omega) (by omega) (fun a ha => by omega)
      have l1 : l = 1 := by
        rcases g2 with ⟨l1, -⟩ | ⟨-, l0⟩
        · exact l1
        · exact absurd hK l0
      refine ⟨T1, ?_, hS⟩
      rw [f_Mo_oftenTill_26]
      unfold f_Mo_areHome
      rw [Option.bind_some, hF0]
      have g1' : f_Mo_areHome_2 F0 T1 (nI st) 0 = some l := g1
      rw [g1', Option.bind_some, l1, if_neg i10]
    | succ m ih =>
      intro k F T1 hk hk1 hF hS h1
      obtain ⟨F, rfl⟩ : ∃ v, F = v + 1 := ⟨F - 1, by omega⟩
      obtain ⟨l, g1, g2⟩ := aH k T1 h1 st 0 F0 (by omega) (by omega) (fun a ha => by omega)
      have l0 : l = 0 := by
        rcases g2 with ⟨-, l1⟩ | ⟨l0, -⟩
        · exact absurd l1 (hm k hk1 (by omega))
        · exact l0
      obtain ⟨T2, e1, e2, e3⟩ := k36 (f_Mo_oftenTill_26 F) k st 0 F0 T1 (by omega) (by omega) hS (fun a ha => by omega) (fun a _ ha => h1 a ha)
      obtain ⟨T', w1, w2⟩ := ih (k + 1) F T2 (by omega) (by omega) (by omega) e2 e3
      refine ⟨T', ?_, w2⟩
      rw [f_Mo_oftenTill_26]
      unfold f_Mo_areHome
      rw [Option.bind_some, hF0]
      have g1' : f_Mo_areHome_2 F0 T1 (nI st) 0 = some l := g1
      rw [g1', Option.bind_some, l0, if_pos rfl, Option.bind_some]
      exact e1.trans w1
  have k2 : ∀ m i F (T1 : St), i + m = st → m < F → (∀ r j, r ≠ 31 → T1 r j = T r j) → (∀ a, a < i → T1 31 a = nI (tP c t a)) → ∃ T', f_Mo_oftenTill_2 F T1 (nI st) (nI i) = some (nI K, T') ∧ ∀ r j, r ≠ 31 → T' r j = T r j := by
    intro m
    induction m with
    | zero =>
      intro i F T1 hi hF hS h1
      obtain ⟨F, rfl⟩ : ∃ v, F = v + 1 := ⟨F - 1, by omega⟩
      have : i = st := by omega
      subst this
      rw [f_Mo_oftenTill_2, if_pos (yle (Nat.le_refl _)), Option.bind_some, hF0]
      exact k26 (K - 1) 1 F0 T1 (by omega) (by omega) (by omega) hS h1
    | succ m ih =>
      intro i F T1 hi hF hS h1
      obtain ⟨F, rfl⟩ : ∃ v, F = v + 1 := ⟨F - 1, by omega⟩
      have c1 : (nI i).toNatClampNeg = i := cl
      rw [f_Mo_oftenTill_2, if_neg (nle (by omega)), m_out h8 (hR.cong hS) (show i < st by omega) (hl _ (by omega)), Option.bind_some, if_pos (gn (by omega) (by omega)), c1, nI_1, Option.bind_some, Option.bind_some]
      refine ih (i + 1) F _ (by omega) (by omega) (fun r j hr => by rw [sF_ne (Or.inl hr)]; exact hS r j hr) (fun a ha => ?_)
      by_cases e : a = i
      · rw [e, sF_at]
      · rw [sF_ne (Or.inr e)]; exact h1 a (by omega)
  unfold f_Mo_oftenTill
  rw [Option.bind_some, hF0]
  exact k2 st 0 F0 T (by omega) (by omega) (fun _ _ _ => rfl) (fun a ha => by omega)
end TH
