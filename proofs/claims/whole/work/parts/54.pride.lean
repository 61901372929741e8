theorem wi_y {S : St} {x a b : Int32} (h1 : ¬ x < a) (h2 : ¬ b < x) : f_W_within S x a b = some 1 := by unfold f_W_within; rw [if_neg h1, if_neg h2]
theorem wi_n {S : St} {x a b : Int32} (h : x < a ∨ b < x) : f_W_within S x a b = some 0 := by
  unfold f_W_within
  by_cases h1 : x < a
  · rw [if_pos h1]
  · rw [if_neg h1, if_pos (h.resolve_left h1)]
theorem in_y {S : St} {x a b : Int32} (h1 : ¬ x < a) (h2 : ¬ b < x) : f_Mo_in S x a b = some 1 := by unfold f_Mo_in; rw [if_neg h1, if_neg h2]
theorem in_n {S : St} {x a b : Int32} (h : x < a ∨ b < x) : f_Mo_in S x a b = some 0 := by
  unfold f_Mo_in
  by_cases h1 : x < a
  · rw [if_pos h1]
  · rw [if_neg h1, if_pos (h.resolve_left h1)]
theorem b0_ {α : Type} {f : Int32 → Option α} {a b : Option α} (h : ∀ v, f v = if v = 0 then a else b) : (some (0 : Int32)).bind f = a := by rw [Option.bind_some, h, if_pos rfl]
/-! PRIDE -/
def prX (L C : Int32 → Int32) (k : Nat) (a : Int32 × Int32) : Int32 × Int32 := if C (nI k) = 0 then a else if L (nI k) ≤ a.2 then a else (nI k, L (nI k))
def prM (L C : Int32 → Int32) (k : Nat) (a : Int32) : Int32 := if C (nI k) = 0 then a else if a = -2 then nI k else if L (nI k) ≤ L a then a else nI k
def prI (L : Int32 → Int32) (p : Int32 × Int32) (q : Int32) : Prop := p.1 = q ∧ ((p.2 = -1 ∧ q = -2) ∨ (p.2 = L q ∧ 0 ≤ q))
theorem pr_rel {L C : Int32 → Int32} (hL : ∀ x, 0 ≤ L x) (m : Nat) (hm : m < 1000) : prI L (foldN (prX L C) m 0 (-2, -1)) (foldN (prM L C) m 0 (-2)) := by
  refine foldN_rel (fun (_ : Nat) p q => prI L p q) m 0 _ _ ⟨rfl, Or.inl ⟨rfl, rfl⟩⟩ ?_
  intro k p q hk1 hk2 ⟨e1, e2⟩
  unfold prI prX prM
  by_cases c0 : C (nI k) = 0
  · rw [if_pos c0, if_pos c0]; exact ⟨e1, e2⟩
  rw [if_neg c0, if_neg c0]
  rcases e2 with ⟨e2, e3⟩ | ⟨e2, e3⟩
  · rw [if_pos e3, e2]
    have : ¬ L (nI k) ≤ -1 := fun z => by
      have h1 := (fa_le _ _).mp (hL (nI k))
      have h2 := (fa_le _ _).mp z
      have z0 : (0 : Int32).toInt = 0 := by decide
      have z1 : (-1 : Int32).toInt = -1 := by decide
      omega
    rw [if_neg this]
    exact ⟨rfl, Or.inr ⟨rfl, nI_pos' (by omega)⟩⟩
  · have : ¬ q = -2 := fun z => by rw [z] at e3; exact absurd e3 (by decide)
    rw [if_neg this, e2]
    by_cases c : L (nI k) ≤ L q
    · rw [if_pos c, if_pos c]; exact ⟨e1, Or.inr ⟨e2, e3⟩⟩
    · rw [if_neg c, if_neg c]; exact ⟨rfl, Or.inr ⟨rfl, nI_pos' (by omega)⟩⟩
theorem own_c {t : Nat} {wh r : Nat → Int32} (ht : t ≤ 24) (hw : ∀ k, k < t → ∃ a, a < 16 ∧ wh k = nI a) {i : Nat} (hi : i < 32) : bt (foldN (gOwn wh r) t 0 0) i = false ↔ foldN (gLeft wh r (nI i)) t 0 0 = 0 := by
  obtain ⟨s, h1, h2, h3⟩ := left_n (t := t) (wh := wh) (r := r) (nI i)
  have h4 := own_bt (r := r) hw hi
  rw [h2]
  have h5 : nI s = 0 ↔ s = 0 := ⟨fun e => nI_inj (b := 0) (by omega) (by omega) e, fun e => by rw [e]; rfl⟩
  rw [h5, h3]
  constructor
  · intro h k hk z
    rw [h4.mpr ⟨k, hk, z.1, z.2⟩] at h
    cases h
  · intro h
    cases hb : bt (foldN (gOwn wh r) t 0 0) i with
    | false => rfl
    | true =>
      obtain ⟨k, hk, z⟩ := h4.mp hb
      exact absurd z (h k hk)
theorem x_proud {S : St} {P t : Nat} {r wh wa : Nat → Int32} (h : NP S P t r wh wa) : f_Parish_proudest S P = some (foldN (prX (fun x => foldN (gDays wh r x) t 0 0) (fun x => foldN (gLeft wh r x) t 0 0)) 16 0 (-2, -1)).1 := by
  have key := loopN (fun n j (a : Int32 × Int32) => f_Parish_proudest_13 P n S (foldN (gOwn wh r) t 0 0) a.1 a.2 (nI j)) (fun a => some a.1) (prX (fun x => foldN (gDays wh r x) t 0 0) (fun x => foldN (gLeft wh r x) t 0 0)) 16 ?_ ?_ 16 FU 0 (-2, -1) (by omega) (FU_gt (by omega))
  · unfold f_Parish_proudest
    rw [x_ownersLeft h]
    exact key
  · intro n a
    show f_Parish_proudest_13 P (n + 1) S _ a.1 a.2 (nI 16) = _
    rw [f_Parish_proudest_13, if_pos y16]
  · intro n j a hj
    show f_Parish_proudest_13 P (n + 1) S _ a.1 a.2 (nI j) = f_Parish_proudest_13 P n S _ _ _ (nI (j + 1))
    rw [f_Parish_proudest_13, if_neg (n16 hj), x_putOffBy h]
    unfold f_Parish_proudest_49 prX
    simp only [Option.bind_some, nI_1]
    have hc := own_c (r := r) h.1 (fun k hk => (h.2.2.1 k hk).1) (show j < 32 by omega)
    by_cases c0 : foldN (gLeft wh r (nI j)) t 0 0 = 0
    · rw [if_pos ((bt1 (by omega)).mpr (hc.mpr c0)), if_pos c0]
    · rw [if_neg (fun z => c0 (hc.mp ((bt1 (by omega)).mp z))), if_neg c0]
      by_cases c : foldN (gDays wh r (nI j)) t 0 0 ≤ a.2
      · rw [if_pos c, if_pos c]
      · rw [if_neg c, if_neg c]
def finP (L : Int32 → Int32) (what best : Int32) : Option Int32 := if what = 0 then some best else if best = -2 then some 0 else some (L best)
theorem m_pride {M : St} {t : Nat} (h : NM M t) {F : Nat} (hF : 16 < F) (what : Int32) : f_Mo_pride_16 F M what (-2) 0 = finP (fun x => foldN (gDays (M 4) (M 1) x) t 0 0) what (foldN (prM (fun x => foldN (gDays (M 4) (M 1) x) t 0 0) (fun x => foldN (gLeft (M 4) (M 1) x) t 0 0)) 16 0 (-2)) := by
  have ht := h.2
  have key := loopN (fun n j (a : Int32) => f_Mo_pride_16 n M what a (nI j)) (fun a => finP (fun x => foldN (gDays (M 4) (M 1) x) t 0 0) what a) (prM (fun x => foldN (gDays (M 4) (M 1) x) t 0 0) (fun x => foldN (gLeft (M 4) (M 1) x) t 0 0)) 16 ?_ ?_ 16 F 0 (-2) (by omega) hF
  · exact key
  · intro n a
    show f_Mo_pride_16 (n + 1) M what a (nI 16) = _
    rw [f_Mo_pride_16, if_pos y16, m_daysOf h]
    rfl
  · intro n j a hj
    show f_Mo_pride_16 (n + 1) M what a (nI j) = f_Mo_pride_16 n M what _ (nI (j + 1))
    rw [f_Mo_pride_16, if_neg (n16 hj), m_leftOf h, m_daysOf h, m_daysOf h]
    unfold f_Mo_pride_51 f_Mo_pride_49 f_Mo_pride_51 prM
    obtain ⟨s, h1, h2, -⟩ := left_n (t := t) (wh := M 4) (r := M 1) (nI j)
    simp only [Option.bind_some, nI_1]
    by_cases c0 : foldN (gLeft (M 4) (M 1) (nI j)) t 0 0 = 0
    · rw [if_pos (show foldN (gLeft (M 4) (M 1) (nI j)) t 0 0 ≤ 0 by rw [c0]; decide), if_pos c0]
    · rw [if_neg (show ¬ foldN (gLeft (M 4) (M 1) (nI j)) t 0 0 ≤ 0 from fun z => by
        rw [h2] at z c0
        rcases Nat.eq_zero_or_pos s with q | q
        · exact c0 (by rw [q]; rfl)
        · exact nI_nle q (by omega) z), if_neg c0]
      by_cases c1 : a = -2
      · rw [if_pos c1, if_pos c1]
      · rw [if_neg c1, if_neg c1]
        by_cases c : foldN (gDays (M 4) (M 1) (nI j)) t 0 0 ≤ foldN (gDays (M 4) (M 1) a) t 0 0
        · rw [if_pos c, if_pos c]
        · rw [if_neg c, if_neg c]
theorem pd_m {M : St} {t : Nat} (h : NM M t) {a : Int32} (h1 : ¬ a < 0) (h2 : ¬ (1 : Int32) < a) : f_Mo_pride M a = finP (fun x => foldN (gDays (M 4) (M 1) x) t 0 0) a (foldN (prM (fun x => foldN (gDays (M 4) (M 1) x) t 0 0) (fun x => foldN (gLeft (M 4) (M 1) x) t 0 0)) 16 0 (-2)) := by
  obtain ⟨F, hF⟩ : ∃ F, FU = F := ⟨_, rfl⟩
  rw [← m_pride h (F := F) (by rw [← hF]; exact FU_gt (by omega))]
  unfold f_Mo_pride
  rw [in_y h1 h2, hF]
  rfl
theorem pd_m0 {M : St} {a : Int32} (h1 : a < 0 ∨ (1 : Int32) < a) : f_Mo_pride M a = some (-1) := by
  unfold f_Mo_pride
  rw [in_n h1]; rfl
theorem pd_x0 {S : St} {a : Int32} (h1 : a < 0 ∨ (1 : Int32) < a) : f_W_pride S a = some (-1) := by
  unfold f_W_pride
  rw [wi_n h1]; rfl
theorem pd_x {S : St} {t : Nat} {r wh wa : Nat → Int32} (h : NP S 4 t r wh wa) {a : Int32} (h1 : ¬ a < 0) (h2 : ¬ (1 : Int32) < a) {v : Int32} (hv : (foldN (prX (fun x => foldN (gDays wh r x) t 0 0) (fun x => foldN (gLeft wh r x) t 0 0)) 16 0 (-2, -1)).1 = v) : f_W_pride S a = if a = 0 then some v else if 0 ≤ v then some (foldN (gDays wh r v) t 0 0) else some 0 := by
  unfold f_W_pride
  rw [wi_y h1 h2, x_proud h, hv]
  simp only [Option.bind_some, i10, ↓reduceIte, x_putOffBy h]
section STP
variable {LR : St → St → Prop}
theorem st_pride (a : Int32) : STEP (RelL LR) m_W_pride m_Mo_pride 4 5 [a] := by
  intro Sx Sm hR
  obtain ⟨t, h, hm⟩ := hR.2.1.np
  have hrr := h.2.2.2.2
  have ht := h.1
  have rel : prI (fun x => foldN (gDays (Sm 4) (Sm 1) x) t 0 0) (foldN (prX (fun x => foldN (gDays (Sm 4) (Sm 1) x) t 0 0) (fun x => foldN (gLeft (Sm 4) (Sm 1) x) t 0 0)) 16 0 (-2, -1)) (foldN (prM (fun x => foldN (gDays (Sm 4) (Sm 1) x) t 0 0) (fun x => foldN (gLeft (Sm 4) (Sm 1) x) t 0 0)) 16 0 (-2)) := pr_rel (fun x => by obtain ⟨s, h1, h2⟩ := days_n (wh := Sm 4) hrr x; show 0 ≤ foldN _ _ _ _; rw [h2]; exact nI_pos' (by omega)) 16 (by omega)
  have key : ∃ r, f_W_pride Sx a = some r ∧ f_Mo_pride Sm a = some r := by
    by_cases h1 : a < 0
    · exact ⟨_, pd_x0 (Or.inl h1), pd_m0 (Or.inl h1)⟩
    by_cases h2 : (1 : Int32) < a
    · exact ⟨_, pd_x0 (Or.inr h2), pd_m0 (Or.inr h2)⟩
    rw [pd_x h h1 h2 rfl, pd_m hm h1 h2]
    obtain ⟨e1, e2⟩ := rel
    generalize foldN (prX (fun x => foldN (gDays (Sm 4) (Sm 1) x) t 0 0) (fun x => foldN (gLeft (Sm 4) (Sm 1) x) t 0 0)) 16 0 (-2, -1) = p at e1 e2 ⊢
    generalize foldN (prM (fun x => foldN (gDays (Sm 4) (Sm 1) x) t 0 0) (fun x => foldN (gLeft (Sm 4) (Sm 1) x) t 0 0)) 16 0 (-2) = q at e1 e2 ⊢
    unfold finP
    rw [e1]
    rcases in01 h1 h2 with rfl | rfl
    · rw [if_pos rfl, if_pos rfl]; exact ⟨_, rfl, rfl⟩
    · rw [if_neg i10, if_neg i10]
      rcases e2 with ⟨e2, e3⟩ | ⟨e2, e3⟩
      · rw [if_pos e3, e3, if_neg (by decide)]; exact ⟨_, rfl, rfl⟩
      · rw [if_pos e3, if_neg (fun z => by rw [z] at e3; exact absurd e3 (by decide))]; exact ⟨_, rfl, rfl⟩
  obtain ⟨r, hx, hm⟩ := key
  exact ⟨r, Sx, Sm, t_W_pride hx, t_Mo_pride hm, hR⟩
/-! OLDEST -/
def oldG (r : Nat → Int32) (k : Nat) (a : Int32) : Int32 := if r (72 + k) = 0 then (if a = -2 then nI k else if r (48 + k) ≤ r (48 + a.toNatClampNeg) then a else nI k) else a
def oldI (k : Nat) (a : Int32) : Prop := a = -2 ∨ ∃ i, i < k ∧ a = nI i
theorem oldI_s {r : Nat → Int32} {k : Nat} {a : Int32} (h : oldI k a) : oldI (k + 1) (oldG r k a) := by
  unfold oldG
  have keep : oldI (k + 1) a := by
    rcases h with h | ⟨i, h1, h2⟩
    · exact Or.inl h
    · exact Or.inr ⟨i, by omega, h2⟩
  have new : oldI (k + 1) (nI k) := Or.inr ⟨k, by omega, rfl⟩
  by_cases c1 : r (72 + k) = 0
  · rw [if_pos c1]
    by_cases c2 : a = -2
    · rw [if_pos c2]; exact new
    · rw [if_neg c2]
      by_cases c3 : r (48 + k) ≤ r (48 + a.toNatClampNeg)
      · rw [if_pos c3]; exact keep
      · rw [if_neg c3]; exact new
  · rw [if_neg c1]; exact keep
theorem x_oldest {S : St} {t : Nat} {r wh wa : Nat → Int32} (h : NP S 4 t r wh wa) : f_W_oldest S = some (foldN (oldG r) t 0 (-2)) := by
  have ht := h.1
  have key := loopI (fun n j (a : Int32) => f_W_oldest_5 n S a (nI j)) (fun a => some a) (oldG r) t (fun k a => oldI k a) ?_ ?_ t FU 0 (-2) (by omega) (FU_gt (by omega)) (Or.inl rfl)
  · exact key.1
  · intro n a _
    show f_W_oldest_5 (n + 1) S a (nI t) = _
    rw [f_W_oldest_5, h.things, if_pos (yle (Nat.le_refl t))]
  · intro n j a hj hI
    refine ⟨?_, oldI_s hI⟩
    show f_W_oldest_5 (n + 1) S a (nI j) = f_W_oldest_5 n S _ (nI (j + 1))
    have c1 : (nI j).toNatClampNeg = j := cl
    have g1 : ig (nI j) 24 = true := gn (show j < 24 by omega) (by omega)
    rw [f_W_oldest_5, h.things, if_neg (nle hj), h.done hj]
    unfold f_W_oldest_52 f_W_oldest_54 oldG
    simp only [Option.bind_some, nI_1]
    rcases h.dn hj with e | e
    · rw [e, if_pos rfl, if_pos rfl]
      rcases hI with rfl | ⟨i, hi, rfl⟩
      · rw [if_pos (by decide), if_pos rfl]
      · have c2 : (nI i).toNatClampNeg = i := cl
        have g2 : ig (nI i) 24 = true := gn (show i < 24 by omega) (by omega)
        rw [if_neg (nI_pos (by omega)), if_pos g1, if_pos g2, if_neg (nI_m2 (by omega)), c1, c2, show S 8 j = r (48 + j) from h.off hj, show S 8 i = r (48 + i) from h.off (by omega)]
        by_cases c : r (48 + j) ≤ r (48 + i)
        · rw [if_pos c, if_pos c]
        · rw [if_neg c, if_neg c]
    · rw [e, if_neg i10, if_neg i10]
theorem m_oldest {M : St} {t : Nat} (h : NM M t) : f_Mo_oldest M = some (foldN (oldG (M 1)) t 0 (-2)) := by
  have ht := h.2
  have key := loopI (fun n j (a : Int32) => f_Mo_oldest_5 n M a (nI j)) (fun a => some a) (oldG (M 1)) t (fun k a => oldI k a) ?_ ?_ t FU 0 (-2) (by omega) (FU_gt (by omega)) (Or.inl rfl)
  · exact key.1
  · intro n a _
    show f_Mo_oldest_5 (n + 1) M a (nI t) = _
    rw [f_Mo_oldest_5, h.1, if_pos (yle (Nat.le_refl t))]
  · intro n j a hj hI
    refine ⟨?_, oldI_s hI⟩
    show f_Mo_oldest_5 (n + 1) M a (nI j) = f_Mo_oldest_5 n M _ (nI (j + 1))
    have c1 : (nI (48 + j)).toNatClampNeg = 48 + j := cl
    have g1 : ig (nI (48 + j)) 99 = true := gn (by omega) (by omega)
    rw [f_Mo_oldest_5, h.1, if_neg (nle hj), h.left hj]
    unfold f_Mo_oldest_48 f_Mo_oldest_50 oldG
    simp only [Option.bind_some, nI_1]
    by_cases e : M 1 (72 + j) = 0
    · rw [if_pos e, if_pos e, if_neg i10]
      rcases hI with rfl | ⟨i, hi, rfl⟩
      · rw [if_pos rfl, if_pos rfl]
      · have c2 : (nI i).toNatClampNeg = i := cl
        have c3 : (nI (48 + i)).toNatClampNeg = 48 + i := cl
        have g2 : ig (nI (48 + i)) 99 = true := gn (by omega) (by omega)
        rw [if_neg (nI_m2 (by omega)), if_neg (nI_m2 (by omega)), a48, a48, if_pos g1, if_pos g2, c1, c2, c3]
        by_cases c : M 1 (48 + j) ≤ M 1 (48 + i)
        · rw [if_pos c, if_pos c]
        · rw [if_neg c, if_neg c]
    · rw [if_neg e, if_neg e, if_pos rfl]
theorem st_oldest : STEP (RelL LR) m_W_oldest m_Mo_oldest 2 4 [] := by
  intro Sx Sm hR
  obtain ⟨t, h, hm⟩ := hR.2.1.np
  exact ⟨_, Sx, Sm, t_W_oldest (x_oldest h), t_Mo_oldest (m_oldest hm), hR⟩
/-! CHAIN -/
def chN (wa : Nat → Int32) : Nat → Nat → Int32 → Int32
  | 0, _, a => a
  | n + 1, k, a => if wa k = -1 then a + 1 else chN wa n (wa k).toNatClampNeg (a + 1)
theorem m_chain {M : St} {t : Nat} (ht : t ≤ 24) (hw : ∀ k, k < t → M 5 k = -1 ∨ ∃ a, a < k ∧ M 5 k = nI a) : ∀ (n k : Nat) (a : Int32) (f : Nat), k < n → k < t → n < f → f_Mo_chain_14 f M a (nI k) = some (chN (M 5) n k a) := by
  intro n
  induction n with
  | zero => intro k a f hk; omega
  | succ n ih =>
    intro k a f hk hkt hf
    obtain ⟨f, rfl⟩ : ∃ z, f = z + 1 := ⟨f - 1, by omega⟩
    have c1 : (nI k).toNatClampNeg = k := cl
    have g1 : ig (nI k) 24 = true := gn (show k < 24 by omega) (by omega)
    rw [f_Mo_chain_14, if_neg (nI_m1 (by omega)), chN]
    simp only [Option.bind_some]
    rw [if_pos g1, c1]
    rcases hw k hkt with e | ⟨b, hb, e⟩
    · rw [if_pos e, e]
      obtain ⟨f, rfl⟩ : ∃ z, f = z + 1 := ⟨f - 1, by omega⟩
      rw [f_Mo_chain_14, if_pos rfl]
    · rw [e, if_neg (nI_m1 (by omega)), cl]
      exact ih b (a + 1) f (by omega) (by omega) (by omega)
theorem x_chain {S : St} {t : Nat} {r wh wa : Nat → Int32} (h : NP S 4 t r wh wa) : ∀ (n k : Nat) (a : Int32) (f s : Nat), k < n → k < t → n < f → s + k < 24 → f_W_chain_20 f S a (nI k) (nI s) = some (chN wa n k a) := by
  have ht := h.1
  intro n
  induction n with
  | zero => intro k a f s hk; omega
  | succ n ih =>
    intro k a f s hk hkt hf hs
    obtain ⟨f, rfl⟩ : ∃ z, f = z + 1 := ⟨f - 1, by omega⟩
    have c1 : (nI k).toNatClampNeg = k := cl
    have g1 : ig (nI k) 24 = true := gn (show k < 24 by omega) (by omega)
    rw [f_W_chain_20, if_neg (n24 (show s < 24 by omega)), has_y h.things ht hkt, chN]
    simp only [Option.bind_some]
    rw [if_neg i10, if_pos g1, c1, show S 6 k = pw (wa k) from h.wait hkt]
    unfold pw
    rcases (h.2.2.1 k hkt).2 with e | ⟨b, hb, e⟩
    · rw [if_pos e, if_pos e]
      obtain ⟨f, rfl⟩ : ∃ z, f = z + 1 := ⟨f - 1, by omega⟩
      rw [f_W_chain_20, nI_1, has_n h.things (x := -2) (Or.inl (by decide))]
      by_cases c : (24 : Int32) ≤ nI (s + 1)
      · rw [if_pos c]
      · rw [if_neg c]; rfl
    · rw [e, if_neg (nI_m1 (by omega)), if_neg (nI_m1 (by omega)), nI_1, cl]
      exact ih b (a + 1) f (s + 1) (by omega) (by omega) (by omega) (by omega)
theorem st_chain (a : Int32) : STEP (RelL LR) m_W_chain m_Mo_chain 2 3 [a] := by
  intro Sx Sm hR
  obtain ⟨t, h, hm⟩ := hR.2.1.np
  have ht := h.1
  have key : ∃ r, f_W_chain Sx a = some r ∧ f_Mo_chain Sm a = some r := by
    unfold f_W_chain f_Mo_chain
    rcases ix3 a ht with hx | ⟨k, hk, rfl⟩
    · rw [has_n h.things hx, isT_n hm.1 ht hx]
      exact ⟨_, rfl, rfl⟩
    · rw [has_y h.things ht hk, isT_y hm.1 ht hk]
      have e1 := x_chain h 24 k 0 FU 0 (by omega) hk (FU_gt (by omega)) (by omega)
      have e2 := m_chain ht (fun k hk => (h.2.2.1 k hk).2) 24 k 0 FU (by omega) hk (FU_gt (by omega))
      exact ⟨_, e1, e2⟩
  obtain ⟨r, hx, hm⟩ := key
  exact ⟨r, Sx, Sm, t_W_chain hx, t_Mo_chain hm, hR⟩
end STP
