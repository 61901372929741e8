/-! COUNT, CHECK, FEED -/
section STP
variable {LR : St → St → Prop}
def gSet (r : Nat → Int32) (row k : Nat) (a : Int32) : Int32 := a ||| jshl (r (row + k)) (nI k)
theorem jshl0 (x : Int32) : jshl 0 x = 0 := by
  unfold jshl
  exact Int32.zero_shiftLeft
theorem set_bt {r : Nat → Int32} {row t : Nat} (ht : t ≤ 24) (hr : ∀ k, k < t → r (row + k) = 0 ∨ r (row + k) = 1) {i : Nat} (hi : i < 32) : bt (foldN (gSet r row) t 0 0) i = (decide (i < t) && decide (r (row + i) = 1)) := by
  have := foldN_inv (g := gSet r row) (fun k a => bt a i = (decide (i < k) && decide (r (row + i) = 1))) t 0 0 (by rw [b_0]; simp) (fun k a _ hk h => by
    unfold gSet
    rw [b_or, h]
    rcases hr k (by omega) with e | e
    · rw [e, jshl0, b_0, Bool.or_false]
      by_cases c : i = k
      · subst c; rw [e]; simp
      · rw [show decide (i < k + 1) = decide (i < k) from by simp; omega]
    · rw [e, bt_shl1 (by omega) hi]
      by_cases c : i = k
      · subst c; rw [e]; simp
      · rw [show decide (i < k + 1) = decide (i < k) from by simp; omega]
        simp [c])
  simpa using this
theorem m_setOf {M : St} {t : Nat} (h : NM M t) {row : Nat} (hrow : row + 24 ≤ 99) : f_Mo_setOf M (nI row) = some (foldN (gSet (M 1) row) t 0 0) := by
  have ht := h.2
  have key := loopN (fun n j a => f_Mo_setOf_4 n M (nI row) a (nI j)) (fun a => some a) (gSet (M 1) row) t ?_ ?_ t FU 0 0 (by omega) (FU_gt (by omega))
  · exact key
  · intro n a
    show f_Mo_setOf_4 (n + 1) M (nI row) a (nI t) = _
    rw [f_Mo_setOf_4, h.1, if_pos (yle (Nat.le_refl t))]
  · intro n j a hj
    show f_Mo_setOf_4 (n + 1) M (nI row) a (nI j) = f_Mo_setOf_4 n M (nI row) _ (nI (j + 1))
    rw [f_Mo_setOf_4, h.1, if_neg (nle hj), nIx, if_pos (gn (show row + j < 99 by omega) (by omega)), cl, Option.bind_some, Option.bind_some, nI_1]
    rfl
theorem NP.bits4 {S : St} {P t : Nat} {r wh wa : Nat → Int32} (h : NP S P t r wh wa) : foldN (gSet r 24) t 0 0 = S P 4 := by
  apply b_ext
  intro i hi
  rw [set_bt h.1 (fun k hk => h.lt hk) hi]
  by_cases c : i < t
  · rw [(h.2.2.2.1.2.1 i c).1]; simp [c]
  · rw [(h.2.2.2.1.2.2.1 i (by omega)).1]; simp [c]
theorem NP.bits5 {S : St} {P t : Nat} {r wh wa : Nat → Int32} (h : NP S P t r wh wa) : foldN (gSet r 72) t 0 0 = S P 5 := by
  apply b_ext
  intro i hi
  rw [set_bt h.1 (fun k hk => h.dn hk) hi]
  by_cases c : i < t
  · rw [(h.2.2.2.1.2.1 i c).2]; simp [c]
  · rw [(h.2.2.2.1.2.2.1 i (by omega)).2]; simp [c]
def gWho (C : Int32 → Int32) (k : Nat) (a : Int32) : Int32 := if C (nI k) = 0 then a else a ||| jshl 1 (nI k)
theorem m_who {M : St} {t : Nat} (h : NM M t) : f_Mo_whoHasLeft M = some (foldN (gWho (fun x => foldN (gLeft (M 4) (M 1) x) t 0 0)) 16 0 0) := by
  have ht := h.2
  obtain ⟨F, hF⟩ : ∃ F, FU = F := ⟨_, rfl⟩
  have hF' : 300 < F := by rw [← hF]; exact FU_gt (by omega)
  have key := loopN (fun n j a => f_Mo_whoHasLeft_4 n M a (nI j)) (fun a => some a) (gWho (fun x => foldN (gLeft (M 4) (M 1) x) t 0 0)) 16 ?_ ?_ 16 F 0 0 (by omega) (by omega)
  · unfold f_Mo_whoHasLeft
    rw [hF]
    exact key
  · intro n a
    show f_Mo_whoHasLeft_4 (n + 1) M a (nI 16) = _
    rw [f_Mo_whoHasLeft_4, if_pos y16]
  · intro n j a hj
    show f_Mo_whoHasLeft_4 (n + 1) M a (nI j) = f_Mo_whoHasLeft_4 n M _ (nI (j + 1))
    rw [f_Mo_whoHasLeft_4, if_neg (n16 hj), m_leftOf h]
    obtain ⟨s, h1, h2, -⟩ := left_n (t := t) (wh := M 4) (r := M 1) (nI j)
    unfold f_Mo_whoHasLeft_24 gWho
    simp only [Option.bind_some, nI_1]
    by_cases c0 : foldN (gLeft (M 4) (M 1) (nI j)) t 0 0 = 0
    · rw [if_pos (show foldN (gLeft (M 4) (M 1) (nI j)) t 0 0 ≤ 0 by rw [c0]; decide), if_pos c0]
    · rw [if_neg (show ¬ foldN (gLeft (M 4) (M 1) (nI j)) t 0 0 ≤ 0 from fun z => by
        rw [h2] at z c0
        rcases Nat.eq_zero_or_pos s with q | q
        · exact c0 (by rw [q]; rfl)
        · exact nI_nle q (by omega) z), if_neg c0]
theorem who_bt (C : Int32 → Int32) (m : Nat) (hm : m ≤ 16) {i : Nat} (hi : i < 32) : bt (foldN (gWho C) m 0 0) i = (decide (i < m) && !decide (C (nI i) = 0)) := by
  have := foldN_inv (g := gWho C) (fun k a => bt a i = (decide (i < k) && !decide (C (nI i) = 0))) m 0 0 (by rw [b_0]; simp) (fun k a _ hk h => by
    unfold gWho
    by_cases c0 : C (nI k) = 0
    · rw [if_pos c0, h]
      by_cases c : i = k
      · subst c; rw [c0]; simp
      · rw [show decide (i < k + 1) = decide (i < k) from by simp; omega]
    · rw [if_neg c0, b_or, h, bt_shl1 (by omega) hi]
      by_cases c : i = k
      · subst c; simp [c0]
      · rw [show decide (i < k + 1) = decide (i < k) from by simp; omega]
        simp [c])
  simpa using this
theorem who_own {t : Nat} {wh r : Nat → Int32} (ht : t ≤ 24) (hw : ∀ k, k < t → ∃ a, a < 16 ∧ wh k = nI a) : foldN (gWho (fun x => foldN (gLeft wh r x) t 0 0)) 16 0 0 = foldN (gOwn wh r) t 0 0 := by
  apply b_ext
  intro i hi
  rw [who_bt _ 16 (by omega) hi]
  have h1 := own_c (r := r) ht hw hi
  cases hb : bt (foldN (gOwn wh r) t 0 0) i with
  | false => rw [show decide (foldN (gLeft wh r (nI i)) t 0 0 = 0) = true from decide_eq_true (h1.mp hb)]; simp
  | true =>
    have h2 : ¬ foldN (gLeft wh r (nI i)) t 0 0 = 0 := fun z => by rw [h1.mpr z] at hb; cases hb
    have h3 : i < 16 := by
      obtain ⟨k, hk, e, -⟩ := (own_bt (r := r) hw hi).mp hb
      obtain ⟨a, ha, ea⟩ := hw k hk
      rw [ea] at e
      have := nI_inj (by omega) (by omega) e
      omega
    rw [show decide (foldN (gLeft wh r (nI i)) t 0 0 = 0) = false from decide_eq_false h2]
    simp [h3]
theorem st_count (hLc : ∀ Sx Sm, LR Sx Sm → Sx 25 8 = Sm 0 16) (a : Int32) : STEP (RelL LR) m_W_count m_Mo_count 3 6 [a] := by
  intro Sx Sm hR
  obtain ⟨t, h, hm⟩ := hR.2.1.np
  obtain ⟨p1, p2, p3, p4, p5, p6⟩ := h.2.2.2.1
  obtain ⟨n, -, z1, z2, -⟩ := hR.1
  have hw : f_Mo_whoHasLeft Sm = some (foldN (gOwn (Sm 4) (Sm 1)) t 0 0) := by rw [m_who hm, who_own h.1 (fun k hk => (h.2.2.1 k hk).1)]
  have s1 : f_Mo_setOf Sm 24 = some (Sx 4 4) := by rw [show (24 : Int32) = nI 24 from rfl, m_setOf hm (by omega), h.bits4]
  have s2 : f_Mo_setOf Sm 72 = some (Sx 4 5) := by rw [show (72 : Int32) = nI 72 from rfl, m_setOf hm (by omega), h.bits5]
  have key : ∃ r, f_W_count Sx a = some r ∧ f_Mo_count Sm a = some r := by
    unfold f_W_count f_Mo_count
    rw [hw, s1, s2, x_ownersLeft h, if_pos g97, if_pos g96, if_pos g98, e96, e97, e98]
    by_cases b0 : a = 0
    · simp only [b0, ↓reduceIte]; exact ⟨_, rfl, by rw [p5]⟩
    simp only [b0, ↓reduceIte]
    by_cases b1 : a = 1
    · simp only [b1, ↓reduceIte]; exact ⟨_, rfl, by rw [h.things, hm.1]⟩
    simp only [b1, ↓reduceIte]
    by_cases b2 : a = 2
    · simp only [b2, ↓reduceIte]; exact ⟨_, rfl, rfl⟩
    simp only [b2, ↓reduceIte]
    by_cases b3 : a = 3
    · simp only [b3, ↓reduceIte]; exact ⟨_, rfl, rfl⟩
    simp only [b3, ↓reduceIte]
    by_cases b4 : a = 4
    · simp only [b4, ↓reduceIte]; exact ⟨_, rfl, by rw [p4]⟩
    simp only [b4, ↓reduceIte]
    by_cases b5 : a = 5
    · simp only [b5, ↓reduceIte]; exact ⟨_, rfl, by rw [hLc _ _ hR.2.2.2.2]⟩
    simp only [b5, ↓reduceIte]
    by_cases b6 : a = 6
    · simp only [b6, ↓reduceIte]; exact ⟨_, rfl, by rw [z1, z2]⟩
    simp only [b6, ↓reduceIte]
    by_cases b7 : a = 7
    · simp only [b7, ↓reduceIte]; exact ⟨_, rfl, by rw [p6]⟩
    simp only [b7, ↓reduceIte]
    by_cases b8 : a = 8
    · simp only [b8, ↓reduceIte]; exact ⟨_, rfl, rfl⟩
    simp only [b8, ↓reduceIte]
    exact ⟨_, rfl, rfl⟩
  obtain ⟨r, hx, hm⟩ := key
  exact ⟨r, Sx, Sm, t_W_count hx, t_Mo_count hm, hR⟩
/-! CHECK -/
def ckG (b : Nat → Nat) (t : Nat) (r : Nat → Int32) (k : Nat) (_ : Unit) : Int32 ⊕ Unit := if nI (b k) = (if k < t then jrem (r k) 256 else 0) then .inr () else .inl (nI k)
theorem x_check {S : St} {t n : Nat} {r wh wa : Nat → Int32} (h : NP S 4 t r wh wa) {b : Nat → Nat} (hb : XB S n b) (hn : n ≤ 24) {F : Nat} (hF : 24 < F) : f_W_check_26 F S (nI n) 0 = some (foldE (ckG b t r) (fun _ => -1) n 0 (), S) := by
  have ht := h.1
  have key : ∀ m j f, j + m = n → m < f → f_W_check_26 f S (nI n) (nI j) = some (foldE (ckG b t r) (fun _ => -1) m j (), S) := by
    intro m
    induction m with
    | zero =>
      intro j f hj hf
      obtain ⟨f, rfl⟩ : ∃ z, f = z + 1 := ⟨f - 1, by omega⟩
      have : j = n := by omega
      subst this
      rw [f_W_check_26, if_pos (yle (Nat.le_refl _))]; rfl
    | succ m ih =>
      intro j f hj hf
      obtain ⟨f, rfl⟩ : ∃ z, f = z + 1 := ⟨f - 1, by omega⟩
      have c1 : (nI j).toNatClampNeg = j := cl
      have g1 : ig (nI j) 24 = true := gn (by omega) (by omega)
      have ih := ih (j + 1) f (by omega) (by omega)
      rw [f_W_check_26, if_neg (nle (by omega)), foldE]
      by_cases cj : j < t
      · rw [has_y h.things ht cj, Option.bind_some, if_neg i10, if_pos g1, c1, show S 7 j = r j from h.len cj]
        unfold f_W_check_59 ckG
        rw [hb.at (by omega), Option.bind_some, if_pos cj]
        by_cases cc : nI (b j) = jrem (r j) 256
        · rw [if_pos cc, if_pos cc, Option.bind_some, nI_1]; exact ih
        · rw [if_neg cc, if_neg cc]
      · rw [has_n h.things (Or.inr (yle (show t ≤ j by omega))), Option.bind_some, if_pos rfl]
        unfold f_W_check_59 ckG
        rw [hb.at (by omega), Option.bind_some, if_neg cj]
        by_cases cc : nI (b j) = 0
        · rw [if_pos cc, if_pos cc, Option.bind_some, nI_1]; exact ih
        · rw [if_neg cc, if_neg cc]
  exact key n 0 F (by omega) (by omega)
theorem m_check {M : St} {t n : Nat} (h : NM M t) {b : Nat → Nat} (hb : MB M n b) (hn : n ≤ 24) {F : Nat} (hF : 24 < F) : f_Mo_check_28 F M (nI n) 0 = some (foldE (ckG b t (M 1)) (fun _ => -1) n 0 (), M) := by
  have ht := h.2
  have key : ∀ m j f, j + m = n → m < f → f_Mo_check_28 f M (nI n) (nI j) = some (foldE (ckG b t (M 1)) (fun _ => -1) m j (), M) := by
    intro m
    induction m with
    | zero =>
      intro j f hj hf
      obtain ⟨f, rfl⟩ : ∃ z, f = z + 1 := ⟨f - 1, by omega⟩
      have : j = n := by omega
      subst this
      rw [f_Mo_check_28, if_pos (yle (Nat.le_refl _))]; rfl
    | succ m ih =>
      intro j f hj hf
      obtain ⟨f, rfl⟩ : ∃ z, f = z + 1 := ⟨f - 1, by omega⟩
      have c1 : (nI j).toNatClampNeg = j := cl
      have g1 : ig (nI j) 99 = true := gn (by omega) (by omega)
      have ih := ih (j + 1) f (by omega) (by omega)
      rw [f_Mo_check_28, if_neg (nle (by omega)), foldE, hb.oct (by omega), Option.bind_some]
      by_cases cj : j < t
      · rw [isT_y h.1 ht cj, Option.bind_some, if_neg i10, z0I, if_pos g1, c1]
        unfold f_Mo_check_62 ckG
        rw [if_pos cj]
        by_cases cc : nI (b j) = jrem (M 1 j) 256
        · rw [if_pos cc, if_pos cc, Option.bind_some, nI_1]; exact ih
        · rw [if_neg cc, if_neg cc]
      · rw [isT_n h.1 ht (Or.inr (yle (show t ≤ j by omega))), Option.bind_some, if_pos rfl]
        unfold f_Mo_check_62 ckG
        rw [if_neg cj]
        by_cases cc : nI (b j) = 0
        · rw [if_pos cc, if_pos cc, Option.bind_some, nI_1]; exact ih
        · rw [if_neg cc, if_neg cc]
  exact key n 0 F (by omega) (by omega)
theorem st_check (hL : LRc LR) (a : Int32) : STEP (RelL LR) m_W_check m_Mo_check 2 3 [a] := by
  intro Sx Sm hR
  obtain ⟨F, hF⟩ : ∃ F, FU = F := ⟨_, rfl⟩
  have hF' : 300 < F := by rw [← hF]; exact FU_gt (by omega)
  by_cases hc : a < 0 ∨ (24 : Int32) < a
  · have h1 : f_W_check Sx a = some (-2, Sx) := by unfold f_W_check; rw [wi_n hc]; rfl
    have h2 : f_Mo_check Sm a = some (-2, Sm) := by unfold f_Mo_check; rw [in_n hc]; rfl
    exact ⟨-2, Sx, Sm, t_W_check h1, t_Mo_check h2, hR⟩
  · have n1 : ¬ a < 0 := fun z => hc (Or.inl z)
    have n2 : ¬ (24 : Int32) < a := fun z => hc (Or.inr z)
    obtain ⟨n, q1, q2, rfl⟩ := rngN (a := 0) (b := 24) (by omega) n1 n2
    rcases tk hR.1 n (by omega) with ⟨b, t1, t2, t3, t4⟩ | ⟨t1, t2⟩
    · have hR' := hR.tt hL n
      obtain ⟨t, h, hm⟩ := hR'.2.1.np
      have h1 : f_W_check Sx (nI n) = some (foldE (ckG b t (tM Sm 1)) (fun _ => -1) n 0 (), tX Sx n) := by
        unfold f_W_check
        rw [wi_y n1 n2, Option.bind_some, if_neg i10, t1, Option.bind_some, if_neg i10, Option.bind_some, hF]
        exact x_check h t3 q2 (by omega)
      have h2 : f_Mo_check Sm (nI n) = some (foldE (ckG b t (tM Sm 1)) (fun _ => -1) n 0 (), tM Sm) := by
        unfold f_Mo_check
        rw [in_y n1 n2, Option.bind_some, if_neg i10, if_pos t2, Option.bind_some, Option.bind_some, hF]
        exact m_check hm t4 q2 (by omega)
      generalize foldE (ckG b t (tM Sm 1)) (fun _ => -1) n 0 () = r at h1 h2
      exact ⟨r, tX Sx n, tM Sm, t_W_check h1, t_Mo_check h2, hR'⟩
    · have h1 : f_W_check Sx (nI n) = some (-2, Sx) := by
        unfold f_W_check
        rw [wi_y n1 n2, Option.bind_some, if_neg i10, t1]; rfl
      have h2 : f_Mo_check Sm (nI n) = some (-2, Sm) := by
        unfold f_Mo_check
        rw [in_y n1 n2, Option.bind_some, if_neg i10, if_neg t2]
      exact ⟨-2, Sx, Sm, t_W_check h1, t_Mo_check h2, hR⟩
/-! FEED -/
def pX (S : St) (n : Nat) (v : Int32) : St := sF (sF S 2 n v) 1 2 (nI (n + 1))
def pM (S : St) (n : Nat) (v : Int32) : St := sF (sF S 6 n v) 0 7 (nI (n + 1))
theorem x_put1 {S : St} {n F : Nat} {x l : Int32} (h : S 1 2 = nI n) (hn : n < 260) (hl : ¬ l < 0) : f_Tape_put_3 (F + 1) S x l = f_Tape_put_3 F (pX S n (jushr x l &&& 255)) x (l + (-8)) := by
  rw [f_Tape_put_3, if_neg hl, h, if_neg (show ¬ (260 : Int32) ≤ nI n from nle (b := 260) hn), if_pos (gn hn (by omega)), Option.bind_some, Option.bind_some, Option.bind_some, cl]
  rw [show sF S 2 n (jushr x l &&& 255) 1 2 = nI n from by rw [sF_ne (by omega)]; exact h, nI_1]
  rfl
theorem x_put {S : St} {n : Nat} {x : Int32} (h : S 1 2 = nI n) (hn : n + 4 ≤ 260) : f_Tape_put S x = some (pX (pX (pX (pX S n (jushr x 24 &&& 255)) (n + 1) (jushr x 16 &&& 255)) (n + 2) (jushr x 8 &&& 255)) (n + 3) (jushr x 0 &&& 255)) := by
  obtain ⟨F, hF⟩ : ∃ F, FU = F := ⟨_, rfl⟩
  have hF' : 300 < F := by rw [← hF]; exact FU_gt (by omega)
  obtain ⟨F, rfl⟩ : ∃ z, F = z + 5 := ⟨F - 5, by omega⟩
  unfold f_Tape_put
  rw [Option.bind_some, hF]
  have e : ∀ (T : St) (m : Nat) (v : Int32), pX T m v 1 2 = nI (m + 1) := fun T m v => sF_at
  rw [x_put1 h (by omega) (by decide), show (24 : Int32) + (-8) = 16 from by decide, x_put1 (e _ _ _) (by omega) (by decide), show (16 : Int32) + (-8) = 8 from by decide, x_put1 (e _ _ _) (by omega) (by decide), show (8 : Int32) + (-8) = 0 from by decide, x_put1 (e _ _ _) (by omega) (by decide), show (0 : Int32) + (-8) = -8 from by decide, f_Tape_put_3, if_pos (by decide)]
theorem m_put1 {S : St} {n F : Nat} {x l : Int32} (h : S 0 7 = nI n) (hn : n < 260) (hl : ¬ l < 0) : f_Mo_types_2 (F + 1) S x l = f_Mo_types_2 F (pM S n (vp_nar .byte ((jshr x (8 * l)).toInt8.toInt32))) x (l + (-1)) := by
  rw [f_Mo_types_2, if_neg hl, h, if_pos (gn hn (by omega)), Option.bind_some, Option.bind_some, Option.bind_some, cl]
  rw [show sF S 6 n (vp_nar .byte ((jshr x (8 * l)).toInt8.toInt32)) 0 7 = nI n from by rw [sF_ne (by omega)]; exact h, nI_1]
  rfl
theorem m_put {S : St} {n : Nat} {x : Int32} (h : S 0 7 = nI n) (hn : n + 4 ≤ 260) : f_Mo_types S x = some (pM (pM (pM (pM S n (vp_nar .byte ((jshr x 24).toInt8.toInt32))) (n + 1) (vp_nar .byte ((jshr x 16).toInt8.toInt32))) (n + 2) (vp_nar .byte ((jshr x 8).toInt8.toInt32))) (n + 3) (vp_nar .byte ((jshr x 0).toInt8.toInt32))) := by
  obtain ⟨F, hF⟩ : ∃ F, FU = F := ⟨_, rfl⟩
  have hF' : 300 < F := by rw [← hF]; exact FU_gt (by omega)
  obtain ⟨F, rfl⟩ : ∃ z, F = z + 5 := ⟨F - 5, by omega⟩
  unfold f_Mo_types
  rw [Option.bind_some, hF]
  have e : ∀ (T : St) (m : Nat) (v : Int32), pM T m v 0 7 = nI (m + 1) := fun T m v => sF_at
  rw [m_put1 h (by omega) (by decide), show (3 : Int32) + (-1) = 2 from by decide, m_put1 (e _ _ _) (by omega) (by decide), show (2 : Int32) + (-1) = 1 from by decide, m_put1 (e _ _ _) (by omega) (by decide), show (1 : Int32) + (-1) = 0 from by decide, m_put1 (e _ _ _) (by omega) (by decide), show (0 : Int32) + (-1) = -1 from by decide, f_Mo_types_2, if_pos (by decide)]
  rfl
theorem byte_eq (x : Int32) {s : Nat} (hs : s ≤ 24) : vp_nar .byte ((jshr x (nI s)).toInt8.toInt32) &&& 255 = jushr x (nI s) &&& 255 := by
  rw [pk_vb, bp_b]
  apply b_ext
  intro i hi
  rw [b_and, b_and, b_255]
  by_cases c : i < 8
  · unfold jshr jushr
    rw [b_sshr s (by omega) x hi, b_ushr s (by omega), if_pos (by omega)]
  · simp [c]
/-- one int fed to both -/
theorem feed1 (hL : LRc LR) {Sx Sm : St} {n : Nat} (x : Int32) (hC : Core LR Sx Sm) (h1 : Sx 1 2 = nI n) (h2 : Sm 0 7 = nI n) (h3 : ∀ i, i < n → Sx 2 i = Sm 6 i &&& 255) (hn : n + 4 ≤ 260) : ∃ Sx' Sm', f_Tape_put Sx x = some Sx' ∧ f_Mo_types Sm x = some Sm' ∧ Core LR Sx' Sm' ∧ Sx' 1 2 = nI (n + 4) ∧ Sm' 0 7 = nI (n + 4) ∧ ∀ i, i < n + 4 → Sx' 2 i = Sm' 6 i &&& 255 := by
  have one : ∀ (Tx Tm : St) (m : Nat) (v w : Int32), Core LR Tx Tm → Tx 1 2 = nI m → Tm 0 7 = nI m → (∀ i, i < m → Tx 2 i = Tm 6 i &&& 255) → w &&& 255 = v → Core LR (pX Tx m v) (pM Tm m w) ∧ pX Tx m v 1 2 = nI (m + 1) ∧ pM Tm m w 0 7 = nI (m + 1) ∧ ∀ i, i < m + 1 → pX Tx m v 2 i = pM Tm m w 6 i &&& 255 := by
    intro Tx Tm m v w c q1 q2 q3 q4
    refine ⟨c.congr hL (fun k j hk => ?_) (fun k j hk => ?_), sF_at, sF_at, fun i hi => ?_⟩
    · unfold RX at hk; unfold pX; rw [sF_ne (by omega), sF_ne (by omega)]
    · unfold RM at hk; unfold pM; rw [sF_ne (by omega), sF_ne (by omega)]
    · unfold pX pM
      rw [sF_ne (r := 1) (by omega), sF_ne (r := 0) (by omega)]
      by_cases d : i = m
      · subst d; rw [sF_at, sF_at]; exact q4.symm
      · rw [sF_ne (r := 2) (by omega), sF_ne (r := 6) (by omega)]; exact q3 i (by omega)
  obtain ⟨a1, a2, a3, a4⟩ := one Sx Sm n (jushr x 24 &&& 255) _ hC h1 h2 h3 (byte_eq x (s := 24) (by omega))
  obtain ⟨b1, b2, b3, b4⟩ := one _ _ (n + 1) (jushr x 16 &&& 255) _ a1 a2 a3 a4 (byte_eq x (s := 16) (by omega))
  obtain ⟨c1, c2, c3, c4⟩ := one _ _ (n + 2) (jushr x 8 &&& 255) _ b1 b2 b3 b4 (byte_eq x (s := 8) (by omega))
  obtain ⟨d1, d2, d3, d4⟩ := one _ _ (n + 3) (jushr x 0 &&& 255) _ c1 c2 c3 c4 (byte_eq x (s := 0) (by omega))
  exact ⟨_, _, x_put h1 hn, m_put h2 hn, d1, d2, d3, d4⟩
theorem st_feed (hL : LRc LR) (a b c d e : Int32) : STEP (RelL LR) m_W_feed m_Mo_feed 2 2 [a, b, c, d, e] := by
  intro Sx Sm hR
  obtain ⟨n, q1, q2, q3, q4⟩ := hR.1
  have ea : nI n + 20 = nI (n + 20) := nI_add n 20
  by_cases hc : n + 20 ≤ 260
  · obtain ⟨x1, m1, u1, v1, c1, e1, f1, g1⟩ := feed1 hL a hR.2 q2 q3 q4 (by omega)
    obtain ⟨x2, m2, u2, v2, c2, e2, f2, g2⟩ := feed1 hL b c1 e1 f1 g1 (by omega)
    obtain ⟨x3, m3, u3, v3, c3, e3, f3, g3⟩ := feed1 hL c c2 e2 f2 g2 (by omega)
    obtain ⟨x4, m4, u4, v4, c4, e4, f4, g4⟩ := feed1 hL d c3 e3 f3 g3 (by omega)
    obtain ⟨x5, m5, u5, v5, c5, e5, f5, g5⟩ := feed1 hL e c4 e4 f4 g4 (by omega)
    have h1 : f_W_feed Sx a b c d e = some (nI (n + 4 + 4 + 4 + 4 + 4), x5) := by
      unfold f_W_feed f_Tape_hasRoom
      rw [q2, ea, if_neg (show ¬ (260 : Int32) < nI (n + 20) from nlt' (a := 260) hc), Option.bind_some, if_neg i10, u1, Option.bind_some, u2, Option.bind_some, u3, Option.bind_some, u4, Option.bind_some, u5, Option.bind_some, e5]
    have h2 : f_Mo_feed Sm a b c d e = some (nI (n + 4 + 4 + 4 + 4 + 4), m5) := by
      unfold f_Mo_feed
      rw [q3, ea, if_pos (show nI (n + 20) ≤ (260 : Int32) from yle (b := 260) hc), v1, Option.bind_some, v2, Option.bind_some, v3, Option.bind_some, v4, Option.bind_some, v5, Option.bind_some, f5]
    exact ⟨nI (n + 4 + 4 + 4 + 4 + 4), x5, m5, t_W_feed h1, t_Mo_feed h2, ⟨n + 4 + 4 + 4 + 4 + 4, by omega, e5, f5, g5⟩, c5⟩
  · have h1 : f_W_feed Sx a b c d e = some (-1, Sx) := by
      unfold f_W_feed f_Tape_hasRoom
      rw [q2, ea, if_pos (show (260 : Int32) < nI (n + 20) from ylt (a := 260) (by omega))]; rfl
    have h2 : f_Mo_feed Sm a b c d e = some (-1, Sm) := by
      unfold f_Mo_feed
      rw [q3, ea, if_neg (show ¬ nI (n + 20) ≤ (260 : Int32) from nle (a := 260) (by omega))]
    exact ⟨-1, Sx, Sm, t_W_feed h1, t_Mo_feed h2, hR⟩
end STP
