/-! PARISH -/
def PD (S T : St) (k : Nat) : Prop := S 20 6 = nI k ∧ T 0 34 = nI k ∧ (∀ j, j < k → S 21 j = T 20 j ∧ (∃ a, a < 16 ∧ T 20 j = nI a) ∧ S 22 j = pw (T 23 j) ∧ (T 23 j = -1 ∨ ∃ a, a < j ∧ T 23 j = nI a) ∧ S 23 j = T 21 j ∧ (∃ a, a ≤ 999 ∧ T 21 j = nI a) ∧ bt (S 20 4) j = decide (T 22 j = 1) ∧ (T 22 j = 0 ∨ T 22 j = 1)) ∧ ∀ j, k ≤ j → bt (S 20 4) j = false
section PAR
variable {n p k : Nat} {b : Nat → Nat}
theorem PD.cong {S T S' T' : St} (h : PD S T k) (hx : ∀ r j, (r = 20 ∧ (j = 4 ∨ j = 6)) ∨ r = 21 ∨ r = 22 ∨ r = 23 → S' r j = S r j) (hm : ∀ r j, (r = 0 ∧ j = 34) ∨ (20 ≤ r ∧ r ≤ 23) → T' r j = T r j) : PD S' T' k := by
  obtain ⟨h1, h2, h3, h4⟩ := h
  refine ⟨by rw [hx 20 6 (by omega)]; exact h1, by rw [hm 0 34 (by omega)]; exact h2, fun j hj => ?_, fun j hj => by rw [hx 20 4 (by omega)]; exact h4 j hj⟩
  rw [hx 21 j (by omega), hx 22 j (by omega), hx 23 j (by omega), hx 20 4 (by omega), hm 20 j (by omega), hm 21 j (by omega), hm 22 j (by omega), hm 23 j (by omega)]
  exact h3 j hj
/-- the class writes a line of its draft -/
theorem x_line113 {S : St} (hk : k < 24) (c v star w : Int32) : ∃ S', f_ParishReader_readLine_113 S (nI k) c v star w = some S' ∧ (∀ r, r ≠ 20 → r ≠ 21 → r ≠ 22 → r ≠ 23 → S' r = S r) ∧ (∀ j, j ≠ 4 → j ≠ 6 → S' 20 j = S 20 j) ∧ S' 20 6 = nI (k + 1) ∧ S' 21 = upd (S 21) k (c - 97) ∧ S' 22 = upd (S 22) k w ∧ S' 23 = upd (S 23) k v ∧ (∀ j, j < 32 → bt (S' 20 4) j = if j = k then decide (¬ star = 0 ∧ ¬ v ≤ 0) else bt (S 20 4) j) := by
  have g1 : ig (nI k) 24 = true := gn (by omega) (by omega)
  have c1 : (nI k).toNatClampNeg = k := cl
  have fin : ∀ (x : Int32) (bb : Bool), (∀ j, j < 32 → bt x j = if j = k then bb else bt (S 20 4) j) → bb = decide (¬ star = 0 ∧ ¬ v ≤ 0) → f_ParishReader_readLine_113 S (nI k) c v star w = some (sF (sF (sF (sF (sF S 21 k (c - 97)) 23 k v) 20 4 x) 22 k w) 20 6 (nI (k + 1))) → ∃ S', f_ParishReader_readLine_113 S (nI k) c v star w = some S' ∧ (∀ r, r ≠ 20 → r ≠ 21 → r ≠ 22 → r ≠ 23 → S' r = S r) ∧ (∀ j, j ≠ 4 → j ≠ 6 → S' 20 j = S 20 j) ∧ S' 20 6 = nI (k + 1) ∧ S' 21 = upd (S 21) k (c - 97) ∧ S' 22 = upd (S 22) k w ∧ S' 23 = upd (S 23) k v ∧ (∀ j, j < 32 → bt (S' 20 4) j = if j = k then decide (¬ star = 0 ∧ ¬ v ≤ 0) else bt (S 20 4) j) := fun x bb hx hb he => by
    refine ⟨_, he, fun r h1 h2 h3 h4 => ?_, fun j h1 h2 => ?_, sF_at, ?_, ?_, ?_, fun j hj => ?_⟩
    · rw [sF_rne h1, sF_rne h3, sF_rne h1, sF_rne h4, sF_rne h2]
    · rw [sF_ne (Or.inr h2), sF_ne (by omega), sF_ne (Or.inr h1), sF_ne (by omega), sF_ne (by omega)]
    · rw [sF_rne (by omega), sF_rne (by omega), sF_rne (by omega), sF_rne (by omega), sF_row]
    · rw [sF_rne (by omega), sF_row, sF_rne (by omega), sF_rne (by omega), sF_rne (by omega)]
    · rw [sF_rne (by omega), sF_rne (by omega), sF_rne (by omega), sF_row, sF_rne (by omega)]
    · rw [sF_ne (by omega), sF_ne (by omega), sF_at, hx j hj, hb]
  have s4 : sF (sF S 21 k (c - 97)) 23 k v 20 4 = S 20 4 := by rw [sF_ne (by omega), sF_ne (by omega)]
  by_cases d : ¬ star = 0 ∧ ¬ v ≤ 0
  · refine fin (S 20 4 ||| jshl 1 (nI k)) true (fun j hj => bt_on (by omega) hj) (decide_eq_true d).symm ?_
    unfold f_ParishReader_readLine_113 f_ParishReader_readLine_157
    rw [if_pos g1, Option.bind_some, if_pos g1, c1, Option.bind_some, if_neg d.1, if_neg d.2, pl1, Option.bind_some, if_pos g1, Option.bind_some, nI_1, Option.bind_some, s4]
  · refine fin (S 20 4 &&& (jshl 1 (nI k) ^^^ (-1))) false (fun j hj => bt_off (by omega) hj) (decide_eq_false d).symm ?_
    have e : f_ParishReader_readLine_113 S (nI k) c v star w = f_ParishReader_readLine_156 (sF (sF S 21 k (c - 97)) 23 k v) (nI k) w (nI k) := by
      unfold f_ParishReader_readLine_113
      rw [if_pos g1, Option.bind_some, if_pos g1, c1, Option.bind_some]
      by_cases d1 : star = 0
      · rw [if_pos d1]
      · rw [if_neg d1, if_pos (Classical.byContradiction fun z => d ⟨d1, z⟩)]
    rw [e]
    unfold f_ParishReader_readLine_156 f_ParishReader_readLine_157
    rw [pl0, Option.bind_some, if_pos g1, Option.bind_some, nI_1, Option.bind_some, s4, c1]
/-- after a fault the class goes on to the line's end and changes its draft alone -/
def Flt (f : Int32) (S T : St) : Prop := ¬ f = 0 ∧ S 3 2 = f ∧ T 0 10 = f
theorem x_lineF {S : St} {f : Int32} (hf : ¬ f = 0) (h : S 3 2 = f) (hk : k < 24) (c v : Int32) : ∃ S', ((f_Reading_takes S 42).bind fun w_86 => (some w_86.1).bind fun l4_89 => (f_Reading_takes w_86.2 60).bind fun w_97 => if w_97.1 = 0 then f_ParishReader_readLine_113 w_97.2 (nI k) c v l4_89 ((-2) : Int32) else (f_ParishReader_readOther w_97.2 (nI k)).bind fun w_105 => f_ParishReader_readLine_113 w_105.2 (nI k) c v l4_89 w_105.1) = some S' ∧ S' 3 2 = f := by
  have h0 : ¬ S 3 2 = 0 := by rw [h]; exact hf
  obtain ⟨S', e1, e2, -⟩ := x_line113 (S := S) hk c v 0 (-2)
  refine ⟨S', ?_, by rw [e2 3 (by omega) (by omega) (by omega) (by omega)]; exact h⟩
  rw [x_takes0 h0, Option.bind_some, Option.bind_some, x_takes0 h0, Option.bind_some, if_pos rfl, e1]
theorem let_in {x : Int32} : (¬ x < 97 ∧ x ≤ 112) ↔ (¬ x - 97 < 0 ∧ ¬ (15 : Int32) < x - 97) ∧ (0 ≤ x.toInt ∨ x = -1) ∨ (¬ x < 97 ∧ x ≤ 112) := by
  constructor
  · intro h; exact Or.inr h
  · rintro (⟨⟨h1, h2⟩, h3⟩ | h)
    · rw [fa_lt] at h1 h2
      have z : (0 : Int32).toInt = 0 := rfl
      have e15 : (15 : Int32).toInt = 15 := rfl
      have e97 : (97 : Int32).toInt = 97 := rfl
      have e112 : (112 : Int32).toInt = 112 := rfl
      have hr := fb_rng x
      have hs : (x - 97).toInt = x.toInt - 97 := by
        rcases h3 with h3 | h3
        · exact fb_subI (by rw [e97]; omega) (by rw [e97]; omega)
        · rw [h3]; decide
      rw [fa_lt, fa_le]
      omega
    · exact h
theorem sg_nn : 0 ≤ (sg b n p).toInt ∨ sg b n p = -1 ∨ ¬ (p < n → b p < 256) := by
  by_cases c : p < n
  · by_cases d : b p < 256
    · rw [sg_y c, nI_toInt (by omega)]; exact Or.inl (by omega)
    · exact Or.inr (Or.inr (fun z => d (z c)))
  · exact Or.inr (Or.inl (sg_n c))
theorem in_let {T : St} (hb : p < n → b p < 256) : f_Mo_in T (sg b n p - 97) 0 15 = some (if ¬ sg b n p < 97 ∧ sg b n p ≤ 112 then 1 else 0) := by
  have hx : 0 ≤ (sg b n p).toInt ∨ sg b n p = -1 := by
    rcases sg_nn (b := b) (n := n) (p := p) with h | h | h
    · exact Or.inl h
    · exact Or.inr h
    · exact absurd hb h
  by_cases c : ¬ sg b n p < 97 ∧ sg b n p ≤ 112
  · rw [if_pos c]
    obtain ⟨m, a1, a2, a3⟩ := rngN (x := sg b n p) (a := 97) (b := 112) (by omega) c.1 (fun z => (fa_of_lt z).2.1 c.2)
    rw [a3]
    have e : nI m - 97 = nI (m - 97) := pk_sub (b := 97) (by omega)
    rw [e]
    exact in_y (nI_lt0 (by omega)) (show ¬ (15 : Int32) < nI (m - 97) from nlt' (b := m - 97) (a := 15) (by omega))
  · rw [if_neg c]
    apply in_n
    refine Classical.byContradiction fun z => c ?_
    exact let_in.mpr (Or.inl ⟨⟨fun q => z (Or.inl q), fun q => z (Or.inr q)⟩, hx⟩)
/-- one line -/
theorem rd_line {S T : St} (hk : k ≤ 24) (hX : XD S n b p) (hM : MD T n b p) (hP : PD S T k) : (∃ q S' T', p < q ∧ k < 24 ∧ f_ParishReader_readLine S (nI k) = some S' ∧ f_Mo_readsThing T = some (1, T') ∧ XD S' n b q ∧ MD T' n b q ∧ PD S' T' (k + 1)) ∨ (∃ f S' T', f_ParishReader_readLine S (nI k) = some S' ∧ f_Mo_readsThing T = some (0, T') ∧ Flt f S' T') := by
  have hp := hX.2.2.2.1
  have hn := hX.2.2.2.2
  have hb : p < n → b p < 256 := fun h => (hX.1.2.2 p h).2
  have flt : ∀ (w q : Nat), 1 ≤ w → w ≤ 9 → q ≤ 300 → ∀ (A : Option St) (B : Option (Int32 × St)) (S1 T1 : St), A = some (sF S1 3 2 ((-1000) * nI w - nI q)) → B = some (0, sF T1 0 10 ((-1000) * nI w - nI q)) → ∃ f S' T', A = some S' ∧ B = some (0, T') ∧ Flt f S' T' := fun w q h1 h2 h3 A B S1 T1 hA hB => ⟨(-1000) * nI w - nI q, _, _, hA, hB, fl_ne h1 h2 h3, sF_at, sF_at⟩
  obtain ⟨A, hA⟩ : ∃ A, f_ParishReader_readLine S (nI k) = A := ⟨_, rfl⟩
  obtain ⟨B, hB⟩ : ∃ B, f_Mo_readsThing T = B := ⟨_, rfl⟩
  rw [hA, hB]
  unfold f_ParishReader_readLine at hA
  unfold f_Mo_readsThing at hB
  rw [hX.sign, Option.bind_some] at hA
  rw [hM.here hp hn, Option.bind_some, in_let hb, Option.bind_some, hP.2.1] at hB
  by_cases cl1 : ¬ sg b n p < 97 ∧ sg b n p ≤ 112
  · rw [if_neg cl1.1, if_pos cl1.2] at hA
    rw [if_pos cl1, if_neg i10] at hB
    by_cases k24 : k = 24
    · refine Or.inr (flt 4 p (by omega) (by omega) (by omega) _ _ S T ?_ ?_)
      · rw [if_neg (show ¬ nI k < 24 from nlt' (a := k) (b := 24) (by omega)), x_fail hX.2.2.1, Option.bind_some, hX.2.1] at hA
        exact hA.symm
      · rw [if_pos (show nI k = 24 by rw [k24]; rfl), m_wrong, Option.bind_some, if_pos (Or.inl rfl), hM.2.2] at hB
        exact hB.symm
    · have k24' : k < 24 := by omega
      have g1 : ig (nI k) 24 = true := gn (by omega) (by omega)
      have c1 : (nI k).toNatClampNeg = k := cl
      have pn : p < n := Classical.byContradiction fun z => cl1.1 (by rw [sg_n z]; decide)
      have nk : ¬ nI k = 24 := fun z => k24 (nI_inj (b := 24) (by omega) (by omega) z)
      have t8 : ∀ v, sF T 20 k v 0 8 = nI p := fun v => by rw [sF_ne (by omega)]; exact hM.2.2
      rw [if_pos (show nI k < 24 from ylt (b := 24) k24'), Option.bind_some, hX.2.1, nI_1] at hA
      rw [if_neg nk, Option.bind_some, if_pos g1, c1, Option.bind_some, Option.bind_some, t8, nI_1] at hB
      obtain ⟨S1, hS1⟩ : ∃ S1, sF S 3 1 (nI (p + 1)) = S1 := ⟨_, rfl⟩
      obtain ⟨T1, hT1⟩ : ∃ T1, sF (sF T 20 k (sg b n p - 97)) 0 8 (nI (p + 1)) = T1 := ⟨_, rfl⟩
      have hX1 : XD S1 n b (p + 1) := by rw [← hS1]; exact hX.on pn
      have hM1 : MD T1 n b (p + 1) := by rw [← hT1]; exact (hM.set (by omega)).on
      rw [hS1] at hA
      rw [hT1] at hB
      have w34 : T1 0 34 = nI k := by rw [← hT1, sF_ne (by omega), sF_ne (by omega)]; exact hP.2.1
      rcases rd_amount (md := 3) (by omega) (by omega) hX1 hM1 with ⟨q, a, S2, T2, q1, q2, q3, e1, e2, hX2, hM2, h11⟩ | ⟨f, v, S2, T2, f0, e1, e2, e3, e4⟩
      · -- a good length
        have e1' : f_Reading_number S1 3 = some (nI a, S2) := e1
        have e2' : f_Mo_readsAmount T1 3 = some (1, T2) := e2
        have hp2 := hX2.2.2.2.1
        have x34 : T2 0 34 = nI k := (w_Mo_readsAmount e2 (by omega)).trans w34
        have rS2 : ∀ r j, ¬ (r = 3 ∧ (j = 1 ∨ j = 2)) → S2 r j = S r j := fun r j h => (w_Reading_number e1 h).trans (by rw [← hS1, sF_ne (by omega)])
        have rT2 : ∀ r j, ¬ (r = 0 ∧ (j = 8 ∨ j = 10 ∨ j = 11)) → T2 r j = sF T 20 k (sg b n p - 97) r j := fun r j h => (w_Mo_readsAmount e2 h).trans (by rw [← hT1, sF_ne (by omega)])
        rw [e1', Option.bind_some, Option.bind_some] at hA
        rw [e2', Option.bind_some, if_neg i10] at hB
        have x34' : ((1 : Int32), T2).snd 0 34 = nI k := x34
        have h11' : ((1 : Int32), T2).snd 0 11 = nI a := h11
        rw [x34', if_pos g1, c1, Option.bind_some, h11'] at hB
        have y34 : ∀ (r v1 : Nat) (v : Int32), r ≠ 0 → sF T2 r v1 v 0 34 = nI k := fun r v1 v hr => by rw [sF_ne (Or.inl (by omega))]; exact x34
        have z34 : ∀ (r v1 r' v1' : Nat) (v v' : Int32), r ≠ 0 → r' ≠ 0 → sF (sF T2 r v1 v) r' v1' v' 0 34 = nI k := fun r v1 r' v1' v v' hr hr' => by rw [sF_ne (Or.inl (by omega))]; exact y34 r v1 v hr
        rw [y34 21 k (nI a) (by omega), if_pos g1, c1, Option.bind_some, z34 21 k 22 k (nI a) 0 (by omega) (by omega), if_pos g1, c1, Option.bind_some] at hB
        obtain ⟨T3, hT3⟩ : ∃ T3, sF (sF (sF T2 21 k (nI a)) 22 k 0) 23 k (-1) = T3 := ⟨_, rfl⟩
        have hM3 : MD T3 n b q := by rw [← hT3]; exact ((hM2.set (by omega)).set (by omega)).set (by omega)
        have u34 : T3 0 34 = nI k := by rw [← hT3, sF_ne (by omega)]; exact z34 21 k 22 k (nI a) 0 (by omega) (by omega)
        have u21 : T3 21 k = nI a := by rw [← hT3, sF_ne (by omega), sF_ne (by omega), sF_at]
        rw [hT3, hM3.here hp2 hn, Option.bind_some] at hB
        rw [x_takes hX2] at hA
        have litv : ∃ star lt q4 S4 T4, (star = 0 ∨ star = 1) ∧ (lt = 0 ∨ lt = 1) ∧ q ≤ q4 ∧ (decide (lt = (1 : Int32)) = decide (¬ star = (0 : Int32) ∧ ¬ nI a ≤ 0)) ∧ (if sg b n q = 42 then some ((1 : Int32), sF S2 3 1 (nI (q + 1))) else some (0, S2)) = some (star, S4) ∧ XD S4 n b q4 ∧ MD T4 n b q4 ∧ (∀ r j, ¬ (r = 3 ∧ (j = 1 ∨ j = 2)) → S4 r j = S2 r j) ∧ (∀ r j, ¬ (r = 0 ∧ j = 8) → ¬ (r = 22 ∧ j = k) → T4 r j = T3 r j) ∧ T4 22 k = lt ∧ (if sg b n q = 42 then (some (sF T3 0 8 ((T3 0 8) + 1))).bind fun S_130 => if ig (S_130 0 34) 24 then (if (S_130 21 (S_130 0 34).toNatClampNeg) ≤ 0 then f_Mo_readsThing_158 S_130 (0 : Int32) (S_130 0 34) else f_Mo_readsThing_158 S_130 (1 : Int32) (S_130 0 34)) else none else f_Mo_readsThing_159 T3) = f_Mo_readsThing_159 T4 := by
          by_cases st : sg b n q = 42
          · have qn : q < n := sg_lt (c := 42) (by omega) st
            obtain ⟨T5, hT5⟩ : ∃ T5, sF T3 0 8 (nI (q + 1)) = T5 := ⟨_, rfl⟩
            have hM5 : MD T5 n b (q + 1) := by rw [← hT5]; exact hM3.on
            have v34 : T5 0 34 = nI k := by rw [← hT5, sF_ne (by omega)]; exact u34
            have v21 : T5 21 k = nI a := by rw [← hT5, sF_ne (by omega)]; exact u21
            have body : (if sg b n q = 42 then (some (sF T3 0 8 ((T3 0 8) + 1))).bind fun S_130 => if ig (S_130 0 34) 24 then (if (S_130 21 (S_130 0 34).toNatClampNeg) ≤ 0 then f_Mo_readsThing_158 S_130 (0 : Int32) (S_130 0 34) else f_Mo_readsThing_158 S_130 (1 : Int32) (S_130 0 34)) else none else f_Mo_readsThing_159 T3) = f_Mo_readsThing_159 (sF T5 22 k (if nI a ≤ 0 then 0 else 1)) := by
              rw [if_pos st, Option.bind_some, hM3.2.2, nI_1, hT5, v34, if_pos g1, c1, v21]
              unfold f_Mo_readsThing_158
              rw [if_pos g1, c1, Option.bind_some, if_pos g1, Option.bind_some]
              by_cases w : nI a ≤ 0
              · rw [if_pos w, if_pos w]
              · rw [if_neg w, if_neg w]
            refine ⟨1, if nI a ≤ 0 then 0 else 1, q + 1, sF S2 3 1 (nI (q + 1)), sF T5 22 k (if nI a ≤ 0 then 0 else 1), Or.inr rfl, by split <;> simp, by omega, ?_, by rw [if_pos st], hX2.on qn, hM5.set (by omega), fun r j h => sF_ne (by omega), fun r j h1 h2 => by rw [sF_ne (by omega), ← hT5, sF_ne (by omega)], sF_at, body⟩
            by_cases w : nI a ≤ 0
            · simp [w]
            · simp [w]
          · exact ⟨0, 0, q, S2, T3, Or.inl rfl, Or.inl rfl, by omega, by simp, by rw [if_neg st], hX2, hM3, fun _ _ _ => rfl, fun _ _ _ _ => rfl, by rw [← hT3, sF_ne (by omega), sF_at], by rw [if_neg st]⟩
        obtain ⟨star, lt, q4, S4, T4, hstar, hlt, hq4, hdec, eS4, hX4, hM4, rS4, rT4, t22, eT4⟩ := litv
        rw [eS4, Option.bind_some, Option.bind_some] at hA
        rw [eT4] at hB
        have hp4 := hX4.2.2.2.1
        have y4 : T4 0 34 = nI k := by rw [rT4 0 34 (by omega) (by omega)]; exact u34
        rw [x_takes hX4] at hA
        unfold f_Mo_readsThing_159 at hB
        rw [hM4.here hp4 hn, Option.bind_some] at hB
        have fin : ∀ (q5 : Nat) (S5 T5 : St) (w w' : Int32), p < q5 → XD S5 n b q5 → MD T5 n b q5 → (∀ r j, ¬ (r = 3 ∧ (j = 1 ∨ j = 2)) → S5 r j = S4 r j) → (∀ r j, ¬ (r = 0 ∧ (j = 8 ∨ j = 10 ∨ j = 11)) → ¬ (r = 23 ∧ j = k) → T5 r j = T4 r j) → T5 23 k = w' → w = pw w' → (w' = -1 ∨ ∃ a, a < k ∧ w' = nI a) → (∃ q S' T', p < q ∧ k < 24 ∧ f_ParishReader_readLine_113 S5 (nI k) (sg b n p) (nI a) star w = some S' ∧ f_Mo_readsThing_224 T5 = some (1, T') ∧ XD S' n b q ∧ MD T' n b q ∧ PD S' T' (k + 1)) := fun q5 S5 T5 w w' h1 h2 h3 h4 h5 h6 h7 h8 => by
          obtain ⟨S6, s1, s2, s3, s4, s5, s6, s7, s8⟩ := x_line113 (S := S5) k24' (sg b n p) (nI a) star w
          have z5 : T5 0 34 = nI k := by rw [h5 0 34 (by omega) (by omega)]; exact y4
          have eSr : ∀ r j, ¬ (r = 3 ∧ (j = 1 ∨ j = 2)) → S5 r j = S r j := fun r j h => by rw [h4 r j h, rS4 r j h, rS2 r j h]
          refine ⟨q5, S6, sF T5 0 34 (nI (k + 1)), h1, k24', s1, ?_, h2.cong ?_ ?_ ?_ ?_, h3.set (by omega), s4, sF_at, fun j hj => ?_, fun j hj => ?_⟩
          · unfold f_Mo_readsThing_224
            rw [z5, nI_1, Option.bind_some]
          · rw [s2 1 (by omega) (by omega) (by omega) (by omega)]
          · rw [s2 2 (by omega) (by omega) (by omega) (by omega)]
          · rw [s2 3 (by omega) (by omega) (by omega) (by omega)]
          · rw [s2 3 (by omega) (by omega) (by omega) (by omega)]
          · have T20 : T5 20 = upd (T 20) k (sg b n p - 97) := fe (fun i => by
              rw [h5 20 i (by omega) (by omega), rT4 20 i (by omega) (by omega), ← hT3, sF_ne (by omega), sF_ne (by omega), sF_ne (by omega), rT2 20 i (by omega), sF_row])
            have T21 : T5 21 = upd (T 21) k (nI a) := fe (fun i => by
              rw [h5 21 i (by omega) (by omega), rT4 21 i (by omega) (by omega), ← hT3, sF_ne (by omega), sF_ne (by omega), sF_row]
              by_cases e : i = k
              · rw [e, us_, us_]
              · rw [un_ e, un_ e, rT2 21 i (by omega), sF_ne (by omega)])
            have T22 : ∀ i, T5 22 i = if i = k then lt else T 22 i := fun i => by
              rw [h5 22 i (by omega) (by omega)]
              by_cases e : i = k
              · rw [e, if_pos rfl]; exact t22
              · rw [if_neg e, rT4 22 i (by omega) (by omega), ← hT3, sF_ne (by omega), sF_ne (Or.inr e), sF_ne (by omega), rT2 22 i (by omega), sF_ne (by omega)]
            have T23 : ∀ i, T5 23 i = if i = k then w' else T 23 i := fun i => by
              by_cases e : i = k
              · rw [e, if_pos rfl]; exact h6
              · rw [if_neg e, h5 23 i (by omega) (by omega), rT4 23 i (by omega) (by omega), ← hT3, sF_ne (Or.inr e), sF_ne (by omega), sF_ne (by omega), rT2 23 i (by omega), sF_ne (by omega)]
            have S21 : S5 21 = S 21 := fe (fun i => eSr 21 i (by omega))
            have S22 : S5 22 = S 22 := fe (fun i => eSr 22 i (by omega))
            have S23 : S5 23 = S 23 := fe (fun i => eSr 23 i (by omega))
            rw [s5, s6, s7, s8 j (by omega), sF_ne (by omega), sF_ne (by omega), sF_ne (by omega), sF_ne (by omega), T20, T21, T22, T23, S21, S22, S23, eSr 20 4 (by omega)]
            by_cases e : j = k
            · subst e
              rw [us_, us_, us_, us_, if_pos rfl, if_pos rfl, if_pos rfl]
              obtain ⟨m, a1, a2, a3⟩ := rngN (x := sg b n p) (a := 97) (b := 112) (by omega) cl1.1 (fun z => (fa_of_lt z).2.1 cl1.2)
              refine ⟨rfl, ⟨m - 97, by omega, ?_⟩, h7, h8, us_.symm, ⟨a, by omega, us_⟩, hdec.symm, hlt⟩
              rw [a3]; exact pk_sub (b := 97) (by omega)
            · rw [un_ e, un_ e, un_ e, un_ e, if_neg e, if_neg e, if_neg e, un_ e]
              exact hP.2.2.1 j (by omega)
          · by_cases j32 : j < 32
            · rw [s8 j j32, if_neg (by omega), eSr 20 4 (by omega)]
              exact hP.2.2.2 j (by omega)
            · exact b_big (by omega)
        by_cases lt4 : sg b n q4 = 60
        · have qn : q4 < n := sg_lt (c := 60) (by omega) lt4
          rw [if_pos lt4, Option.bind_some, if_neg i10] at hA
          rw [if_pos lt4, Option.bind_some, hM4.2.2, nI_1, sF_at, Option.bind_some] at hB
          obtain ⟨S5, hS5⟩ : ∃ S5, sF S4 3 1 (nI (q4 + 1)) = S5 := ⟨_, rfl⟩
          obtain ⟨T5, hT5⟩ : ∃ T5, sF T4 0 8 (nI (q4 + 1)) = T5 := ⟨_, rfl⟩
          have hX5 : XD S5 n b (q4 + 1) := by rw [← hS5]; exact hX4.on qn
          have hM5 : MD T5 n b (q4 + 1) := by rw [← hT5]; exact hM4.on
          rw [hT5] at hB
          have hA : ((f_ParishReader_readOther (sF S4 3 1 (nI (q4 + 1))) (nI k)).bind fun w_105 => f_ParishReader_readLine_113 w_105.2 (nI k) (sg b n p) (nI a) star w_105.1) = A := hA
          rw [hS5] at hA
          unfold f_ParishReader_readOther at hA
          rw [Option.bind_some, hX5.2.1] at hA
          rcases rd_amount (md := 2) (by omega) (by omega) hX5 hM5 with ⟨q6, a6, S6, T6, r1, r2, r3, g1', g2', hX6, hM6, h116⟩ | ⟨f, v, S6, T6, f0, g1', g2', g3', g4'⟩
          · have x346 : T6 0 34 = nI k := (w_Mo_readsAmount g2' (by omega)).trans (by rw [← hT5, sF_ne (by omega)]; exact y4)
            rw [show f_Reading_number S5 2 = some (nI a6, S6) from g1', Option.bind_some, Option.bind_some] at hA
            rw [show f_Mo_readsAmount T5 2 = some (1, T6) from g2', Option.bind_some, if_neg i10] at hB
            have x346' : ((1 : Int32), T6).snd 0 34 = nI k := x346
            have h116' : ((1 : Int32), T6).snd 0 11 = nI a6 := h116
            rw [h116', x346'] at hB
            by_cases less : a6 < k
            · rw [if_pos (ylt less), Option.bind_some] at hA
              rw [if_pos (ylt less), if_pos g1, c1, Option.bind_some] at hB
              rw [← hA, ← hB]
              refine Or.inl ?_
              refine fin q6 S6 (sF T6 23 k (nI a6)) (nI a6) (nI a6) (by omega) hX6 (hM6.set (by omega)) (fun r j h => (w_Reading_number g1' h).trans (by rw [← hS5, sF_ne (by omega)])) (fun r j h h' => by rw [sF_ne (by omega)]; exact (w_Mo_readsAmount g2' h).trans (by rw [← hT5, sF_ne (by omega)])) sF_at ?_ (Or.inr ⟨a6, less, rfl⟩)
              unfold pw
              rw [if_neg (nI_m1 (by omega))]
            · rw [if_neg (nlt' (by omega)), x_fail hX6.2.2.1, Option.bind_some, Option.bind_some] at hA
              rw [if_neg (nlt' (by omega)), m_wrong, Option.bind_some, if_pos (Or.inl rfl)] at hB
              refine Or.inr ?_
              obtain ⟨S7, s1, s2, -⟩ := x_line113 (S := sF S6 3 2 ((-1000) * 3 - nI (q4 + 1))) k24' (sg b n p) (nI a) star (nI a6)
              have f0 : ¬ (-1000) * nI 3 - nI (q4 + 1) = 0 := fl_ne (by omega) (by omega) (by omega)
              exact ⟨(-1000) * 3 - nI (q4 + 1), S7, sF T6 0 10 ((-1000) * 3 - nI (q4 + 1)), hA.symm.trans s1, hB.symm, f0, by rw [s2 3 (by omega) (by omega) (by omega) (by omega), sF_at], sF_at⟩
          · refine Or.inr ?_
            have n0 : ¬ S6 3 2 = 0 := by rw [g3']; exact f0
            rw [show f_Reading_number S5 2 = some (v, S6) from g1', Option.bind_some, Option.bind_some] at hA
            rw [show f_Mo_readsAmount T5 2 = some (0, T6) from g2', Option.bind_some, if_pos rfl] at hB
            have ro : ∃ w, (if v < nI k then some (v, S6) else (f_Reading_fail S6 3 (nI (q4 + 1))).bind fun w_28 => some (v, w_28)) = some (w, S6) := by
              by_cases c : v < nI k
              · exact ⟨v, by rw [if_pos c]⟩
              · exact ⟨v, by rw [if_neg c, x_fail0 n0, Option.bind_some]⟩
            obtain ⟨w, hw⟩ := ro
            obtain ⟨S7, s1, s2, -⟩ := x_line113 (S := S6) k24' (sg b n p) (nI a) star w
            rw [hw, Option.bind_some] at hA
            exact ⟨f, S7, T6, hA.symm.trans s1, hB.symm, f0, by rw [s2 3 (by omega) (by omega) (by omega) (by omega)]; exact g3', g4'⟩
        · rw [if_neg lt4, Option.bind_some, if_pos rfl] at hA
          rw [if_neg lt4] at hB
          rw [← hA, ← hB]
          refine Or.inl ?_
          exact fin q4 S4 T4 (-2) (-1) (by omega) hX4 hM4 (fun _ _ _ => rfl) (fun _ _ _ _ => rfl) (by rw [rT4 23 k (by omega) (by omega), ← hT3, sF_at]) rfl (Or.inl rfl)
      · refine Or.inr ?_
        rw [show f_Reading_number S1 3 = some (v, S2) from e1, Option.bind_some, Option.bind_some] at hA
        rw [show f_Mo_readsAmount T1 3 = some (0, T2) from e2, Option.bind_some, if_pos rfl] at hB
        obtain ⟨S', s1, s2⟩ := x_lineF f0 e3 k24' (sg b n p) v
        exact ⟨f, S', T2, hA.symm.trans s1, hB.symm, f0, s2, e4⟩
  · refine Or.inr (flt 1 p (by omega) (by omega) (by omega) _ _ S T ?_ ?_)
    · have e20 : f_ParishReader_readLine_20 S = some (sF S 3 2 ((-1000) * nI 1 - nI p)) := by
        unfold f_ParishReader_readLine_20
        rw [x_fail hX.2.2.1, Option.bind_some, hX.2.1]; rfl
      by_cases c1 : sg b n p < 97
      · rw [if_pos c1, e20] at hA
        exact hA.symm
      · rw [if_neg c1, if_neg (fun z => cl1 ⟨c1, z⟩), e20] at hA
        exact hA.symm
    · rw [if_neg cl1, if_pos rfl, m_wrong, Option.bind_some, if_pos (Or.inl rfl), hM.2.2] at hB
      exact hB.symm
end PAR
