/-! CONDITIONS of a law -/
section CO
variable {n : Nat} {b : Nat → Nat} {S T : St} {p s z w o : Nat}
theorem ep_stop {F : Nat} (h : T 0 14 = nI w) (hw : w ≤ 259) (hN : w = 0 ∨ ∃ k a, k ≤ 14 ∧ k ≠ 10 ∧ a < 1048576 ∧ T 8 (w - 1) = nI (1048576 * k + a)) : f_Mo_endsPiece_0 (F + 1) T = some T := by
  rw [f_Mo_endsPiece_0]
  by_cases w0 : w = 0
  · rw [w0] at h
    rw [m_top0 h, Option.bind_some, if_neg (by decide)]
  · rcases hN with e | ⟨k, a, h1, h2, h3, h4⟩
    · exact absurd e w0
    · obtain ⟨w, rfl⟩ : ∃ v, w = v + 1 := ⟨w - 1, by omega⟩
      rw [m_top h (by omega) h1 h3 h4, Option.bind_some, if_neg (show ¬ nI k = 10 from nI_k 10 (by omega) (by omega) h2)]
def epM (T : St) (z w o : Nat) : St := sF (sF (ntM T z (nI (1048576 * 10))) 0 14 (nI w)) 0 12 (nI o)
theorem ep_pop {F : Nat} (h : T 0 14 = nI (w + 1)) (hw : w < 260) (h8 : T 8 w = nI (1048576 * 10)) (h13 : T 0 13 = nI z) (hz : z < 260) (h12 : T 0 12 = nI (o + 1)) : f_Mo_endsPiece_0 (F + 1) T = f_Mo_endsPiece_0 F (epM T z w o) := by
  have e14 : ∀ v, ntM T z v 0 14 - 1 = nI w := fun v => by
    unfold ntM
    rw [sF_ne (by omega), sF_ne (by omega), h]; exact pk_sub (a := w + 1) (b := 1) (by omega)
  have e12 : ∀ v u, sF (ntM T z v) 0 14 u 0 12 - 1 = nI o := fun v u => by
    unfold ntM
    rw [sF_ne (by omega), sF_ne (by omega), sF_ne (by omega), h12]; exact pk_sub (a := o + 1) (b := 1) (by omega)
  unfold epM
  rw [f_Mo_endsPiece_0, m_top (k := 10) (a := 0) h hw (by omega) (by omega) h8, Option.bind_some, if_pos (show nI 10 = 10 from rfl), m_notes h13 hz, Option.bind_some, e14, Option.bind_some, e12, Option.bind_some]
  rfl
theorem LST.ep (h : LST n b S T p s z (w + 1) (o + 1)) (hz : z + s + 1 ≤ p) (x y : Int32) : LST n b (adX S (z + s) x y) (epM T z w o) p s (z + 1) w o ∧ belo S T (adX S (z + s) x y) (epM T z w o) s z w ∧ adX S (z + s) x y 33 (z + s) = x ∧ adX S (z + s) x y 34 (z + s) = y ∧ epM T z w o 7 z = nI (1048576 * 10) := by
  obtain ⟨a1, a2, a3, a4, a5⟩ := h.add hz x y (nI (1048576 * 10))
  obtain ⟨h1, h2, h3, h4, h5, h6, h7, h8⟩ := a1
  obtain ⟨b1, b2, b3, b4, b5⟩ := a2
  unfold epM
  refine ⟨⟨h1, (h2.set (by omega)).set (by omega), h3, by rw [sF_ne (by omega), sF_ne (by omega)]; exact h4, by rw [sF_ne (by omega), sF_at], sF_at, by omega, h8⟩, ⟨b1, fun i hi => by rw [sF_ne (by omega), sF_ne (by omega)]; exact b2 i hi, fun i hi => by rw [sF_ne (by omega), sF_ne (by omega)]; exact b3 i (by omega), b4, (b5.set (by omega)).set (by omega)⟩, a3, a4, by rw [sF_ne (by omega), sF_ne (by omega)]; exact a5⟩
/-! landings -/
theorem ld_stop {F : Nat} {l : Int32} (h : T 0 14 = nI w) (hw : w ≤ 259) (hw1 : 1 ≤ w) {k a : Nat} (hk : k ≤ 14) (ha : a < 1048576) (h8 : T 8 (w - 1) = nI (1048576 * k + a)) (hk1 : k ≠ 11) (hk2 : l = 0 ∨ k ≠ 12) : f_Mo_lands_0 (F + 1) T l = some T := by
  obtain ⟨w, rfl⟩ : ∃ v, w = v + 1 := ⟨w - 1, by omega⟩
  have ht := m_top h (by omega) hk ha h8
  rw [f_Mo_lands_0, ht, Option.bind_some, if_neg (show ¬ nI k = 11 from nI_k 11 (by omega) (by omega) hk1)]
  by_cases c : l = 0
  · rw [if_pos c]
  · rw [if_neg c, Option.bind_some, if_neg (show ¬ nI k = 12 from nI_k 12 (by omega) (by omega) (hk2.resolve_left c))]
def ldM (T : St) (zt k z w : Nat) : St := sF (sF T 7 zt (nI (1048576 * k + z))) 0 14 (nI w)
theorem ld_pop {F : Nat} {l : Int32} {k zt : Nat} (h : T 0 14 = nI (w + 1)) (hw : w < 260) (hk : k = 11 ∨ (k = 12 ∧ ¬ l = 0)) (hzt : zt < 260) (h8 : T 8 w = nI (1048576 * k + zt)) (h7 : T 7 zt = nI (1048576 * k)) (h13 : T 0 13 = nI z) (hz : z < 260) : f_Mo_lands_0 (F + 1) T l = f_Mo_lands_0 F (ldM T zt k z w) l := by
  have ht := m_top h hw (by omega) (by omega) h8
  have c1 : (nI w).toNatClampNeg = w := cl
  have c2 : (nI zt).toNatClampNeg = zt := cl
  have e1 : nI (w + 1) - 1 = nI w := pk_sub (a := w + 1) (b := 1) (by omega)
  have d2 : jrem (nI (1048576 * k + zt)) 1048576 = nI zt := by
    rw [show jrem (nI (1048576 * k + zt)) 1048576 = nI ((1048576 * k + zt) % 1048576) from pk_rem (d := 1048576) (by omega) (by omega) (by omega)]
    congr 1; omega
  have d1 : nI (1048576 * k) / 1048576 = nI k := by
    rw [show nI (1048576 * k) / 1048576 = nI (1048576 * k / 1048576) from pk_div (d := 1048576) (by omega) (by omega) (by omega), show 1048576 * k / 1048576 = k by omega]
  have d3 : (1048576 : Int32) * nI k + nI z = nI (1048576 * k + z) := by rw [show (1048576 : Int32) * nI k = nI (1048576 * k) from pk_mul 1048576 k, nI_add]
  have e14 : ∀ v, sF T 7 zt v 0 14 = nI (w + 1) := fun v => by rw [sF_ne (by omega)]; exact h
  have e22 : f_Mo_lands_22 (f_Mo_lands_0 F) T l = f_Mo_lands_0 F (ldM T zt k z w) l := by
    unfold f_Mo_lands_22 ldM
    rw [h, e1, if_pos (gn (by omega) (by omega)), c1, h8, d2, Option.bind_some, if_pos (gn (by omega) (by omega)), if_pos (gn (by omega) (by omega)), c2, h7, d1, h13, d3, Option.bind_some, e14, e1, Option.bind_some]
  rw [f_Mo_lands_0, ht, Option.bind_some, e22]
  rcases hk with e | ⟨e, c⟩
  · rw [if_pos (show nI k = 11 by rw [e]; rfl)]
  · rw [if_neg (show ¬ nI k = 11 from nI_k 11 (by omega) (by omega) (by omega)), if_neg c, Option.bind_some, if_pos (show nI k = 12 by rw [e]; rfl)]
theorem x_land {k : Nat} (h : S 32 7 = nI z) (hk : k < z) (hz : z ≤ 240) : f_Law_land S (nI k) = some (sF S 34 k (nI z)) := by
  unfold f_Law_land
  have c1 : (nI k).toNatClampNeg = k := cl
  rw [if_neg (nI_lt0 (by omega)), h, if_neg (nle hk), if_pos (gn (by omega) (by omega)), c1, Option.bind_some]
theorem x_land0 : f_Law_land S (-1) = some S := by
  unfold f_Law_land
  rw [if_pos (by decide)]
/-- both land a skip here -/
theorem LST.land (h : LST n b S T p s z (w + 1) o) {zt : Nat} (hzt : zt < z) (k : Nat) : LST n b (sF S 34 (zt + s) (nI (z + s))) (ldM T zt k z w) p s z w o ∧ belo S T (sF S 34 (zt + s) (nI (z + s))) (ldM T zt k z w) s zt w ∧ (∀ i, i ≠ zt → sF S 34 (zt + s) (nI (z + s)) 34 (i + s) = S 34 (i + s) ∧ ldM T zt k z w 7 i = T 7 i) ∧ (∀ i, sF S 34 (zt + s) (nI (z + s)) 33 i = S 33 i) ∧ sF S 34 (zt + s) (nI (z + s)) 34 (zt + s) = nI (z + s) ∧ ldM T zt k z w 7 zt = nI (1048576 * k + z) ∧ (∀ i, ldM T zt k z w 8 i = T 8 i) := by
  obtain ⟨h1, h2, h3, h4, h5, h6, h7, h8⟩ := h
  unfold ldM
  refine ⟨⟨h1.set (by omega), (h2.set (by omega)).set (by omega), by rw [sF_ne (by omega)]; exact h3, by rw [sF_ne (by omega), sF_ne (by omega)]; exact h4, sF_at, by rw [sF_ne (by omega), sF_ne (by omega)]; exact h6, by omega, h8⟩, ⟨fun i hi => ⟨sF_ne (by omega), sF_ne (by omega)⟩, fun i hi => by rw [sF_ne (by omega), sF_ne (by omega)], fun i hi => by rw [sF_ne (by omega), sF_ne (by omega)], (frX.refl S).set (by omega), ((frM.refl T).set (by omega)).set (by omega)⟩, fun i hi => ⟨sF_ne (by omega), by rw [sF_ne (by omega), sF_ne (by omega)]⟩, fun i => sF_ne (by omega), sF_at, by rw [sF_ne (by omega), sF_at], fun i => by rw [sF_ne (by omega), sF_ne (by omega)]⟩
def jmM (T : St) (p w z k : Nat) : St := sF (ntM (sF (sF T 8 w (nI (1048576 * k + z))) 0 14 (nI (w + 1))) z (nI (1048576 * k))) 0 8 (nI (p + 1))
/-- both write a skip behind a sign -/
theorem LST.jump (h : LST n b S T p s z w o) (hp : p < n) (k : Nat) (x : Int32) : f_Law_add (sF S 3 1 (nI (p + 1))) x 0 = some (nI (z + s), adX (sF S 3 1 (nI (p + 1))) (z + s) x 0) ∧ f_Mo_jumps T (nI k) = some (jmM T p w z k) ∧ LST n b (adX (sF S 3 1 (nI (p + 1))) (z + s) x 0) (jmM T p w z k) (p + 1) s (z + 1) (w + 1) o ∧ belo S T (adX (sF S 3 1 (nI (p + 1))) (z + s) x 0) (jmM T p w z k) s z w ∧ adX (sF S 3 1 (nI (p + 1))) (z + s) x 0 33 (z + s) = x ∧ jmM T p w z k 7 z = nI (1048576 * k) ∧ jmM T p w z k 8 w = nI (1048576 * k + z) := by
  have hn := h.hn
  obtain ⟨h1, h2, h3, h4, h5, h6, h7, h8⟩ := h
  have c1 : (nI w).toNatClampNeg = w := cl
  have hx7 : sF S 3 1 (nI (p + 1)) 32 7 = nI (z + s) := by rw [sF_ne (by omega)]; exact h3
  refine ⟨x_add hx7 (by omega) x 0, ?_, ⟨?_, ?_, ?_, ?_, ?_, ?_, by omega, by omega⟩, ⟨fun i hi => ?_, fun i hi => ?_, fun i hi => ?_, ?_, ?_⟩, ?_, ?_, ?_⟩
  · unfold f_Mo_jumps jmM
    have e13 : ∀ v u, sF (sF T 8 w v) 0 14 u 0 13 = nI z := fun v u => by rw [sF_ne (by omega), sF_ne (by omega)]; exact h4
    have e14 : ∀ v, sF T 8 w v 0 14 = nI w := fun v => by rw [sF_ne (by omega)]; exact h5
    have e8 : ∀ v u y, ntM (sF (sF T 8 w v) 0 14 u) z y 0 8 = nI p := fun v u y => by unfold ntM; rw [sF_ne (by omega), sF_ne (by omega), sF_ne (by omega), sF_ne (by omega)]; exact h2.2.2
    rw [h5, if_pos (gn (by omega) (by omega)), c1, h4, Option.bind_some, e14, nI_1, Option.bind_some, m_notes (e13 _ _) (by omega), Option.bind_some, e8, nI_1, Option.bind_some, mop, show (1048576 : Int32) * nI k = nI (1048576 * k) from pk_mul 1048576 k, nI_add]
  · unfold adX; exact (((h1.on hp).set (by omega)).set (by omega)).set (by omega)
  · unfold jmM ntM; exact ((((h2.set (by omega)).set (by omega)).set (by omega)).set (by omega)).on
  · unfold adX; rw [sF_at]; congr 1; omega
  · unfold jmM ntM; rw [sF_ne (by omega), sF_at]
  · unfold jmM ntM; rw [sF_ne (by omega), sF_ne (by omega), sF_ne (by omega), sF_at]
  · unfold jmM ntM; rw [sF_ne (by omega), sF_ne (by omega), sF_ne (by omega), sF_ne (by omega), sF_ne (by omega)]; exact h6
  · unfold adX; exact ⟨by rw [sF_ne (by omega), sF_ne (by omega), sF_ne (by omega), sF_ne (by omega)], by rw [sF_ne (by omega), sF_ne (by omega), sF_ne (by omega), sF_ne (by omega)]⟩
  · unfold jmM ntM; rw [sF_ne (by omega), sF_ne (by omega), sF_ne (by omega), sF_ne (by omega), sF_ne (by omega)]
  · unfold jmM ntM; rw [sF_ne (by omega), sF_ne (by omega), sF_ne (by omega), sF_ne (by omega), sF_ne (by omega)]
  · exact ((frX.refl S).set (by omega)).trans (adX_fr _ _ _ _)
  · unfold jmM; exact ((((frM.refl T).set (by omega)).set (by omega)).trans (ntM_fr _ _ _)).set (by omega)
  · unfold adX; rw [sF_ne (by omega), sF_ne (by omega), sF_at]
  · unfold jmM ntM; rw [sF_ne (by omega), sF_ne (by omega), sF_at]
  · unfold jmM ntM; rw [sF_ne (by omega), sF_ne (by omega), sF_ne (by omega), sF_ne (by omega), sF_at]
/-! a whole value, read by both -/
theorem rd_sum (ho : o ≤ 6) {g : Nat} (h : LST n b S T p s z w o) (hz : z + s + g ≤ p) (hN : NT T w) : (∃ q z' S' T' e nv, p < q ∧ z < z' ∧ z' + s + g ≤ q ∧ F_Law_readValue S (nI o) = some S' ∧ f_Mo_readsSum T = some (1, T') ∧ LST n b S' T' q s z' w o ∧ belo S T S' T' s z w ∧ sgV (S' 33) (S' 34) (T' 7) s nv (15 - 2 * o) e z z') ∨ (∃ f S' T', F_Law_readValue S (nI o) = some S' ∧ FM f S' ∧ frX S S' ∧ f_Mo_readsSum T = some (0, T') ∧ T' 0 10 = f) := by
  have hn := h.hn
  have e : f_Mo_readsSum T = ML FU FU T w := by
    unfold f_Mo_readsSum ML f_Mo_readsFactor
    rw [Option.bind_some, h.2.2.2.2.1]
  have hFU : 300 < FU := FU_gt (by omega)
  rw [e]
  rcases pv_all ho S T p s z w g FU FU w h hz (by omega) (by omega) (Nat.le_refl _) (fun i h1 h2 => by omega) hN with ⟨q, z', S', T', T3, e, nv, F2', w', r1, r2, r3, r4, r5, r6, r7, r8, r9, r10, r11, r12, r13, r14, r15, r16, r17, r18⟩ | ⟨f, S', T', r1, r2, r3, r4, r5⟩
  · refine Or.inl ⟨q, z', S', T3, e, nv, r1, r2, r3, r4, ?_, r15, r16, r17⟩
    have qn := r15.hp
    obtain ⟨F3, rfl⟩ : ∃ v, F2' = v + 1 := ⟨F2' - 1, by omega⟩
    obtain ⟨FF, hFF⟩ : ∃ F, FU = F + 3 := ⟨FU - 3, by omega⟩
    have hop : f_Mo_hasOpenSum T' (nI w) = some 0 := m_has0 r8 (by omega) r9 r11 r13
    have hcl : f_Mo_closesSums T' 1 = some T3 := by unfold f_Mo_closesSums; rw [hFF]; exact r14 FF
    have e138 : f_Mo_readsSum_138 T' (nI w) = some (1, T3) := by
      unfold f_Mo_readsSum_138
      rw [hop, Option.bind_some, if_pos rfl, hcl, Option.bind_some]
    rw [r5, f_Mo_readsSum_14, r7.here qn hn, Option.bind_some, m_sum0 r18, Option.bind_some, if_pos rfl, Option.bind_some]
    by_cases c : sg b n q = 93
    · rw [if_pos c, hop, Option.bind_some, if_pos rfl, e138]
    · rw [if_neg c, e138]
  · exact Or.inr ⟨f, S', T', r1, r2, r3, r4, r5⟩
end CO
