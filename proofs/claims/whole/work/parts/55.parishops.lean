/-! single changes of a parish, on both sides at once -/
theorem un_ {f : Nat → Int32} {k j : Nat} {x : Int32} (h : j ≠ k) : upd f k x j = f j := pk_un h
section OPS
variable {S : St} {P t : Nat} {r : Nat → Int32}
theorem PR.put (h : PR S P t r) (ht : t ≤ 24) {S' : St} {r' : Nat → Int32} (a1 : ∀ k, k < t → S' (P + 3) k = r' k) (a2 : ∀ k, k < t → S' (P + 4) k = r' (48 + k)) (a3 : ∀ k, k < t → bt (S' P 4) k = decide (r' (24 + k) = 1)) (a4 : ∀ k, k < t → bt (S' P 5) k = decide (r' (72 + k) = 1)) (a5 : ∀ k, t ≤ k → bt (S' P 4) k = false) (a6 : ∀ k, t ≤ k → bt (S' P 5) k = false) (a7 : S' P 7 = r' 96) (a8 : S' P 8 = r' 97) (a9 : S' P 9 = r' 98) : PR S' P t r' := ⟨fun k hk => ⟨a1 k hk, a2 k hk⟩, fun k hk => ⟨a3 k hk, a4 k hk⟩, fun k hk => ⟨a5 k hk, a6 k hk⟩, a7, a8, a9⟩
theorem PR.x (h : PR S P t r) (ht : t ≤ 24) (v : Int32) : PR (sF S P 9 v) P t (upd r 98 v) := by
  obtain ⟨b1, b2, b3, b4, b5, b6⟩ := h
  refine PR.put ⟨b1, b2, b3, b4, b5, b6⟩ ht (fun k hk => ?_) (fun k hk => ?_) (fun k hk => ?_) (fun k hk => ?_) (fun k hk => ?_) (fun k hk => ?_) ?_ ?_ ?_
  · rw [sF_ne (by omega), un_ (by omega)]; exact (b1 k hk).1
  · rw [sF_ne (by omega), un_ (by omega)]; exact (b1 k hk).2
  · rw [sF_ne (by omega), un_ (by omega)]; exact (b2 k hk).1
  · rw [sF_ne (by omega), un_ (by omega)]; exact (b2 k hk).2
  · rw [sF_ne (by omega)]; exact (b3 k hk).1
  · rw [sF_ne (by omega)]; exact (b3 k hk).2
  · rw [sF_ne (by omega), un_ (by omega)]; exact b4
  · rw [sF_ne (by omega), un_ (by omega)]; exact b5
  · rw [sF_at, us_]
theorem PR.day (h : PR S P t r) (ht : t ≤ 24) (v : Int32) : PR (sF S P 8 v) P t (upd r 97 v) := by
  obtain ⟨b1, b2, b3, b4, b5, b6⟩ := h
  refine PR.put ⟨b1, b2, b3, b4, b5, b6⟩ ht (fun k hk => ?_) (fun k hk => ?_) (fun k hk => ?_) (fun k hk => ?_) (fun k hk => ?_) (fun k hk => ?_) ?_ ?_ ?_
  · rw [sF_ne (by omega), un_ (by omega)]; exact (b1 k hk).1
  · rw [sF_ne (by omega), un_ (by omega)]; exact (b1 k hk).2
  · rw [sF_ne (by omega), un_ (by omega)]; exact (b2 k hk).1
  · rw [sF_ne (by omega), un_ (by omega)]; exact (b2 k hk).2
  · rw [sF_ne (by omega)]; exact (b3 k hk).1
  · rw [sF_ne (by omega)]; exact (b3 k hk).2
  · rw [sF_ne (by omega), un_ (by omega)]; exact b4
  · rw [sF_at, us_]
  · rw [sF_ne (by omega), un_ (by omega)]; exact b6
theorem PR.gut (h : PR S P t r) (ht : t ≤ 24) (v : Int32) : PR (sF S P 7 v) P t (upd r 96 v) := by
  obtain ⟨b1, b2, b3, b4, b5, b6⟩ := h
  refine PR.put ⟨b1, b2, b3, b4, b5, b6⟩ ht (fun k hk => ?_) (fun k hk => ?_) (fun k hk => ?_) (fun k hk => ?_) (fun k hk => ?_) (fun k hk => ?_) ?_ ?_ ?_
  · rw [sF_ne (by omega), un_ (by omega)]; exact (b1 k hk).1
  · rw [sF_ne (by omega), un_ (by omega)]; exact (b1 k hk).2
  · rw [sF_ne (by omega), un_ (by omega)]; exact (b2 k hk).1
  · rw [sF_ne (by omega), un_ (by omega)]; exact (b2 k hk).2
  · rw [sF_ne (by omega)]; exact (b3 k hk).1
  · rw [sF_ne (by omega)]; exact (b3 k hk).2
  · rw [sF_at, us_]
  · rw [sF_ne (by omega), un_ (by omega)]; exact b5
  · rw [sF_ne (by omega), un_ (by omega)]; exact b6
theorem PR.lit (h : PR S P t r) (ht : t ≤ 24) {i : Nat} (hi : i < t) {x b : Int32} (hb : b = 0 ∨ b = 1) (hx : ∀ k, k < 32 → bt x k = if k = i then decide (b = 1) else bt (S P 4) k) : PR (sF S P 4 x) P t (upd r (24 + i) b) := by
  obtain ⟨b1, b2, b3, b4, b5, b6⟩ := h
  refine PR.put ⟨b1, b2, b3, b4, b5, b6⟩ ht (fun k hk => ?_) (fun k hk => ?_) (fun k hk => ?_) (fun k hk => ?_) (fun k hk => ?_) (fun k hk => ?_) ?_ ?_ ?_
  · rw [sF_ne (by omega), un_ (by omega)]; exact (b1 k hk).1
  · rw [sF_ne (by omega), un_ (by omega)]; exact (b1 k hk).2
  · rw [sF_at, hx k (by omega)]
    by_cases c : k = i
    · subst c; rw [if_pos rfl, us_]
    · rw [if_neg c, un_ (by omega)]; exact (b2 k hk).1
  · rw [sF_ne (by omega), un_ (by omega)]; exact (b2 k hk).2
  · rw [sF_at]
    by_cases c : k < 32
    · rw [hx k c, if_neg (by omega)]; exact (b3 k hk).1
    · exact b_big (by omega)
  · rw [sF_ne (by omega)]; exact (b3 k hk).2
  · rw [sF_ne (by omega), un_ (by omega)]; exact b4
  · rw [sF_ne (by omega), un_ (by omega)]; exact b5
  · rw [sF_ne (by omega), un_ (by omega)]; exact b6
theorem PR.dne (h : PR S P t r) (ht : t ≤ 24) {i : Nat} (hi : i < t) {x : Int32} (hx : ∀ k, k < 32 → bt x k = if k = i then true else bt (S P 5) k) : PR (sF S P 5 x) P t (upd r (72 + i) 1) := by
  obtain ⟨b1, b2, b3, b4, b5, b6⟩ := h
  refine PR.put ⟨b1, b2, b3, b4, b5, b6⟩ ht (fun k hk => ?_) (fun k hk => ?_) (fun k hk => ?_) (fun k hk => ?_) (fun k hk => ?_) (fun k hk => ?_) ?_ ?_ ?_
  · rw [sF_ne (by omega), un_ (by omega)]; exact (b1 k hk).1
  · rw [sF_ne (by omega), un_ (by omega)]; exact (b1 k hk).2
  · rw [sF_ne (by omega), un_ (by omega)]; exact (b2 k hk).1
  · rw [sF_at, hx k (by omega)]
    by_cases c : k = i
    · subst c; rw [if_pos rfl, us_]; rfl
    · rw [if_neg c, un_ (by omega)]; exact (b2 k hk).2
  · rw [sF_ne (by omega)]; exact (b3 k hk).1
  · rw [sF_at]
    by_cases c : k < 32
    · rw [hx k c, if_neg (by omega)]; exact (b3 k hk).2
    · exact b_big (by omega)
  · rw [sF_ne (by omega), un_ (by omega)]; exact b4
  · rw [sF_ne (by omega), un_ (by omega)]; exact b5
  · rw [sF_ne (by omega), un_ (by omega)]; exact b6
theorem PR.len (h : PR S P t r) (ht : t ≤ 24) {i : Nat} (hi : i < t) (v : Int32) : PR (sF S (P + 3) i v) P t (upd r i v) := by
  obtain ⟨b1, b2, b3, b4, b5, b6⟩ := h
  refine PR.put ⟨b1, b2, b3, b4, b5, b6⟩ ht (fun k hk => ?_) (fun k hk => ?_) (fun k hk => ?_) (fun k hk => ?_) (fun k hk => ?_) (fun k hk => ?_) ?_ ?_ ?_
  · by_cases c : k = i
    · subst c; rw [sF_at, us_]
    · rw [sF_ne (by omega), un_ c]; exact (b1 k hk).1
  · rw [sF_ne (by omega), un_ (by omega)]; exact (b1 k hk).2
  · rw [sF_ne (by omega), un_ (by omega)]; exact (b2 k hk).1
  · rw [sF_ne (by omega), un_ (by omega)]; exact (b2 k hk).2
  · rw [sF_ne (by omega)]; exact (b3 k hk).1
  · rw [sF_ne (by omega)]; exact (b3 k hk).2
  · rw [sF_ne (by omega), un_ (by omega)]; exact b4
  · rw [sF_ne (by omega), un_ (by omega)]; exact b5
  · rw [sF_ne (by omega), un_ (by omega)]; exact b6
theorem PR.off (h : PR S P t r) (ht : t ≤ 24) {i : Nat} (hi : i < t) (v : Int32) : PR (sF S (P + 4) i v) P t (upd r (48 + i) v) := by
  obtain ⟨b1, b2, b3, b4, b5, b6⟩ := h
  refine PR.put ⟨b1, b2, b3, b4, b5, b6⟩ ht (fun k hk => ?_) (fun k hk => ?_) (fun k hk => ?_) (fun k hk => ?_) (fun k hk => ?_) (fun k hk => ?_) ?_ ?_ ?_
  · rw [sF_ne (by omega), un_ (by omega)]; exact (b1 k hk).1
  · by_cases c : k = i
    · subst c; rw [sF_at, us_]
    · rw [sF_ne (by omega), un_ (by omega)]; exact (b1 k hk).2
  · rw [sF_ne (by omega), un_ (by omega)]; exact (b2 k hk).1
  · rw [sF_ne (by omega), un_ (by omega)]; exact (b2 k hk).2
  · rw [sF_ne (by omega)]; exact (b3 k hk).1
  · rw [sF_ne (by omega)]; exact (b3 k hk).2
  · rw [sF_ne (by omega), un_ (by omega)]; exact b4
  · rw [sF_ne (by omega), un_ (by omega)]; exact b5
  · rw [sF_ne (by omega), un_ (by omega)]; exact b6
end OPS
/-! the ranges under single changes -/
section RNG
variable {t : Nat} {r : Nat → Int32}
theorem RR.x (h : RR t r) (ht : t ≤ 24) {v : Int32} (hv : ∃ a, a < 65536 ∧ v = nI a) : RR t (upd r 98 v) := by
  refine ⟨fun k hk => ?_, ?_, ?_⟩
  · rw [un_ (by omega), un_ (by omega), un_ (by omega), un_ (by omega)]; exact h.1 k hk
  · rw [un_ (by omega)]; exact h.2.1
  · rw [us_]; exact hv
theorem RR.day (h : RR t r) (ht : t ≤ 24) {v : Int32} (hv : ∃ a, a ≤ 9999 ∧ v = nI a) : RR t (upd r 97 v) := by
  refine ⟨fun k hk => ?_, ?_, ?_⟩
  · rw [un_ (by omega), un_ (by omega), un_ (by omega), un_ (by omega)]; exact h.1 k hk
  · rw [us_]; exact hv
  · rw [un_ (by omega)]; exact h.2.2
theorem RR.gut (h : RR t r) (ht : t ≤ 24) {v : Int32} : RR t (upd r 96 v) := by
  refine ⟨fun k hk => ?_, ?_, ?_⟩
  · rw [un_ (by omega), un_ (by omega), un_ (by omega), un_ (by omega)]; exact h.1 k hk
  · rw [un_ (by omega)]; exact h.2.1
  · rw [un_ (by omega)]; exact h.2.2
theorem RR.lit (h : RR t r) (ht : t ≤ 24) {i : Nat} (hi : i < t) {v : Int32} (hv : v = 0 ∨ v = 1) : RR t (upd r (24 + i) v) := by
  refine ⟨fun k hk => ?_, ?_, ?_⟩
  · rw [un_ (j := k) (by omega), un_ (j := 48 + k) (by omega), un_ (j := 72 + k) (by omega)]
    obtain ⟨h1, h2, h3, h4⟩ := h.1 k hk
    refine ⟨h1, ?_, h3, h4⟩
    by_cases c : k = i
    · subst c; rw [us_]; exact hv
    · rw [un_ (by omega)]; exact h2
  · rw [un_ (by omega)]; exact h.2.1
  · rw [un_ (by omega)]; exact h.2.2
theorem RR.dne (h : RR t r) (ht : t ≤ 24) {i : Nat} (hi : i < t) : RR t (upd r (72 + i) 1) := by
  refine ⟨fun k hk => ?_, ?_, ?_⟩
  · rw [un_ (j := k) (by omega), un_ (j := 48 + k) (by omega), un_ (j := 24 + k) (by omega)]
    obtain ⟨h1, h2, h3, h4⟩ := h.1 k hk
    refine ⟨h1, h2, h3, ?_⟩
    by_cases c : k = i
    · subst c; rw [us_]; exact Or.inr rfl
    · rw [un_ (by omega)]; exact h4
  · rw [un_ (by omega)]; exact h.2.1
  · rw [un_ (by omega)]; exact h.2.2
theorem RR.len (h : RR t r) (ht : t ≤ 24) {i : Nat} (hi : i < t) {v : Int32} (hv : ∃ a, a ≤ 999 ∧ v = nI a) : RR t (upd r i v) := by
  refine ⟨fun k hk => ?_, ?_, ?_⟩
  · rw [un_ (j := 24 + k) (by omega), un_ (j := 48 + k) (by omega), un_ (j := 72 + k) (by omega)]
    obtain ⟨h1, h2, h3, h4⟩ := h.1 k hk
    refine ⟨?_, h2, h3, h4⟩
    by_cases c : k = i
    · subst c; rw [us_]; exact hv
    · rw [un_ (by omega)]; exact h1
  · rw [un_ (by omega)]; exact h.2.1
  · rw [un_ (by omega)]; exact h.2.2
theorem RR.off (h : RR t r) (ht : t ≤ 24) {i : Nat} (hi : i < t) {v : Int32} (hv : ∃ a, a ≤ 9999 ∧ v = nI a) : RR t (upd r (48 + i) v) := by
  refine ⟨fun k hk => ?_, ?_, ?_⟩
  · rw [un_ (j := 24 + k) (by omega), un_ (j := k) (by omega), un_ (j := 72 + k) (by omega)]
    obtain ⟨h1, h2, h3, h4⟩ := h.1 k hk
    refine ⟨h1, h2, ?_, h4⟩
    by_cases c : k = i
    · subst c; rw [us_]; exact hv
    · rw [un_ (by omega)]; exact h3
  · rw [un_ (by omega)]; exact h.2.1
  · rw [un_ (by omega)]; exact h.2.2
end RNG
/-- only what is now has changed -/
theorem Core.now {LR : St → St → Prop} (hL : LRc LR) {Sx Sm Sx' Sm' : St} (h : Core LR Sx Sm) (hn : NowR Sx' Sm') (hx : ∀ k j, RX k j → ¬ (4 ≤ k ∧ k ≤ 8) → Sx' k j = Sx k j) (hm : ∀ k j, RM k j → ¬ (k = 1 ∨ k = 4 ∨ k = 5 ∨ (k = 0 ∧ j = 5)) → Sm' k j = Sm k j) : Core LR Sx' Sm' := by
  obtain ⟨-, ⟨k1, k2⟩, ⟨d1, d2, d3⟩, hlr⟩ := h
  have m3 : Sm' 3 = Sm 3 := fe (fun j => hm 3 j (by unfold RM; omega) (by omega))
  have x9 : Sx' 9 = Sx 9 := fe (fun j => hx 9 j (by unfold RX; omega) (by omega))
  have x12 : Sx' 12 = Sx 12 := fe (fun j => hx 12 j (by unfold RX; omega) (by omega))
  have x13 : Sx' 13 = Sx 13 := fe (fun j => hx 13 j (by unfold RX; omega) (by omega))
  have x24 : Sx' 24 = Sx 24 := fe (fun j => hx 24 j (by unfold RX; omega) (by omega))
  refine ⟨hn, ⟨?_, ?_⟩, ⟨?_, ?_, ?_⟩, ?_⟩
  · rw [hx 0 13 (by unfold RX; omega) (by omega), hm 0 53 (by unfold RM; omega) (by omega)]; exact k1
  · rw [hm 0 53 (by unfold RM; omega) (by omega), hm 0 54 (by unfold RM; omega) (by omega), m3]
    rcases k2 with k2 | ⟨k2, t', a1, a2, a3, a4, a5⟩
    · exact Or.inl k2
    · exact Or.inr ⟨k2, t', a1, a2, by rw [x9]; exact a3, a4.congr (fun j => by rw [x12]) (fun j => by rw [x13]) (fun j _ => by rw [x9]) (fun _ => rfl), a5⟩
  · rw [hx 20 5 (by unfold RX; omega) (by omega)]; exact d1
  · rw [hx 20 7 (by unfold RX; omega) (by omega)]; exact d2
  · intro k hk; rw [x24]; exact d3 k hk
  · exact hL Sx Sm Sx' Sm' (fun k j a b => hx k j (by unfold RX; omega) (by omega)) (fun k j a b => hm k j (by unfold RM; omega) (by omega)) (hm 0 16 (by unfold RM; omega) (by omega)) hlr
/-! SEED, LIT -/
section STP
variable {LR : St → St → Prop}
theorem e96 : (96 : Int32).toNatClampNeg = 96 := by decide
theorem e97 : (97 : Int32).toNatClampNeg = 97 := by decide
theorem e98 : (98 : Int32).toNatClampNeg = 98 := by decide
theorem g96 : ig (96 : Int32) 99 = true := by decide
theorem g97 : ig (97 : Int32) 99 = true := by decide
theorem g98 : ig (98 : Int32) 99 = true := by decide
theorem st_seed (hL : LRc LR) (a : Int32) : STEP (RelL LR) m_W_seed m_Mo_seed 2 2 [a] := by
  intro Sx Sm hR
  by_cases hc : a < 0 ∨ (65535 : Int32) < a
  · have h1 : f_W_seed Sx a = some (0, Sx) := by unfold f_W_seed; rw [wi_n hc]; rfl
    have h2 : f_Mo_seed Sm a = some (0, Sm) := by unfold f_Mo_seed; rw [in_n hc]; rfl
    exact ⟨0, Sx, Sm, t_W_seed h1, t_Mo_seed h2, hR⟩
  · have n1 : ¬ a < 0 := fun z => hc (Or.inl z)
    have n2 : ¬ (65535 : Int32) < a := fun z => hc (Or.inr z)
    have h1 : f_W_seed Sx a = some (1, sF Sx 4 9 a) := by unfold f_W_seed; rw [wi_y n1 n2]; rfl
    have h2 : f_Mo_seed Sm a = some (1, sF Sm 1 98 a) := by unfold f_Mo_seed; rw [in_y n1 n2, Option.bind_some, if_neg i10, if_pos g98, e98]; rfl
    obtain ⟨j, hj, ej⟩ : ∃ j : Nat, j ≤ 65535 ∧ a = nI j := nI_of2 (M := 65535) (by decide) n1 (Int32.not_lt.mp n2)
    refine ⟨1, sF Sx 4 9 a, sF Sm 1 98 a, t_W_seed h1, t_Mo_seed h2, ?_, ?_⟩
    · obtain ⟨n, q1, q2, q3, q4⟩ := hR.1
      exact ⟨n, q1, by rw [sF_ne (by omega)]; exact q2, by rw [sF_ne (by omega)]; exact q3, fun i hi => by rw [sF_ne (by omega), sF_ne (by omega)]; exact q4 i hi⟩
    · refine Core.now hL hR.2 ?_ (fun k j _ hk => sF_ne (by omega)) (fun k j _ hk => sF_ne (by omega))
      obtain ⟨t, ht, q1, ⟨q2, q3⟩, q4, q5, q6⟩ := hR.2.1
      refine ⟨t, ht, by rw [sF_ne (by omega)]; exact q1, ⟨by rw [sF_ne (by omega)]; exact q2, fun k hk => ?_⟩, ?_, ?_, ?_⟩
      · rw [sF_ne (by omega), sF_ne (by omega), sF_rne (by omega), sF_rne (by omega)]; exact q3 k hk
      · rw [sF_rne (by omega), sF_rne (by omega)]; exact q4
      · rw [sF_row]; exact q5.x ht a
      · rw [sF_row]; exact q6.x ht ⟨j, by omega, ej⟩
theorem pl1 {S : St} {P k : Nat} : f_Parish_putLight S P (nI k) 1 = some (sF S P 4 (S P 4 ||| jshl 1 (nI k))) := by
  unfold f_Parish_putLight f_Parish_putLight_26
  rw [if_neg i10]; rfl
theorem pl0 {S : St} {P k : Nat} : f_Parish_putLight S P (nI k) 0 = some (sF S P 4 (S P 4 &&& (jshl 1 (nI k) ^^^ (-1)))) := by
  unfold f_Parish_putLight f_Parish_putLight_26
  rw [if_pos rfl]; rfl
theorem bt_on {x : Int32} {i : Nat} (hi : i < 32) {k : Nat} (hk : k < 32) : bt (x ||| jshl 1 (nI i)) k = if k = i then true else bt x k := by
  rw [b_or, bt_shl1 hi hk]
  by_cases c : k = i
  · simp [c]
  · simp [c]
theorem bt_off {x : Int32} {i : Nat} (hi : i < 32) {k : Nat} (hk : k < 32) : bt (x &&& (jshl 1 (nI i) ^^^ (-1))) k = if k = i then false else bt x k := by
  rw [b_and, b_xor, bt_shl1 hi hk, b_m1 k hk]
  by_cases c : k = i
  · simp [c]
  · simp [c]
theorem st_lit (hL : LRc LR) (a b : Int32) (hb : b = 0 ∨ b = 1) : STEP (RelL LR) m_W_lit m_Mo_lit 2 4 [a, b] := by
  intro Sx Sm hR
  obtain ⟨t, h, hm⟩ := hR.2.1.np
  have ht := h.1
  have no : f_W_lit Sx a b = some (0, Sx) → f_Mo_lit Sm a b = some (0, Sm) → ∃ r Sx' Sm', Ct SX m_W_lit 2 (.ref 0 :: [a, b].map Value.int) Sx (some r) Sx' ∧ Ct SM m_Mo_lit 4 (.ref 0 :: [a, b].map Value.int) Sm (some r) Sm' ∧ RelL LR Sx' Sm' := fun e1 e2 => ⟨0, Sx, Sm, t_W_lit e1, t_Mo_lit e2, hR⟩
  rcases ix3 a ht with hx | ⟨k, hk, rfl⟩
  · refine no ?_ ?_
    · unfold f_W_lit; rw [has_n h.things hx]; rfl
    · unfold f_Mo_lit; rw [isL_n hm.1 ht hx]; rfl
  have g1 : ig (nI k) 24 = true := gn (by omega) (by omega)
  have g2 : ig (nI (24 + k)) 99 = true := gn (by omega) (by omega)
  have g5 : ig (nI k) 99 = true := gn (by omega) (by omega)
  have c1 : (nI k).toNatClampNeg = k := cl
  have c2 : (nI (24 + k)).toNatClampNeg = 24 + k := cl
  rcases h.dn hk with e | e
  · -- it is left
    have hset : ∀ v : Int32, (v = 0 ∨ v = 1) → ∀ x : Int32, (∀ i, i < 32 → bt x i = if i = k then decide (v = 1) else bt (Sx 4 4) i) → RelL LR (sF Sx 4 4 x) (sF Sm 1 (24 + k) v) := by
      intro v hv x hx
      refine ⟨?_, Core.now hL hR.2 ?_ (fun k j _ hk => sF_ne (by omega)) (fun k j _ hk => sF_ne (by omega))⟩
      · obtain ⟨n, q1, q2, q3, q4⟩ := hR.1
        exact ⟨n, q1, by rw [sF_ne (by omega)]; exact q2, by rw [sF_ne (by omega)]; exact q3, fun i hi => by rw [sF_ne (by omega), sF_ne (by omega)]; exact q4 i hi⟩
      · obtain ⟨ht, ⟨q2, q3⟩, q4, q5, q6⟩ := h
        refine ⟨t, ht, by rw [sF_ne (by omega)]; exact hm.1, ⟨by rw [sF_ne (by omega)]; exact q2, fun k hk => ?_⟩, ?_, ?_, ?_⟩
        · rw [sF_ne (by omega), sF_ne (by omega), sF_rne (by omega), sF_rne (by omega)]; exact q3 k hk
        · rw [sF_rne (by omega), sF_rne (by omega)]; exact q4
        · rw [sF_row]; exact q5.lit ht hk hv hx
        · rw [sF_row]; exact q6.lit ht hk hv
    have mx : f_Parish_has Sx 4 (nI k) = some 1 := has_y h.things ht hk
    have ml : f_Mo_isLeft Sm (nI k) = some 1 := by rw [hm.left hk, if_pos e]
    have md : f_Parish_isDone Sx 4 (nI k) = some 0 := by rw [h.done hk, e]
    rcases hb with rfl | rfl
    · refine ⟨1, _, _, t_W_lit (w := (1, _)) (?_ : f_W_lit Sx (nI k) 0 = some (1, sF Sx 4 4 (Sx 4 4 &&& (jshl 1 (nI k) ^^^ (-1))))), t_Mo_lit (w := (1, _)) (?_ : f_Mo_lit Sm (nI k) 0 = some (1, sF Sm 1 (24 + k) 0)), hset 0 (Or.inl rfl) _ (fun i hi => bt_off (by omega) hi)⟩
      · unfold f_W_lit f_W_lit_40; rw [mx, md, pl0]; rfl
      · unfold f_Mo_lit f_Mo_lit_25 f_Mo_lit_42
        rw [ml, Option.bind_some, if_neg i10, if_pos rfl, if_pos rfl, a24, if_pos g2, c2]; rfl
    · by_cases hz : Sm 1 k = 0
      · refine no ?_ ?_
        · unfold f_W_lit f_W_lit_40
          rw [mx, md, Option.bind_some, if_neg i10, Option.bind_some, if_pos rfl, if_neg i10, if_pos g1, c1, show Sx 7 k = Sm 1 k from h.len hk, if_pos hz]
        · unfold f_Mo_lit f_Mo_lit_25 f_Mo_lit_42
          rw [ml, Option.bind_some, if_neg i10, if_neg i10, z0I, if_pos g5, c1, if_pos hz]
      · refine ⟨1, _, _, t_W_lit (w := (1, _)) (?_ : f_W_lit Sx (nI k) 1 = some (1, sF Sx 4 4 (Sx 4 4 ||| jshl 1 (nI k)))), t_Mo_lit (w := (1, _)) (?_ : f_Mo_lit Sm (nI k) 1 = some (1, sF Sm 1 (24 + k) 1)), hset 1 (Or.inr rfl) _ (fun i hi => bt_on (by omega) hi)⟩
        · unfold f_W_lit f_W_lit_40
          rw [mx, md, Option.bind_some, if_neg i10, Option.bind_some, if_pos rfl, if_neg i10, if_pos g1, c1, show Sx 7 k = Sm 1 k from h.len hk, if_neg hz, pl1]; rfl
        · unfold f_Mo_lit f_Mo_lit_25 f_Mo_lit_42
          rw [ml, Option.bind_some, if_neg i10, if_neg i10, z0I, if_pos g5, c1, if_neg hz, if_neg i10, a24, if_pos g2, c2]; rfl
  · refine no ?_ ?_
    · unfold f_W_lit; rw [has_y h.things ht hk, h.done hk, e]; rfl
    · unfold f_Mo_lit; rw [hm.left hk, e, if_neg i10]; rfl
end STP
