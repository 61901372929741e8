/-! A DAY of one thing -/
def QR (Sx Sm : St) (P t : Nat) : Prop := NP Sx P t (Sm 1) (Sm 4) (Sm 5) ∧ NM Sm t
def dnN (r : Nat → Int32) (t : Nat) : Nat := fb_ct (fun k => !(lf r k)) t
def Jn (Sm : St) (t : Nat) : Int32 := Sm 0 35 - nI (dnN (Sm 1) t)
theorem Jn_same {Sm Sm' : St} {t : Nat} (h1 : Sm' 0 35 = Sm 0 35) (h2 : ∀ k, k < t → Sm' 1 (72 + k) = Sm 1 (72 + k)) : Jn Sm' t = Jn Sm t := by
  unfold Jn dnN
  have : fb_ct (fun k => !(lf (Sm' 1) k)) t = fb_ct (fun k => !(lf (Sm 1) k)) t := fb_ct_cong (fun k hk => by unfold lf; rw [h2 k hk])
  rw [h1, this]
theorem NP.cong {S S' : St} {P t : Nat} {r wh wa r' : Nat → Int32} (h : NP S P t r wh wa) (hS : ∀ k, P ≤ k → k ≤ P + 4 → S' k = S k) (hr : ∀ j, j < 99 → r' j = r j) : NP S' P t r' wh wa := by
  obtain ⟨ht, ⟨q2, q3⟩, q4, ⟨p1, p2, p3, p4, p5, p6⟩, ⟨r1, r2, r3⟩⟩ := h
  have e0 := hS P (by omega) (by omega)
  have e1 := hS (P + 1) (by omega) (by omega)
  have e2 := hS (P + 2) (by omega) (by omega)
  have e3 := hS (P + 3) (by omega) (by omega)
  have e4 := hS (P + 4) (by omega) (by omega)
  refine ⟨ht, ⟨by rw [e0]; exact q2, fun k hk => by rw [e1, e2]; exact q3 k hk⟩, q4, ⟨fun k hk => ?_, fun k hk => ?_, fun k hk => ?_, ?_, ?_, ?_⟩, fun k hk => ?_, ?_, ?_⟩
  · rw [e3, e4, hr k (by omega), hr (48 + k) (by omega)]; exact p1 k hk
  · rw [e0, hr (24 + k) (by omega), hr (72 + k) (by omega)]; exact p2 k hk
  · rw [e0]; exact p3 k hk
  · rw [e0, hr 96 (by omega)]; exact p4
  · rw [e0, hr 97 (by omega)]; exact p5
  · rw [e0, hr 98 (by omega)]; exact p6
  · rw [hr k (by omega), hr (24 + k) (by omega), hr (48 + k) (by omega), hr (72 + k) (by omega)]; exact r1 k hk
  · rw [hr 97 (by omega)]; exact r2
  · rw [hr 98 (by omega)]; exact r3
section DAY
variable {Sx Sm : St} {P t : Nat}
theorem QR.pr (h : QR Sx Sm P t) : PR Sx P t (Sm 1) := h.1.2.2.2.1
theorem QR.rr (h : QR Sx Sm P t) : RR t (Sm 1) := h.1.2.2.2.2
theorem QR.put (h : QR Sx Sm P t) {r j i : Nat} {v u : Int32} (hr : (r = P ∧ j ≠ 6) ∨ r = P + 3 ∨ r = P + 4) (hp : PR (sF Sx r j v) P t (upd (Sm 1) i u)) (hq : RR t (upd (Sm 1) i u)) : QR (sF Sx r j v) (sF Sm 1 i u) P t := by
  obtain ⟨⟨ht, ⟨q2, q3⟩, q4, q5, q6⟩, m1, m2⟩ := h
  refine ⟨⟨ht, ⟨by rw [sF_ne (by omega)]; exact q2, fun k hk => ?_⟩, ?_, ?_, ?_⟩, by rw [sF_ne (by omega)]; exact m1, m2⟩
  · rw [sF_ne (by omega), sF_ne (by omega), sF_rne (by omega), sF_rne (by omega)]; exact q3 k hk
  · rw [sF_rne (by omega), sF_rne (by omega)]; exact q4
  · rw [sF_row]; exact hp
  · rw [sF_row]; exact hq
/-- the reference alone writes where nothing is looked at -/
theorem QR.m (h : QR Sx Sm P t) {r i : Nat} {v : Int32} (hr : (r = 0 ∧ i ≠ 5) ∨ r = 18 ∨ r = 19) : QR Sx (sF Sm r i v) P t := by
  obtain ⟨q, m1, m2⟩ := h
  refine ⟨?_, by rw [sF_ne (by omega)]; exact m1, m2⟩
  rw [sF_rne (by omega), sF_rne (by omega), sF_rne (by omega)]
  exact q
theorem QR.cong (h : QR Sx Sm P t) {Sx' Sm' : St} (hx : ∀ k, P ≤ k → k ≤ P + 4 → Sx' k = Sx k) (hm : ∀ k, k = 0 ∨ k = 1 ∨ k = 4 ∨ k = 5 → Sm' k = Sm k) : QR Sx' Sm' P t := by
  obtain ⟨q, m1, m2⟩ := h
  refine ⟨?_, by rw [hm 0 (by omega)]; exact m1, m2⟩
  rw [hm 1 (by omega), hm 4 (by omega), hm 5 (by omega)]
  exact q.cong hx (fun _ _ => rfl)
theorem q_draw (h : QR Sx Sm P t) : ∃ a, a < 65536 ∧ f_Parish_draw Sx P = some (nI (a % 10), sF Sx P 9 (nI a)) ∧ f_Mo_draws Sm = some (nI (a % 10), sF Sm 1 98 (nI a)) ∧ QR (sF Sx P 9 (nI a)) (sF Sm 1 98 (nI a)) P t := by
  obtain ⟨b, hb, eb⟩ := h.rr.2.2
  have e9 : Sx P 9 = nI b := by rw [h.pr.2.2.2.2.2]; exact eb
  have m1 : (25173 : Int32) * nI b + 13849 = nI (25173 * b + 13849) := by
    rw [show (25173 : Int32) * nI b = nI (25173 * b) from pk_mul 25173 b]; exact nI_add _ 13849
  have m3 : jrem (nI (25173 * b + 13849)) 65536 = nI ((25173 * b + 13849) % 65536) := pk_rem (d := 65536) (by omega) (by omega) (by omega)
  have hl : (25173 * b + 13849) % 65536 < 65536 := Nat.mod_lt _ (by omega)
  obtain ⟨a, ha⟩ : ∃ a, (25173 * b + 13849) % 65536 = a := ⟨_, rfl⟩
  rw [ha] at hl m3
  have m4 : jrem (nI a) 10 = nI (a % 10) := pk_rem (d := 10) (by omega) (by omega) (by omega)
  refine ⟨a, hl, ?_, ?_, h.put (Or.inl ⟨rfl, by omega⟩) (h.pr.x h.1.1 _) (h.rr.x h.1.1 ⟨a, hl, rfl⟩)⟩
  · unfold f_Parish_draw
    rw [e9, m1, nx_mod, ha, Option.bind_some, sF_at, m4]
  · unfold f_Mo_draws
    rw [if_pos g98, if_pos g98, e98, eb, m1, m3, Option.bind_some, if_pos g98, sF_at, m4]
def fvF (r wh wa : Nat → Int32) (t k : Nat) (w : Int32) : Nat → Int32 := fun i => if i = 0 then nI k else if i = 1 then wh k else if i = 2 then r (48 + k) else if i = 3 then r k else if i = 4 then r (24 + k) else if i = 5 then foldN (gLeft wh r (wh k)) t 0 0 else if i = 6 then foldN (gWait wa (nI k)) t 0 0 else if i = 7 then jrem (r 97) 100 else w
theorem fvF_98 {r wh wa : Nat → Int32} {k : Nat} {w x : Int32} (ht : t ≤ 24) (hk : k < t) : fvF (upd r 98 x) wh wa t k w = fvF r wh wa t k w := by
  funext i
  unfold fvF
  have f5 : foldN (gLeft wh (upd r 98 x) (wh k)) t 0 0 = foldN (gLeft wh r (wh k)) t 0 0 := by
    apply foldN_cong
    intro j a _ hj
    unfold gLeft
    rw [un_ (by omega)]
  rw [un_ (by omega), un_ (by omega), un_ (by omega), un_ (by omega), f5]
theorem q_feels (h : QR Sx Sm P t) {k : Nat} (hk : k < t) : ∃ a Sm', a < 65536 ∧ f_Parish_draw Sx P = some (nI (a % 10), sF Sx P 9 (nI a)) ∧ f_Mo_feels Sm (nI k) = some Sm' ∧ QR (sF Sx P 9 (nI a)) Sm' P t ∧ (∀ j, j ≠ 1 → j ≠ 19 → Sm' j = Sm j) ∧ (Sm' 1 = upd (Sm 1) 98 (nI a)) ∧ (∀ i, i < 9 → Sm' 19 i = fvF (Sm' 1) (Sm 4) (Sm 5) t k (nI (a % 10)) i) := by
  have ht := h.1.1
  have g1 : ig (nI k) 24 = true := gn (by omega) (by omega)
  have g2 : ig (nI (24 + k)) 99 = true := gn (by omega) (by omega)
  have g3 : ig (nI (48 + k)) 99 = true := gn (by omega) (by omega)
  have g5 : ig (nI k) 99 = true := gn (by omega) (by omega)
  have c1 : (nI k).toNatClampNeg = k := cl
  have c2 : (nI (24 + k)).toNatClampNeg = 24 + k := cl
  have c3 : (nI (48 + k)).toNatClampNeg = 48 + k := cl
  have n1 : ¬ (1 = 19) := by decide
  have n4 : ¬ (4 = 19) := by decide
  obtain ⟨T1, hT1⟩ : ∃ T1, sF (sF (sF (sF (sF Sm 19 0 (nI k)) 19 1 (Sm 4 k)) 19 2 (Sm 1 (48 + k))) 19 3 (Sm 1 k)) 19 4 (Sm 1 (24 + k)) = T1 := ⟨_, rfl⟩
  have r1 : ∀ j, j ≠ 19 → T1 j = Sm j := fun j hj => by rw [← hT1, sF_rne hj, sF_rne hj, sF_rne hj, sF_rne hj, sF_rne hj]
  have q1 : QR Sx T1 P t := h.cong (fun _ _ _ => rfl) (fun j hj => r1 j (by omega))
  obtain ⟨L, hL⟩ : ∃ L, foldN (gLeft (Sm 4) (Sm 1) (Sm 4 k)) t 0 0 = L := ⟨_, rfl⟩
  obtain ⟨W, hW⟩ : ∃ W, foldN (gWait (Sm 5) (nI k)) t 0 0 = W := ⟨_, rfl⟩
  have l1 : f_Mo_leftOf T1 (Sm 4 k) = some L := by rw [m_leftOf q1.2, r1 4 (by omega), r1 1 (by omega), hL]
  obtain ⟨T2, hT2⟩ : ∃ T2, sF T1 19 5 L = T2 := ⟨_, rfl⟩
  have r2 : ∀ j, j ≠ 19 → T2 j = Sm j := fun j hj => by rw [← hT2, sF_rne hj, r1 j hj]
  have q2 : QR Sx T2 P t := h.cong (fun _ _ _ => rfl) (fun j hj => r2 j (by omega))
  have l2 : f_Mo_waitersOf T2 (nI k) = some W := by rw [m_waitersOf q2.2, r2 5 (by omega), hW]
  obtain ⟨T3, hT3⟩ : ∃ T3, sF (sF T2 19 6 W) 19 7 (jrem (Sm 1 97) 100) = T3 := ⟨_, rfl⟩
  have r3 : ∀ j, j ≠ 19 → T3 j = Sm j := fun j hj => by rw [← hT3, sF_rne hj, sF_rne hj, r2 j hj]
  have q3 : QR Sx T3 P t := h.cong (fun _ _ _ => rfl) (fun j hj => r3 j (by omega))
  obtain ⟨a, a1, a2, a3, a4⟩ := q_draw q3
  refine ⟨a, sF (sF T3 1 98 (nI a)) 19 8 (nI (a % 10)), a1, a2, ?_, a4.m (Or.inr (Or.inr rfl)), fun j h1 h2 => by rw [sF_rne h2, sF_rne h1, r3 j h2], by rw [sF_rne (by omega), sF_row, r3 1 (by omega)], fun i hi => ?_⟩
  · have z0 : ig (0 : Int32) 9 = true := by decide
    have z1 : ig (1 : Int32) 9 = true := by decide
    have z2 : ig (2 : Int32) 9 = true := by decide
    have z3 : ig (3 : Int32) 9 = true := by decide
    have z4 : ig (4 : Int32) 9 = true := by decide
    have z5 : ig (5 : Int32) 9 = true := by decide
    have z6 : ig (6 : Int32) 9 = true := by decide
    have z7 : ig (7 : Int32) 9 = true := by decide
    have z8 : ig (8 : Int32) 9 = true := by decide
    have y0 : (0 : Int32).toNatClampNeg = 0 := rfl
    have y1 : (1 : Int32).toNatClampNeg = 1 := rfl
    have y2 : (2 : Int32).toNatClampNeg = 2 := rfl
    have y3 : (3 : Int32).toNatClampNeg = 3 := rfl
    have y4 : (4 : Int32).toNatClampNeg = 4 := rfl
    have y5 : (5 : Int32).toNatClampNeg = 5 := rfl
    have y6 : (6 : Int32).toNatClampNeg = 6 := rfl
    have y7 : (7 : Int32).toNatClampNeg = 7 := rfl
    have y8 : (8 : Int32).toNatClampNeg = 8 := rfl
    unfold f_Mo_feels
    rw [if_pos z0, Option.bind_some, if_pos g1, if_pos z1, Option.bind_some, a48, if_pos g3, if_pos z2, Option.bind_some, z0I, if_pos g5, if_pos z3, Option.bind_some, a24, if_pos g2, if_pos z4, Option.bind_some, if_pos g1, c1, c2, c3, y0, y1, y2, y3, y4]
    simp only [sF_rne n1, sF_rne n4]
    rw [hT1, l1, Option.bind_some, if_pos z5, Option.bind_some, y5, hT2, l2, Option.bind_some, if_pos z6, Option.bind_some, if_pos g97, if_pos z7, Option.bind_some, e97, y6, y7]
    rw [show sF T2 19 6 W 1 97 = Sm 1 97 by rw [sF_rne n1, r2 1 (by omega)], hT3, a3, Option.bind_some, if_pos z8, Option.bind_some, y8]
  · have s1 : sF (sF T3 1 98 (nI a)) 19 8 (nI (a % 10)) 1 = upd (Sm 1) 98 (nI a) := by rw [sF_rne (by omega), sF_row, r3 1 (by omega)]
    rw [s1, fvF_98 ht hk]
    have hh : i = 0 ∨ i = 1 ∨ i = 2 ∨ i = 3 ∨ i = 4 ∨ i = 5 ∨ i = 6 ∨ i = 7 ∨ i = 8 := by omega
    rcases hh with e | e | e | e | e | e | e | e | e <;> subst e
    · rw [sF_ne (by omega), sF_ne (by omega), ← hT3, sF_ne (by omega), sF_ne (by omega), ← hT2, sF_ne (by omega), ← hT1, sF_ne (by omega), sF_ne (by omega), sF_ne (by omega), sF_ne (by omega), sF_at]; rfl
    · rw [sF_ne (by omega), sF_ne (by omega), ← hT3, sF_ne (by omega), sF_ne (by omega), ← hT2, sF_ne (by omega), ← hT1, sF_ne (by omega), sF_ne (by omega), sF_ne (by omega), sF_at]; rfl
    · rw [sF_ne (by omega), sF_ne (by omega), ← hT3, sF_ne (by omega), sF_ne (by omega), ← hT2, sF_ne (by omega), ← hT1, sF_ne (by omega), sF_ne (by omega), sF_at]; rfl
    · rw [sF_ne (by omega), sF_ne (by omega), ← hT3, sF_ne (by omega), sF_ne (by omega), ← hT2, sF_ne (by omega), ← hT1, sF_ne (by omega), sF_at]; rfl
    · rw [sF_ne (by omega), sF_ne (by omega), ← hT3, sF_ne (by omega), sF_ne (by omega), ← hT2, sF_ne (by omega), ← hT1, sF_at]; rfl
    · rw [sF_ne (by omega), sF_ne (by omega), ← hT3, sF_ne (by omega), sF_ne (by omega), ← hT2, sF_at, ← hL]; rfl
    · rw [sF_ne (by omega), sF_ne (by omega), ← hT3, sF_ne (by omega), sF_at, ← hW]; rfl
    · rw [sF_ne (by omega), sF_ne (by omega), ← hT3, sF_at]; rfl
    · rw [sF_at]; rfl
theorem x_facts {S : St} {r wh wa : Nat → Int32} (h : NP S P t r wh wa) (hP : isP P) {k : Nat} (hk : k < t) {v : Int32} (h4 : S 40 4 = nI P) (h5 : S 40 5 = nI k) (h6 : S 40 6 = v) : ∀ i, i < 9 → f_Reckoner_fact S (nI (fch i)) = some (fvF r wh wa t k v i) := by
  have ht := h.1
  have hP20 : P ≤ 20 := by unfold isP at hP; omega
  have cP : (nI P).toNatClampNeg = P := cl
  have c1 : (nI k).toNatClampNeg = k := cl
  have g1 : ig (nI k) 24 = true := gn (by omega) (by omega)
  intro i hi
  have hh : i = 0 ∨ i = 1 ∨ i = 2 ∨ i = 3 ∨ i = 4 ∨ i = 5 ∨ i = 6 ∨ i = 7 ∨ i = 8 := by omega
  unfold f_Reckoner_fact
  rw [h4, h5, h6, cP, Option.bind_some, if_pos hP, has_y h.things ht hk, Option.bind_some, if_neg i10]
  simp only [Option.bind_some, hP, g1, c1, ↓reduceIte, h.lit hk, h.own hk, h.len hk, h.off hk, x_leftOf h, x_waitersFor h (show k < 24 by omega), h.2.2.2.1.2.2.2.2.1]
  rcases hh with e | e | e | e | e | e | e | e | e <;> subst e
  · rfl
  · rfl
  · rfl
  · rfl
  · simp (decide := true) only [fch, fvF, ↓reduceIte]
    rcases h.lt hk with e | e <;> rw [e] <;> rfl
  · rfl
  · rfl
  · rfl
  · rfl
end DAY
