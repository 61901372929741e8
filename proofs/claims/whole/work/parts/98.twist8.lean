section TZ
variable {st n : Nat} {Sx Sm : St} {l3 : Int32}
theorem tw_tell {S T : St} {t : Nat} (h : TWR st S T t 0) (h8 : st ≤ 8) (hw : (∃ w, w < st ∧ l3 = nI w) ∨ l3 = 100 ∨ l3 = 101 ∨ l3 = 102 ∨ l3 = 103) : ∃ r S' T', (if l3 = 100 then some ((S 42 8), S) else if l3 = 101 then (f_Twist_oversLessUnders S).bind fun v => some (v, S) else if l3 = 102 then (f_Twist_turnsLeft S).bind fun w => some (w.1, w.2) else if l3 = 103 then (f_Twist_timesTillHome S (nI st)).bind fun w => some (w.1, w.2) else (f_Twist_comesOut S l3).bind fun v => some (v, S)) = some (r, S') ∧ f_Mo_twist_107 T (nI st) l3 1 = some (r, T') ∧ S' 1 2 = S 1 2 ∧ T' 0 7 = 0 := by
  obtain ⟨T0, hT0⟩ : ∃ T0, sF T 0 7 0 = T0 := ⟨_, rfl⟩
  have h0 : TWR st S T0 t 0 := by rw [← hT0]; exact h.cong (fun _ _ _ => rfl) (fun r j hr => sF_ne (by omega))
  obtain ⟨c, hc⟩ := h0.cd
  obtain ⟨T1, R, m1, m2, m3⟩ := m_turns h0 h8 hc
  have h1 : TWR st S T1 t 0 := h0.cong (fun _ _ _ => rfl) (fun r j hr => m2 r j (by omega))
  have hc1 : CD st t S T1 c := fun i hi => by rw [m2 26 i (by omega)]; exact hc i hi
  have z1 : T1 0 7 = 0 := by rw [m2 0 7 (by omega), ← hT0, sF_at]
  have hl : ∀ a, a < st → tP c t a < st := fun a ha => tP_lt hc t (Nat.le_refl _) a ha
  unfold f_Mo_twist_107
  rw [Option.bind_some, if_neg i10, hT0, m1, Option.bind_some]
  rcases hw with ⟨w, w1, rfl⟩ | rfl | rfl | rfl | rfl
  · have k0 : ¬ nI w = 100 := nI_k 100 (by omega) (by omega) (by omega)
    have k1 : ¬ nI w = 101 := nI_k 101 (by omega) (by omega) (by omega)
    have k2 : ¬ nI w = 102 := nI_k 102 (by omega) (by omega) (by omega)
    have k3 : ¬ nI w = 103 := nI_k 103 (by omega) (by omega) (by omega)
    refine ⟨nI (tP c t w), S, T1, ?_, ?_, rfl, z1⟩
    · rw [if_neg k0, if_neg k1, if_neg k2, if_neg k3, x_out h1 h8 hc1 w1 (fun _ _ _ => rfl), Option.bind_some]
    · rw [if_neg k0, if_neg k1, if_neg k2, if_neg k3, m_out h8 m3 w1 (hl w w1), Option.bind_some]
  · exact ⟨nI t, S, T1, by rw [if_pos rfl, h1.1], by rw [if_pos rfl, h1.2.1], rfl, z1⟩
  · obtain ⟨v, v1, v2⟩ := tw_overs h1 h8
    exact ⟨v, S, T1, by rw [if_neg (by decide), if_pos rfl, v1, Option.bind_some], by rw [if_neg (by decide), if_pos rfl, v2, Option.bind_some], rfl, z1⟩
  · obtain ⟨v, S', T', v1, v2, v3, v4⟩ := tw_left h1 h8
    exact ⟨v, S', T', by rw [if_neg (by decide), if_neg (by decide), if_pos rfl, v1, Option.bind_some], by rw [if_neg (by decide), if_neg (by decide), if_pos rfl, v2, Option.bind_some], v3 1 2 (by omega), by rw [v4 0 7 (by omega)]; exact z1⟩
  · obtain ⟨K, k1, k15, hK, hm⟩ := hom_least (st := st) (s := tP c t) (tP_inj t) hl h8
    obtain ⟨S', v1, v3⟩ := x_home h1 h8 hc1 k1 k15 hK hm
    obtain ⟨T', v2, v4⟩ := m_home h8 hc1 m3 k1 k15 hK hm
    exact ⟨nI K, S', T', by rw [if_neg (by decide), if_neg (by decide), if_neg (by decide), if_pos rfl, v1, Option.bind_some], by rw [if_neg (by decide), if_neg (by decide), if_neg (by decide), if_pos rfl, v2, Option.bind_some], v3 1 2 (by omega), by rw [v4 0 7 (by omega)]; exact z1⟩
theorem tw_core (hT : TR Sx Sm) (hst : 2 ≤ st) (h8 : st ≤ 8) (hn : 1 ≤ n) (hn80 : n ≤ 80) (hw : (∃ w, w < st ∧ l3 = nI w) ∨ l3 = 100 ∨ l3 = 101 ∨ l3 = 102 ∨ l3 = 103) : (∃ r Sx' Sm', f_W_twist_44 Sx (nI st) (nI n) l3 = some (r, Sx') ∧ f_Mo_twist_42 Sm (nI st) (nI n) l3 = some (r, Sm') ∧ Sx' 1 2 = 0 ∧ Sm' 0 7 = 0) ∨ (f_W_twist_44 Sx (nI st) (nI n) l3 = some (-1, Sx) ∧ f_Mo_twist_42 Sm (nI st) (nI n) l3 = some (-1, Sm)) := by
  obtain ⟨F, hF⟩ : ∃ F, FU = F := ⟨_, rfl⟩
  have hF' : 300 < F := by rw [← hF]; exact FU_gt (by omega)
  rcases tk hT n (by omega) with ⟨b, t1, t2, t3, t4⟩ | ⟨t1, t2⟩
  · refine Or.inl ?_
    obtain ⟨S0, hS0⟩ : ∃ S0, sF (sF (sF (sF (tX Sx n) 3 1 0) 3 2 0) 42 8 0) 42 7 0 = S0 := ⟨_, rfl⟩
    obtain ⟨T0, hT0⟩ : ∃ T0, sF (sF (sF (sF (sF (sF Sm 0 8 0) 0 9 (nI n)) 0 13 0) 0 15 0) 0 45 0) 0 46 0 = T0 := ⟨_, rfl⟩
    have hX : XD S0 n b 0 := by
      rw [← hS0]
      refine ⟨⟨?_, t3.2.1, fun i hi => ?_⟩, ?_, ?_, by omega, by omega⟩
      · rw [sF_ne (by omega), sF_ne (by omega), sF_ne (by omega), sF_ne (by omega)]; exact t3.1
      · rw [sF_ne (by omega), sF_ne (by omega), sF_ne (by omega), sF_ne (by omega)]; exact t3.2.2 i hi
      · rw [sF_ne (by omega), sF_ne (by omega), sF_ne (by omega), sF_at]; rfl
      · rw [sF_ne (by omega), sF_ne (by omega), sF_at]
    have hM : MD T0 n b 0 := by
      rw [← hT0]
      refine ⟨⟨t4.1, fun i hi => ?_⟩, ?_, ?_⟩
      · have := t4.2 i hi
        unfold tM at this
        rw [sF_ne (by omega)] at this
        rw [sF_ne (by omega), sF_ne (by omega), sF_ne (by omega), sF_ne (by omega), sF_ne (by omega), sF_ne (by omega)]; exact this
      · rw [sF_ne (by omega), sF_ne (by omega), sF_ne (by omega), sF_ne (by omega), sF_at]
      · rw [sF_ne (by omega), sF_ne (by omega), sF_ne (by omega), sF_ne (by omega), sF_ne (by omega), sF_at]; rfl
    have hW : TWR st S0 T0 0 0 := ⟨by rw [← hS0, sF_ne (by omega), sF_at]; rfl, by rw [← hT0, sF_ne (by omega), sF_at]; rfl, by omega, by rw [← hS0, sF_at]; rfl, by rw [← hT0, sF_at]; rfl, by omega, fun i hi => by omega, fun j hj => by omega⟩
    have hFU : 300 < FU := FU_gt (by omega)
    have hO := (tw_all (n := n) (b := b) (l3 := l3) hst h8 hn80 n 0 (by omega)).1 S0 T0 0 0 0 F F F hX hM hW (Or.inl (by omega)) (fun _ => Or.inl rfl) (by omega) (by omega) (by omega) (by omega)
    have eX0 : f_Twist_read (tX Sx n) (nI st) = f_Twist_read_19 F S0 (nI st) (nI 0) := by
      unfold f_Twist_read f_Reading_begin
      rw [Option.bind_some, Option.bind_some, Option.bind_some, Option.bind_some, Option.bind_some, Option.bind_some, hF, hS0]
      rfl
    have eM0 : f_Mo_twist_42 Sm (nI st) (nI n) l3 = CO F F T0 (nI st) l3 := by
      unfold f_Mo_twist_42 f_Mo_beginsText
      rw [if_pos t2, Option.bind_some, Option.bind_some, Option.bind_some, Option.bind_some, Option.bind_some, Option.bind_some, Option.bind_some, hF, hT0]
      have tw := tw97 F T0 (nI st) l3
      rw [hF] at tw
      exact tw
    have eX1 : f_W_twist_44 Sx (nI st) (nI n) l3 = ((f_Twist_read (tX Sx n) (nI st)).bind fun w_62 => if w_62.1 = 0 then (if l3 = 100 then some ((w_62.2 42 8), w_62.2) else if l3 = 101 then (f_Twist_oversLessUnders w_62.2).bind fun v => some (v, w_62.2) else if l3 = 102 then (f_Twist_turnsLeft w_62.2).bind fun w => some (w.1, w.2) else if l3 = 103 then (f_Twist_timesTillHome w_62.2 (nI st)).bind fun w => some (w.1, w.2) else (f_Twist_comesOut w_62.2 l3).bind fun v => some (v, w_62.2)) else some (w_62.1, w_62.2)) := by
      unfold f_W_twist_44
      rw [t1, Option.bind_some, if_neg i10]
      rfl
    have x12 : ∀ {f : Int32} {S' : St}, f_Twist_read (tX Sx n) (nI st) = some (f, S') → S' 1 2 = 0 := fun {f S'} e => by
      have := w_Twist_read e (kr := 1) (jr := 2) (by omega)
      have h2 : tX Sx n 1 2 = 0 := by unfold tX; exact sF_at
      exact this.trans h2
    rw [eX1, eM0]
    rcases hO with ⟨t, S', T', ht, e1, e2, e3⟩ | ⟨f, S', T', e1, e2, e3, e4⟩
    · rw [← eX0] at e1
      obtain ⟨r, S2, T2, g1, g2, g3, g4⟩ := tw_tell (l3 := l3) e3 h8 hw
      refine ⟨r, S2, T2, ?_, ?_, by rw [g3]; exact x12 e1, g4⟩
      · rw [e1, Option.bind_some, if_pos rfl]; exact g1
      · rw [e2]; exact g2
    · rw [← eX0] at e1
      refine ⟨f, S', sF T' 0 7 0, ?_, ?_, x12 e1, sF_at⟩
      · rw [e1, Option.bind_some, if_neg e3]
      · rw [e2]
        unfold f_Mo_twist_107
        rw [Option.bind_some, if_pos rfl, sF_ne (by omega), e4]
  · refine Or.inr ⟨?_, ?_⟩
    · unfold f_W_twist_44
      rw [t1, Option.bind_some, if_pos rfl]
    · unfold f_Mo_twist_42
      rw [if_neg t2]
theorem st_twist {LR : St → St → Prop} (hL : LRc LR) (a d e : Int32) : STEP (RelL LR) m_W_twist m_Mo_twist 5 4 [a, d, e] := by
  intro Sx Sm hR
  have no : f_W_twist Sx a d e = some (-1, Sx) → f_Mo_twist Sm a d e = some (-1, Sm) → ∃ r Sx' Sm', Ct SX m_W_twist 5 (.ref 0 :: [a, d, e].map Value.int) Sx (some r) Sx' ∧ Ct SM m_Mo_twist 4 (.ref 0 :: [a, d, e].map Value.int) Sm (some r) Sm' ∧ RelL LR Sx' Sm' := fun e1 e2 => ⟨-1, Sx, Sm, t_W_twist e1, t_Mo_twist e2, hR⟩
  by_cases hc : a < 2 ∨ (8 : Int32) < a
  · exact no (by unfold f_W_twist; rw [wi_n hc]; rfl) (by unfold f_Mo_twist; rw [in_n hc]; rfl)
  have n1 : ¬ a < 2 := fun z => hc (Or.inl z)
  have n2 : ¬ (8 : Int32) < a := fun z => hc (Or.inr z)
  by_cases hc2 : d < 1 ∨ (80 : Int32) < d
  · exact no (by unfold f_W_twist; rw [wi_y n1 n2, wi_n hc2]; rfl) (by unfold f_Mo_twist; rw [in_y n1 n2, in_n hc2]; rfl)
  have n3 : ¬ d < 1 := fun z => hc2 (Or.inl z)
  have n4 : ¬ (80 : Int32) < d := fun z => hc2 (Or.inr z)
  obtain ⟨st, q1, q2, rfl⟩ := rngN (a := 2) (b := 8) (by omega) n1 n2
  obtain ⟨n, q3, q4, rfl⟩ := rngN (a := 1) (b := 80) (by omega) n3 n4
  have s1 : nI st - 1 = nI (st - 1) := pk_sub (b := 1) (by omega)
  have go : ((∃ w, w < st ∧ e = nI w) ∨ e = 100 ∨ e = 101 ∨ e = 102 ∨ e = 103) → f_W_twist Sx (nI st) (nI n) e = f_W_twist_44 Sx (nI st) (nI n) e → f_Mo_twist Sm (nI st) (nI n) e = f_Mo_twist_42 Sm (nI st) (nI n) e → ∃ r Sx' Sm', Ct SX m_W_twist 5 (.ref 0 :: [nI st, nI n, e].map Value.int) Sx (some r) Sx' ∧ Ct SM m_Mo_twist 4 (.ref 0 :: [nI st, nI n, e].map Value.int) Sm (some r) Sm' ∧ RelL LR Sx' Sm' := fun hw e1 e2 => by
    rcases tw_core hR.1 q1 q2 q3 q4 hw with ⟨r, Sx', Sm', g1, g2, g3, g4⟩ | ⟨g1, g2⟩
    · have hx := e1.trans g1
      have hm := e2.trans g2
      refine ⟨r, Sx', Sm', t_W_twist hx, t_Mo_twist hm, hR.taken hL (fun k j hk => ?_) (fun k j hk => ?_) g3 g4⟩
      · unfold RX at hk
        exact w_W_twist hx (by omega)
      · unfold RM at hk
        exact w_Mo_twist hm (by omega)
    · exact no (e1.trans g1) (e2.trans g2)
  by_cases hc3 : e < 0 ∨ nI (st - 1) < e
  · by_cases hc4 : e < 100 ∨ (103 : Int32) < e
    · exact no (by unfold f_W_twist; rw [wi_y n1 n2, wi_y n3 n4, s1, wi_n hc3, Option.bind_some, if_neg i10, Option.bind_some, if_neg i10, Option.bind_some, if_pos rfl, wi_n hc4]; rfl) (by unfold f_Mo_twist; rw [in_y n1 n2, in_y n3 n4, s1, in_n hc3, Option.bind_some, if_neg i10, Option.bind_some, if_neg i10, Option.bind_some, if_pos rfl, in_n hc4]; rfl)
    · have n5 : ¬ e < 100 := fun z => hc4 (Or.inl z)
      have n6 : ¬ (103 : Int32) < e := fun z => hc4 (Or.inr z)
      refine go ?_ ?_ ?_
      · obtain ⟨w, u1, u2, u3⟩ := rngN (a := 100) (b := 103) (by omega) n5 n6
        have : w = 100 ∨ w = 101 ∨ w = 102 ∨ w = 103 := by omega
        rcases this with z | z | z | z <;> subst z <;> rw [u3]
        · exact Or.inr (Or.inl rfl)
        · exact Or.inr (Or.inr (Or.inl rfl))
        · exact Or.inr (Or.inr (Or.inr (Or.inl rfl)))
        · exact Or.inr (Or.inr (Or.inr (Or.inr rfl)))
      · unfold f_W_twist; rw [wi_y n1 n2, wi_y n3 n4, s1, wi_n hc3, Option.bind_some, if_neg i10, Option.bind_some, if_neg i10, Option.bind_some, if_pos rfl, wi_y n5 n6, Option.bind_some, if_neg i10]
      · unfold f_Mo_twist; rw [in_y n1 n2, in_y n3 n4, s1, in_n hc3, Option.bind_some, if_neg i10, Option.bind_some, if_neg i10, Option.bind_some, if_pos rfl, in_y n5 n6, Option.bind_some, if_neg i10]
  · have n5 : ¬ e < 0 := fun z => hc3 (Or.inl z)
    have n6 : ¬ nI (st - 1) < e := fun z => hc3 (Or.inr z)
    refine go ?_ ?_ ?_
    · obtain ⟨w, u1, u2, u3⟩ := rngN (a := 0) (b := st - 1) (by omega) n5 n6
      exact Or.inl ⟨w, by omega, u3⟩
    · unfold f_W_twist; rw [wi_y n1 n2, wi_y n3 n4, s1, wi_y n5 n6, Option.bind_some, if_neg i10, Option.bind_some, if_neg i10, Option.bind_some, if_neg i10]
    · unfold f_Mo_twist; rw [in_y n1 n2, in_y n3 n4, s1, in_y n5 n6, Option.bind_some, if_neg i10, Option.bind_some, if_neg i10, Option.bind_some, if_neg i10]
end TZ
