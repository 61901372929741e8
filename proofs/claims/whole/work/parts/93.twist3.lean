section TW
variable {n st : Nat} {b : Nat → Nat}
def kO (n : Nat) (b : Nat → Nat) (st : Nat) (l3 : Int32) (p : Nat) : Prop := ∀ (S T : St) (t g i F F1 F2 : Nat), XD S n b p → MD T n b p → TWR st S T t g → (p < n ∨ 0 < g) → (sg b n p = 41 → g = 0 ∨ S 47 (g - 1) = nI t) → i ≤ p → n - p + 2 ≤ F → n < F1 + p → n < F2 + p → TWo n b st (f_Twist_read_19 F S (nI st) (nI i)) (CO F1 F2 T (nI st) l3) l3
def kC (n : Nat) (b : Nat → Nat) (st : Nat) (l3 : Int32) (p : Nat) : Prop := ∀ (S T : St) (t g i F F1 F2 : Nat), XD S n b p → MD T n b p → TWR st S T t g → 1 ≤ t → (∀ j, j < g → ∃ tj, tj < t ∧ S 47 j = nI tj) → i ≤ p → n - p + 2 ≤ F → n < F1 + p → n + 1 < F2 + p → TWo n b st (f_Twist_read_19 F S (nI st) (nI i)) (CC F1 F2 T (nI st) l3) l3
theorem ug_y {x : Int32} {T : St} {lo : Nat} (hlo : lo = 97 ∨ lo = 65) (hx : 0 ≤ x.toInt ∨ x = -1) (h : lt7 lo x) : f_Mo_in T (x - nI lo) 0 6 = some 1 := by
  rw [ug_in hlo hx]
  unfold lt7 at h
  rw [if_pos h]
theorem ug_n {x : Int32} {T : St} {lo : Nat} (hlo : lo = 97 ∨ lo = 65) (hx : 0 ≤ x.toInt ∨ x = -1) (h : ¬ lt7 lo x) : f_Mo_in T (x - nI lo) 0 6 = some 0 := by
  rw [ug_in hlo hx]
  unfold lt7 at h
  rw [if_neg h]
theorem x_ends {S : St} {p : Nat} (hX : XD S n b p) : f_Twist_ends S = some (if p < n then 0 else 1) := by
  unfold f_Twist_ends f_Reading_failed
  rw [if_pos hX.2.2.1, Option.bind_some, if_pos rfl, hX.sign, Option.bind_some]
  by_cases c : p < n
  · have h := (hX.1.2.2 p c).2
    rw [if_neg (show ¬ sg b n p = -1 by rw [sg_y c]; exact nI_m1 (by omega)), if_pos c]
  · rw [if_pos (sg_n c), if_neg c]
theorem x215 {S : St} {g p : Nat} (hX : XD S n b p) (hg : S 42 7 = nI g) (hg2 : g ≤ 2) : f_Twist_read_215 S = if g = 0 then some (0, S) else some ((-1000) * nI 1 - nI p, sF S 3 2 ((-1000) * nI 1 - nI p)) := by
  unfold f_Twist_read_215
  by_cases c : g = 0
  · rw [hg, c, if_pos (show nI 0 ≤ 0 by decide), if_pos rfl, hX.2.2.1]
  · rw [hg, if_neg (show ¬ nI g ≤ 0 from nle (a := 0) (by omega)), if_neg c, x_fail hX.2.2.1, Option.bind_some, sF_at, hX.2.1]; rfl
theorem x_end {S : St} {g p i F : Nat} (hX : XD S n b p) (hg : S 42 7 = nI g) (hg2 : g ≤ 2) (hp : ¬ p < n) : f_Twist_read_19 (F + 1) S (nI st) (nI i) = if g = 0 then some (0, S) else some ((-1000) * nI 1 - nI p, sF S 3 2 ((-1000) * nI 1 - nI p)) := by
  rw [f_Twist_read_19, x215 hX hg hg2]
  by_cases c : (80 : Int32) ≤ nI i
  · rw [if_pos c]
  · rw [if_neg c, x_ends hX, if_neg hp, Option.bind_some, if_neg i10]
theorem tw_O {l3 : Int32} (hst : 2 ≤ st) (hst8 : st ≤ 8) (hn : n ≤ 80) {p : Nat} (ihO : ∀ p', p < p' → p' ≤ n → kO n b st l3 p') (ihC : ∀ p', p < p' → p' ≤ n → kC n b st l3 p') : kO n b st l3 p := by
  intro S T t g i F F1 F2 hX hM hW hpg h41 hi hF hF1 hF2
  have hp := hX.2.2.2.1
  have hn240 := hX.2.2.2.2
  obtain ⟨F, rfl⟩ : ∃ v, F = v + 1 := ⟨F - 1, by omega⟩
  obtain ⟨F1, rfl⟩ : ∃ v, F1 = v + 1 := ⟨F1 - 1, by omega⟩
  obtain ⟨F2, rfl⟩ : ∃ v, F2 = v + 1 := ⟨F2 - 1, by omega⟩
  obtain ⟨W1, W2, W3, W4, W5, W6, W7, W8⟩ := hW
  obtain ⟨q, tm, S1, T1, e1, e2, hX1, hM1, hq, tm1, tm9, t47, t48, fS, fT⟩ := rd_times hX hM
  have hq' := hX1.2.2.2.1
  have hb1 : q < n → b q < 256 := fun h => (hX1.1.2.2 q h).2
  have hW1 : TWR st S1 T1 t g := TWR.cong ⟨W1, W2, W3, W4, W5, W6, W7, W8⟩ (fun r j h => fS r j (by omega)) (fun r j h => fT r j (by omega))
  obtain ⟨V1, V2, V3, V4, V5, V6, V7, V8⟩ := hW1
  -- the reference has its number
  have eC : CO (F1 + 1) (F2 + 1) T (nI st) l3 = (f_Mo_readsTurn_4 (F1 + 1) T1 (nI st)).bind fun w => f_Mo_twist_74 (F2 + 1) w.2 (nI st) l3 w.1 := by
    unfold CO
    rw [e2, Option.bind_some]
  have h4 := hM1.here hq' hn240
  -- a fault of the reference there
  have mF : ∀ (T2 : St), f_Mo_readsTurn_4 (F1 + 1) T1 (nI st) = some (0, T2) → CO (F1 + 1) (F2 + 1) T (nI st) l3 = f_Mo_twist_74 (F2 + 1) T2 (nI st) l3 0 := fun T2 h => by
    rw [eC, h, Option.bind_some]
  have no4 : ¬ sg b n q = 40 → ¬ lt7 97 (sg b n q) → ¬ lt7 65 (sg b n q) → f_Mo_readsTurn_4 (F1 + 1) T1 (nI st) = some (0, sF T1 0 10 ((-1000) * nI 1 - nI q)) := fun n40 n97 n65 => by
    rw [f_Mo_readsTurn_4, h4, Option.bind_some, if_neg n40, Option.bind_some, Option.bind_some, Option.bind_some, show f_Mo_in T1 (sg b n q - 97) 0 6 = some 0 from ug_n (lo := 97) (Or.inl rfl) (sgI hb1) n97, Option.bind_some, if_pos rfl, Option.bind_some, show f_Mo_in T1 (sg b n q - 65) 0 6 = some 0 from ug_n (lo := 65) (Or.inr rfl) (sgI hb1) n65, Option.bind_some, if_pos rfl, m_wrong, Option.bind_some, if_pos (Or.inl rfl), hM1.2.2]
    rfl
  by_cases pn : p < n
  · -- what the class does
    have eX : f_Twist_read_19 (F + 1) S (nI st) (nI i) = if sg b n q < 97 then f_Twist_read_73 (f_Twist_read_19 F) S1 (nI st) (nI i) (nI p) (nI tm) (sg b n q) else if (103 : Int32) < sg b n q then f_Twist_read_73 (f_Twist_read_19 F) S1 (nI st) (nI i) (nI p) (nI tm) (sg b n q) else f_Twist_read_74 (f_Twist_read_19 F) S1 (nI st) (nI i) (nI p) (nI tm) (sg b n q) 1 := by
      rw [f_Twist_read_19, if_neg (show ¬ (80 : Int32) ≤ nI i from nle (b := 80) (by omega)), x_ends hX, if_pos pn, Option.bind_some, if_pos rfl, hX.2.1, Option.bind_some, e1, Option.bind_some, Option.bind_some, hX1.sign, Option.bind_some]
    have lett : ∀ lo c, (lo = 97 ∨ lo = 65) → c ≤ 6 → sg b n q = nI (lo + c) → TWo n b st (f_Twist_read_19 (F + 1) S (nI st) (nI i)) (CO (F1 + 1) (F2 + 1) T (nI st) l3) l3 := fun lo c hlo hc hs => by
      have qn : q < n := sg_lt (c := lo + c) (by omega) hs
      have e40 : ¬ sg b n q = 40 := by rw [hs]; exact nI_k 40 (by omega) (by omega) (by omega)
      rw [eX, x_letter hX1 tm hlo hs hc]
      have est : nI st - 2 = nI (st - 2) := pk_sub (b := 2) (by omega)
      -- the reference comes to its turn
      have eM : f_Mo_readsTurn_4 (F1 + 1) T1 (nI st) = if nI c ≤ nI (st - 2) then (if nI t + nI tm ≤ 64 then f_Mo_readsTurn_242 (sF T1 0 8 (nI (q + 1))) (nI p) (nI tm) (if lo = 97 then nI c else 8 + nI c) (nI t) else some (0, sF T1 0 10 ((-1000) * nI 6 - nI p))) else some (0, sF T1 0 10 ((-1000) * nI 3 - nI q)) := by
        have e169 : ∀ l4 s0 : Int32, nI (lo + c) - s0 = nI c → f_Mo_readsTurn_169 T1 (nI st) (nI p) (nI tm) l4 s0 (nI (lo + c)) = if nI c ≤ nI (st - 2) then (if nI t + nI tm ≤ 64 then f_Mo_readsTurn_242 (sF T1 0 8 (nI (q + 1))) (nI p) (nI tm) (if l4 = 0 then 8 + nI c else nI c) (nI t) else some (0, sF T1 0 10 ((-1000) * nI 6 - nI p))) else some (0, sF T1 0 10 ((-1000) * nI 3 - nI q)) := fun l4 s0 hs0 => by
          have e45 : ∀ v, sF T1 0 8 v 0 45 = nI t := fun v => by rw [sF_ne (by omega)]; exact V2
          unfold f_Mo_readsTurn_169
          rw [hs0, Option.bind_some, est, V2, hM1.2.2, nI_1, Option.bind_some, e45, m_wrong, Option.bind_some, if_pos (Or.inl rfl), m_wrong, Option.bind_some, if_pos (Or.inl rfl)]
          by_cases c1 : nI c ≤ nI (st - 2)
          · rw [if_pos c1, if_pos c1]
            by_cases c2 : nI t + nI tm ≤ 64
            · rw [if_pos c2, if_pos c2]
              by_cases c3 : l4 = 0
              · rw [if_pos c3, if_pos c3]
              · rw [if_neg c3, if_neg c3]
            · rw [if_neg c2, if_neg c2]; rfl
          · rw [if_neg c1, if_neg c1]; rfl
        rw [f_Mo_readsTurn_4, h4, Option.bind_some, if_neg e40, t47, Option.bind_some, t48, Option.bind_some, Option.bind_some]
        unfold f_Mo_readsTurn_153
        rw [h4, hs]
        rcases hlo with e | e
        · subst e
          have y97 : lt7 97 (nI (97 + c)) := ⟨nlt' (by omega), nlt' (by omega)⟩
          rw [show f_Mo_in T1 (nI (97 + c) - 97) 0 6 = some 1 from ug_y (lo := 97) (Or.inl rfl) (by rw [← hs]; exact sgI hb1) y97, Option.bind_some, if_neg i10, Option.bind_some, if_neg i10, e169 1 97 (by rw [show nI (97 + c) - 97 = nI (97 + c - 97) from pk_sub (b := 97) (by omega)]; congr 1; omega), if_neg i10, if_pos rfl]
        · subst e
          have n97 : ¬ lt7 97 (nI (65 + c)) := fun z => z.1 (ylt (by omega))
          have y65 : lt7 65 (nI (65 + c)) := ⟨nlt' (by omega), nlt' (by omega)⟩
          rw [show f_Mo_in T1 (nI (65 + c) - 97) 0 6 = some 0 from ug_n (lo := 97) (Or.inl rfl) (by rw [← hs]; exact sgI hb1) n97, Option.bind_some, if_pos rfl, Option.bind_some, show f_Mo_in T1 (nI (65 + c) - 65) 0 6 = some 1 from ug_y (lo := 65) (Or.inr rfl) (by rw [← hs]; exact sgI hb1) y65, Option.bind_some, if_neg i10, Option.bind_some, if_pos rfl, e169 0 65 (by rw [show nI (65 + c) - 65 = nI (65 + c - 65) from pk_sub (b := 65) (by omega)]; congr 1; omega), if_pos rfl, if_neg (show ¬ (65 : Nat) = 97 by omega)]
      by_cases cs : c ≤ st - 2
      · rw [if_pos (yle cs)] at eM
        obtain ⟨cd, hcd⟩ : ∃ cd : Int32, cd = if lo = 97 then nI c else 8 + nI c := ⟨_, rfl⟩
        obtain ⟨cx', hcx'⟩ : ∃ cx' : Int32, cx' = if lo = 97 then nI c + 1 else -(nI c) - 1 := ⟨_, rfl⟩
        have tc : tcR st cx' cd := by
          refine ⟨c, by omega, ?_⟩
          rcases hlo with e | e
          · subst e
            rw [if_pos rfl] at hcd hcx'
            exact Or.inl ⟨by rw [hcx', nI_1], hcd⟩
          · subst e
            rw [if_neg (by omega)] at hcd hcx'
            refine Or.inr ⟨?_, by rw [hcd]; exact nI_add 8 c⟩
            rw [hcx', ← nI_1]
            apply Int32.toBitVec_inj.mp
            simp only [Int32.toBitVec_sub, Int32.toBitVec_neg, Int32.toBitVec_add]
            show -_ - 1#32 = -(_ + 1#32)
            bv_omega
        -- the class's turn
        have eT : f_Twist_readTurn S1 (nI c) (if lo = 97 then 1 else 0) (nI st) = some (if t < 64 then sF (sF (sF S1 3 1 (nI (q + 1))) 43 t cx') 42 8 (nI (t + 1)) else sF (sF S1 3 1 (nI (q + 1))) 42 8 (nI (t + 1))) := by
          have e8 : sF S1 3 1 (nI (q + 1)) 42 8 = nI t := by rw [sF_ne (by omega)]; exact V1
          have e8' : ∀ v, sF (sF S1 3 1 (nI (q + 1))) 43 t v 42 8 = nI t := fun v => by rw [sF_ne (by omega)]; exact e8
          have c1 : (nI t).toNatClampNeg = t := cl
          have t1 : nI t + 1 = nI (t + 1) := nI_add t 1
          have q1 : nI q + 1 = nI (q + 1) := nI_add q 1
          have e68 : ∀ v, f_Twist_readTurn_67 (sF S1 3 1 (nI (q + 1))) v (nI t) = if t < 64 then some (sF (sF (sF S1 3 1 (nI (q + 1))) 43 t v) 42 8 (nI (t + 1))) else none := fun v => by
            unfold f_Twist_readTurn_67 f_Twist_readTurn_68
            by_cases c64 : t < 64
            · rw [if_pos (gn (by omega) (by omega)), if_pos c64, c1, Option.bind_some, e8', t1, Option.bind_some]
            · rw [if_neg c64, if_neg]
              intro z
              unfold ig at z
              have := of_decide_eq_true z
              rw [c1] at this
              exact this (Or.inr (by omega))
          unfold f_Twist_readTurn
          rw [est, if_pos (yle cs), hX1.2.1, q1, Option.bind_some, e8, e68, e68]
          by_cases c64 : t < 64
          · rw [if_neg (show ¬ (64 : Int32) ≤ nI t from nle (b := 64) c64), if_pos c64, if_pos c64, if_pos c64]
            rcases hlo with e | e
            · rw [if_pos e, if_neg i10, hcx', if_pos e]
            · have ne : ¬ lo = 97 := by omega
              rw [if_neg ne, if_pos rfl, hcx', if_neg ne]
          · unfold f_Twist_readTurn_68
            rw [if_pos (show (64 : Int32) ≤ nI t from yle (a := 64) (by omega)), if_neg c64, e8, t1, Option.bind_some]
        rw [eT, Option.bind_some]
        by_cases ct : t + tm ≤ 64
        · have t64 : t < 64 := by omega
          rw [nI_add, if_pos (show nI (t + tm) ≤ 64 from yle (b := 64) ct), ← hcd] at eM
          rw [if_pos t64]
          obtain ⟨S2, hS2⟩ : ∃ S2, sF (sF (sF S1 3 1 (nI (q + 1))) 43 t cx') 42 8 (nI (t + 1)) = S2 := ⟨_, rfl⟩
          obtain ⟨T2, hT2⟩ : ∃ T2, sF (sF (sF T1 0 8 (nI (q + 1))) 26 t cd) 0 45 (nI (t + 1)) = T2 := ⟨_, rfl⟩
          have hX2 : XD S2 n b (q + 1) := by rw [← hS2]; exact ((hX1.on qn).set (by omega)).set (by omega)
          have hM2 : MD T2 n b (q + 1) := by rw [← hT2]; exact (hM1.on.set (by omega)).set (by omega)
          have hW2 : TWR st S2 T2 (t + 1) g := by
            refine ⟨by rw [← hS2, sF_at], by rw [← hT2, sF_at], by omega, by rw [← hS2, sF_ne (by omega), sF_ne (by omega), sF_ne (by omega)]; exact V4, by rw [← hT2, sF_ne (by omega), sF_ne (by omega), sF_ne (by omega)]; exact V5, V6, fun j hj => ?_, fun j hj => ?_⟩
            · have x43 : S2 43 j = sF (sF S1 3 1 (nI (q + 1))) 43 t cx' 43 j := by rw [← hS2, sF_ne (by omega)]
              have y26 : T2 26 j = sF (sF T1 0 8 (nI (q + 1))) 26 t cd 26 j := by rw [← hT2, sF_ne (by omega)]
              rw [x43, y26]
              by_cases e : j = t
              · rw [e, sF_at, sF_at]; exact tc
              · rw [sF_ne (Or.inr e), sF_ne (Or.inr e), sF_ne (by omega), sF_ne (by omega)]; exact V7 j (by omega)
            · obtain ⟨pl', tm', tj, w1, w2, w3, w4, w5, w6, w7, w8, w9, w10⟩ := V8 j hj
              rw [← hS2, ← hT2]
              refine ⟨pl', tm', tj, ?_, ?_, ?_, ?_, ?_, ?_, w7, w8, w9, by omega⟩
              · rw [sF_ne (by omega), sF_ne (by omega), sF_ne (by omega)]; exact w1
              · rw [sF_ne (by omega), sF_ne (by omega), sF_ne (by omega)]; exact w2
              · rw [sF_ne (by omega), sF_ne (by omega), sF_ne (by omega)]; exact w3
              · rw [sF_ne (by omega), sF_ne (by omega), sF_ne (by omega)]; exact w4
              · rw [sF_ne (by omega), sF_ne (by omega), sF_ne (by omega)]; exact w5
              · rw [sF_ne (by omega), sF_ne (by omega), sF_ne (by omega)]; exact w6
          have eM2 : f_Mo_readsTurn_4 (F1 + 1) T1 (nI st) = (f_Mo_repeats T2 (nI t) (nI tm) (nI p)).bind fun w_262 => if w_262.1 = 0 then some (0, w_262.2) else f_Mo_readsTurn_270 FU w_262.2 := by
            have c1 : (nI t).toNatClampNeg = t := cl
            have e45 : ∀ v, sF (sF T1 0 8 (nI (q + 1))) 26 t v 0 45 = nI t := fun v => by rw [sF_ne (by omega), sF_ne (by omega)]; exact V2
            have e45' : T2 0 45 - 1 = nI t := by rw [hW2.2.1]; exact pk_sub (a := t + 1) (b := 1) (by omega)
            rw [eM]
            unfold f_Mo_readsTurn_242
            rw [if_pos (gn (by omega) (by omega)), c1, Option.bind_some, e45, nI_1, hT2, Option.bind_some, e45']
          have s81 : S2 42 8 - 1 = nI t := by rw [hW2.1]; exact pk_sub (a := t + 1) (b := 1) (by omega)
          rw [hS2, s81, eC, eM2]
          rcases rd_repeat hX2 hM2 hW2 (fr := t) (by omega) tm1 tm9 (show p ≤ 80 by omega) with ⟨t', S3, T3, r1, r2, r3, r4, r5, r6⟩ | ⟨f, S3, T3, r2, r3, f0, f1, f2, f3⟩
          · rw [r2, Option.bind_some, r3, Option.bind_some, if_neg i10]
            refine ihC (q + 1) (by omega) (by omega) S3 T3 t' g (i + 1) F FU (F2 + 1) r4 r5 r6 (by omega) (fun j hj => ?_) (by omega) (by omega) (by have := FU_gt (n := 500) (by omega); omega) (by omega)
            obtain ⟨pl', tm', tj, w1, w2, w3, w4, w5, w6, w7, w8, w9, w10⟩ := V8 j hj
            refine ⟨tj, by omega, ?_⟩
            rw [w_Twist_repeat r2 (by omega), ← hS2, sF_ne (by omega), sF_ne (by omega), sF_ne (by omega)]
            exact w5
          · rw [r2, Option.bind_some, r3, Option.bind_some, if_pos rfl, Option.bind_some]
            obtain ⟨F, rfl⟩ : ∃ v, F = v + 1 := ⟨F - 1, by omega⟩
            exact tw_fault f0 f1 f3 _ _ rfl rfl
        · rw [nI_add, if_neg (show ¬ nI (t + tm) ≤ 64 from nle (a := 64) (by omega))] at eM
          have f0 : ¬ (-1000) * nI 6 - nI p = 0 := fl_ne (by omega) (by omega) (by omega)
          rw [mF _ eM]
          obtain ⟨S2, hS2, hS28, hS23⟩ : ∃ S2, (if t < 64 then sF (sF (sF S1 3 1 (nI (q + 1))) 43 t cx') 42 8 (nI (t + 1)) else sF (sF S1 3 1 (nI (q + 1))) 42 8 (nI (t + 1))) = S2 ∧ S2 42 8 = nI (t + 1) ∧ S2 3 2 = 0 := by
            by_cases c64 : t < 64
            · rw [if_pos c64]
              exact ⟨_, rfl, sF_at, by rw [sF_ne (by omega), sF_ne (by omega), sF_ne (by omega)]; exact hX1.2.2.1⟩
            · rw [if_neg c64]
              exact ⟨_, rfl, sF_at, by rw [sF_ne (by omega), sF_ne (by omega)]; exact hX1.2.2.1⟩
          have er : f_Twist_repeat S2 (nI t) (nI tm) (nI p) = some (sF S2 3 2 ((-1000) * nI 6 - nI p)) := by
            unfold f_Twist_repeat f_Reading_failed
            have e1' : nI (t + 1) - nI t = nI 1 := by rw [show nI (t + 1) - nI t = nI (t + 1 - t) from pk_sub (by omega)]; congr 1; omega
            rw [if_pos hS23, Option.bind_some, if_pos rfl, hS28, e1', Option.bind_some, show nI 1 * nI tm = nI (1 * tm) from pk_mul 1 tm, nI_add, Option.bind_some, if_neg (show ¬ nI (t + 1 * tm) ≤ 64 from nle (a := 64) (by omega)), x_fail hS23, Option.bind_some]
            rfl
          rw [hS2, hS28, show nI (t + 1) - 1 = nI t from pk_sub (a := t + 1) (b := 1) (by omega), er, Option.bind_some]
          obtain ⟨F, rfl⟩ : ∃ v, F = v + 1 := ⟨F - 1, by omega⟩
          exact tw_fault f0 sF_at sF_at _ _ rfl rfl
      · rw [if_neg (nle (by omega))] at eM
        have f0 : ¬ (-1000) * nI 3 - nI q = 0 := fl_ne (by omega) (by omega) (by omega)
        rw [mF _ eM]
        have eT : f_Twist_readTurn S1 (nI c) (if lo = 97 then 1 else 0) (nI st) = some (sF S1 3 2 ((-1000) * nI 3 - nI q)) := by
          unfold f_Twist_readTurn
          rw [est, if_neg (nle (by omega)), x_fail hX1.2.2.1, Option.bind_some, hX1.2.1]; rfl
        have er : ∀ l1 l2 l3, f_Twist_repeat (sF S1 3 2 ((-1000) * nI 3 - nI q)) l1 l2 l3 = some (sF S1 3 2 ((-1000) * nI 3 - nI q)) := fun l1 l2 l3 => by
          unfold f_Twist_repeat f_Reading_failed
          rw [sF_at, if_neg f0, Option.bind_some, if_neg i10]
        rw [eT, Option.bind_some, er, Option.bind_some]
        obtain ⟨F, rfl⟩ : ∃ v, F = v + 1 := ⟨F - 1, by omega⟩
        exact tw_fault f0 sF_at sF_at _ _ rfl rfl
    by_cases l97 : lt7 97 (sg b n q)
    · obtain ⟨m, a1, a2, a3⟩ := rngN (x := sg b n q) (a := 97) (b := 103) (by omega) l97.1 l97.2
      exact lett 97 (m - 97) (Or.inl rfl) (by omega) (by rw [a3]; congr 1; omega)
    by_cases l65 : lt7 65 (sg b n q)
    · obtain ⟨m, a1, a2, a3⟩ := rngN (x := sg b n q) (a := 65) (b := 71) (by omega) l65.1 l65.2
      exact lett 65 (m - 65) (Or.inr rfl) (by omega) (by rw [a3]; congr 1; omega)
    rw [eX, x_noletter hX1 l97 l65]
    unfold f_Twist_read_95
    rw [if_pos rfl, if_pos rfl]
    by_cases c40 : sg b n q = 40
    · have qn : q < n := sg_lt (c := 40) (by omega) c40
      rw [if_pos c40]
      by_cases g2 : g = 2
      · have f0 : ¬ (-1000) * nI 5 - nI q = 0 := fl_ne (by omega) (by omega) (by omega)
        have eo : f_Twist_openGroup S1 (nI p) (nI tm) = some (sF S1 3 2 ((-1000) * nI 5 - nI q)) := by
          unfold f_Twist_openGroup
          rw [V4, g2, if_neg (show ¬ nI 2 < 2 by decide), x_fail hX1.2.2.1, Option.bind_some, hX1.2.1]; rfl
        have em : f_Mo_readsTurn_4 (F1 + 1) T1 (nI st) = some (0, sF T1 0 10 ((-1000) * nI 5 - nI q)) := by
          rw [f_Mo_readsTurn_4, h4, Option.bind_some, if_pos c40, V5, g2, if_pos (show nI 2 = 2 from rfl), m_wrong, Option.bind_some, if_pos (Or.inl rfl), hM1.2.2]; rfl
        rw [mF _ em, eo, Option.bind_some]
        unfold f_Twist_read_209
        rw [Option.bind_some, nI_1]
        obtain ⟨F, rfl⟩ : ∃ v, F = v + 1 := ⟨F - 1, by omega⟩
        exact tw_fault f0 sF_at sF_at _ _ rfl rfl
      · have c1 : (nI g).toNatClampNeg = g := cl
        have gg : ig (nI g) 2 = true := gn (by omega) (by omega)
        obtain ⟨S2, hS2⟩ : ∃ S2, sF (sF (sF (sF (sF S1 45 g (nI p)) 46 g (nI tm)) 47 g (nI t)) 42 7 (nI (g + 1))) 3 1 (nI (q + 1)) = S2 := ⟨_, rfl⟩
        obtain ⟨T2, hT2⟩ : ∃ T2, sF (sF (sF (sF (sF T1 27 g (nI p)) 28 g (nI t)) 29 g (nI tm)) 0 46 (nI (g + 1))) 0 8 (nI (q + 1)) = T2 := ⟨_, rfl⟩
        have eo : f_Twist_openGroup S1 (nI p) (nI tm) = some S2 := by
          have k7 : sF S1 45 g (nI p) 42 7 = nI g := by rw [sF_ne (by omega)]; exact V4
          have k7' : sF (sF S1 45 g (nI p)) 46 g (nI tm) 42 7 = nI g := by rw [sF_ne (by omega)]; exact k7
          have k8 : sF (sF S1 45 g (nI p)) 46 g (nI tm) 42 8 = nI t := by rw [sF_ne (by omega), sF_ne (by omega)]; exact V1
          have k7'' : ∀ v, sF (sF (sF S1 45 g (nI p)) 46 g (nI tm)) 47 g v 42 7 = nI g := fun v => by rw [sF_ne (by omega)]; exact k7'
          have k3 : ∀ v u, sF (sF (sF (sF S1 45 g (nI p)) 46 g (nI tm)) 47 g v) 42 7 u 3 1 = nI q := fun v u => by rw [sF_ne (by omega), sF_ne (by omega), sF_ne (by omega), sF_ne (by omega)]; exact hX1.2.1
          unfold f_Twist_openGroup
          rw [V4, if_pos (show nI g < 2 from ylt (b := 2) (by omega)), if_pos gg, c1, Option.bind_some, k7, if_pos gg, c1, Option.bind_some, k7', if_pos gg, c1, k8, Option.bind_some, k7'', nI_1, Option.bind_some, k3, nI_1, Option.bind_some, hS2]
        have em : f_Mo_readsTurn_4 (F1 + 1) T1 (nI st) = (f_Mo_readsTimes T2).bind fun w_91 => f_Mo_readsTurn_4 F1 w_91 (nI st) := by
          have k46 : sF T1 27 g (nI p) 0 46 = nI g := by rw [sF_ne (by omega)]; exact V5
          have k45 : sF T1 27 g (nI p) 0 45 = nI t := by rw [sF_ne (by omega)]; exact V2
          have k46' : sF (sF T1 27 g (nI p)) 28 g (nI t) 0 46 = nI g := by rw [sF_ne (by omega)]; exact k46
          have k48 : sF (sF T1 27 g (nI p)) 28 g (nI t) 0 48 = nI tm := by rw [sF_ne (by omega), sF_ne (by omega)]; exact t48
          have k46'' : ∀ v, sF (sF (sF T1 27 g (nI p)) 28 g (nI t)) 29 g v 0 46 = nI g := fun v => by rw [sF_ne (by omega)]; exact k46'
          have k8 : ∀ v u, sF (sF (sF (sF T1 27 g (nI p)) 28 g (nI t)) 29 g v) 0 46 u 0 8 = nI q := fun v u => by rw [sF_ne (by omega), sF_ne (by omega), sF_ne (by omega), sF_ne (by omega)]; exact hM1.2.2
          rw [f_Mo_readsTurn_4, h4, Option.bind_some, if_pos c40, V5, if_neg (show ¬ nI g = 2 from nI_k 2 (by omega) (by omega) g2), if_pos gg, c1, t47, Option.bind_some, k46, if_pos gg, c1, k45, Option.bind_some, k46', if_pos gg, c1, k48, Option.bind_some, k46'', nI_1, Option.bind_some, k8, nI_1, Option.bind_some, hT2]
        rw [eo, Option.bind_some, eC, em]
        unfold f_Twist_read_209
        rw [Option.bind_some, nI_1]
        have hX2 : XD S2 n b (q + 1) := by
          rw [← hS2]
          exact ((((hX1.set (k := 45) (by omega)).set (k := 46) (by omega)).set (k := 47) (by omega)).set (k := 42) (by omega)).on qn
        have hM2 : MD T2 n b (q + 1) := by
          rw [← hT2]
          exact ((((hM1.set (k := 27) (by omega)).set (k := 28) (by omega)).set (k := 29) (by omega)).set (k := 0) (by omega)).on
        refine ihO (q + 1) (by omega) (by omega) S2 T2 t (g + 1) (i + 1) F F1 (F2 + 1) hX2 hM2 ⟨?_, ?_, V3, ?_, ?_, by omega, fun j hj => ?_, fun j hj => ?_⟩ (Or.inr (by omega)) (fun _ => Or.inr ?_) (by omega) (by omega) (by omega) (by omega)
        · rw [← hS2, sF_ne (by omega), sF_ne (by omega), sF_ne (by omega), sF_ne (by omega), sF_ne (by omega)]; exact V1
        · rw [← hT2, sF_ne (by omega), sF_ne (by omega), sF_ne (by omega), sF_ne (by omega), sF_ne (by omega)]; exact V2
        · rw [← hS2, sF_ne (by omega), sF_at]
        · rw [← hT2, sF_ne (by omega), sF_at]
        · rw [← hS2, ← hT2, sF_ne (by omega), sF_ne (by omega), sF_ne (by omega), sF_ne (by omega), sF_ne (by omega), sF_ne (by omega), sF_ne (by omega), sF_ne (by omega), sF_ne (by omega), sF_ne (by omega)]; exact V7 j hj
        · by_cases e : j = g
          · subst e
            refine ⟨p, tm, t, ?_, ?_, ?_, ?_, ?_, ?_, by omega, tm1, tm9, Nat.le_refl _⟩
            · rw [← hS2, sF_ne (by omega), sF_ne (by omega), sF_ne (by omega), sF_ne (by omega), sF_at]
            · rw [← hT2, sF_ne (by omega), sF_ne (by omega), sF_ne (by omega), sF_ne (by omega), sF_at]
            · rw [← hS2, sF_ne (by omega), sF_ne (by omega), sF_ne (by omega), sF_at]
            · rw [← hT2, sF_ne (by omega), sF_ne (by omega), sF_at]
            · rw [← hS2, sF_ne (by omega), sF_ne (by omega), sF_at]
            · rw [← hT2, sF_ne (by omega), sF_ne (by omega), sF_ne (by omega), sF_at]
          · obtain ⟨pl', tm', tj, w1, w2, w3, w4, w5, w6, w7, w8, w9, w10⟩ := V8 j (by omega)
            refine ⟨pl', tm', tj, ?_, ?_, ?_, ?_, ?_, ?_, w7, w8, w9, w10⟩
            · rw [← hS2, sF_ne (by omega), sF_ne (by omega), sF_ne (by omega), sF_ne (by omega), sF_ne (by omega)]; exact w1
            · rw [← hT2, sF_ne (by omega), sF_ne (by omega), sF_ne (by omega), sF_ne (by omega), sF_ne (by omega)]; exact w2
            · rw [← hS2, sF_ne (by omega), sF_ne (by omega), sF_ne (by omega), sF_ne (by omega), sF_ne (by omega)]; exact w3
            · rw [← hT2, sF_ne (by omega), sF_ne (by omega), sF_ne (by omega), sF_ne (by omega), sF_ne (by omega)]; exact w4
            · rw [← hS2, sF_ne (by omega), sF_ne (by omega), sF_ne (by omega), sF_ne (by omega), sF_ne (by omega)]; exact w5
            · rw [← hT2, sF_ne (by omega), sF_ne (by omega), sF_ne (by omega), sF_ne (by omega), sF_ne (by omega)]; exact w6
        · rw [show g + 1 - 1 = g by omega, ← hS2, sF_ne (by omega), sF_ne (by omega), sF_at]
    · have f0 : ¬ (-1000) * nI 1 - nI q = 0 := fl_ne (by omega) (by omega) (by omega)
      have e194 : f_Twist_read_194 (f_Twist_read_19 F) S1 (nI st) (nI i) = f_Twist_read_19 F (sF S1 3 2 ((-1000) * nI 1 - nI q)) (nI st) (nI (i + 1)) := by
        unfold f_Twist_read_194 f_Twist_read_209
        rw [x_fail hX1.2.2.1, Option.bind_some, Option.bind_some, nI_1, hX1.2.1]; rfl
      obtain ⟨F, rfl⟩ : ∃ v, F = v + 1 := ⟨F - 1, by omega⟩
      refine tw_fault f0 (S := sF S1 3 2 ((-1000) * nI 1 - nI q)) (T := sF T1 0 10 ((-1000) * nI 1 - nI q)) (F := F) (F2 := F2) (i := i + 1) sF_at sF_at _ _ ?_ (mF _ (no4 c40 l97 l65))
      rw [if_neg c40]
      by_cases c41 : sg b n q = 41
      · rw [if_pos c41, hX1.2.1]
        by_cases qp : q = p
        · rw [if_pos (show nI p = nI q by rw [qp]), V4]
          rcases h41 (by rw [← qp]; exact c41) with e | e
          · rw [if_pos (show nI g ≤ 0 by rw [e]; decide), e194]
          · by_cases g0 : g = 0
            · rw [if_pos (show nI g ≤ 0 by rw [g0]; decide), e194]
            · have c1 : (nI (g - 1)).toNatClampNeg = g - 1 := cl
              have s1 : nI g - 1 = nI (g - 1) := pk_sub (b := 1) (by omega)
              have e47 : S1 47 (g - 1) = nI t := by rw [fS 47 (g - 1) (by omega)]; exact e
              rw [if_neg (show ¬ nI g ≤ 0 from nle (a := 0) (by omega))]
              unfold f_Twist_closeGroup f_Twist_closeGroup_29 f_Twist_read_209
              rw [V4, s1, Option.bind_some, if_neg (nI_lt0 (by omega)), if_neg (show ¬ (2 : Int32) ≤ nI (g - 1) from nle (b := 2) (by omega)), if_pos (gn (by omega) (by omega)), c1, e47, V1, if_pos rfl, x_fail hX1.2.2.1, Option.bind_some, Option.bind_some, Option.bind_some, nI_1, hX1.2.1]
              rfl
        · rw [if_neg (show ¬ nI p = nI q from nI_k q (by omega) (by omega) (by omega)), e194]
      · rw [if_neg c41, e194]
  · -- at the end, with a group open
    have qp : q = p := by omega
    have f0 : ¬ (-1000) * nI 1 - nI p = 0 := fl_ne (by omega) (by omega) (by omega)
    have s1 : sg b n q = -1 := sg_n (by omega)
    have g0 : ¬ g = 0 := by omega
    rw [x_end hX W4 W6 pn, if_neg g0]
    refine Or.inr ⟨(-1000) * nI 1 - nI p, _, sF T1 0 10 ((-1000) * nI 1 - nI q), rfl, ?_, f0, by rw [sF_at, qp]⟩
    rw [mF _ (no4 (by rw [s1]; decide) (by rw [s1]; unfold lt7; exact fun z => z.1 (by decide)) (by rw [s1]; unfold lt7; exact fun z => z.1 (by decide))), f_Mo_twist_74, if_pos rfl]
end TW
