section TW
variable {n p st t g : Nat} {b : Nat → Nat} {S T : St}
theorem ug_in {x : Int32} {T : St} {lo : Nat} (hlo : lo = 97 ∨ lo = 65) (hx : 0 ≤ x.toInt ∨ x = -1) : f_Mo_in T (x - nI lo) 0 6 = some (if ¬ x < nI lo ∧ ¬ nI (lo + 6) < x then 1 else 0) := by
  by_cases c : ¬ x < nI lo ∧ ¬ nI (lo + 6) < x
  · rw [if_pos c]
    obtain ⟨m, a1, a2, a3⟩ := rngN (x := x) (a := lo) (b := lo + 6) (by omega) c.1 c.2
    rw [a3, show nI m - nI lo = nI (m - lo) from pk_sub (by omega)]
    exact in_y (nI_lt0 (by omega)) (show ¬ (6 : Int32) < nI (m - lo) from nlt' (b := m - lo) (a := 6) (by omega))
  · rw [if_neg c]
    apply in_n
    refine Classical.byContradiction fun z => c ?_
    have z1 : ¬ x - nI lo < 0 := fun q => z (Or.inl q)
    have z2 : ¬ (6 : Int32) < x - nI lo := fun q => z (Or.inr q)
    have z0 : (0 : Int32).toInt = 0 := rfl
    have e6 : (6 : Int32).toInt = 6 := rfl
    have el : (nI lo).toInt = lo := nI_toInt (by omega)
    have el6 : (nI (lo + 6)).toInt = (lo + 6 : Nat) := nI_toInt (by omega)
    have hr := fb_rng x
    have em : (-1 : Int32).toInt = -1 := by decide
    have hs : (x - nI lo).toInt = x.toInt - lo := by
      rcases hx with q | q
      · rw [fb_subI (by rw [el]; omega) (by rw [el]; omega), el]
      · rw [q, fb_subI (by rw [el, em]; omega) (by rw [el, em]; omega), el]
    rw [fa_lt] at z1 z2
    rw [fa_lt, fa_lt, el6]
    omega
/-- the class's letter -/
def lt7 (lo : Nat) (x : Int32) : Prop := ¬ x < nI lo ∧ ¬ nI (lo + 6) < x
theorem sgI (hb : p < n → b p < 256) : 0 ≤ (sg b n p).toInt ∨ sg b n p = -1 := by
  rcases sg_nn (b := b) (n := n) (p := p) with h | h | h
  · exact Or.inl h
  · exact Or.inr h
  · exact absurd hb h
/-- one letter: the class's turn -/
theorem x_letter {F i pl : Nat} (hX : XD S n b p) (tm : Nat) {lo c : Nat} (hlo : lo = 97 ∨ lo = 65) (hs : sg b n p = nI (lo + c)) (hc : c ≤ 6) : (if sg b n p < 97 then f_Twist_read_73 (f_Twist_read_19 F) S (nI st) (nI i) (nI pl) (nI tm) (sg b n p) else if (103 : Int32) < sg b n p then f_Twist_read_73 (f_Twist_read_19 F) S (nI st) (nI i) (nI pl) (nI tm) (sg b n p) else f_Twist_read_74 (f_Twist_read_19 F) S (nI st) (nI i) (nI pl) (nI tm) (sg b n p) 1) = ((f_Twist_readTurn S (nI c) (if lo = 97 then 1 else 0) (nI st)).bind fun w_126 => (f_Twist_repeat w_126 ((w_126 42 8) - 1) (nI tm) (nI pl)).bind fun w_139 => f_Twist_read_19 F w_139 (nI st) (nI (i + 1))) := by
  have e1 : ∀ l, nI (lo + c) - nI l = nI (lo + c - l) ∨ lo + c < l := fun l => by
    by_cases q : l ≤ lo + c
    · exact Or.inl (pk_sub q)
    · exact Or.inr (by omega)
  rcases hlo with e | e
  · subst e
    have s1 : nI (97 + c) - 97 = nI c := by rw [show nI (97 + c) - 97 = nI (97 + c - 97) from pk_sub (b := 97) (by omega)]; congr 1; omega
    have k65 : ¬ nI (97 + c) < 65 := nlt' (b := 65) (by omega)
    have k71 : (71 : Int32) < nI (97 + c) := ylt (a := 71) (by omega)
    rw [hs, if_neg (show ¬ nI (97 + c) < 97 from nlt' (b := 97) (by omega)), if_neg (show ¬ (103 : Int32) < nI (97 + c) from nlt' (a := 103) (by omega)), if_pos rfl]
    unfold f_Twist_read_74
    rw [if_neg k65, if_pos k71]
    unfold f_Twist_read_94 f_Twist_read_95
    rw [if_neg i10]
    unfold f_Twist_read_107
    rw [if_neg i10]
    unfold f_Twist_read_122 f_Twist_read_209
    rw [s1]
    simp only [Option.bind_some, nI_1]
  · subst e
    have s1 : nI (65 + c) - 65 = nI c := by rw [show nI (65 + c) - 65 = nI (65 + c - 65) from pk_sub (b := 65) (by omega)]; congr 1; omega
    have k65 : ¬ nI (65 + c) < 65 := nlt' (b := 65) (by omega)
    have k71 : ¬ (71 : Int32) < nI (65 + c) := nlt' (a := 71) (by omega)
    rw [hs, if_pos (show nI (65 + c) < 97 from ylt (b := 97) (by omega)), if_neg (show ¬ (65 : Nat) = 97 by omega)]
    unfold f_Twist_read_73 f_Twist_read_74
    rw [if_neg k65, if_neg k71]
    unfold f_Twist_read_95
    rw [if_pos rfl, if_neg i10]
    unfold f_Twist_read_107
    rw [if_pos rfl]
    unfold f_Twist_read_122 f_Twist_read_209
    rw [s1]
    simp only [Option.bind_some, nI_1]
theorem x_noletter {F i : Nat} {pl tm : Int32} (hX : XD S n b p) (h97 : ¬ lt7 97 (sg b n p)) (h65 : ¬ lt7 65 (sg b n p)) : (if sg b n p < 97 then f_Twist_read_73 (f_Twist_read_19 F) S (nI st) (nI i) pl tm (sg b n p) else if (103 : Int32) < sg b n p then f_Twist_read_73 (f_Twist_read_19 F) S (nI st) (nI i) pl tm (sg b n p) else f_Twist_read_74 (f_Twist_read_19 F) S (nI st) (nI i) pl tm (sg b n p) 1) = f_Twist_read_95 (f_Twist_read_19 F) S (nI st) (nI i) pl tm (sg b n p) 0 0 := by
  have e74 : f_Twist_read_73 (f_Twist_read_19 F) S (nI st) (nI i) pl tm (sg b n p) = f_Twist_read_95 (f_Twist_read_19 F) S (nI st) (nI i) pl tm (sg b n p) 0 0 := by
    unfold f_Twist_read_73 f_Twist_read_74 f_Twist_read_94
    by_cases c1 : sg b n p < 65
    · rw [if_pos c1]
    · rw [if_neg c1]
      by_cases c2 : (71 : Int32) < sg b n p
      · rw [if_pos c2]
      · exact absurd ⟨c1, c2⟩ h65
  by_cases c1 : sg b n p < 97
  · rw [if_pos c1, e74]
  · rw [if_neg c1]
    by_cases c2 : (103 : Int32) < sg b n p
    · rw [if_pos c2, e74]
    · exact absurd ⟨c1, c2⟩ h97
end TW
