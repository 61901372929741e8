/-! THE RELATION of the two states -/
def pw (x : Int32) : Int32 := if x = -1 then -2 else x
/-- what days change, of t things: the class's rows of the parish P, the reference's row r -/
def PR (S : St) (P t : Nat) (r : Nat → Int32) : Prop := (∀ k, k < t → S (P + 3) k = r k ∧ S (P + 4) k = r (48 + k)) ∧ (∀ k, k < t → bt (S P 4) k = decide (r (24 + k) = 1) ∧ bt (S P 5) k = decide (r (72 + k) = 1)) ∧ (∀ k, t ≤ k → bt (S P 4) k = false ∧ bt (S P 5) k = false) ∧ S P 7 = r 96 ∧ S P 8 = r 97 ∧ S P 9 = r 98
def RR (t : Nat) (r : Nat → Int32) : Prop := (∀ k, k < t → (∃ a, a ≤ 999 ∧ r k = nI a) ∧ (r (24 + k) = 0 ∨ r (24 + k) = 1) ∧ (∃ a, a ≤ 9999 ∧ r (48 + k) = nI a) ∧ (r (72 + k) = 0 ∨ r (72 + k) = 1)) ∧ (∃ a, a ≤ 9999 ∧ r 97 = nI a) ∧ (∃ a, a < 65536 ∧ r 98 = nI a)
def PS (S : St) (P t : Nat) (wh wa : Nat → Int32) : Prop := S P 6 = nI t ∧ ∀ k, k < t → S (P + 1) k = wh k ∧ S (P + 2) k = pw (wa k)
def WS (t : Nat) (wh wa : Nat → Int32) : Prop := ∀ k, k < t → (∃ a, a < 16 ∧ wh k = nI a) ∧ (wa k = -1 ∨ ∃ a, a < k ∧ wa k = nI a)
def TR (Sx Sm : St) : Prop := ∃ n, n ≤ 260 ∧ Sx 1 2 = nI n ∧ Sm 0 7 = nI n ∧ ∀ i, i < n → Sx 2 i = Sm 6 i &&& 255
def NowR (Sx Sm : St) : Prop := ∃ t, t ≤ 24 ∧ Sm 0 5 = nI t ∧ PS Sx 4 t (Sm 4) (Sm 5) ∧ WS t (Sm 4) (Sm 5) ∧ PR Sx 4 t (Sm 1) ∧ RR t (Sm 1)
def KeptR (Sx Sm : St) : Prop := Sx 0 13 = Sm 0 53 ∧ (Sm 0 53 = 0 ∨ (Sm 0 53 = 1 ∧ ∃ t, t ≤ 24 ∧ Sm 0 54 = nI t ∧ Sx 9 6 = nI t ∧ PR Sx 9 t (Sm 3) ∧ RR t (Sm 3)))
def DraftR (Sx : St) : Prop := Sx 20 5 = 0 ∧ Sx 20 7 = 0 ∧ ∀ k, k < 24 → Sx 24 k = 0
def Core (LR : St → St → Prop) (Sx Sm : St) : Prop := NowR Sx Sm ∧ KeptR Sx Sm ∧ DraftR Sx ∧ LR Sx Sm
def RelL (LR : St → St → Prop) (Sx Sm : St) : Prop := TR Sx Sm ∧ Core LR Sx Sm
def LRc (LR : St → St → Prop) : Prop := ∀ Sx Sm Sx' Sm' : St, (∀ k j, 25 ≤ k → k ≤ 31 → Sx' k j = Sx k j) → (∀ k j, 13 ≤ k → k ≤ 17 → Sm' k j = Sm k j) → Sm' 0 16 = Sm 0 16 → LR Sx Sm → LR Sx' Sm'
/-- the places of the class's state, of the reference's, on which the relation (the tape apart) rests -/
def RX (k j : Nat) : Prop := (k = 0 ∧ j = 13) ∨ (4 ≤ k ∧ k ≤ 9) ∨ k = 12 ∨ k = 13 ∨ (k = 20 ∧ (j = 5 ∨ j = 7)) ∨ k = 24 ∨ (25 ≤ k ∧ k ≤ 31)
def RM (k j : Nat) : Prop := (k = 0 ∧ (j = 5 ∨ j = 53 ∨ j = 54 ∨ j = 16)) ∨ k = 1 ∨ k = 3 ∨ k = 4 ∨ k = 5 ∨ (13 ≤ k ∧ k ≤ 17)
theorem PR.congr {S S' : St} {P t : Nat} {r r' : Nat → Int32} (h : PR S P t r) (h1 : ∀ j, S' (P + 3) j = S (P + 3) j) (h2 : ∀ j, S' (P + 4) j = S (P + 4) j) (h3 : ∀ j, 4 ≤ j → S' P j = S P j) (hr : ∀ j, r' j = r j) : PR S' P t r' := by
  obtain ⟨a1, a2, a3, a4, a5, a6⟩ := h
  refine ⟨fun k hk => ?_, fun k hk => ?_, fun k hk => ?_, ?_, ?_, ?_⟩
  · rw [h1, h2, hr, hr]; exact a1 k hk
  · rw [h3 4 (by omega), h3 5 (by omega), hr, hr]; exact a2 k hk
  · rw [h3 4 (by omega), h3 5 (by omega)]; exact a3 k hk
  · rw [h3 7 (by omega), hr]; exact a4
  · rw [h3 8 (by omega), hr]; exact a5
  · rw [h3 9 (by omega), hr]; exact a6
theorem fe {f g : Nat → Int32} (h : ∀ j, f j = g j) : f = g := funext h
theorem Core.congr {LR : St → St → Prop} (hL : LRc LR) {Sx Sm Sx' Sm' : St} (h : Core LR Sx Sm) (hx : ∀ k j, RX k j → Sx' k j = Sx k j) (hm : ∀ k j, RM k j → Sm' k j = Sm k j) : Core LR Sx' Sm' := by
  obtain ⟨⟨t, ht, h1, ⟨h2, h3⟩, h4, h5, h6⟩, ⟨k1, k2⟩, ⟨d1, d2, d3⟩, hlr⟩ := h
  have m1 : Sm' 1 = Sm 1 := fe (fun j => hm 1 j (by unfold RM; omega))
  have m3 : Sm' 3 = Sm 3 := fe (fun j => hm 3 j (by unfold RM; omega))
  have m4 : Sm' 4 = Sm 4 := fe (fun j => hm 4 j (by unfold RM; omega))
  have m5 : Sm' 5 = Sm 5 := fe (fun j => hm 5 j (by unfold RM; omega))
  have x4 : ∀ k, 4 ≤ k → k ≤ 9 → Sx' k = Sx k := fun k a b => fe (fun j => hx k j (by unfold RX; omega))
  have x12 : Sx' 12 = Sx 12 := fe (fun j => hx 12 j (by unfold RX; omega))
  have x13 : Sx' 13 = Sx 13 := fe (fun j => hx 13 j (by unfold RX; omega))
  have x24 : Sx' 24 = Sx 24 := fe (fun j => hx 24 j (by unfold RX; omega))
  refine ⟨⟨t, ht, ?_, ⟨?_, ?_⟩, ?_, ?_, ?_⟩, ⟨?_, ?_⟩, ⟨?_, ?_, ?_⟩, ?_⟩
  · rw [hm 0 5 (by unfold RM; omega)]; exact h1
  · rw [x4 4 (by omega) (by omega)]; exact h2
  · intro k hk
    rw [x4 5 (by omega) (by omega), x4 6 (by omega) (by omega), m4, m5]; exact h3 k hk
  · rw [m4, m5]; exact h4
  · rw [m1]; exact h5.congr (fun j => by rw [x4 7 (by omega) (by omega)]) (fun j => by rw [x4 8 (by omega) (by omega)]) (fun j _ => by rw [x4 4 (by omega) (by omega)]) (fun _ => rfl)
  · rw [m1]; exact h6
  · rw [hx 0 13 (by unfold RX; omega), hm 0 53 (by unfold RM; omega)]; exact k1
  · rw [hm 0 53 (by unfold RM; omega), hm 0 54 (by unfold RM; omega), m3]
    rcases k2 with k2 | ⟨k2, t', a1, a2, a3, a4, a5⟩
    · exact Or.inl k2
    · exact Or.inr ⟨k2, t', a1, a2, by rw [x4 9 (by omega) (by omega)]; exact a3, a4.congr (fun j => by rw [x12]) (fun j => by rw [x13]) (fun j _ => by rw [x4 9 (by omega) (by omega)]) (fun _ => rfl), a5⟩
  · rw [hx 20 5 (by unfold RX; omega)]; exact d1
  · rw [hx 20 7 (by unfold RX; omega)]; exact d2
  · intro k hk; rw [x24]; exact d3 k hk
  · exact hL Sx Sm Sx' Sm' (fun k j a b => hx k j (by unfold RX; omega)) (fun k j a b => hm k j (by unfold RM; omega)) (hm 0 16 (by unfold RM; omega)) hlr
/-! plain numbers -/
theorem gn {j n : Nat} (h : j < n) (hn : n < 2 ^ 31) : ig (nI j) n = true := decide_eq_true (show vp_in (nI j) n from vp_in_nI h hn)
theorem nI_lt0 {n : Nat} (h : n < 2 ^ 31) : ¬ nI n < 0 := nI_pos h
theorem nI_m1 {n : Nat} (h : n < 2 ^ 31) : ¬ nI n = -1 := by
  intro e
  have := congrArg Int32.toInt e
  rw [nI_toInt h] at this
  have h2 : (-1 : Int32).toInt = -1 := by decide
  omega
theorem nI_inj {a b : Nat} (ha : a < 2 ^ 31) (hb : b < 2 ^ 31) (h : nI a = nI b) : a = b := (nI_eq ha hb).mp h
theorem sF_at {S : St} {r i : Nat} {v : Int32} : sF S r i v r i = v := by simp [sF, sR, upd]
theorem sF_ne {S : St} {r i : Nat} {v : Int32} {k j : Nat} (h : k ≠ r ∨ j ≠ i) : sF S r i v k j = S k j := sF_o h
theorem sF_row {S : St} {r i : Nat} {v : Int32} : sF S r i v r = upd (S r) i v := by simp [sF, sR]
theorem sF_rne {S : St} {r i : Nat} {v : Int32} {k : Nat} (h : k ≠ r) : sF S r i v k = S k := by simp [sF, sR, h]
theorem bt1 {x : Int32} {k : Nat} (hk : k < 32) : (jushr x (nI k) &&& 1) = 0 ↔ bt x k = false := by
  unfold jushr
  constructor
  · intro h
    have h1 := b_ushr k hk x 0
    have h2 := b_and (x.toUInt32 >>> ((nI k).toUInt32 &&& Int32.toUInt32 31)).toInt32 1 0
    rw [h, h1, b_0] at h2
    have h3 : bt 1 0 = true := by decide
    rw [h3] at h2
    simpa using h2.symm
  · intro h
    apply b_ext
    intro i hi
    rw [b_and, b_ushr k hk, b_0]
    by_cases hi0 : i = 0
    · subst hi0
      simp [h]
    · have h4 : bt 1 i = false := by
        have : ∀ i, i < 32 → i ≠ 0 → bt 1 i = false := by decide
        exact this i hi hi0
      simp [h4]
