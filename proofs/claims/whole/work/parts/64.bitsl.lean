/-! BRIGHTEST -/
def btL (x : Int64) (i : Nat) : Bool := x.toBitVec.getLsbD i
theorem bL_ext {x y : Int64} (h : ∀ i, i < 64 → btL x i = btL y i) : x = y := Int64.toBitVec_inj.mp (BitVec.eq_of_getLsbD_eq (fun i hi => h i hi))
theorem bL_or (x y : Int64) (i : Nat) : btL (x ||| y) i = (btL x i || btL y i) := by unfold btL; rw [Int64.toBitVec_or, BitVec.getLsbD_or]
theorem bL_0 (i : Nat) : btL 0 i = false := BitVec.getLsbD_zero
theorem s_lL : ∀ n, n < 64 → (((nI n).toInt64 &&& 63).toBitVec.smod 64).toNat = n := by decide +kernel
theorem s_uL : ∀ n, n < 64 → (((nI n).toInt64.toUInt64 &&& Int64.toUInt64 63).toBitVec % 64).toNat = n := by decide +kernel
theorem bL_shl (n : Nat) (hn : n < 64) (x : Int64) {i : Nat} (hi : i < 64) : btL (lshl x (nI n)) i = (decide (n ≤ i) && btL x (i - n)) := by
  unfold btL lshl
  rw [Int64.toBitVec_shiftLeft]
  show (x.toBitVec <<< (((nI n).toInt64 &&& 63).toBitVec.smod 64).toNat).getLsbD i = _
  rw [s_lL n hn, BitVec.getLsbD_shiftLeft]
  rcases Nat.lt_or_ge i n with h | h
  · simp [h, Nat.not_le.mpr h]
  · simp [hi, h, Nat.not_lt.mpr h]
theorem bL_ushr (n : Nat) (hn : n < 64) (x : Int64) (i : Nat) : btL (lushr x (nI n)) i = btL x (n + i) := by
  show (x.toUInt64 >>> ((nI n).toInt64.toUInt64 &&& Int64.toUInt64 63)).toBitVec.getLsbD i = x.toUInt64.toBitVec.getLsbD (n + i)
  rw [UInt64.toBitVec_shiftRight]
  show (x.toUInt64.toBitVec >>> (((nI n).toInt64.toUInt64 &&& Int64.toUInt64 63).toBitVec % 64).toNat).getLsbD i = _
  rw [s_uL n hn, BitVec.getLsbD_ushiftRight]
def unL (x : Int64) : Nat := x.toBitVec.toNat
theorem unL_lt (x : Int64) : unL x < 2 ^ 64 := x.toBitVec.isLt
theorem unL_lN (x : Int64) : lN (unL x) = x := by
  apply Int64.toBitVec_inj.mp
  show BitVec.ofNat 64 x.toBitVec.toNat = x.toBitVec
  simp
theorem unL_bt (x : Int64) (i : Nat) : btL x i = (unL x).testBit i := rfl
theorem unL_of {n : Nat} (h : n < 2 ^ 64) : unL (lN n) = n := by
  show (BitVec.ofNat 64 n).toNat = n
  rw [BitVec.toNat_ofNat, Nat.mod_eq_of_lt h]
theorem ushr_l {n k : Nat} (h : n < 2 ^ 64) (hk : k < 64) : lushr (lN n) (nI k) = lN (n / 2 ^ k) := by
  apply bL_ext
  intro i hi
  have h2 : n / 2 ^ k < 2 ^ 64 := Nat.lt_of_le_of_lt (Nat.div_le_self _ _) h
  rw [bL_ushr k hk, unL_bt, unL_bt, unL_of h, unL_of h2, Nat.testBit_div_two_pow, Nat.add_comm]
theorem bc_L (S : St) (x : Int64) : f_JL_bitCount S x = some (nI (fb_ct (btL x) 64)) := by
  obtain ⟨n, hn⟩ : ∃ n, unL x = n := ⟨_, rfl⟩
  have hx : x = lN n := by rw [← hn, unL_lN]
  have hl : n < 2 ^ 64 := by rw [← hn]; exact unL_lt x
  have hct : fb_ct (btL x) 64 = fb_ct (fun i => n.testBit i) 64 := fb_ct_cong (fun k _ => by rw [unL_bt, hn])
  rw [hct, hx]
  obtain ⟨l, hL⟩ : ∃ l : List Nat, l = [n % 256, n / 256 % 256, n / 65536 % 256, n / 16777216 % 256, n / 4294967296 % 256, n / 1099511627776 % 256, n / 281474976710656 % 256, n / 72057594037927936] := ⟨_, rfl⟩
  have hb : ∀ a ∈ l, a < 256 := by
    intro a ha
    rw [hL] at ha
    simp only [List.mem_cons, List.not_mem_nil, or_false] at ha
    omega
  have hv : n = val8 l := by rw [hL]; simp only [val8]; omega
  have hc := v_ct l hb
  rw [← hv] at hc
  have hlen : 8 * l.length = 64 := by rw [hL]; rfl
  rw [hlen] at hc
  have M5 : val8 (l.map fun _ => 85) = 6148914691236517205 := by rw [hL]; simp only [List.map_cons, List.map_nil, val8]
  have M3 : val8 (l.map fun _ => 51) = 3689348814741910323 := by rw [hL]; simp only [List.map_cons, List.map_nil, val8]
  have M0 : val8 (l.map fun _ => 15) = 1085102592571150095 := by rw [hL]; simp only [List.map_cons, List.map_nil, val8]
  obtain ⟨y, hy⟩ : ∃ y, n - ((n / 2) &&& 6148914691236517205) = y := ⟨_, rfl⟩
  obtain ⟨z, hz⟩ : ∃ z, (y &&& 3689348814741910323) + ((y / 4) &&& 3689348814741910323) = z := ⟨_, rfl⟩
  obtain ⟨w, hw⟩ : ∃ w, (z + z / 16) &&& 1085102592571150095 = w := ⟨_, rfl⟩
  obtain ⟨r1, r2, r3, r4⟩ := v_pop l hb (n := n) (y := y) (z := z) (w := w) (by rw [M5]; exact hy) (by rw [M3]; exact hz) (by rw [M0]; exact hw) hv
  rw [M5] at r2
  have zl : z < 2 ^ 64 := by
    have a1 : y &&& 3689348814741910323 ≤ 3689348814741910323 := Nat.and_le_right
    have a2 : (y / 4) &&& 3689348814741910323 ≤ 3689348814741910323 := Nat.and_le_right
    omega
  have wl : w ≤ 1085102592571150095 := by rw [← hw]; exact Nat.and_le_right
  obtain ⟨p0, hp0⟩ : ∃ p, p8 (n % 256) = p := ⟨_, rfl⟩
  obtain ⟨p1, hp1⟩ : ∃ p, p8 (n / 256 % 256) = p := ⟨_, rfl⟩
  obtain ⟨p2, hp2⟩ : ∃ p, p8 (n / 65536 % 256) = p := ⟨_, rfl⟩
  obtain ⟨p3, hp3⟩ : ∃ p, p8 (n / 16777216 % 256) = p := ⟨_, rfl⟩
  obtain ⟨p4, hp4⟩ : ∃ p, p8 (n / 4294967296 % 256) = p := ⟨_, rfl⟩
  obtain ⟨p5, hp5⟩ : ∃ p, p8 (n / 1099511627776 % 256) = p := ⟨_, rfl⟩
  obtain ⟨p6, hp6⟩ : ∃ p, p8 (n / 281474976710656 % 256) = p := ⟨_, rfl⟩
  obtain ⟨p7, hp7⟩ : ∃ p, p8 (n / 72057594037927936) = p := ⟨_, rfl⟩
  have b0 : p0 ≤ 8 := hp0 ▸ p8_le _
  have b1 : p1 ≤ 8 := hp1 ▸ p8_le _
  have b2 : p2 ≤ 8 := hp2 ▸ p8_le _
  have b3 : p3 ≤ 8 := hp3 ▸ p8_le _
  have b4 : p4 ≤ 8 := hp4 ▸ p8_le _
  have b5 : p5 ≤ 8 := hp5 ▸ p8_le _
  have b6 : p6 ≤ 8 := hp6 ▸ p8_le _
  have b7 : p7 ≤ 8 := hp7 ▸ p8_le _
  rw [hL] at r1 hc
  simp only [List.map_cons, List.map_nil, val8, List.sum_cons, List.sum_nil, hp0, hp1, hp2, hp3, hp4, hp5, hp6, hp7] at r1 hc
  unfold f_JL_bitCount
  rw [Option.bind_some, Option.bind_some, Option.bind_some, Option.bind_some, Option.bind_some, Option.bind_some]
  have s1 : lN n - ((lushr (lN n) 1) &&& 6148914691236517205) = lN y := by
    rw [show lushr (lN n) 1 = lN (n / 2) from ushr_l (k := 1) hl (by omega), show lN (n / 2) &&& 6148914691236517205 = lN ((n / 2) &&& 6148914691236517205) from fb_andL _ 6148914691236517205, lN_sub r2, hy]
  have s2 : (lN y &&& 3689348814741910323) + ((lushr (lN y) 2) &&& 3689348814741910323) = lN z := by
    rw [show lushr (lN y) 2 = lN (y / 4) from ushr_l (k := 2) (by omega) (by omega), show lN (y / 4) &&& 3689348814741910323 = lN ((y / 4) &&& 3689348814741910323) from fb_andL _ 3689348814741910323, show lN y &&& 3689348814741910323 = lN (y &&& 3689348814741910323) from fb_andL _ 3689348814741910323, lN_add, hz]
  have s3 : (lN z + (lushr (lN z) 4)) &&& 1085102592571150095 = lN w := by
    rw [show lushr (lN z) 4 = lN (z / 16) from ushr_l (k := 4) zl (by omega), lN_add, show lN (z + z / 16) &&& 1085102592571150095 = lN ((z + z / 16) &&& 1085102592571150095) from fb_andL _ 1085102592571150095, hw]
  have d1 : w / 256 = p1 + 256 * (p2 + 256 * (p3 + 256 * (p4 + 256 * (p5 + 256 * (p6 + 256 * p7))))) := by clear hy hz hw r2 r3 r4 hl hv; omega
  obtain ⟨v, hv'⟩ : ∃ v, w + w / 256 = v := ⟨_, rfl⟩
  have e1 : v = (p0 + p1) + 256 * ((p1 + p2) + 256 * ((p2 + p3) + 256 * ((p3 + p4) + 256 * ((p4 + p5) + 256 * ((p5 + p6) + 256 * ((p6 + p7) + 256 * p7)))))) := by rw [← hv', d1, r1]; clear hy hz hw r2 r3 r4 hl hv; omega
  have d2 : v / 65536 = (p2 + p3) + 256 * ((p3 + p4) + 256 * ((p4 + p5) + 256 * ((p5 + p6) + 256 * ((p6 + p7) + 256 * p7)))) := by clear hy hz hw r1 r2 r3 r4 hl hv hv' d1; omega
  obtain ⟨u, hu⟩ : ∃ u, v + v / 65536 = u := ⟨_, rfl⟩
  have e2 : u = (p0 + p1 + p2 + p3) + 256 * ((p1 + p2 + p3 + p4) + 256 * ((p2 + p3 + p4 + p5) + 256 * ((p3 + p4 + p5 + p6) + 256 * ((p4 + p5 + p6 + p7) + 256 * ((p5 + p6 + p7) + 256 * ((p6 + p7) + 256 * p7)))))) := by rw [← hu, d2, e1]; clear hy hz hw r1 r2 r3 r4 hl hv hv' d1 e1 d2; omega
  have d3 : u / 4294967296 = (p4 + p5 + p6 + p7) + 256 * ((p5 + p6 + p7) + 256 * ((p6 + p7) + 256 * p7)) := by clear hy hz hw r1 r2 r3 r4 hl hv hv' d1 e1 d2 hu; omega
  have s4 : lN w + lushr (lN w) 8 = lN v := by
    rw [show lushr (lN w) 8 = lN (w / 256) from ushr_l (k := 8) (by omega) (by omega), lN_add, hv']
  have s5 : lN v + lushr (lN v) 16 = lN u := by
    rw [show lushr (lN v) 16 = lN (v / 65536) from ushr_l (k := 16) (by omega) (by omega), lN_add, hu]
  have ul : u < 2 ^ 64 := by clear hy hz hw r1 r2 r3 r4 hl hv hv' d1 e1 d2 hu d3; omega
  have s6 : lN u + lushr (lN u) 32 = lN (u + u / 4294967296) := by
    rw [show lushr (lN u) 32 = lN (u / 4294967296) from ushr_l (k := 32) ul (by omega), lN_add]
  rw [s1, s2, s3, s4, s5, s6, lN_i, show nI (u + u / 4294967296) &&& 127 = nI ((u + u / 4294967296) % 2 ^ 7) from fa_mask _ 7]
  congr 2
  rw [d3, hc, e2]
  clear hy hz hw r1 r2 r3 r4 hl hv hv' d1 e1 d2 hu d3 e2
  omega
