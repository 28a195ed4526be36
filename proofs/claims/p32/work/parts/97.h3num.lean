/-! NUMBERS of stands -/
theorem ofInt64_bv (x : Int) : (Int64.ofInt x).toBitVec.toNat = (x % 18446744073709551616).toNat := by
  rw [Int64.toBitVec_ofInt, BitVec.toNat_ofInt]
  rfl
theorem ofInt64_nat {n : Nat} (hn : n < 18446744073709551616) : (Int64.ofInt (n : Int)).toBitVec.toNat = n := by
  rw [ofInt64_bv]
  omega
theorem toInt64_small {X : Int64} {n : Nat} (h : X.toBitVec.toNat = n) (hn : n < 9223372036854775808) : X.toInt = (n : Int) := by
  show X.toBitVec.toInt = (n : Int)
  rw [BitVec.toInt_eq_toNat_of_lt (by rw [h]; omega), h]
theorem sh64_n : ∀ n : Nat, n < 64 → (((Int32.ofInt (n : Int)).toInt64 &&& 63).toBitVec.smod 64).toNat = n := by decide +kernel
theorem sh32_n : ∀ n : Nat, n < 32 → ((Int32.ofInt (n : Int) &&& 31).toBitVec.smod 32).toNat = n := by decide +kernel
theorem shl32_nat {a n : Nat} (hn : n < 32) (ha : a * 2 ^ n < 2147483648) : shl32 (a : Int) (n : Int) = ((a * 2 ^ n : Nat) : Int) := by
  have ha2 : a < 2147483648 := Nat.lt_of_le_of_lt (Nat.le_mul_of_pos_right a (Nat.pow_pos (by omega))) ha
  refine toInt_small ?_ ha
  rw [Int32.toBitVec_shiftLeft, BitVec.shiftLeft_eq', sh32_n n hn, BitVec.toNat_shiftLeft, ofInt_nat_bv ha2, Nat.shiftLeft_eq]
  exact Nat.mod_eq_of_lt (Nat.lt_trans ha (by decide))
theorem shl64_nat {a n : Nat} (hn : n < 64) (ha : a * 2 ^ n < 9223372036854775808) : shl64 (a : Int) (n : Int) = ((a * 2 ^ n : Nat) : Int) := by
  have ha2 : a < 9223372036854775808 := Nat.lt_of_le_of_lt (Nat.le_mul_of_pos_right a (Nat.pow_pos (by omega))) ha
  refine toInt64_small ?_ ha
  rw [Int64.toBitVec_shiftLeft, BitVec.shiftLeft_eq', sh64_n n hn, BitVec.toNat_shiftLeft, ofInt64_nat (by omega), Nat.shiftLeft_eq]
  exact Nat.mod_eq_of_lt (Nat.lt_trans ha (by decide))
theorem jOr_nat {a b : Nat} (ha : a < 9223372036854775808) (hb : b < 9223372036854775808) : jOr (a : Int) (b : Int) = ((a ||| b : Nat) : Int) := by
  have hab : a ||| b < 2 ^ 63 := Nat.or_lt_two_pow ha hb
  refine toInt64_small ?_ hab
  rw [Int64.toBitVec_or, BitVec.toNat_or, ofInt64_nat (by omega), ofInt64_nat (by omega)]
theorem shr64_nat {a n : Nat} (ha : a < 9223372036854775808) (hn : n < 64) : shr64 (a : Int) (n : Int) = ((a / 2 ^ n : Nat) : Int) := by
  refine toInt64_small ?_ (Nat.lt_of_le_of_lt (Nat.div_le_self _ _) ha)
  rw [Int64.toBitVec_shiftRight, BitVec.sshiftRight_eq', sh64_n n hn, BitVec.sshiftRight_eq_of_msb_false, BitVec.toNat_ushiftRight, ofInt64_nat (by omega), Nat.shiftRight_eq_div_pow]
  rw [BitVec.msb_eq_false_iff_two_mul_lt, ofInt64_nat (by omega)]
  omega
theorem shr64_div {x : Int} (h0 : 0 ≤ x) (h1 : x < 9223372036854775808) (n : Nat) (hn : n < 64) : shr64 x (n : Int) = x / ((2 ^ n : Nat) : Int) := by
  have t := shr64_nat (a := x.toNat) (n := n) (by omega) hn
  rw [Int.toNat_of_nonneg h0] at t
  rw [t, Int.natCast_ediv, Int.toNat_of_nonneg h0]
theorem ushr54 (y : Int) : ∃ n : Nat, ushr64 y 54 = (n : Int) ∧ n < 1024 := by
  have hk : (((Int32.ofInt 54).toInt64.toUInt64 &&& Int64.toUInt64 63).toBitVec % 64).toNat = 54 := by decide
  refine ⟨(Int64.ofInt y).toUInt64.toBitVec.toNat / 2 ^ 54, ?_, ?_⟩
  · refine toInt64_small ?_ ?_
    · show ((Int64.ofInt y).toUInt64 >>> ((Int32.ofInt 54).toInt64.toUInt64 &&& Int64.toUInt64 63)).toBitVec.toNat = _
      rw [UInt64.toBitVec_shiftRight, BitVec.ushiftRight_eq', hk, BitVec.toNat_ushiftRight, Nat.shiftRight_eq_div_pow]
    · have t := (Int64.ofInt y).toUInt64.toBitVec.isLt
      omega
  · have t := (Int64.ofInt y).toUInt64.toBitVec.isLt
    omega
/-- where a stand is looked for first -/
def HSH (z : Int) : Int := w32 (ushr64 (w64 (z * (-7046029254386353131))) 54)
theorem HSH_r (z : Int) : 0 ≤ HSH z ∧ HSH z < 1024 := by
  obtain ⟨n, e, h⟩ := ushr54 (w64 (z * (-7046029254386353131)))
  unfold HSH
  rw [e, w32i (by omega) (by omega)]
  omega
theorem or_add {x y i : Nat} (h : x < 2 ^ i) : x ||| (y * 2 ^ i) = x + y * 2 ^ i := by
  rw [Nat.or_comm, Nat.mul_comm y, ← Nat.two_pow_add_eq_or_of_lt h, Nat.add_comm]
theorem bOr_sh {x y n : Nat} (hn : n < 32) (hx : x < 2 ^ n) (hs : x + y * 2 ^ n < 2147483648) : bOr (x : Int) (shl32 (y : Int) (n : Int)) = ((x + y * 2 ^ n : Nat) : Int) := by
  rw [shl32_nat hn (Nat.lt_of_le_of_lt (Nat.le_add_left _ _) hs), bOr_nat (Nat.lt_of_le_of_lt (Nat.le_add_right _ _) hs) (Nat.lt_of_le_of_lt (Nat.le_add_left _ _) hs), or_add hx]
theorem jOr_sh {x y n : Nat} (hn : n < 64) (hx : x < 2 ^ n) (hs : x + y * 2 ^ n < 9223372036854775808) : jOr (x : Int) (shl64 (y : Int) (n : Int)) = ((x + y * 2 ^ n : Nat) : Int) := by
  rw [shl64_nat hn (Nat.lt_of_le_of_lt (Nat.le_add_left _ _) hs), jOr_nat (Nat.lt_of_le_of_lt (Nat.le_add_right _ _) hs) (Nat.lt_of_le_of_lt (Nat.le_add_left _ _) hs), or_add hx]
/-- ten numbers as one -/
def HN (a b f0 f1 f2 f3 r s u t : Int) : Int := a + 8 * (b + 8 * (f0 + 256 * (f1 + 256 * (f2 + 256 * (f3 + 256 * (r + 32 * (s + 64 * (u + 4 * t))))))))
theorem pk_sum {a b f0 f1 f2 f3 r s u t : Nat} (ha : a < 8) (hb : b < 8) (h0 : f0 < 256) (h1 : f1 < 256) (h2 : f2 < 256) (h3 : f3 < 256) (hr : r < 32) (hs : s < 64) (hu : u < 4) (ht : t < 2) :
    jOr (jOr (jOr (jOr (jOr (jOr (bOr (bOr (bOr (a : Int) (shl32 (b : Int) 3)) (shl32 (f0 : Int) 6)) (shl32 (f1 : Int) 14)) (shl64 (f2 : Int) 22)) (shl64 (f3 : Int) 30)) (shl64 (r : Int) 38)) (shl64 (s : Int) 43)) (shl64 (u : Int) 49)) (shl64 (t : Int) 51) = HN a b f0 f1 f2 f3 r s u t := by
  have o1 : bOr (a : Int) (shl32 (b : Int) 3) = ((a + b * 2 ^ 3 : Nat) : Int) := bOr_sh (n := 3) (by decide) (by omega) (by omega)
  have o2 : bOr ((a + b * 2 ^ 3 : Nat) : Int) (shl32 (f0 : Int) 6) = ((a + b * 2 ^ 3 + f0 * 2 ^ 6 : Nat) : Int) := bOr_sh (n := 6) (by decide) (by omega) (by omega)
  have o3 : bOr ((a + b * 2 ^ 3 + f0 * 2 ^ 6 : Nat) : Int) (shl32 (f1 : Int) 14) = ((a + b * 2 ^ 3 + f0 * 2 ^ 6 + f1 * 2 ^ 14 : Nat) : Int) := bOr_sh (n := 14) (by decide) (by omega) (by omega)
  obtain ⟨x3, e3⟩ : ∃ x, x = a + b * 2 ^ 3 + f0 * 2 ^ 6 + f1 * 2 ^ 14 := ⟨_, rfl⟩
  have b3 : x3 < 2 ^ 22 := by omega
  rw [← e3] at o3
  have o4 : jOr (x3 : Int) (shl64 (f2 : Int) 22) = ((x3 + f2 * 2 ^ 22 : Nat) : Int) := jOr_sh (n := 22) (by decide) b3 (by omega)
  obtain ⟨x4, e4⟩ : ∃ x, x = x3 + f2 * 2 ^ 22 := ⟨_, rfl⟩
  have b4 : x4 < 2 ^ 30 := by omega
  rw [← e4] at o4
  have o5 : jOr (x4 : Int) (shl64 (f3 : Int) 30) = ((x4 + f3 * 2 ^ 30 : Nat) : Int) := jOr_sh (n := 30) (by decide) b4 (by omega)
  obtain ⟨x5, e5⟩ : ∃ x, x = x4 + f3 * 2 ^ 30 := ⟨_, rfl⟩
  have b5 : x5 < 2 ^ 38 := by omega
  rw [← e5] at o5
  have o6 : jOr (x5 : Int) (shl64 (r : Int) 38) = ((x5 + r * 2 ^ 38 : Nat) : Int) := jOr_sh (n := 38) (by decide) b5 (by omega)
  obtain ⟨x6, e6⟩ : ∃ x, x = x5 + r * 2 ^ 38 := ⟨_, rfl⟩
  have b6 : x6 < 2 ^ 43 := by omega
  rw [← e6] at o6
  have o7 : jOr (x6 : Int) (shl64 (s : Int) 43) = ((x6 + s * 2 ^ 43 : Nat) : Int) := jOr_sh (n := 43) (by decide) b6 (by omega)
  obtain ⟨x7, e7⟩ : ∃ x, x = x6 + s * 2 ^ 43 := ⟨_, rfl⟩
  have b7 : x7 < 2 ^ 49 := by omega
  rw [← e7] at o7
  have o8 : jOr (x7 : Int) (shl64 (u : Int) 49) = ((x7 + u * 2 ^ 49 : Nat) : Int) := jOr_sh (n := 49) (by decide) b7 (by omega)
  obtain ⟨x8, e8⟩ : ∃ x, x = x7 + u * 2 ^ 49 := ⟨_, rfl⟩
  have b8 : x8 < 2 ^ 51 := by omega
  rw [← e8] at o8
  have o9 : jOr (x8 : Int) (shl64 (t : Int) 51) = ((x8 + t * 2 ^ 51 : Nat) : Int) := jOr_sh (n := 51) (by decide) b8 (by omega)
  rw [o1, o2, o3, o4, o5, o6, o7, o8, o9]
  unfold HN
  clear o1 o2 o3 o4 o5 o6 o7 o8 o9 b3 b4 b5 b6 b7 b8
  omega
theorem HN_parts {a b f0 f1 f2 f3 r s u t z : Int} (hz : z = HN a b f0 f1 f2 f3 r s u t) (ha : 0 ≤ a ∧ a < 8) (hb : 0 ≤ b ∧ b < 8) (h0 : 0 ≤ f0 ∧ f0 < 256) (h1 : 0 ≤ f1 ∧ f1 < 256) (h2 : 0 ≤ f2 ∧ f2 < 256) (h3 : 0 ≤ f3 ∧ f3 < 256) (hr : 0 ≤ r ∧ r < 32) (hs : 0 ≤ s ∧ s < 64) (hu : 0 ≤ u ∧ u < 4) (ht : 0 ≤ t ∧ t < 2) :
    (0 ≤ z ∧ z < 4503599627370496) ∧ z % 8 = a ∧ z / 8 % 8 = b ∧ z / 64 % 256 = f0 ∧ z / 16384 % 256 = f1 ∧ z / 4194304 % 256 = f2 ∧ z / 1073741824 % 256 = f3 ∧ z / 274877906944 % 32 = r ∧ z / 8796093022208 % 64 = s ∧ z / 562949953421312 % 4 = u ∧ z / 2251799813685248 % 2 = t := by
  unfold HN at hz
  obtain ⟨t9, e9⟩ : ∃ x, x = u + 4 * t := ⟨_, rfl⟩
  rw [← e9] at hz
  obtain ⟨t8, e8⟩ : ∃ x, x = s + 64 * t9 := ⟨_, rfl⟩
  rw [← e8] at hz
  obtain ⟨t7, e7⟩ : ∃ x, x = r + 32 * t8 := ⟨_, rfl⟩
  rw [← e7] at hz
  obtain ⟨t6, e6⟩ : ∃ x, x = f3 + 256 * t7 := ⟨_, rfl⟩
  rw [← e6] at hz
  obtain ⟨t5, e5⟩ : ∃ x, x = f2 + 256 * t6 := ⟨_, rfl⟩
  rw [← e5] at hz
  obtain ⟨t4, e4⟩ : ∃ x, x = f1 + 256 * t5 := ⟨_, rfl⟩
  rw [← e4] at hz
  obtain ⟨t3, e3⟩ : ∃ x, x = f0 + 256 * t4 := ⟨_, rfl⟩
  rw [← e3] at hz
  obtain ⟨t2, e2⟩ : ∃ x, x = b + 8 * t3 := ⟨_, rfl⟩
  rw [← e2] at hz
  have b9 : 0 ≤ t9 ∧ t9 < 8 := by omega
  have b8 : 0 ≤ t8 ∧ t8 < 512 := by clear hz; omega
  have b7 : 0 ≤ t7 ∧ t7 < 16384 := by clear hz e9 e8; omega
  have b6 : 0 ≤ t6 ∧ t6 < 4194304 := by clear hz e9 e8 e7; omega
  have b5 : 0 ≤ t5 ∧ t5 < 1073741824 := by clear hz e9 e8 e7 e6; omega
  have b4 : 0 ≤ t4 ∧ t4 < 274877906944 := by clear hz e9 e8 e7 e6 e5; omega
  have b3 : 0 ≤ t3 ∧ t3 < 70368744177664 := by clear hz e9 e8 e7 e6 e5 e4; omega
  have b2 : 0 ≤ t2 ∧ t2 < 562949953421312 := by clear hz e9 e8 e7 e6 e5 e4 e3; omega
  have d2 : z / 8 = t2 := by clear e9 e8 e7 e6 e5 e4 e3 e2; omega
  have d3 : z / 64 = t3 := by clear e9 e8 e7 e6 e5 e4 e3 d2; omega
  have d4 : z / 16384 = t4 := by clear e9 e8 e7 e6 e5 e4 d2 hz; omega
  have d5 : z / 4194304 = t5 := by clear e9 e8 e7 e6 e5 d2 hz d3 e2 e3; omega
  have d6 : z / 1073741824 = t6 := by clear e9 e8 e7 e6 d2 hz d3 e2 e3 d4 e4; omega
  have d7 : z / 274877906944 = t7 := by clear e9 e8 e7 d2 hz d3 e2 e3 d4 e4 d5 e5; omega
  have d8 : z / 8796093022208 = t8 := by clear e9 e8 d2 hz d3 e2 e3 d4 e4 d5 e5 d6 e6; omega
  have d9 : z / 562949953421312 = t9 := by clear e9 d2 hz d3 e2 e3 d4 e4 d5 e5 d6 e6 d7 e7; omega
  have d10 : z / 2251799813685248 = t := by clear d2 hz d3 e2 e3 d4 e4 d5 e5 d6 e6 d7 e7 d8 e8; omega
  refine ⟨?_, ?_, ?_, ?_, ?_, ?_, ?_, ?_, ?_, ?_, ?_⟩
  · clear d2 d3 d4 d5 d6 d7 d8 d9 d10 e2 e3 e4 e5 e6 e7 e8 e9; omega
  · clear d2 d3 d4 d5 d6 d7 d8 d9 d10 e2 e3 e4 e5 e6 e7 e8 e9; omega
  · rw [d2]; clear d2 d3 d4 d5 d6 d7 d8 d9 d10 hz e3 e4 e5 e6 e7 e8 e9; omega
  · rw [d3]; clear d2 d3 d4 d5 d6 d7 d8 d9 d10 hz e2 e4 e5 e6 e7 e8 e9; omega
  · rw [d4]; clear d2 d3 d4 d5 d6 d7 d8 d9 d10 hz e2 e3 e5 e6 e7 e8 e9; omega
  · rw [d5]; clear d2 d3 d4 d5 d6 d7 d8 d9 d10 hz e2 e3 e4 e6 e7 e8 e9; omega
  · rw [d6]; clear d2 d3 d4 d5 d6 d7 d8 d9 d10 hz e2 e3 e4 e5 e7 e8 e9; omega
  · rw [d7]; clear d2 d3 d4 d5 d6 d7 d8 d9 d10 hz e2 e3 e4 e5 e6 e8 e9; omega
  · rw [d8]; clear d2 d3 d4 d5 d6 d7 d8 d9 d10 hz e2 e3 e4 e5 e6 e7 e9; omega
  · rw [d9]; clear d2 d3 d4 d5 d6 d7 d8 d9 d10 hz e2 e3 e4 e5 e6 e7 e8; omega
  · rw [d10]; clear d2 d3 d4 d5 d6 d7 d8 d9 d10 hz e2 e3 e4 e5 e6 e7 e8 e9; omega
/-- a stand as a number: what slots hold, and the cells -/
def PKV (a b : Int) (c : Vec) : Int := HN a b (flagF c 0) (flagF c 1) (flagF c 2) (flagF c 3) (c 76) (c 77) (c 78 + 1) (if c 78 = -1 then 0 else c 80)
/-- cells whose numbers are in range -/
theorem PKV_parts {a b : Int} {c : Vec} (ha : 0 ≤ a ∧ a < 8) (hb : 0 ≤ b ∧ b < 8) (hc : OKC c) (h8 : T8 c) :
    (0 ≤ PKV a b c ∧ PKV a b c < 4503599627370496) ∧ PKV a b c % 8 = a ∧ PKV a b c / 8 % 8 = b ∧ PKV a b c / 64 % 256 = flagF c 0 ∧ PKV a b c / 16384 % 256 = flagF c 1 ∧ PKV a b c / 4194304 % 256 = flagF c 2 ∧ PKV a b c / 1073741824 % 256 = flagF c 3 ∧ PKV a b c / 274877906944 % 32 = c 76 ∧ PKV a b c / 8796093022208 % 64 = c 77 ∧ PKV a b c / 562949953421312 % 4 = c 78 + 1 ∧ PKV a b c / 2251799813685248 % 2 = (if c 78 = -1 then 0 else c 80) := by
  have f := fun k hk => flagF_r hc.2.1 k hk
  have r := hc.2.2.1
  have s := hc.2.2.2.1
  have u := hc.2.2.2.2
  have t : 0 ≤ (if c 78 = -1 then 0 else c 80) ∧ (if c 78 = -1 then 0 else c 80) < 2 := by
    unfold T8 at h8
    split
    · omega
    · omega
  exact HN_parts rfl ha hb (f 0 (by decide)) (f 1 (by decide)) (f 2 (by decide)) (f 3 (by decide)) ⟨r.1, by omega⟩ s (by omega) t
/-- two stands have one number only if they are alike -/
theorem PKV_inj {a b a2 b2 : Int} {c d : Vec} (ha : 0 ≤ a ∧ a < 8) (hb : 0 ≤ b ∧ b < 8) (hc : OKC c) (h8 : T8 c) (ha2 : 0 ≤ a2 ∧ a2 < 8) (hb2 : 0 ≤ b2 ∧ b2 < 8) (hd : OKC d) (h82 : T8 d) (h : PKV a b c = PKV a2 b2 d) : a = a2 ∧ b = b2 ∧ (∀ k, k < 4 → flagF c k = flagF d k) ∧ c 76 = d 76 ∧ c 77 = d 77 ∧ c 78 = d 78 ∧ (if c 78 = -1 then 0 else c 80) = (if d 78 = -1 then 0 else d 80) := by
  obtain ⟨-, p1, p2, p3, p4, p5, p6, p7, p8, p9, p10⟩ := PKV_parts ha hb hc h8
  obtain ⟨-, q1, q2, q3, q4, q5, q6, q7, q8, q9, q10⟩ := PKV_parts ha2 hb2 hd h82
  rw [← h] at q1 q2 q3 q4 q5 q6 q7 q8 q9 q10
  refine ⟨p1.symm.trans q1, p2.symm.trans q2, fun k hk => ?_, p7.symm.trans q7, p8.symm.trans q8, ?_, p10.symm.trans q10⟩
  · rcases (show k = 0 ∨ k = 1 ∨ k = 2 ∨ k = 3 by omega) with rfl | rfl | rfl | rfl
    · exact p3.symm.trans q3
    · exact p4.symm.trans q4
    · exact p5.symm.trans q5
    · exact p6.symm.trans q6
  · have e := p9.symm.trans q9
    omega
theorem w32_mod (x : Int) : w32 x % 8 = x % 8 ∧ w32 x % 256 = x % 256 ∧ w32 x % 32 = x % 32 ∧ w32 x % 64 = x % 64 ∧ w32 x % 4 = x % 4 ∧ w32 x % 2 = x % 2 := by
  unfold w32
  refine ⟨?_, ?_, ?_, ?_, ?_, ?_⟩ <;> omega
