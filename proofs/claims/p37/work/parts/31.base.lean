section
/-! STORES BY ROWS -/
abbrev Vec : Type := Nat → Int
def set (f : Vec) (j : Nat) (v : Int) : Vec := fun j' => if j' = j then v else f j'
def row (σ : Sto) (k i : Nat) (f : Vec) : Sto := fun k' i' => if k' = k ∧ i' = i then f else σ k' i'
theorem sup_row (σ : Sto) (k i j : Nat) (v : Int) : sup σ k i j v = row σ k i (set (σ k i) j v) := by
  funext k' i' j'
  unfold sup row set
  by_cases h : k' = k ∧ i' = i
  · obtain ⟨rfl, rfl⟩ := h
    by_cases h2 : j' = j
    · simp [h2]
    · simp [h2]
  · rw [if_neg h, if_neg (fun z => h ⟨z.1, z.2.1⟩)]
theorem row_at (σ : Sto) (k i : Nat) (f : Vec) (k' i' : Nat) : row σ k i f k' i' = if k' = k ∧ i' = i then f else σ k' i' := rfl
theorem row_same (σ : Sto) (k i : Nat) (f : Vec) : row σ k i f k i = f := by simp [row]
theorem row_row (σ : Sto) (k i : Nat) (f g : Vec) : row (row σ k i f) k i g = row σ k i g := by
  funext k' i'
  unfold row
  split <;> rfl
theorem row_id (σ : Sto) (k i : Nat) : row σ k i (σ k i) = σ := by
  funext k' i'
  unfold row
  split
  · rename_i h; rw [h.1, h.2]
  · rfl
theorem row_comm (σ : Sto) (k i k2 i2 : Nat) (f g : Vec) (h : ¬ (k = k2 ∧ i = i2)) : row (row σ k i f) k2 i2 g = row (row σ k2 i2 g) k i f := by
  funext k' i'
  unfold row
  by_cases h1 : k' = k ∧ i' = i <;> by_cases h2 : k' = k2 ∧ i' = i2
  · exact absurd ⟨h1.1.symm.trans h2.1, h1.2.symm.trans h2.2⟩ h
  · rw [if_neg h2, if_pos h1, if_pos h1]
  · rw [if_pos h2, if_neg h1, if_pos h2]
  · rw [if_neg h2, if_neg h1, if_neg h1, if_neg h2]
theorem set_same (f : Vec) (j : Nat) (v : Int) : set f j v j = v := by simp [set]
theorem set_ne (f : Vec) {j j' : Nat} (v : Int) (h : j' ≠ j) : set f j v j' = f j' := by simp [set, h]
theorem set_at (f : Vec) (j : Nat) (v : Int) (j' : Nat) : set f j v j' = if j' = j then v else f j' := rfl
theorem set_set (f : Vec) (j : Nat) (v w : Int) : set (set f j v) j w = set f j w := by
  funext j'
  unfold set
  split <;> rfl
theorem set_id (f : Vec) (j : Nat) : set f j (f j) = f := by
  funext j'
  unfold set
  split
  · rename_i h; rw [h]
  · rfl
theorem set_comm (f : Vec) (j j2 : Nat) (v w : Int) (h : j ≠ j2) : set (set f j v) j2 w = set (set f j2 w) j v := by
  funext j'
  unfold set
  by_cases h1 : j' = j <;> by_cases h2 : j' = j2
  · exact absurd (h1.symm.trans h2) h
  · simp [h1, h]
  · simp [h2, Ne.symm h]
  · simp [h1, h2]
/-- a stretch of a row, out of another one -/
def cpyV (f g : Vec) (sp dp n : Nat) : Vec := fun j => if dp ≤ j ∧ j < dp + n then f (sp + (j - dp)) else g j
theorem cpy_row (σ : Sto) (k i sp k2 i2 dp n : Nat) : cpy σ k i sp k2 i2 dp n = row σ k2 i2 (cpyV (σ k i) (σ k2 i2) sp dp n) := by
  funext k' i' j'
  unfold cpy row cpyV
  by_cases h : k' = k2 ∧ i' = i2
  · obtain ⟨rfl, rfl⟩ := h
    by_cases h2 : dp ≤ j' ∧ j' < dp + n
    · simp [h2]
    · simp [h2]
  · rw [if_neg h, if_neg (fun z => h ⟨z.1, z.2.1⟩)]
theorem w32i {x : Int} (h1 : -2147483648 ≤ x) (h2 : x < 2147483648) : w32 x = x := by unfold w32; omega
theorem w64i {x : Int} (h1 : -9223372036854775808 ≤ x) (h2 : x < 9223372036854775808) : w64 x = x := by unfold w64; omega
/-! BITS of small numbers -/
theorem bAnd_nat {a b : Nat} (ha : a < 2147483648) (hb : b < 2147483648) : bAnd (a : Int) (b : Int) = ((a &&& b : Nat) : Int) := by
  unfold bAnd
  have hab : a &&& b < 2147483648 := Nat.lt_of_le_of_lt Nat.and_le_left ha
  rw [show (Int32.ofInt (a : Int) &&& Int32.ofInt (b : Int)) = Int32.ofInt ((a &&& b : Nat) : Int) from ?_]
  · exact toInt32_in (by unfold in32; omega)
  · apply Int32.toBitVec_inj.mp
    rw [Int32.toBitVec_and]
    apply BitVec.eq_of_toNat_eq
    rw [BitVec.toNat_and]
    have e : ∀ n : Nat, n < 2147483648 → (Int32.ofInt (n : Int)).toBitVec.toNat = n := by
      intro n hn
      rw [Int32.toBitVec_ofInt, BitVec.toNat_ofInt]
      omega
    rw [e a ha, e b hb, e _ hab]
theorem ofInt_nat_bv {n : Nat} (hn : n < 2147483648) : (Int32.ofInt (n : Int)).toBitVec.toNat = n := by
  rw [Int32.toBitVec_ofInt, BitVec.toNat_ofInt]
  omega
theorem ofInt_bv (x : Int) : (Int32.ofInt x).toBitVec.toNat = (x % 4294967296).toNat := by
  rw [Int32.toBitVec_ofInt, BitVec.toNat_ofInt]
  rfl
/-- a word whose bits are a small number -/
theorem toInt_small {X : Int32} {n : Nat} (h : X.toBitVec.toNat = n) (hn : n < 2147483648) : X.toInt = (n : Int) := by
  have e : X = Int32.ofInt (n : Int) := by
    apply Int32.toBitVec_inj.mp
    apply BitVec.eq_of_toNat_eq
    rw [h, ofInt_nat_bv hn]
  rw [e]
  exact toInt32_in (by unfold in32; omega)
theorem bAnd_mod (x : Int) (n : Nat) (hn : n < 32) : bAnd x ((2 ^ n - 1 : Nat) : Int) = x % ((2 ^ n : Nat) : Int) := by
  have hp : 2 ^ n ≤ 2147483648 := Nat.pow_le_pow_right (n := 2) (by omega) (show n ≤ 31 by omega)
  have hp0 : 0 < 2 ^ n := Nat.pow_pos (by omega)
  have e : ((Int32.ofInt x) &&& Int32.ofInt ((2 ^ n - 1 : Nat) : Int)).toBitVec.toNat = (x % 4294967296).toNat % 2 ^ n := by
    rw [Int32.toBitVec_and, BitVec.toNat_and, ofInt_bv, ofInt_nat_bv (by omega), Nat.and_two_pow_sub_one_eq_mod]
  unfold bAnd
  have hlt : (x % 4294967296).toNat % 2 ^ n < 2 ^ n := Nat.mod_lt _ hp0
  rw [toInt_small e (by omega), Int.natCast_emod, Int.toNat_of_nonneg (by omega)]
  exact Int.emod_emod_of_dvd x (by exact ⟨((2 ^ (32 - n) : Nat) : Int), by rw [← Int.natCast_mul, ← Nat.pow_add, show n + (32 - n) = 32 by omega]; rfl⟩)
theorem bAnd_255 (x : Int) : bAnd x 255 = x % 256 := bAnd_mod x 8 (by omega)
theorem bAnd_65535 (x : Int) : bAnd x 65535 = x % 65536 := bAnd_mod x 16 (by omega)
theorem bAnd_15 (x : Int) : bAnd x 15 = x % 16 := bAnd_mod x 4 (by omega)
theorem bAnd_7 (x : Int) : bAnd x 7 = x % 8 := bAnd_mod x 3 (by omega)
theorem bAnd_1 (x : Int) : bAnd x 1 = x % 2 := bAnd_mod x 1 (by omega)
theorem bAnd_63 (x : Int) : bAnd x 63 = x % 64 := bAnd_mod x 6 (by omega)
theorem shr32_nat {a n : Nat} (ha : a < 2147483648) (hn : n < 32) : shr32 (a : Int) (n : Int) = ((a / 2 ^ n : Nat) : Int) := by
  unfold shr32
  have e : (Int32.ofInt (a : Int) >>> (Int32.ofInt (n : Int) &&& 31)).toBitVec.toNat = a / 2 ^ n := by
    rw [Int32.toBitVec_shiftRight]
    have e1 : ((Int32.ofInt (n : Int) &&& 31).toBitVec.smod 32).toNat = n := by
      have : ∀ n : Nat, n < 32 → ((Int32.ofInt (n : Int) &&& 31).toBitVec.smod 32).toNat = n := by decide +kernel
      exact this n hn
    rw [BitVec.sshiftRight_eq', e1, BitVec.sshiftRight_eq_of_msb_false, BitVec.toNat_ushiftRight, ofInt_nat_bv ha, Nat.shiftRight_eq_div_pow]
    rw [BitVec.msb_eq_false_iff_two_mul_lt, ofInt_nat_bv ha]
    omega
  exact toInt_small e (Nat.lt_of_le_of_lt (Nat.div_le_self _ _) ha)
theorem shr32_div {x : Int} (h0 : 0 ≤ x) (h1 : x < 2147483648) (n : Nat) (hn : n < 32) : shr32 x (n : Int) = x / ((2 ^ n : Nat) : Int) := by
  have := shr32_nat (a := x.toNat) (n := n) (by omega) hn
  rw [Int.toNat_of_nonneg h0] at this
  rw [this, Int.natCast_ediv, Int.toNat_of_nonneg h0]
theorem shl1 : ∀ n : Nat, n < 31 → shl32 1 (n : Int) = ((2 ^ n : Nat) : Int) := by decide +kernel
theorem bXor_nat {a b : Nat} (ha : a < 2147483648) (hb : b < 2147483648) : bXor (a : Int) (b : Int) = ((a ^^^ b : Nat) : Int) := by
  unfold bXor
  have hab : a ^^^ b < 2 ^ 31 := Nat.xor_lt_two_pow ha hb
  refine toInt_small ?_ hab
  rw [Int32.toBitVec_xor, BitVec.toNat_xor, ofInt_nat_bv ha, ofInt_nat_bv hb]
theorem bOr_nat {a b : Nat} (ha : a < 2147483648) (hb : b < 2147483648) : bOr (a : Int) (b : Int) = ((a ||| b : Nat) : Int) := by
  unfold bOr
  have hab : a ||| b < 2 ^ 31 := Nat.or_lt_two_pow ha hb
  refine toInt_small ?_ hab
  rw [Int32.toBitVec_or, BitVec.toNat_or, ofInt_nat_bv ha, ofInt_nat_bv hb]
/-- a flip is undone by the same flip; it stays within so many bits -/
theorem bXor_back {x m : Int} (h0 : 0 ≤ x) (h1 : x < 2147483648) (m0 : 0 ≤ m) (m1 : m < 2147483648) : bXor (bXor x m) m = x := by
  obtain ⟨a, rfl⟩ := Int.eq_ofNat_of_zero_le h0
  obtain ⟨b, rfl⟩ := Int.eq_ofNat_of_zero_le m0
  have ha : a < 2147483648 := by omega
  have hb : b < 2147483648 := by omega
  have hab : a ^^^ b < 2 ^ 31 := Nat.xor_lt_two_pow ha hb
  rw [bXor_nat ha hb, bXor_nat (by omega) hb, Nat.xor_assoc, Nat.xor_self, Nat.xor_zero]
theorem bXor_lt {x m : Int} {n : Nat} (hn : n ≤ 31) (h0 : 0 ≤ x) (h1 : x < ((2 ^ n : Nat) : Int)) (m0 : 0 ≤ m) (m1 : m < ((2 ^ n : Nat) : Int)) : 0 ≤ bXor x m ∧ bXor x m < ((2 ^ n : Nat) : Int) := by
  have hp : 2 ^ n ≤ 2147483648 := Nat.pow_le_pow_right (n := 2) (by omega) hn
  obtain ⟨a, rfl⟩ := Int.eq_ofNat_of_zero_le h0
  obtain ⟨b, rfl⟩ := Int.eq_ofNat_of_zero_le m0
  have ha : a < 2 ^ n := by omega
  have hb : b < 2 ^ n := by omega
  have hab : a ^^^ b < 2 ^ n := Nat.xor_lt_two_pow ha hb
  rw [bXor_nat (by omega) (by omega)]
  omega
theorem bAnd_bit {a k : Nat} (ha : a < 2147483648) (hk : k < 31) : bAnd (a : Int) (((2 ^ k : Nat)) : Int) = ((a / 2 ^ k % 2 * 2 ^ k : Nat) : Int) := by
  have hp : 2 ^ k < 2147483648 := Nat.pow_lt_pow_right (a := 2) (by omega) (show k < 31 by omega)
  have hp0 : 0 < 2 ^ k := Nat.pow_pos (by omega)
  have h1 : (a &&& 2 ^ k) / 2 ^ k = a / 2 ^ k % 2 := by rw [Nat.and_div_two_pow, Nat.div_self hp0, Nat.and_one_is_mod]
  have h2 : (a &&& 2 ^ k) % 2 ^ k = 0 := by rw [Nat.and_mod_two_pow, Nat.mod_self, Nat.and_zero]
  have h3 := Nat.div_add_mod (a &&& 2 ^ k) (2 ^ k)
  rw [h1, h2] at h3
  rw [bAnd_nat ha hp, ← h3, Nat.mul_comm, Nat.add_zero]
theorem bAnd_240 {v : Int} (h0 : 0 ≤ v) (h1 : v < 256) : bAnd v 240 = v - v % 16 := by
  have : ∀ n : Nat, n < 256 → bAnd (n : Int) 240 = (n : Int) - (n : Int) % 16 := by decide +kernel
  obtain ⟨a, rfl⟩ := Int.eq_ofNat_of_zero_le h0
  exact this a (by omega)
end
section
/-! THE CLASS: rows, and what a machine reads -/
section CLS
variable {N i j : Nat} {σ : Sto}
theorem s6_at3 (x : Int) (h0 : 0 ≤ x) (h1 : x < 6) : inv N mX6_at [vR 3 i, vI x] (P σ) = some (some (vI (σ 3 i x.toNat)), P σ) := by
  rw [iX6_at_k3, eX6_at_0_k3, if_neg (by omega), if_pos h1, if_neg (by omega), if_pos h1]
theorem s6_atO3 (x : Int) (h0 : x < 0 ∨ 6 ≤ x) : inv N mX6_at [vR 3 i, vI x] (P σ) = some (some (vI 0), P σ) := by
  rw [iX6_at_k3, eX6_at_0_k3]
  rcases h0 with h0 | h0
  · rw [if_pos h0]
  · rw [if_neg (by omega), if_neg (by omega)]
theorem s6_at4 (x : Int) (h0 : 0 ≤ x) (h1 : x < 6) : inv N mX6_at [vR 4 i, vI x] (P σ) = some (some (vI (σ 4 i x.toNat)), P σ) := by
  rw [iX6_at_k4, eX6_at_0_k4, if_neg (by omega), if_pos h1, if_neg (by omega), if_pos h1]
theorem s6_atO4 (x : Int) (h0 : x < 0 ∨ 6 ≤ x) : inv N mX6_at [vR 4 i, vI x] (P σ) = some (some (vI 0), P σ) := by
  rw [iX6_at_k4, eX6_at_0_k4]
  rcases h0 with h0 | h0
  · rw [if_pos h0]
  · rw [if_neg (by omega), if_neg (by omega)]
theorem s6_at5 (x : Int) (h0 : 0 ≤ x) (h1 : x < 84) : inv N mX6_at [vR 5 i, vI x] (P σ) = some (some (vI (σ 5 i x.toNat)), P σ) := by
  rw [iX6_at_k5, eX6_at_0_k5, if_neg (by omega), if_pos h1, if_neg (by omega), if_pos h1]
theorem s6_atO5 (x : Int) (h0 : x < 0 ∨ 84 ≤ x) : inv N mX6_at [vR 5 i, vI x] (P σ) = some (some (vI 0), P σ) := by
  rw [iX6_at_k5, eX6_at_0_k5]
  rcases h0 with h0 | h0
  · rw [if_pos h0]
  · rw [if_neg (by omega), if_neg (by omega)]
theorem s6_at7 (x : Int) (h0 : 0 ≤ x) (h1 : x < 107) : inv N mX6_at [vR 7 i, vI x] (P σ) = some (some (vI (σ 7 i x.toNat)), P σ) := by
  rw [iX6_at_k7, eX6_at_0_k7, if_neg (by omega), if_pos h1, if_neg (by omega), if_pos h1]
theorem s6_atO7 (x : Int) (h0 : x < 0 ∨ 107 ≤ x) : inv N mX6_at [vR 7 i, vI x] (P σ) = some (some (vI 0), P σ) := by
  rw [iX6_at_k7, eX6_at_0_k7]
  rcases h0 with h0 | h0
  · rw [if_pos h0]
  · rw [if_neg (by omega), if_neg (by omega)]
theorem s6_at13 (x : Int) (h0 : 0 ≤ x) (h1 : x < 31) : inv N mX6_at [vR 13 0, vI x] (P σ) = some (some (vI (σ 13 0 x.toNat)), P σ) := by
  rw [iX6_at_k13, eX6_at_0_k13, if_neg (by omega), if_pos h1, if_neg (by omega), if_pos h1]
theorem s6_atO13 (x : Int) (h0 : x < 0 ∨ 31 ≤ x) : inv N mX6_at [vR 13 0, vI x] (P σ) = some (some (vI 0), P σ) := by
  rw [iX6_at_k13, eX6_at_0_k13]
  rcases h0 with h0 | h0
  · rw [if_pos h0]
  · rw [if_neg (by omega), if_neg (by omega)]
theorem s6_at16 (x : Int) (h0 : 0 ≤ x) (h1 : x < 300) : inv N mX6_at [vR 16 0, vI x] (P σ) = some (some (vI (σ 16 0 x.toNat)), P σ) := by
  rw [iX6_at_k16, eX6_at_0_k16, if_neg (by omega), if_pos h1, if_neg (by omega), if_pos h1]
theorem s6_atO16 (x : Int) (h0 : x < 0 ∨ 300 ≤ x) : inv N mX6_at [vR 16 0, vI x] (P σ) = some (some (vI 0), P σ) := by
  rw [iX6_at_k16, eX6_at_0_k16]
  rcases h0 with h0 | h0
  · rw [if_pos h0]
  · rw [if_neg (by omega), if_neg (by omega)]
theorem s6_at17 (x : Int) (h0 : 0 ≤ x) (h1 : x < 300) : inv N mX6_at [vR 17 0, vI x] (P σ) = some (some (vI (σ 17 0 x.toNat)), P σ) := by
  rw [iX6_at_k17, eX6_at_0_k17, if_neg (by omega), if_pos h1, if_neg (by omega), if_pos h1]
theorem s6_atO17 (x : Int) (h0 : x < 0 ∨ 300 ≤ x) : inv N mX6_at [vR 17 0, vI x] (P σ) = some (some (vI 0), P σ) := by
  rw [iX6_at_k17, eX6_at_0_k17]
  rcases h0 with h0 | h0
  · rw [if_pos h0]
  · rw [if_neg (by omega), if_neg (by omega)]
theorem s6_at18 (x : Int) (h0 : 0 ≤ x) (h1 : x < 300) : inv N mX6_at [vR 18 0, vI x] (P σ) = some (some (vI (σ 18 0 x.toNat)), P σ) := by
  rw [iX6_at_k18, eX6_at_0_k18, if_neg (by omega), if_pos h1, if_neg (by omega), if_pos h1]
theorem s6_atO18 (x : Int) (h0 : x < 0 ∨ 300 ≤ x) : inv N mX6_at [vR 18 0, vI x] (P σ) = some (some (vI 0), P σ) := by
  rw [iX6_at_k18, eX6_at_0_k18]
  rcases h0 with h0 | h0
  · rw [if_pos h0]
  · rw [if_neg (by omega), if_neg (by omega)]
theorem s6_at19 (x : Int) (h0 : 0 ≤ x) (h1 : x < 1024) : inv N mX6_at [vR 19 0, vI x] (P σ) = some (some (vI (σ 19 0 x.toNat)), P σ) := by
  rw [iX6_at_k19, eX6_at_0_k19, if_neg (by omega), if_pos h1, if_neg (by omega), if_pos h1]
theorem s6_atO19 (x : Int) (h0 : x < 0 ∨ 1024 ≤ x) : inv N mX6_at [vR 19 0, vI x] (P σ) = some (some (vI 0), P σ) := by
  rw [iX6_at_k19, eX6_at_0_k19]
  rcases h0 with h0 | h0
  · rw [if_pos h0]
  · rw [if_neg (by omega), if_neg (by omega)]
theorem s6_at20 (x : Int) (h0 : 0 ≤ x) (h1 : x < 12) : inv N mX6_at [vR 20 0, vI x] (P σ) = some (some (vI (σ 20 0 x.toNat)), P σ) := by
  rw [iX6_at_k20, eX6_at_0_k20, if_neg (by omega), if_pos h1, if_neg (by omega), if_pos h1]
theorem s6_atO20 (x : Int) (h0 : x < 0 ∨ 12 ≤ x) : inv N mX6_at [vR 20 0, vI x] (P σ) = some (some (vI 0), P σ) := by
  rw [iX6_at_k20, eX6_at_0_k20]
  rcases h0 with h0 | h0
  · rw [if_pos h0]
  · rw [if_neg (by omega), if_neg (by omega)]
theorem s6_put1 (x v : Int) (h0 : 0 ≤ x) (h1 : x < 300) : inv N mX6_put [vR 1 0, vI x, vI v] (P σ) = some (none, P (row σ 1 0 (set (σ 1 0) x.toNat v))) := by
  rw [iX6_put_k1, eX6_put_0_k1, if_neg (by omega), if_pos h1, if_neg (by omega), if_pos h1, sup_row]
theorem s6_put3 (x v : Int) (h0 : 0 ≤ x) (h1 : x < 6) : inv N mX6_put [vR 3 i, vI x, vI v] (P σ) = some (none, P (row σ 3 i (set (σ 3 i) x.toNat v))) := by
  rw [iX6_put_k3, eX6_put_0_k3, if_neg (by omega), if_pos h1, if_neg (by omega), if_pos h1, sup_row]
theorem s6_put4 (x v : Int) (h0 : 0 ≤ x) (h1 : x < 6) : inv N mX6_put [vR 4 i, vI x, vI v] (P σ) = some (none, P (row σ 4 i (set (σ 4 i) x.toNat v))) := by
  rw [iX6_put_k4, eX6_put_0_k4, if_neg (by omega), if_pos h1, if_neg (by omega), if_pos h1, sup_row]
theorem s6_put5 (x v : Int) (h0 : 0 ≤ x) (h1 : x < 84) : inv N mX6_put [vR 5 i, vI x, vI v] (P σ) = some (none, P (row σ 5 i (set (σ 5 i) x.toNat v))) := by
  rw [iX6_put_k5, eX6_put_0_k5, if_neg (by omega), if_pos h1, if_neg (by omega), if_pos h1, sup_row]
theorem s6_put13 (x v : Int) (h0 : 0 ≤ x) (h1 : x < 31) : inv N mX6_put [vR 13 0, vI x, vI v] (P σ) = some (none, P (row σ 13 0 (set (σ 13 0) x.toNat v))) := by
  rw [iX6_put_k13, eX6_put_0_k13, if_neg (by omega), if_pos h1, if_neg (by omega), if_pos h1, sup_row]
theorem s6_put16 (x v : Int) (h0 : 0 ≤ x) (h1 : x < 300) : inv N mX6_put [vR 16 0, vI x, vI v] (P σ) = some (none, P (row σ 16 0 (set (σ 16 0) x.toNat v))) := by
  rw [iX6_put_k16, eX6_put_0_k16, if_neg (by omega), if_pos h1, if_neg (by omega), if_pos h1, sup_row]
theorem s6_put17 (x v : Int) (h0 : 0 ≤ x) (h1 : x < 300) : inv N mX6_put [vR 17 0, vI x, vI v] (P σ) = some (none, P (row σ 17 0 (set (σ 17 0) x.toNat v))) := by
  rw [iX6_put_k17, eX6_put_0_k17, if_neg (by omega), if_pos h1, if_neg (by omega), if_pos h1, sup_row]
theorem s6_put18 (x v : Int) (h0 : 0 ≤ x) (h1 : x < 300) : inv N mX6_put [vR 18 0, vI x, vI v] (P σ) = some (none, P (row σ 18 0 (set (σ 18 0) x.toNat v))) := by
  rw [iX6_put_k18, eX6_put_0_k18, if_neg (by omega), if_pos h1, if_neg (by omega), if_pos h1, sup_row]
theorem s6_put19 (x v : Int) (h0 : 0 ≤ x) (h1 : x < 1024) : inv N mX6_put [vR 19 0, vI x, vI v] (P σ) = some (none, P (row σ 19 0 (set (σ 19 0) x.toNat v))) := by
  rw [iX6_put_k19, eX6_put_0_k19, if_neg (by omega), if_pos h1, if_neg (by omega), if_pos h1, sup_row]
theorem s6_put20 (x v : Int) (h0 : 0 ≤ x) (h1 : x < 12) : inv N mX6_put [vR 20 0, vI x, vI v] (P σ) = some (none, P (row σ 20 0 (set (σ 20 0) x.toNat v))) := by
  rw [iX6_put_k20, eX6_put_0_k20, if_neg (by omega), if_pos h1, if_neg (by omega), if_pos h1, sup_row]
theorem s2_cell (x : Int) (h0 : 0 ≤ x) (h1 : x < 107) : inv N mX2_cell [vR 6 i, vI x] (P σ) = some (some (vI (σ 7 i x.toNat)), P σ) := by
  rw [iX2_cell, eX2_cell_0, if_neg (by omega), if_pos h1, if_neg (by omega), if_pos h1]
theorem s2_setCell (x v : Int) (h0 : 0 ≤ x) (h1 : x < 107) : inv N mX2_setCell [vR 6 i, vI x, vI v] (P σ) = some (none, P (row σ 7 i (set (σ 7 i) x.toNat v))) := by
  rw [iX2_setCell, eX2_setCell_0, if_neg (by omega), if_pos h1, if_neg (by omega), if_pos h1, sup_row]
/-- 1 if the page that begins at b is WHOLE -/
def whole1 (c : Vec) (b : Nat) : Int := if c b = 165 ∧ c (b + 6) * 256 + c (b + 7) = c b + 2 * c (b + 1) + 3 * c (b + 2) + 4 * c (b + 3) + 5 * c (b + 4) + 6 * c (b + 5) then 1 else 0
theorem whole1_b (c : Vec) (b : Nat) : whole1 c b = 0 ∨ whole1 c b = 1 := by unfold whole1; split <;> simp
def newestF (c : Vec) : Int := if whole1 c 56 = 1 ∧ whole1 c 64 = 1 then (if c 65 = (c 57 + 1) % 256 then 1 else 0) else if whole1 c 56 = 1 then 0 else if whole1 c 64 = 1 then 1 else -1
def OKB (c : Vec) : Prop := ∀ j, 56 ≤ j → j < 76 → 0 ≤ c j ∧ c j < 256
def OKW (c : Vec) : Prop := ∀ j, j < 56 → 0 ≤ c j ∧ c j < 2147483648
theorem s2_isWhole0 (hb : OKB (σ 7 i)) : inv N mX2_isWhole [vR 6 i, vI 0] (P σ) = some (some (vI (whole1 (σ 7 i) 56)), P σ) := by
  have b0 := hb 56 (by omega) (by omega)
  have b1 := hb 57 (by omega) (by omega)
  have b2 := hb 58 (by omega) (by omega)
  have b3 := hb 59 (by omega) (by omega)
  have b4 := hb 60 (by omega) (by omega)
  have b5 := hb 61 (by omega) (by omega)
  have b6 := hb 62 (by omega) (by omega)
  have b7 := hb 63 (by omega) (by omega)
  simp (disch := omega) only [iX2_isWhole, eX2_isWhole_0, eX2_isWhole_10, eX2_isWhole_22, eX2_isWhole_30, eX2_isWhole_37, eX2_isWhole_44, s2_cell, bnd_s, bnd_n, push_s, push_n, w32i, ↓if_pos, ↓if_neg, Int.reduceAdd, Int.reduceMul, Int.reduceSub, Int.reduceToNat, Int.reduceNeg, Nat.reduceAdd, Nat.reduceMul, sup_row, row_same, row_row]
  simp only [whole1, Nat.reduceAdd]
  by_cases h1 : σ 7 i 56 = 165
  · simp only [h1, ↓reduceIte, true_and]
    split <;> split <;> first | rfl | omega
  · simp only [h1, ↓reduceIte, false_and]
theorem s2_isWhole1 (hb : OKB (σ 7 i)) : inv N mX2_isWhole [vR 6 i, vI 1] (P σ) = some (some (vI (whole1 (σ 7 i) 64)), P σ) := by
  have b0 := hb 64 (by omega) (by omega)
  have b1 := hb 65 (by omega) (by omega)
  have b2 := hb 66 (by omega) (by omega)
  have b3 := hb 67 (by omega) (by omega)
  have b4 := hb 68 (by omega) (by omega)
  have b5 := hb 69 (by omega) (by omega)
  have b6 := hb 70 (by omega) (by omega)
  have b7 := hb 71 (by omega) (by omega)
  simp (disch := omega) only [iX2_isWhole, eX2_isWhole_0, eX2_isWhole_10, eX2_isWhole_22, eX2_isWhole_30, eX2_isWhole_37, eX2_isWhole_44, s2_cell, bnd_s, bnd_n, push_s, push_n, w32i, ↓if_pos, ↓if_neg, Int.reduceAdd, Int.reduceMul, Int.reduceSub, Int.reduceToNat, Int.reduceNeg, Nat.reduceAdd, Nat.reduceMul, sup_row, row_same, row_row]
  simp only [whole1, Nat.reduceAdd]
  by_cases h1 : σ 7 i 64 = 165
  · simp only [h1, ↓reduceIte, true_and]
    split <;> split <;> first | rfl | omega
  · simp only [h1, ↓reduceIte, false_and]
theorem s2_newest (hb : OKB (σ 7 i)) : inv N mX2_newestPage [vR 6 i] (P σ) = some (some (vI (newestF (σ 7 i))), P σ) := by
  have b1 := hb 57 (by omega) (by omega)
  have b2 := hb 65 (by omega) (by omega)
  unfold newestF
  rw [iX2_newestPage, eX2_newestPage_0, s2_isWhole0 hb, bnd_s, push_s, eX2_newestPage_3, s2_isWhole1 hb, bnd_s, push_s, eX2_newestPage_7]
  rcases whole1_b (σ 7 i) 56 with h0 | h0 <;> rcases whole1_b (σ 7 i) 64 with h1 | h1 <;> simp only [h0, h1, ↓reduceIte, Int.reduceEq, and_self, and_true, and_false, false_and]
  simp (disch := omega) only [iX2_sequence, eX2_sequence_0, eX2_sequence_9, eX2_newestPage_15, eX2_newestPage_18, s2_cell, bAnd_255, bnd_s, bnd_n, push_s, push_n, w32i, ↓if_pos, ↓if_neg, Int.reduceAdd, Int.reduceMul, Int.reduceSub, Int.reduceToNat, Int.reduceNeg, Nat.reduceAdd, Nat.reduceMul, sup_row, row_same, row_row]
  split <;> rfl
theorem newest_c (c : Vec) : newestF c = -1 ∨ newestF c = 0 ∨ newestF c = 1 := by unfold newestF; split <;> (try split) <;> (try split) <;> simp
/-- FLAGS as the NEWEST page holds them: bytes of A, of B, FAILURES, LAST -/
def flagF (c : Vec) (k : Nat) : Int := if newestF c = -1 then (if k = 3 then 3 else 0) else if newestF c = 0 then c (58 + k) else c (66 + k)
theorem s2_readFlags (hb : OKB (σ 7 i)) : inv N mX2_readFlags [vR 6 i] (P σ) = some (none, P (row σ 6 i (set (set (set (set (set (σ 6 i) 6 (newestF (σ 7 i))) 2 (flagF (σ 7 i) 0)) 3 (flagF (σ 7 i) 1)) 4 (flagF (σ 7 i) 2)) 5 (flagF (σ 7 i) 3)))) := by
  rw [iX2_readFlags, eX2_readFlags_0, s2_newest hb, bnd_s, push_s, eX2_readFlags_3]
  unfold flagF
  rcases newest_c (σ 7 i) with h | h | h <;> simp (disch := omega) only [h, eX2_readFlags_14, eX2_readFlags_28, eX2_readFlags_33, eX2_readFlags_38, eX2_readFlags_43, eX2_readFlags_44, iX2_takeFlags, eX2_takeFlags_0, s2_cell, ↓reduceIte, Int.reduceEq, set_same, row_at, Nat.reduceEqDiff, and_true, and_self, false_and, bnd_s, bnd_n, push_s, push_n, w32i, ↓if_pos, ↓if_neg, Int.reduceAdd, Int.reduceMul, Int.reduceSub, Int.reduceToNat, Int.reduceNeg, Nat.reduceAdd, Nat.reduceMul, sup_row, row_same, row_row]
theorem s2_seq0 : inv N mX2_sequence [vR 6 i, vI 0] (P σ) = some (some (vI (σ 7 i 57)), P σ) := by
  simp (disch := omega) only [iX2_sequence, eX2_sequence_0, eX2_sequence_9, s2_cell, bnd_s, bnd_n, push_s, push_n, w32i, ↓if_pos, ↓if_neg, Int.reduceAdd, Int.reduceMul, Int.reduceSub, Int.reduceToNat, Int.reduceNeg, Nat.reduceAdd, Nat.reduceMul, sup_row, row_same, row_row]
theorem s2_seq1 : inv N mX2_sequence [vR 6 i, vI 1] (P σ) = some (some (vI (σ 7 i 65)), P σ) := by
  simp (disch := omega) only [iX2_sequence, eX2_sequence_0, eX2_sequence_9, s2_cell, bnd_s, bnd_n, push_s, push_n, w32i, ↓if_pos, ↓if_neg, Int.reduceAdd, Int.reduceMul, Int.reduceSub, Int.reduceToNat, Int.reduceNeg, Nat.reduceAdd, Nat.reduceMul, sup_row, row_same, row_row]
theorem s2_isOn : inv N mX2_isOn [vR 6 i] (P σ) = some (some (vI (if σ 7 i 78 = -1 then 0 else 1)), P σ) := by
  simp (disch := omega) only [iX2_isOn, eX2_isOn_0, eX2_isOn_3, s2_cell, bnd_s, bnd_n, push_s, push_n, w32i, ↓if_pos, ↓if_neg, Int.reduceAdd, Int.reduceMul, Int.reduceSub, Int.reduceToNat, Int.reduceNeg, Nat.reduceAdd, Nat.reduceMul, sup_row, row_same, row_row]
  split <;> rfl
theorem s2_turnOff : inv N mX2_turnOff [vR 6 i] (P σ) = some (none, P (row σ 7 i (set (σ 7 i) 78 (-1)))) := by
  simp (disch := omega) only [iX2_turnOff, eX2_turnOff_0, eX2_turnOff_4, s2_setCell, bnd_s, bnd_n, push_s, push_n, w32i, ↓if_pos, ↓if_neg, Int.reduceAdd, Int.reduceMul, Int.reduceSub, Int.reduceToNat, Int.reduceNeg, Nat.reduceAdd, Nat.reduceMul, sup_row, row_same, row_row]
theorem s2_slotFlags (x : Int) : inv N mX2_slotFlags [vR 6 i, vI x] (P σ) = some (some (vI (if x = 0 then σ 6 i 2 else σ 6 i 3)), P σ) := by
  rw [iX2_slotFlags, eX2_slotFlags_0]
  split <;> rfl
theorem s2_setSlotFlags (x v : Int) : inv N mX2_setSlotFlags [vR 6 i, vI x, vI v] (P σ) = some (none, P (row σ 6 i (set (σ 6 i) (if x = 0 then 2 else 3) v))) := by
  rw [iX2_setSlotFlags, eX2_setSlotFlags_0]
  split <;> rw [sup_row]
theorem s2_turnBit (x bit : Int) (h0 : 0 ≤ x) (h1 : x < 107) : inv N mX2_turnBit [vR 6 i, vI x, vI bit] (P σ) = some (some (vI (bXor (σ 7 i x.toNat) (shl32 1 bit))), P (row σ 7 i (set (σ 7 i) x.toNat (bXor (σ 7 i x.toNat) (shl32 1 bit))))) := by
  simp (disch := omega) only [iX2_turnBit, eX2_turnBit_0, eX2_turnBit_5, eX2_turnBit_10, eX2_turnBit_13, s2_cell, s2_setCell, set_same, bnd_s, bnd_n, push_s, push_n, w32i, ↓if_pos, ↓if_neg, Int.reduceAdd, Int.reduceMul, Int.reduceSub, Int.reduceToNat, Int.reduceNeg, Nat.reduceAdd, Nat.reduceMul, sup_row, row_same, row_row]
def dig (p b : Int) : Int := ((p + 527) * 31 + b) % 65536
theorem w32_65536 (x : Int) : w32 x % 65536 = x % 65536 := by unfold w32; omega
theorem s0_digest (p b : Int) : inv N mX0_digest [vI p, vI b] (P σ) = some (some (vI (dig p b)), P σ) := by
  rw [iX0_digest, eX0_digest_0, bAnd_65535, w32_65536]
  unfold dig w32
  congr 4
  omega
def sgn (s a b c d e : Int) : Int := ((((((((((s + 7) * 31 + a) % 65536) * 31 + b) % 65536) * 31 + c) % 65536) * 31 + d) % 65536) * 31 + e) % 65536
theorem bAnd_w (x : Int) : bAnd (w32 x) 65535 = x % 65536 := by rw [bAnd_65535, w32_65536]
def signF (sec c : Vec) (b : Nat) : Int := sgn (sec (c (b + 1)).toNat) (c b) (c (b + 1)) (c (b + 2)) (c (b + 3)) (c (b + 4))
theorem s0_sign7 (b : Nat) (hb : b + 4 < 107) (hk : 0 ≤ σ 7 j (b + 1) ∧ σ 7 j (b + 1) < 6) (hs : ∀ k, k < 6 → 0 ≤ σ 3 i k ∧ σ 3 i k < 10000) : inv N mX0_sign [vR 2 i, vR 7 j, vI (b : Int)] (P σ) = some (some (vI (signF (σ 3 i) (σ 7 j) b)), P σ) := by
  have hs1 := hs (σ 7 j (b + 1)).toNat (by omega)
  have e1 : ((b : Int) + 1).toNat = b + 1 := by omega
  have e2 : ((b : Int) + 2).toNat = b + 2 := by omega
  have e3 : ((b : Int) + 3).toNat = b + 3 := by omega
  have e4 : ((b : Int) + 4).toNat = b + 4 := by omega
  have e0 : ((b : Int) + 0).toNat = b := by omega
  rw [iX0_sign_k7, eX0_sign_0_k7, w32i (by omega) (by omega), s6_at7 _ (by omega) (by omega), bnd_s, push_s, eX0_sign_7_k7, e1, s6_at3 _ (by omega) (by omega), bnd_s, push_s, eX0_sign_8_k7]
  simp (disch := omega) only [eX0_sign_13_k7, eX0_sign_24_k7, s6_at7, bAnd_65535, w32_65536, e0, e1, e2, e3, e4, bnd_s, push_s, w32i, ↓if_pos, ↓if_neg, Int.reduceAdd]
  rfl
theorem s0_sign5 (b : Nat) (hb : b + 4 < 84) (hk : 0 ≤ σ 5 j (b + 1) ∧ σ 5 j (b + 1) < 6) (hs : ∀ k, k < 6 → 0 ≤ σ 3 i k ∧ σ 3 i k < 10000) : inv N mX0_sign [vR 2 i, vR 5 j, vI (b : Int)] (P σ) = some (some (vI (signF (σ 3 i) (σ 5 j) b)), P σ) := by
  have hs1 := hs (σ 5 j (b + 1)).toNat (by omega)
  have e1 : ((b : Int) + 1).toNat = b + 1 := by omega
  have e2 : ((b : Int) + 2).toNat = b + 2 := by omega
  have e3 : ((b : Int) + 3).toNat = b + 3 := by omega
  have e4 : ((b : Int) + 4).toNat = b + 4 := by omega
  have e0 : ((b : Int) + 0).toNat = b := by omega
  rw [iX0_sign_k5, eX0_sign_0_k5, w32i (by omega) (by omega), s6_at5 _ (by omega) (by omega), bnd_s, push_s, eX0_sign_7_k5, e1, s6_at3 _ (by omega) (by omega), bnd_s, push_s, eX0_sign_8_k5]
  simp (disch := omega) only [eX0_sign_13_k5, eX0_sign_24_k5, s6_at5, bAnd_65535, w32_65536, e0, e1, e2, e3, e4, bnd_s, push_s, w32i, ↓if_pos, ↓if_neg, Int.reduceAdd]
  rfl
end CLS
end
section
/-! THE CLASS: why a store cannot start, what can be done -/
section CLS
variable {N i j : Nat} {σ : Sto}
/-- 1 if the parts from the k-th on, m of them, have the digests that are told ahead of them, the first of these d -/
def soundL (c : Vec) (b : Nat) : Nat → Nat → Int → Int
  | 0, _, d => if d = 0 then 1 else 0
  | m + 1, k, d => if dig (c (b + 6 + 2 * k)) (c (b + 7 + 2 * k)) = d then soundL c b m (k + 1) (c (b + 7 + 2 * k)) else 0
def soundF (c : Vec) (b : Nat) (n : Int) : Int := soundL c b n.toNat 0 (c (b + 4))
theorem soundL_b (c : Vec) (b : Nat) : ∀ (m k : Nat) (d : Int), soundL c b m k d = 0 ∨ soundL c b m k d = 1
  | 0, k, d => by unfold soundL; split <;> simp
  | m + 1, k, d => by
    unfold soundL
    split
    · exact soundL_b c b m _ _
    · simp
theorem soundF_b (c : Vec) (b : Nat) (n : Int) : soundF c b n = 0 ∨ soundF c b n = 1 := soundL_b _ _ _ _ _
theorem s2_sound_loop (b : Nat) (n : Int) (hb : b + 13 < 107) (h4 : n ≤ 4) : ∀ (m k : Nat) (d : Int) (x5 : MV), (k : Int) + (m : Int) = n → ev N mX2_hasSoundParts 8 [vR 6 i, vI (b : Int), vI n, vI d, vI (k : Int), x5] [] (P σ) = some (some (vI (soundL (σ 7 i) b m k d)), P σ) := by
  intro m
  induction m with
  | zero =>
    intro k d x5 hk
    rw [eX2_hasSoundParts_8, if_neg (by omega)]
    unfold soundL
    split <;> rfl
  | succ m ih =>
    intro k d x5 hk
    have e6 : ((b : Int) + 6 + 2 * (k : Int)).toNat = b + 6 + 2 * k := by omega
    have e7 : ((b : Int) + 7 + 2 * (k : Int)).toNat = b + 7 + 2 * k := by omega
    rw [eX2_hasSoundParts_8, if_pos (by omega), w32i (x := (b : Int) + 7) (by omega) (by omega), w32i (x := 2 * (k : Int)) (by omega) (by omega), w32i (by omega) (by omega), s2_cell _ (by omega) (by omega), bnd_s, push_s, e7,
      eX2_hasSoundParts_20, w32i (x := (b : Int) + 6) (by omega) (by omega), w32i (x := 2 * (k : Int)) (by omega) (by omega), w32i (by omega) (by omega), s2_cell _ (by omega) (by omega), bnd_s, push_s, e6, eX2_hasSoundParts_30, s0_digest, bnd_s, push_s, eX2_hasSoundParts_32]
    unfold soundL
    split
    · rw [w32i (by omega) (by omega)]
      exact ih (k + 1) _ _ (by omega)
    · rfl
theorem s2_sound (b : Nat) (n : Int) (hb : b + 13 < 107) (h1 : 1 ≤ n) (h4 : n ≤ 4) : inv N mX2_hasSoundParts [vR 6 i, vI (b : Int), vI n] (P σ) = some (some (vI (soundF (σ 7 i) b n)), P σ) := by
  have e4 : ((b : Int) + 4).toNat = b + 4 := by omega
  rw [iX2_hasSoundParts, eX2_hasSoundParts_0, w32i (by omega) (by omega), s2_cell _ (by omega) (by omega), bnd_s, push_s, eX2_hasSoundParts_5, e4]
  exact s2_sound_loop b n hb h4 n.toNat 0 _ _ (by omega)
/-- 1 if the key is revoked, by a chain of at most so many steps -/
def revN (und : Vec) (fz : Int) : Nat → Int → Int
  | 0, _ => 0
  | n + 1, k => if k < 0 then 0 else if fz / ((2 ^ k.toNat : Nat) : Int) % 2 = 1 then 1 else revN und fz n (und k.toNat)
theorem revN_b (und : Vec) (fz : Int) : ∀ (n : Nat) (k : Int), revN und fz n k = 0 ∨ revN und fz n k = 1
  | 0, k => Or.inl rfl
  | n + 1, k => by
    unfold revN
    split
    · simp
    · split
      · simp
      · exact revN_b und fz n _
def OKU (ks : Int) (und : Vec) : Prop := ks ≤ 6 ∧ ∀ k : Nat, (k : Int) < ks → -1 ≤ und k ∧ und k < k
theorem fuse_bit {f k : Int} (f0 : 0 ≤ f) (f1 : f < 2147483648) (k0 : 0 ≤ k) (k1 : k < 32) : bAnd (shr32 f k) 1 = f / ((2 ^ k.toNat : Nat) : Int) % 2 := by
  have := shr32_div f0 f1 k.toNat (by omega)
  rw [Int.toNat_of_nonneg k0] at this
  rw [this, bAnd_1]
theorem s2_rev_loop {ks : Int} (hf : 0 ≤ σ 7 i 77 ∧ σ 7 i 77 < 64) (hu : OKU ks (σ 4 1)) (x1 : Int) : ∀ (n : Nat) (st k : Int), st = 6 - (n : Int) → n ≤ 6 → -1 ≤ k → k < ks → ev N mX2_isRevoked 4 [vR 6 i, vI x1, vI k, vI st] [] (P σ) = some (some (vI (revN (σ 4 1) (σ 7 i 77) n k)), P σ) := by
  intro n
  induction n with
  | zero =>
    intro st k hst hn k0 k1
    rw [eX2_isRevoked_4, if_neg (by omega)]
    rfl
  | succ n ih =>
    intro st k hst hn k0 k1
    have h6 := hu.1
    rw [eX2_isRevoked_4, if_pos (by omega)]
    unfold revN
    by_cases hk : k < 0
    · rw [if_pos hk, if_pos hk]
    · rw [if_neg hk, if_neg hk, s2_cell _ (by omega) (by omega), bnd_s, push_s, eX2_isRevoked_12, show (77 : Int).toNat = 77 from rfl, fuse_bit hf.1 (by omega) (by omega) (by omega)]
      split
      · rfl
      · have hu1 := hu.2 k.toNat (by omega)
        rw [s6_at4 _ (by omega) (by omega), bnd_s, push_s, eX2_isRevoked_25, w32i (by omega) (by omega)]
        exact ih _ _ (by omega) (by omega) (by omega) (by omega)
theorem s2_isRevoked {ks : Int} (hf : 0 ≤ σ 7 i 77 ∧ σ 7 i 77 < 64) (hu : OKU ks (σ 4 1)) (k : Int) (k0 : 0 ≤ k) (k1 : k < ks) : inv N mX2_isRevoked [vR 6 i, vI k] (P σ) = some (some (vI (revN (σ 4 1) (σ 7 i 77) 6 k)), P σ) := by
  rw [iX2_isRevoked, eX2_isRevoked_0]
  exact s2_rev_loop hf hu k 6 0 k rfl (by omega) (by omega) k1
theorem s2_version (s : Nat) (hs : s < 4) (hw : OKW (σ 7 i)) : inv N mX2_version [vR 6 i, vI (s : Int)] (P σ) = some (some (vI (σ 7 i (14 * s) - 1)), P σ) := by
  have h1 := hw (14 * s) (by omega)
  have e : ((s : Int) * 14).toNat = 14 * s := by omega
  rw [iX2_version, eX2_version_0, w32i (by omega) (by omega), s2_cell _ (by omega) (by omega), bnd_s, push_s, eX2_version_5, e, w32i (by omega) (by omega)]
/-- WHY a store cannot start, by the keys there are, their secrets, what they are under -/
def whyF (ks : Int) (sec und c : Vec) (s : Nat) : Int :=
  if c (14 * s) - 1 < 0 ∨ 30 < c (14 * s) - 1 ∨ ¬ (0 ≤ c (14 * s + 1) ∧ c (14 * s + 1) < ks) ∨ c (14 * s + 3) < 1 ∨ 4 < c (14 * s + 3) then 1
  else if ¬ c (14 * s + 5) = signF sec c (14 * s) then 2
  else if s < 2 then (if revN und (c 77) 6 (c (14 * s + 1)) = 1 then 3 else if c (14 * s) - 1 < c 76 then 4 else if soundF c (14 * s) (c (14 * s + 3)) = 1 then 0 else 5)
  else if ¬ c (14 * s + 1) = 0 then 3 else if soundF c (14 * s) (c (14 * s + 3)) = 1 then 0 else 5
/-- what the class's bundle is like -/
def OKG (σ : Sto) (j : Nat) : Prop := 0 ≤ σ 2 j 0 ∧ σ 2 j 0 ≤ 6 ∧ 0 ≤ σ 2 j 1 ∧ σ 2 j 1 ≤ 6 ∧ 1 ≤ σ 2 j 2 ∧ σ 2 j 2 ≤ 9 ∧ 1 ≤ σ 2 j 3 ∧ σ 2 j 3 ≤ 7 ∧ 1 ≤ σ 2 j 4 ∧ σ 2 j 4 ≤ 99 ∧ (∀ k, k < 6 → 0 ≤ σ 3 j k ∧ σ 3 j k < 10000) ∧ OKU (σ 2 j 0) (σ 4 j) ∧ (∀ k, k < 84 → 0 ≤ σ 5 j k ∧ σ 5 j k < 100000)
/-- what the cells are like -/
def OKC (c : Vec) : Prop := OKW c ∧ OKB c ∧ (0 ≤ c 76 ∧ c 76 ≤ 31) ∧ (0 ≤ c 77 ∧ c 77 < 64) ∧ (-1 ≤ c 78 ∧ c 78 ≤ 2)
theorem s0_hasKey (x : Int) : inv N mX0_hasKey [vR 2 i, vI x] (P σ) = some (some (vI (if 0 ≤ x ∧ x < σ 2 i 0 then 1 else 0)), P σ) := by
  rw [iX0_hasKey, eX0_hasKey_0]
  by_cases h1 : x < 0
  · rw [if_pos h1, if_neg (by omega)]
  · rw [if_neg h1]
    by_cases h2 : x < σ 2 i 0
    · rw [if_pos h2, if_pos ⟨by omega, h2⟩]
    · rw [if_neg h2, if_neg (by omega)]
theorem s0_hasImage (x : Int) : inv N mX0_hasImage [vR 2 i, vI x] (P σ) = some (some (vI (if 0 ≤ x ∧ x < σ 2 i 1 then 1 else 0)), P σ) := by
  rw [iX0_hasImage, eX0_hasImage_0]
  by_cases h1 : x < 0
  · rw [if_pos h1, if_neg (by omega)]
  · rw [if_neg h1]
    by_cases h2 : x < σ 2 i 1
    · rw [if_pos h2, if_pos ⟨by omega, h2⟩]
    · rw [if_neg h2, if_neg (by omega)]
theorem s2_reason (s : Nat) (hs : s < 4) (hg : OKG σ 1) (hc : OKC (σ 7 i)) : inv N mX2_reasonAgainst [vR 6 i, vI (s : Int)] (P σ) = some (some (vI (whyF (σ 2 1 0) (σ 3 1) (σ 4 1) (σ 7 i) s)), P σ) := by
  obtain ⟨g1, g2, -, -, -, -, -, -, -, -, g11, g12, -⟩ := hg
  obtain ⟨c1, c2, c3, c4, c5⟩ := hc
  have w0 := c1 (14 * s) (by omega)
  have w1 := c1 (14 * s + 1) (by omega)
  have w3 := c1 (14 * s + 3) (by omega)
  have e1 : ((s : Int) * 14 + 1).toNat = 14 * s + 1 := by omega
  have e3 : ((s : Int) * 14 + 3).toNat = 14 * s + 3 := by omega
  have e5 : ((s : Int) * 14 + 5).toNat = 14 * s + 5 := by omega
  have eb : (s : Int) * 14 = ((14 * s : Nat) : Int) := by omega
  rw [iX2_reasonAgainst, eX2_reasonAgainst_0, s2_version s hs c1, bnd_s, push_s, eX2_reasonAgainst_7, w32i (x := (s : Int) * 14) (by omega) (by omega), w32i (by omega) (by omega), s2_cell _ (by omega) (by omega), bnd_s, push_s, e1,
    eX2_reasonAgainst_13, w32i (by omega) (by omega), s2_cell _ (by omega) (by omega), bnd_s, push_s, e3, eX2_reasonAgainst_19]
  unfold whyF
  by_cases h1 : σ 7 i (14 * s) - 1 < 0
  · rw [if_pos h1, if_pos (Or.inl h1)]
  rw [if_neg h1]
  by_cases h2 : 30 < σ 7 i (14 * s) - 1
  · rw [if_pos h2, if_pos (Or.inr (Or.inl h2))]
  rw [if_neg h2, s0_hasKey, bnd_s, push_s, eX2_reasonAgainst_29]
  by_cases h3 : 0 ≤ σ 7 i (14 * s + 1) ∧ σ 7 i (14 * s + 1) < σ 2 1 0
  case neg => rw [if_neg h3, if_pos rfl, if_pos (Or.inr (Or.inr (Or.inl h3)))]
  rw [if_pos h3, if_neg (by omega)]
  by_cases h4 : σ 7 i (14 * s + 3) < 1
  · rw [if_pos h4, if_pos (by omega)]
  rw [if_neg h4]
  by_cases h5 : 4 < σ 7 i (14 * s + 3)
  · rw [if_pos h5, if_pos (by omega)]
  rw [if_neg h5, if_neg (show ¬ (σ 7 i (14 * s) - 1 < 0 ∨ 30 < σ 7 i (14 * s) - 1 ∨ ¬ (0 ≤ σ 7 i (14 * s + 1) ∧ σ 7 i (14 * s + 1) < σ 2 1 0) ∨ σ 7 i (14 * s + 3) < 1 ∨ 4 < σ 7 i (14 * s + 3)) by omega)]
  rw [w32i (by omega) (by omega), s2_cell _ (by omega) (by omega), bnd_s, push_s, e5, eX2_reasonAgainst_43, eb, s0_sign7 (14 * s) (by omega) (by omega) g11, bnd_s, push_s, eX2_reasonAgainst_49]
  by_cases h6 : σ 7 i (14 * s + 5) = signF (σ 3 1) (σ 7 i) (14 * s)
  case neg => rw [if_neg h6, if_pos h6]
  rw [if_pos h6, if_neg (show ¬ ¬ σ 7 i (14 * s + 5) = signF (σ 3 1) (σ 7 i) (14 * s) from fun z => z h6)]
  have hsnd := soundF_b (σ 7 i) (14 * s) (σ 7 i (14 * s + 3))
  have tail : bnd (inv N mX2_hasSoundParts [vR 6 i, vI ((14 * s : Nat) : Int), vI (σ 7 i (14 * s + 3))] (P σ)) (fun r S2 => ev N mX2_reasonAgainst 76 [vR 6 i, vI (s : Int), vI ((14 * s : Nat) : Int), vI (σ 7 i (14 * s) - 1), vI (σ 7 i (14 * s + 1)), vI (σ 7 i (14 * s + 3))] (push r []) S2) = some (some (vI (if soundF (σ 7 i) (14 * s) (σ 7 i (14 * s + 3)) = 1 then 0 else 5)), P σ) := by
    rw [s2_sound (14 * s) _ (by omega) (by omega) (by omega), bnd_s, push_s, eX2_reasonAgainst_76]
    rcases hsnd with h | h
    · rw [h, if_pos rfl, if_neg (show ¬ (0 : Int) = 1 by omega)]
    · rw [h, if_neg (show ¬ (1 : Int) = 0 by omega), if_pos rfl]
  by_cases h7 : s < 2
  · rw [if_pos h7, if_pos (show (s : Int) < 2 by omega), s2_isRevoked c4 g12 _ (by omega) (by omega), bnd_s, push_s, eX2_reasonAgainst_62]
    rcases revN_b (σ 4 1) (σ 7 i 77) 6 (σ 7 i (14 * s + 1)) with h8 | h8
    · rw [h8, if_pos rfl, if_neg (show ¬ (0 : Int) = 1 by omega), s2_cell _ (by omega) (by omega), bnd_s, push_s, eX2_reasonAgainst_69, show (76 : Int).toNat = 76 from rfl]
      by_cases h9 : σ 7 i (14 * s) - 1 < σ 7 i 76
      · rw [if_pos h9, if_pos h9]
      · rw [if_neg h9, if_neg h9, tail]
    · rw [h8, if_neg (show ¬ (1 : Int) = 0 by omega), if_pos rfl]
  · rw [if_neg h7, if_neg (show ¬ (s : Int) < 2 by omega)]
    by_cases h8 : σ 7 i (14 * s + 1) = 0
    · rw [if_pos h8, if_neg (show ¬ ¬ σ 7 i (14 * s + 1) = 0 from fun z => z h8), tail]
    · rw [if_neg h8, if_pos h8]
/-- the copy that recovery would start -/
def copyF (ks : Int) (sec und c : Vec) : Int := if whyF ks sec und c 2 = 0 then (if whyF ks sec und c 3 = 0 then (if c 28 - 1 < c 42 - 1 then 3 else 2) else 2) else if whyF ks sec und c 3 = 0 then 3 else -1
theorem s2_recoveryCopy (hg : OKG σ 1) (hc : OKC (σ 7 i)) : inv N mX2_recoveryCopy [vR 6 i] (P σ) = some (some (vI (copyF (σ 2 1 0) (σ 3 1) (σ 4 1) (σ 7 i))), P σ) := by
  have r2 := s2_reason (N := N) 2 (by omega) hg hc
  have r3 := s2_reason (N := N) 3 (by omega) hg hc
  have v2 := s2_version (N := N) 2 (by omega) hc.1
  have v3 := s2_version (N := N) 3 (by omega) hc.1
  simp only [Int.cast_ofNat_Int, Nat.reduceMul] at r2 r3 v2 v3
  unfold copyF
  rw [iX2_recoveryCopy, eX2_recoveryCopy_0, r2, bnd_s, push_s, eX2_recoveryCopy_3]
  by_cases h2 : whyF (σ 2 1 0) (σ 3 1) (σ 4 1) (σ 7 i) 2 = 0 <;> by_cases h3 : whyF (σ 2 1 0) (σ 3 1) (σ 4 1) (σ 7 i) 3 = 0 <;> simp only [h2, h3, ↓reduceIte, r3, v2, v3, bnd_s, push_s, eX2_recoveryCopy_11, eX2_recoveryCopy_23, eX2_recoveryCopy_26, Int.reduceEq]
  split <;> rfl
def openF (im : Int) (c : Vec) : Int := if c 74 = 90 ∧ c 75 = (c 72 + c 73 + c 74) % 256 ∧ (c 72 = 0 ∨ c 72 = 1) ∧ c 73 < im then 1 else 0
theorem s8_isSlot (x : Int) : inv N mX8_isSlot [vI x] (P σ) = some (some (vI (if x = 0 ∨ x = 1 then 1 else 0)), P σ) := by
  rw [iX8_isSlot, eX8_isSlot_0]
  by_cases h1 : x = 0
  · rw [if_pos h1, if_pos (Or.inl h1)]
  · rw [if_neg h1]
    by_cases h2 : x = 1
    · rw [if_pos h2, if_pos (Or.inr h2)]
    · rw [if_neg h2, if_neg (by omega)]
theorem s2_isOpen (hc : OKC (σ 7 i)) : inv N mX2_isJournalOpen [vR 6 i] (P σ) = some (some (vI (openF (σ 2 1 1) (σ 7 i))), P σ) := by
  have b72 := hc.2.1 72 (by omega) (by omega)
  have b73 := hc.2.1 73 (by omega) (by omega)
  have b74 := hc.2.1 74 (by omega) (by omega)
  unfold openF
  simp (disch := omega) only [iX2_isJournalOpen, eX2_isJournalOpen_0, eX2_isJournalOpen_3, eX2_isJournalOpen_7, eX2_isJournalOpen_11, s2_cell, bnd_s, push_s, Int.reduceToNat]
  by_cases h1 : σ 7 i 74 = 90
  case neg => rw [if_neg h1, if_neg (fun z => h1 z.1)]
  rw [if_pos h1]
  simp (disch := omega) only [eX2_isJournalOpen_18, w32i, bAnd_255]
  by_cases h2 : σ 7 i 75 = (σ 7 i 72 + σ 7 i 73 + σ 7 i 74) % 256
  case neg => rw [if_neg h2, if_neg (fun z => h2 z.2.1)]
  rw [if_pos h2, s8_isSlot, bnd_s, push_s, eX2_isJournalOpen_28]
  by_cases h3 : σ 7 i 72 = 0 ∨ σ 7 i 72 = 1
  case neg => rw [if_neg h3, if_pos rfl, if_neg (fun z => h3 z.2.2.1)]
  rw [if_pos h3, if_neg (show ¬ (1 : Int) = 0 by omega), s0_hasImage, bnd_s, push_s, eX2_isJournalOpen_33]
  by_cases h4 : σ 7 i 73 < σ 2 1 1
  · rw [if_pos (show 0 ≤ σ 7 i 73 ∧ σ 7 i 73 < σ 2 1 1 from ⟨b73.1, h4⟩), if_neg (show ¬ (1 : Int) = 0 by omega), if_pos (show σ 7 i 74 = 90 ∧ _ ∧ _ ∧ _ from ⟨h1, h2, h3, h4⟩)]
  · rw [if_neg (show ¬ (0 ≤ σ 7 i 73 ∧ σ 7 i 73 < σ 2 1 1) from fun z => h4 z.2), if_pos rfl, if_neg (fun z => h4 z.2.2.2)]
end CLS
end
section
/-! THE CLASS: writes -/
abbrev XP : Type := Vec × Vec
/-- the machine i holds these cells and these fields -/
def putC (σ : Sto) (i : Nat) (x : XP) : Sto := row (row σ 7 i x.1) 6 i x.2
theorem putC_7 (σ : Sto) (i : Nat) (x : XP) : putC σ i x 7 i = x.1 := by simp [putC, row]
theorem putC_6 (σ : Sto) (i : Nat) (x : XP) : putC σ i x 6 i = x.2 := by simp [putC, row]
theorem putC_o (σ : Sto) (i : Nat) (x : XP) {k : Nat} (k' : Nat) (h6 : k ≠ 6) (h7 : k ≠ 7) : putC σ i x k k' = σ k k' := by simp [putC, row, h6, h7]
theorem putC_i (σ : Sto) (i : Nat) (x : XP) {k k' : Nat} (h : k' ≠ i) : putC σ i x k k' = σ k k' := by simp [putC, row, h]
theorem putC_put (σ : Sto) (i : Nat) (x y : XP) : putC (putC σ i x) i y = putC σ i y := by
  funext k k'
  unfold putC row
  by_cases h : k' = i
  · by_cases h6 : k = 6
    · simp [h, h6]
    · by_cases h7 : k = 7
      · simp [h, h7]
      · simp [h6, h7]
  · simp [h]
theorem putC_id (σ : Sto) (i : Nat) : putC σ i (σ 7 i, σ 6 i) = σ := by
  funext k k'
  unfold putC row
  by_cases h6 : k = 6 ∧ k' = i
  · simp [h6]
  · by_cases h7 : k = 7 ∧ k' = i
    · simp [h7]
    · simp [h6, h7]
theorem row_putC7 (σ : Sto) (i : Nat) (x : XP) (c : Vec) : row (putC σ i x) 7 i c = putC σ i (c, x.2) := by
  funext k k'
  unfold putC row
  by_cases h6 : k = 6 ∧ k' = i
  · simp [h6]
  · by_cases h7 : k = 7 ∧ k' = i
    · simp [h7]
    · simp [h6, h7]
theorem row_putC6 (σ : Sto) (i : Nat) (x : XP) (g : Vec) : row (putC σ i x) 6 i g = putC σ i (x.1, g) := by
  funext k k'
  unfold putC row
  by_cases h6 : k = 6 ∧ k' = i
  · simp [h6]
  · simp [h6]
/-- so many entries from a place on -/
def fill (c : Vec) (a n : Nat) (v : Int) : Vec := fun j => if a ≤ j ∧ j < a + n then v else c j
theorem fill_0 (c : Vec) (a : Nat) (v : Int) : fill c a 0 v = c := by
  funext j
  unfold fill
  rw [if_neg (by omega)]
theorem fill_s (c : Vec) (a n : Nat) (v : Int) : fill (set c a v) (a + 1) n v = fill c a (n + 1) v := by
  funext j
  unfold fill set
  by_cases h : j = a
  · subst h
    rw [if_neg (by omega), if_pos rfl, if_pos (by omega)]
  · by_cases h2 : a + 1 ≤ j ∧ j < a + 1 + n
    · rw [if_pos h2, if_pos (by omega)]
    · rw [if_neg h2, if_neg h, if_neg (by omega)]
theorem fill_1 (c : Vec) (a : Nat) (v : Int) : fill c a 1 v = set c a v := by
  funext j
  unfold fill set
  by_cases h : j = a
  · rw [if_pos (by omega), if_pos h]
  · rw [if_neg (by omega), if_neg h]
/-- one WRITE -/
def wrC (a n : Nat) (v : Int) (x : XP) : XP := if ¬ x.2 7 = -1 ∧ ¬ x.2 8 < x.2 7 then (x.1, set x.2 9 1) else (fill x.1 a n v, set x.2 8 (w32 (x.2 8 + 1)))
theorem wrC_o (a n : Nat) (v : Int) (x : XP) {j : Nat} (h8 : j ≠ 8) (h9 : j ≠ 9) : (wrC a n v x).2 j = x.2 j := by
  unfold wrC
  split
  · exact set_ne _ _ h9
  · exact set_ne _ _ h8
section CLS
variable {N i j : Nat} {σ : Sto} {x : XP}
theorem s2_wr_loop (a n : Nat) (ha : a + n ≤ 107) (v : Int) : ∀ (m k : Nat) (y : XP), k + m = a + n → ev N mX2_write 21 [vR 6 i, vI (a : Int), vI (n : Int), vI v, vI (k : Int)] [] (P (putC σ i y)) = some (none, P (putC σ i (fill y.1 k m v, y.2))) := by
  intro m
  induction m with
  | zero =>
    intro k y hk
    rw [eX2_write_21, w32i (x := (a : Int) + (n : Int)) (by omega) (by omega), if_neg (by omega), fill_0]
  | succ m ih =>
    intro k y hk
    rw [eX2_write_21, w32i (x := (a : Int) + (n : Int)) (by omega) (by omega), if_pos (by omega), if_neg (by omega), if_pos (show (k : Int) < 107 by omega), if_neg (by omega), if_pos (show (k : Int) < 107 by omega), w32i (by omega) (by omega), sup_row, row_putC7, putC_7, Int.toNat_natCast]
    have := ih (k + 1) (set y.1 k v, y.2) (by omega)
    rw [Int.natCast_add, Int.cast_ofNat_Int] at this
    rw [this, fill_s]
theorem s2_write (a n : Nat) (ha : a + n ≤ 107) (v : Int) : inv N mX2_write [vR 6 i, vI (a : Int), vI (n : Int), vI v] (P (putC σ i x)) = some (none, P (putC σ i (wrC a n v x))) := by
  rw [iX2_write, eX2_write_0, putC_6]
  unfold wrC
  by_cases h1 : x.2 7 = -1
  · rw [if_pos h1, if_neg (by omega), sup_row, row_putC6, putC_6, s2_wr_loop a n ha v n a _ rfl]
  · rw [if_neg h1]
    by_cases h2 : x.2 8 < x.2 7
    · rw [if_pos h2, if_neg (by omega), sup_row, row_putC6, putC_6, s2_wr_loop a n ha v n a _ rfl]
    · rw [if_neg h2, if_pos ⟨h1, h2⟩, sup_row, row_putC6, putC_6]
/-- FLAGS are written to a page, with a sequence -/
def wfC (b : Nat) (nx : Int) (x : XP) : XP :=
  wrC (b + 7) 1 ((165 + 2 * nx + 3 * x.2 2 + 4 * x.2 3 + 5 * x.2 4 + 6 * x.2 5) % 256) (wrC (b + 6) 1 ((165 + 2 * nx + 3 * x.2 2 + 4 * x.2 3 + 5 * x.2 4 + 6 * x.2 5) / 256)
    (wrC (b + 5) 1 (x.2 5) (wrC (b + 4) 1 (x.2 4) (wrC (b + 3) 1 (x.2 3) (wrC (b + 2) 1 (x.2 2) (wrC (b + 1) 1 nx (wrC b 1 165 (wrC b 8 255 x))))))))
def nxC (c : Vec) (nw : Int) : Int := if nw = -1 then 0 else if nw = 0 then (c 57 + 1) % 256 else (c 65 + 1) % 256
def writeFlagsC (x : XP) : XP :=
  if x.2 6 = 0 then ((wfC 64 (nxC x.1 0) x).1, set (wfC 64 (nxC x.1 0) x).2 6 1) else ((wfC 56 (nxC x.1 (x.2 6)) x).1, set (wfC 56 (nxC x.1 (x.2 6)) x).2 6 0)
/-- the fields of a machine that holds flags -/
def OKF (g : Vec) : Prop := (0 ≤ g 2 ∧ g 2 < 256) ∧ (0 ≤ g 3 ∧ g 3 < 256) ∧ (0 ≤ g 4 ∧ g 4 < 256) ∧ (0 ≤ g 5 ∧ g 5 < 256) ∧ (g 6 = -1 ∨ g 6 = 0 ∨ g 6 = 1)
theorem s2_write1 (a : Nat) (ha : a < 107) (v : Int) : inv N mX2_write [vR 6 i, vI (a : Int), vI 1, vI v] (P (putC σ i x)) = some (none, P (putC σ i (wrC a 1 v x))) := s2_write a 1 (by omega) v
theorem sm_facts {sm : Int} (h0 : 0 ≤ sm) (h1 : sm < 10000) : w32 (sm.tdiv 256) = sm / 256 ∧ sm.tmod 256 = sm % 256 := by
  have t1 : sm.tdiv 256 = sm / 256 := Int.tdiv_eq_ediv_of_nonneg h0
  have t2 : sm.tmod 256 = sm % 256 := Int.tmod_eq_emod_of_nonneg h0
  refine ⟨?_, t2⟩
  rw [t1]
  exact w32i (by omega) (by omega)
theorem sm_range {g : Vec} {nx : Int} (hx : OKF g) (h0 : 0 ≤ nx ∧ nx < 256) : 0 ≤ 165 + 2 * nx + 3 * g 2 + 4 * g 3 + 5 * g 4 + 6 * g 5 ∧ 165 + 2 * nx + 3 * g 2 + 4 * g 3 + 5 * g 4 + 6 * g 5 < 10000 := by
  obtain ⟨f2, f3, f4, f5, f6⟩ := hx
  omega
theorem s2_wf_tail56 (x1 nx : Int) (hx : OKF x.2) (h0 : 0 ≤ nx ∧ nx < 256) : ev N mX2_writeFlags 59 [vR 6 i, vI x1, vI nx, vI 56, vI (165 + 2 * nx + 3 * x.2 2 + 4 * x.2 3 + 5 * x.2 4 + 6 * x.2 5)] [] (P (putC σ i (wrC 56 8 255 x))) = some (none, P (putC σ i ((wfC 56 nx x).1, set (wfC 56 nx x).2 6 x1))) := by
  have q0 := fun (y : XP) (v : Int) => s2_write1 (N := N) (i := i) (σ := σ) (x := y) 56 (by decide) v
  have q1 := fun (y : XP) (v : Int) => s2_write1 (N := N) (i := i) (σ := σ) (x := y) 57 (by decide) v
  have q2 := fun (y : XP) (v : Int) => s2_write1 (N := N) (i := i) (σ := σ) (x := y) 58 (by decide) v
  have q3 := fun (y : XP) (v : Int) => s2_write1 (N := N) (i := i) (σ := σ) (x := y) 59 (by decide) v
  have q4 := fun (y : XP) (v : Int) => s2_write1 (N := N) (i := i) (σ := σ) (x := y) 60 (by decide) v
  have q5 := fun (y : XP) (v : Int) => s2_write1 (N := N) (i := i) (σ := σ) (x := y) 61 (by decide) v
  have q6 := fun (y : XP) (v : Int) => s2_write1 (N := N) (i := i) (σ := σ) (x := y) 62 (by decide) v
  have q7 := fun (y : XP) (v : Int) => s2_write1 (N := N) (i := i) (σ := σ) (x := y) 63 (by decide) v
  simp only [Int.cast_ofNat_Int] at q0 q1 q2 q3 q4 q5 q6 q7
  obtain ⟨hs, hs2⟩ := sm_range hx h0
  unfold wfC
  generalize 165 + 2 * nx + 3 * x.2 2 + 4 * x.2 3 + 5 * x.2 4 + 6 * x.2 5 = sm at hs hs2 ⊢
  obtain ⟨t1, t2⟩ := sm_facts hs hs2
  clear hx h0 hs hs2
  have w1 : w32 (56 + 1) = 57 := rfl
  have w2 : w32 (56 + 2) = 58 := rfl
  have w3 : w32 (56 + 3) = 59 := rfl
  have w4 : w32 (56 + 4) = 60 := rfl
  have w5 : w32 (56 + 5) = 61 := rfl
  have w6 : w32 (56 + 6) = 62 := rfl
  have w7 : w32 (56 + 7) = 63 := rfl
  rw [eX2_writeFlags_59, q0, bnd_s, push_n, eX2_writeFlags_64, w1, q1, bnd_s, push_n, eX2_writeFlags_71, w2, q2, bnd_s, push_n, eX2_writeFlags_79, w3, q3, bnd_s, push_n, eX2_writeFlags_87, w4, q4, bnd_s, push_n, eX2_writeFlags_95, w5, q5, bnd_s, push_n,
    eX2_writeFlags_103, w6, t1, q6, bnd_s, push_n, eX2_writeFlags_112, w7, t2, q7, bnd_s, push_n, eX2_writeFlags_121, sup_row, row_putC6]
  simp only [putC_6, wrC_o, ne_eq, Nat.reduceEqDiff, not_false_eq_true, Nat.reduceAdd]
theorem s2_wf_tail64 (x1 nx : Int) (hx : OKF x.2) (h0 : 0 ≤ nx ∧ nx < 256) : ev N mX2_writeFlags 59 [vR 6 i, vI x1, vI nx, vI 64, vI (165 + 2 * nx + 3 * x.2 2 + 4 * x.2 3 + 5 * x.2 4 + 6 * x.2 5)] [] (P (putC σ i (wrC 64 8 255 x))) = some (none, P (putC σ i ((wfC 64 nx x).1, set (wfC 64 nx x).2 6 x1))) := by
  have q0 := fun (y : XP) (v : Int) => s2_write1 (N := N) (i := i) (σ := σ) (x := y) 64 (by decide) v
  have q1 := fun (y : XP) (v : Int) => s2_write1 (N := N) (i := i) (σ := σ) (x := y) 65 (by decide) v
  have q2 := fun (y : XP) (v : Int) => s2_write1 (N := N) (i := i) (σ := σ) (x := y) 66 (by decide) v
  have q3 := fun (y : XP) (v : Int) => s2_write1 (N := N) (i := i) (σ := σ) (x := y) 67 (by decide) v
  have q4 := fun (y : XP) (v : Int) => s2_write1 (N := N) (i := i) (σ := σ) (x := y) 68 (by decide) v
  have q5 := fun (y : XP) (v : Int) => s2_write1 (N := N) (i := i) (σ := σ) (x := y) 69 (by decide) v
  have q6 := fun (y : XP) (v : Int) => s2_write1 (N := N) (i := i) (σ := σ) (x := y) 70 (by decide) v
  have q7 := fun (y : XP) (v : Int) => s2_write1 (N := N) (i := i) (σ := σ) (x := y) 71 (by decide) v
  simp only [Int.cast_ofNat_Int] at q0 q1 q2 q3 q4 q5 q6 q7
  obtain ⟨hs, hs2⟩ := sm_range hx h0
  unfold wfC
  generalize 165 + 2 * nx + 3 * x.2 2 + 4 * x.2 3 + 5 * x.2 4 + 6 * x.2 5 = sm at hs hs2 ⊢
  obtain ⟨t1, t2⟩ := sm_facts hs hs2
  clear hx h0 hs hs2
  have w1 : w32 (64 + 1) = 65 := rfl
  have w2 : w32 (64 + 2) = 66 := rfl
  have w3 : w32 (64 + 3) = 67 := rfl
  have w4 : w32 (64 + 4) = 68 := rfl
  have w5 : w32 (64 + 5) = 69 := rfl
  have w6 : w32 (64 + 6) = 70 := rfl
  have w7 : w32 (64 + 7) = 71 := rfl
  rw [eX2_writeFlags_59, q0, bnd_s, push_n, eX2_writeFlags_64, w1, q1, bnd_s, push_n, eX2_writeFlags_71, w2, q2, bnd_s, push_n, eX2_writeFlags_79, w3, q3, bnd_s, push_n, eX2_writeFlags_87, w4, q4, bnd_s, push_n, eX2_writeFlags_95, w5, q5, bnd_s, push_n,
    eX2_writeFlags_103, w6, t1, q6, bnd_s, push_n, eX2_writeFlags_112, w7, t2, q7, bnd_s, push_n, eX2_writeFlags_121, sup_row, row_putC6]
  simp only [putC_6, wrC_o, ne_eq, Nat.reduceEqDiff, not_false_eq_true, Nat.reduceAdd]
theorem s2_writeFlags (hc : OKB x.1) (hx : OKF x.2) : inv N mX2_writeFlags [vR 6 i] (P (putC σ i x)) = some (none, P (putC σ i (writeFlagsC x))) := by
  have b57 := hc 57 (by omega) (by omega)
  have b65 := hc 65 (by omega) (by omega)
  have hx0 := hx
  obtain ⟨f2, f3, f4, f5, f6⟩ := hx
  have p56 := s2_write (N := N) (i := i) (σ := σ) (x := x) 56 8 (by omega) 255
  have p64 := s2_write (N := N) (i := i) (σ := σ) (x := x) 64 8 (by omega) 255
  simp only [Int.cast_ofNat_Int] at p56 p64
  have sq0 : inv N mX2_sequence [vR 6 i, vI 0] (P (putC σ i x)) = some (some (vI (x.1 57)), P (putC σ i x)) := by rw [s2_seq0, putC_7]
  have sq1 : inv N mX2_sequence [vR 6 i, vI 1] (P (putC σ i x)) = some (some (vI (x.1 65)), P (putC σ i x)) := by rw [s2_seq1, putC_7]
  have sm : ∀ nx : Int, 0 ≤ nx → nx < 256 → w32 (w32 (w32 (w32 (w32 (165 + w32 (2 * nx)) + w32 (3 * x.2 2)) + w32 (4 * x.2 3)) + w32 (5 * x.2 4)) + w32 (6 * x.2 5)) = 165 + 2 * nx + 3 * x.2 2 + 4 * x.2 3 + 5 * x.2 4 + 6 * x.2 5 := by
    intro nx n0 n1
    simp (disch := omega) only [w32i]
  have a1 : w32 (56 + w32 (1 * 8)) = 64 := rfl
  have a0 : w32 (56 + w32 (0 * 8)) = 56 := rfl
  unfold writeFlagsC
  rw [iX2_writeFlags, eX2_writeFlags_0, putC_6]
  rcases f6 with h | h | h
  · simp only [h, ↓reduceIte, Int.reduceEq, a0, sm 0 (by omega) (by omega), p56, bnd_s, push_n]
    exact s2_wf_tail56 0 0 hx0 (by omega)
  · simp only [h, ↓reduceIte, Int.reduceEq, Int.reduceNeg, sq0, bnd_s, push_s, eX2_writeFlags_17, putC_6, a1, p64, push_n]
    rw [w32i (x := x.1 57 + 1) (by omega) (by omega), bAnd_255, sm _ (by omega) (by omega)]
    exact s2_wf_tail64 1 _ hx0 (by omega)
  · simp only [h, ↓reduceIte, Int.reduceEq, Int.reduceNeg, sq1, bnd_s, push_s, eX2_writeFlags_17, putC_6, a0, p56, push_n]
    rw [w32i (x := x.1 65 + 1) (by omega) (by omega), bAnd_255, sm _ (by omega) (by omega)]
    exact s2_wf_tail56 0 _ hx0 (by omega)
end CLS
end
section
/-! THE CLASS: what writes keep; starts -/
theorem okc_page {c : Vec} {a n : Nat} {v : Int} (h : OKC c) (h1 : 56 ≤ a) (h2 : a + n ≤ 76) (h3 : 0 ≤ v ∧ v < 256) : OKC (fill c a n v) := by
  obtain ⟨c1, c2, c3, c4, c5⟩ := h
  refine ⟨fun j hj => ?_, fun j hj hj2 => ?_, ?_, ?_, ?_⟩
  · unfold fill
    rw [if_neg (by omega)]
    exact c1 j hj
  · unfold fill
    split
    · exact h3
    · exact c2 j hj hj2
  · unfold fill
    rw [if_neg (by omega)]
    exact c3
  · unfold fill
    rw [if_neg (by omega)]
    exact c4
  · unfold fill
    rw [if_neg (by omega)]
    exact c5
theorem okc_word {c : Vec} {a n : Nat} {v : Int} (h : OKC c) (h2 : a + n ≤ 56) (h3 : 0 ≤ v ∧ v < 2147483648) : OKC (fill c a n v) := by
  obtain ⟨c1, c2, c3, c4, c5⟩ := h
  refine ⟨fun j hj => ?_, fun j hj hj2 => ?_, ?_, ?_, ?_⟩
  · unfold fill
    split
    · exact h3
    · exact c1 j hj
  · unfold fill
    rw [if_neg (by omega)]
    exact c2 j hj hj2
  · unfold fill
    rw [if_neg (by omega)]
    exact c3
  · unfold fill
    rw [if_neg (by omega)]
    exact c4
  · unfold fill
    rw [if_neg (by omega)]
    exact c5
theorem okc_set {c : Vec} {a : Nat} {v : Int} (h : OKC c) (ha : 76 ≤ a) (h76 : a = 76 → 0 ≤ v ∧ v ≤ 31) (h77 : a = 77 → 0 ≤ v ∧ v < 64) (h78 : a = 78 → -1 ≤ v ∧ v ≤ 2) : OKC (set c a v) := by
  obtain ⟨c1, c2, c3, c4, c5⟩ := h
  refine ⟨fun j hj => ?_, fun j hj hj2 => ?_, ?_, ?_, ?_⟩
  · unfold set
    rw [if_neg (by omega)]
    exact c1 j hj
  · unfold set
    rw [if_neg (by omega)]
    exact c2 j hj hj2
  · unfold set
    split
    · exact h76 (by omega)
    · exact c3
  · unfold set
    split
    · exact h77 (by omega)
    · exact c4
  · unfold set
    split
    · exact h78 (by omega)
    · exact c5
theorem okc_hi {c : Vec} {a : Nat} {v : Int} (h : OKC c) (ha : 79 ≤ a) : OKC (set c a v) := okc_set h (by omega) (fun z => by omega) (fun z => by omega) (fun z => by omega)
theorem wrC_c {a n : Nat} {v : Int} {x : XP} (P : Vec → Prop) (h : P x.1) (h2 : P (fill x.1 a n v)) : P (wrC a n v x).1 := by
  unfold wrC
  split
  · exact h
  · exact h2
theorem wrC_at (a n : Nat) (v : Int) (x : XP) {j : Nat} (h : j < a ∨ a + n ≤ j) : (wrC a n v x).1 j = x.1 j := by
  unfold wrC
  split
  · rfl
  · show fill x.1 a n v j = x.1 j
    unfold fill
    rw [if_neg (by omega)]
theorem wrC_page {a n : Nat} {v : Int} {x : XP} (h : OKC x.1) (h1 : 56 ≤ a) (h2 : a + n ≤ 76) (h3 : 0 ≤ v ∧ v < 256) : OKC (wrC a n v x).1 := wrC_c OKC h (okc_page h h1 h2 h3)
theorem wrC_word {a n : Nat} {v : Int} {x : XP} (h : OKC x.1) (h2 : a + n ≤ 56) (h3 : 0 ≤ v ∧ v < 2147483648) : OKC (wrC a n v x).1 := wrC_c OKC h (okc_word h h2 h3)
theorem wrC_76 {v : Int} {x : XP} (h : OKC x.1) (h3 : 0 ≤ v ∧ v ≤ 31) : OKC (wrC 76 1 v x).1 := by
  refine wrC_c OKC h ?_
  rw [fill_1]
  exact okc_set h (by omega) (fun _ => h3) (fun z => by omega) (fun z => by omega)
theorem wrC_77 {v : Int} {x : XP} (h : OKC x.1) (h3 : 0 ≤ v ∧ v < 64) : OKC (wrC 77 1 v x).1 := by
  refine wrC_c OKC h ?_
  rw [fill_1]
  exact okc_set h (by omega) (fun z => by omega) (fun _ => h3) (fun z => by omega)
theorem okf_o {g g' : Vec} (h : OKF g) (h2 : ∀ j, j < 7 → g' j = g j) : OKF g' := by
  obtain ⟨f2, f3, f4, f5, f6⟩ := h
  unfold OKF
  rw [h2 2 (by omega), h2 3 (by omega), h2 4 (by omega), h2 5 (by omega), h2 6 (by omega)]
  exact ⟨f2, f3, f4, f5, f6⟩
theorem wrC_F {a n : Nat} {v : Int} {x : XP} (h : OKF x.2) : OKF (wrC a n v x).2 := okf_o h (fun j hj => wrC_o a n v x (by omega) (by omega))
/-- what a deed starts with and keeps -/
def OKX (x : XP) : Prop := OKC x.1 ∧ OKF x.2
theorem wfC_ok {b : Nat} (hb : b = 56 ∨ b = 64) {nx : Int} (hn : 0 ≤ nx ∧ nx < 256) {x : XP} (h : OKX x) : OKX (wfC b nx x) := by
  obtain ⟨hc, hf⟩ := h
  obtain ⟨r1, r2⟩ := sm_range hf hn
  have hf0 := hf
  obtain ⟨f2, f3, f4, f5, f6⟩ := hf0
  unfold wfC
  generalize 165 + 2 * nx + 3 * x.2 2 + 4 * x.2 3 + 5 * x.2 4 + 6 * x.2 5 = sm at r1 r2
  refine ⟨wrC_page (wrC_page (wrC_page (wrC_page (wrC_page (wrC_page (wrC_page (wrC_page (wrC_page hc ?_ ?_ ?_) ?_ ?_ ?_) ?_ ?_ ?_) ?_ ?_ ?_) ?_ ?_ ?_) ?_ ?_ ?_) ?_ ?_ ?_) ?_ ?_ ?_) ?_ ?_ ?_, wrC_F (wrC_F (wrC_F (wrC_F (wrC_F (wrC_F (wrC_F (wrC_F (wrC_F hf))))))))⟩ <;> omega
theorem wfC_at {b : Nat} (nx : Int) (x : XP) {j : Nat} (h : j < b ∨ b + 8 ≤ j) : (wfC b nx x).1 j = x.1 j := by
  unfold wfC
  simp (disch := omega) only [wrC_at]
theorem wfC_o {b : Nat} (nx : Int) (x : XP) {j : Nat} (h8 : j ≠ 8) (h9 : j ≠ 9) : (wfC b nx x).2 j = x.2 j := by
  unfold wfC
  simp only [wrC_o _ _ _ _ h8 h9]
theorem nxC_r {c : Vec} (hb : OKB c) (nw : Int) : 0 ≤ nxC c nw ∧ nxC c nw < 256 := by
  unfold nxC
  split
  · omega
  · split <;> omega
theorem writeFlagsC_ok {x : XP} (h : OKX x) : OKX (writeFlagsC x) := by
  unfold writeFlagsC
  split
  · obtain ⟨h1, h2⟩ := wfC_ok (Or.inr rfl) (nxC_r h.1.2.1 0) h
    refine ⟨h1, ?_⟩
    obtain ⟨f2, f3, f4, f5, f6⟩ := h2
    exact ⟨f2, f3, f4, f5, Or.inr (Or.inr rfl)⟩
  · obtain ⟨h1, h2⟩ := wfC_ok (Or.inl rfl) (nxC_r h.1.2.1 (x.2 6)) h
    refine ⟨h1, ?_⟩
    obtain ⟨f2, f3, f4, f5, f6⟩ := h2
    exact ⟨f2, f3, f4, f5, Or.inr (Or.inl rfl)⟩
/-- the pages alone are written -/
theorem writeFlagsC_at (x : XP) {j : Nat} (h : j < 56 ∨ 72 ≤ j) : (writeFlagsC x).1 j = x.1 j := by
  unfold writeFlagsC
  split
  · exact wfC_at _ _ (by omega)
  · exact wfC_at _ _ (by omega)
theorem writeFlagsC_o (x : XP) {j : Nat} (h6 : j ≠ 6) (h8 : j ≠ 8) (h9 : j ≠ 9) : (writeFlagsC x).2 j = x.2 j := by
  unfold writeFlagsC
  split
  · show set _ 6 1 j = _
    rw [set_ne _ _ h6, wfC_o _ _ h8 h9]
  · show set _ 6 0 j = _
    rw [set_ne _ _ h6, wfC_o _ _ h8 h9]
section CLS
variable {N i j : Nat} {σ : Sto} {x : XP}
theorem OKG_put (h : OKG σ j) : OKG (putC σ i x) j := by
  unfold OKG at h ⊢
  simp only [putC_o σ i x j (show 2 ≠ 6 by decide) (show 2 ≠ 7 by decide), putC_o σ i x j (show 3 ≠ 6 by decide) (show 3 ≠ 7 by decide), putC_o σ i x j (show 4 ≠ 6 by decide) (show 4 ≠ 7 by decide), putC_o σ i x j (show 5 ≠ 6 by decide) (show 5 ≠ 7 by decide)]
  exact h
/-- WHY by the bundle that machines know -/
abbrev whyS (σ : Sto) (c : Vec) (s : Nat) : Int := whyF (σ 2 1 0) (σ 3 1) (σ 4 1) c s
theorem put2 : putC σ i x 2 1 = σ 2 1 := putC_o σ i x 1 (by decide) (by decide)
theorem put3 : putC σ i x 3 1 = σ 3 1 := putC_o σ i x 1 (by decide) (by decide)
theorem put4 : putC σ i x 4 1 = σ 4 1 := putC_o σ i x 1 (by decide) (by decide)
theorem put5 : putC σ i x 5 1 = σ 5 1 := putC_o σ i x 1 (by decide) (by decide)
theorem p2_reason (s : Nat) (hs : s < 4) (hg : OKG σ 1) (hc : OKC x.1) : inv N mX2_reasonAgainst [vR 6 i, vI (s : Int)] (P (putC σ i x)) = some (some (vI (whyS σ x.1 s)), P (putC σ i x)) := by
  have h := s2_reason (N := N) (i := i) (σ := putC σ i x) s hs (OKG_put hg) (by rw [putC_7]; exact hc)
  rw [putC_7, put2, put3, put4] at h
  exact h
theorem p2_version (s : Nat) (hs : s < 4) (hc : OKC x.1) : inv N mX2_version [vR 6 i, vI (s : Int)] (P (putC σ i x)) = some (some (vI (x.1 (14 * s) - 1)), P (putC σ i x)) := by
  have h := s2_version (N := N) (i := i) (σ := putC σ i x) s hs (by rw [putC_7]; exact hc.1)
  rw [putC_7] at h
  exact h
theorem p2_cell (k : Int) (h0 : 0 ≤ k) (h1 : k < 107) : inv N mX2_cell [vR 6 i, vI k] (P (putC σ i x)) = some (some (vI (x.1 k.toNat)), P (putC σ i x)) := by
  rw [s2_cell k h0 h1, putC_7]
theorem p2_setCell (k v : Int) (h0 : 0 ≤ k) (h1 : k < 107) : inv N mX2_setCell [vR 6 i, vI k, vI v] (P (putC σ i x)) = some (none, P (putC σ i (set x.1 k.toNat v, x.2))) := by
  rw [s2_setCell k v h0 h1, putC_7, row_putC7]
theorem p2_slotFlags (k : Int) : inv N mX2_slotFlags [vR 6 i, vI k] (P (putC σ i x)) = some (some (vI (if k = 0 then x.2 2 else x.2 3)), P (putC σ i x)) := by
  rw [s2_slotFlags, putC_6]
theorem p2_setSlotFlags (k v : Int) : inv N mX2_setSlotFlags [vR 6 i, vI k, vI v] (P (putC σ i x)) = some (none, P (putC σ i (x.1, set x.2 (if k = 0 then 2 else 3) v))) := by
  rw [s2_setSlotFlags, putC_6, row_putC6]
theorem p2_writeFlags (h : OKX x) : inv N mX2_writeFlags [vR 6 i] (P (putC σ i x)) = some (none, P (putC σ i (writeFlagsC x))) := s2_writeFlags h.1.2.1 h.2
def standF (v : Int) : Int := if v % 16 = 0 then 0 else v / 16
def chosenC (g : Vec) : Int := if standF (g 2) = 0 ∧ standF (g 3) = 0 then -1 else if standF (g 2) < standF (g 3) then 1 else 0
theorem s2_standing (v : Int) (h0 : 0 ≤ v) (h1 : v < 256) : inv N mX2_standing [vI v] (P σ) = some (some (vI (standF v)), P σ) := by
  have e := shr32_div h0 (by omega) 4 (by omega)
  rw [iX2_standing, eX2_standing_0, bAnd_15]
  unfold standF
  split
  · rfl
  · rw [show ((4 : Nat) : Int) = 4 from rfl] at e
    rw [e]
    rfl
theorem p2_chosen (hf : OKF x.2) : inv N mX2_chosenSlot [vR 6 i] (P (putC σ i x)) = some (some (vI (chosenC x.2)), P (putC σ i x)) := by
  obtain ⟨f2, f3, -⟩ := hf
  rw [iX2_chosenSlot, eX2_chosenSlot_0, putC_6, s2_standing _ f2.1 f2.2, bnd_s, push_s, eX2_chosenSlot_3, putC_6, s2_standing _ f3.1 f3.2, bnd_s, push_s, eX2_chosenSlot_7]
  unfold chosenC
  generalize standF (x.2 2) = p
  generalize standF (x.2 3) = q
  by_cases h1 : p = 0
  · rw [if_pos h1]
    by_cases h2 : q = 0
    · rw [if_pos h2, if_pos (show p = 0 ∧ q = 0 from ⟨h1, h2⟩)]
    · rw [if_neg h2, if_neg (show ¬ (p = 0 ∧ q = 0) from fun z => h2 z.2)]
      by_cases h3 : p < q
      · rw [if_pos h3, if_pos h3]
      · rw [if_neg h3, if_neg h3]
  · rw [if_neg h1, if_neg (show ¬ (p = 0 ∧ q = 0) from fun z => h1 z.1)]
    by_cases h3 : p < q
    · rw [if_pos h3, if_pos h3]
    · rw [if_neg h3, if_neg h3]
theorem standF_0 {v : Int} (h : 0 ≤ v) : 0 ≤ standF v ∧ (v % 16 = 0 → standF v = 0) := by
  unfold standF
  split
  · exact ⟨by omega, fun _ => rfl⟩
  · exact ⟨by omega, fun z => by omega⟩
theorem chosenC_c {g : Vec} (h : OKF g) : chosenC g = -1 ∨ (chosenC g = 0 ∧ ¬ g 2 % 16 = 0) ∨ (chosenC g = 1 ∧ ¬ g 3 % 16 = 0) := by
  obtain ⟨f2, f3, -⟩ := h
  obtain ⟨a1, a2⟩ := standF_0 f2.1
  obtain ⟨b1, b2⟩ := standF_0 f3.1
  unfold chosenC
  generalize standF (g 2) = p at a1 a2
  generalize standF (g 3) = q at b1 b2
  by_cases h1 : p = 0 ∧ q = 0
  · rw [if_pos h1]
    exact Or.inl rfl
  · rw [if_neg h1]
    by_cases h2 : p < q
    · rw [if_pos h2]
      exact Or.inr (Or.inr ⟨rfl, fun z => by have := b2 z; omega⟩)
    · rw [if_neg h2]
      exact Or.inr (Or.inl ⟨rfl, fun z => by have := a2 z; omega⟩)
def countTryC (s : Nat) (x : XP) : XP := (x.1, set (set (if x.2 (2 + s) % 2 = 0 then set x.2 (2 + s) (x.2 (2 + s) - 2) else x.2) 4 (min (x.2 4 + 1) 255)) 5 (s : Int))
theorem p2_countTry (s : Nat) (hs : s < 2) (hf : OKF x.2) : inv N mX2_countTry [vR 6 i, vI (s : Int)] (P (putC σ i x)) = some (none, P (putC σ i (countTryC s x))) := by
  obtain ⟨f2, f3, f4, f5, f6⟩ := hf
  have w4 : w32 (x.2 4 + 1) = x.2 4 + 1 := w32i (by omega) (by omega)
  rw [iX2_countTry, eX2_countTry_0, p2_slotFlags, bnd_s, push_s, eX2_countTry_3]
  unfold countTryC
  rcases (show s = 0 ∨ s = 1 by omega) with rfl | rfl
  · simp only [Int.cast_ofNat_Int, ↓reduceIte, bAnd_1, Nat.add_zero]
    by_cases h : x.2 2 % 2 = 0
    · simp only [h, ↓reduceIte, p2_setSlotFlags, bnd_s, push_n, eX2_countTry_14, w32i (x := x.2 2 - 2) (by omega) (by omega), sup_row, row_putC6, putC_6, set_at, Nat.reduceEqDiff, w4]
    · simp only [h, ↓reduceIte, eX2_countTry_14, sup_row, row_putC6, putC_6, w4]
  · simp only [Int.cast_ofNat_Int, Int.reduceEq, ↓reduceIte, bAnd_1, Nat.reduceAdd]
    by_cases h : x.2 3 % 2 = 0
    · simp only [h, ↓reduceIte, Int.reduceEq, p2_setSlotFlags, bnd_s, push_n, eX2_countTry_14, w32i (x := x.2 3 - 2) (by omega) (by omega), sup_row, row_putC6, putC_6, set_at, Nat.reduceEqDiff, w4]
    · simp only [h, ↓reduceIte, eX2_countTry_14, sup_row, row_putC6, putC_6, w4]
theorem okf_set {g : Vec} (h : OKF g) {k : Nat} {v : Int} (h2 : k < 6 → 0 ≤ v ∧ v < 256) (h6 : k ≠ 6) : OKF (set g k v) := by
  obtain ⟨f2, f3, f4, f5, f6⟩ := h
  unfold OKF set
  refine ⟨?_, ?_, ?_, ?_, ?_⟩
  · split
    · exact h2 (by omega)
    · exact f2
  · split
    · exact h2 (by omega)
    · exact f3
  · split
    · exact h2 (by omega)
    · exact f4
  · split
    · exact h2 (by omega)
    · exact f5
  · rw [if_neg (by omega)]
    exact f6
theorem countTryC_ok (s : Nat) (hs : s < 2) (h : OKX x) (hr : ¬ x.2 (2 + s) % 16 = 0) : OKX (countTryC s x) := by
  obtain ⟨hc, hf⟩ := h
  have hf0 := hf
  obtain ⟨f2, f3, f4, f5, f6⟩ := hf0
  refine ⟨hc, ?_⟩
  have h9 : 0 ≤ x.2 (2 + s) ∧ x.2 (2 + s) < 256 := by
    rcases (show s = 0 ∨ s = 1 by omega) with rfl | rfl
    · exact f2
    · exact f3
  refine okf_set (okf_set ?_ (fun _ => ?_) (by omega)) (fun _ => by omega) (by omega)
  · split
    · exact okf_set hf (fun _ => by omega) (by omega)
    · exact hf
  · omega
/-- a start is noted: what, and its version -/
def noteStartC (what ver : Int) (x : XP) : XP := if x.2 9 = 0 then (set (set (set (set (set (set x.1 (83 + 2 * (x.1 82 % 12).toNat) what) (83 + 2 * (x.1 82 % 12).toNat + 1) ver) 82 (x.1 82 + 1)) 78 what) 79 0) 80 0, x.2) else x
theorem p2_noteStart (what ver : Int) (h0 : 0 ≤ x.1 82) (h1 : x.1 82 < 2147483647) : inv N mX2_noteStart [vR 6 i, vI what, vI ver] (P (putC σ i x)) = some (none, P (putC σ i (noteStartC what ver x))) := by
  have t : (x.1 82).tmod 12 = x.1 82 % 12 := Int.tmod_eq_emod_of_nonneg h0
  rw [iX2_noteStart, eX2_noteStart_0, putC_6]
  unfold noteStartC
  by_cases h : x.2 9 = 0
  case neg => rw [if_neg h, if_neg h]
  rw [if_pos h, if_pos h, p2_cell _ (by omega) (by omega), bnd_s, push_s, eX2_noteStart_7, show (82 : Int).toNat = 82 from rfl, t]
  have e1 : (83 + 2 * (x.1 82 % 12)).toNat = 83 + 2 * (x.1 82 % 12).toNat := by omega
  have e2 : (83 + 2 * (x.1 82 % 12) + 1).toNat = 83 + 2 * (x.1 82 % 12).toNat + 1 := by omega
  simp (disch := omega) only [w32i, p2_setCell, bnd_s, push_n, eX2_noteStart_20, eX2_noteStart_26, eX2_noteStart_32, eX2_noteStart_36, eX2_noteStart_40, eX2_noteStart_44, e1, e2, Int.reduceToNat]
theorem noteStartC_ok {what ver : Int} (h : OKX x) (hw : -1 ≤ what ∧ what ≤ 2) : OKX (noteStartC what ver x) := by
  unfold noteStartC
  split
  · exact ⟨okc_hi (okc_hi (okc_set (okc_hi (okc_hi (okc_hi h.1 (by omega)) (by omega)) (by omega)) (by omega) (fun z => by omega) (fun z => by omega) (fun _ => hw)) (by omega)) (by omega), h.2⟩
  · exact h
/-- the slot that starts: its turns -/
def startL (W : Vec → Nat → Int) : Nat → XP → Int × XP
  | 0, x => (-1, x)
  | m + 1, x => if chosenC x.2 = -1 then (-1, x) else if W x.1 (chosenC x.2).toNat = 0 then (chosenC x.2, noteStartC (chosenC x.2) ((writeFlagsC (countTryC (chosenC x.2).toNat x)).1 (14 * (chosenC x.2).toNat) - 1) (writeFlagsC (countTryC (chosenC x.2).toNat x))) else startL W m (writeFlagsC (x.1, set x.2 (2 + (chosenC x.2).toNat) 0))
theorem s2_start_loop (hg : OKG σ 1) (x1 : Int) : ∀ (m : Nat) (x : XP) (t : Int) (x3 : MV), t = 2 - (m : Int) → m ≤ 2 → OKX x → 0 ≤ x.1 82 → x.1 82 < 2147483647 → ev N mX2_startSlot 12 [vR 6 i, vI x1, vI t, x3] [] (P (putC σ i x)) = some (some (vI (startL (whyS σ) m x).1), P (putC σ i (startL (whyS σ) m x).2)) := by
  intro m
  induction m with
  | zero =>
    intro x t x3 ht hm hx s0 s1
    rw [eX2_startSlot_12, if_neg (by omega)]
    rfl
  | succ m ih =>
    intro x t x3 ht hm hx s0 s1
    rw [eX2_startSlot_12, if_pos (by omega), p2_chosen hx.2, bnd_s, push_s, eX2_startSlot_17]
    unfold startL
    by_cases h1 : chosenC x.2 = -1
    · rw [if_pos h1, if_pos h1]
    rw [if_neg h1, if_neg h1]
    obtain ⟨s, hs, hcs, hr⟩ : ∃ s : Nat, s < 2 ∧ chosenC x.2 = (s : Int) ∧ ¬ x.2 (2 + s) % 16 = 0 := by
      rcases chosenC_c hx.2 with h | ⟨h, h2⟩ | ⟨h, h2⟩
      · exact absurd h h1
      · exact ⟨0, by omega, h, h2⟩
      · exact ⟨1, by omega, h, h2⟩
    rw [hcs, Int.toNat_natCast, p2_reason s (by omega) hg hx.1, bnd_s, push_s, eX2_startSlot_26]
    by_cases h2 : whyS σ x.1 s = 0
    · have hx1 := countTryC_ok s hs hx hr
      have hx2 := writeFlagsC_ok hx1
      have e82 : (writeFlagsC (countTryC s x)).1 82 = x.1 82 := writeFlagsC_at _ (Or.inr (by omega))
      rw [if_pos h2, if_pos h2, p2_countTry s hs hx.2, bnd_s, push_n, eX2_startSlot_30, p2_writeFlags hx1, bnd_s, push_n, eX2_startSlot_32, p2_version s (by omega) hx2.1, bnd_s, push_s, eX2_startSlot_37, p2_noteStart _ _ (by rw [e82]; exact s0) (by rw [e82]; exact s1), bnd_s, push_n, eX2_startSlot_38]
    · have hx1 : OKX (x.1, set x.2 (2 + s) 0) := ⟨hx.1, okf_set hx.2 (fun _ => by omega) (by omega)⟩
      have e82 : (writeFlagsC (x.1, set x.2 (2 + s) 0)).1 82 = x.1 82 := writeFlagsC_at _ (Or.inr (by omega))
      have e2 : (if (s : Int) = 0 then 2 else 3) = 2 + s := by
        rcases (show s = 0 ∨ s = 1 by omega) with rfl | rfl <;> rfl
      rw [if_neg h2, if_neg h2, p2_setSlotFlags, e2, bnd_s, push_n, eX2_startSlot_44, p2_writeFlags hx1, bnd_s, push_n, eX2_startSlot_46, w32i (by omega) (by omega)]
      exact ih _ _ _ (by omega) (by omega) (writeFlagsC_ok hx1) (by rw [e82]; exact s0) (by rw [e82]; exact s1)
def startSlotC (W : Vec → Nat → Int) (lim button : Int) (x : XP) : Int × XP := if button = 0 ∧ x.2 4 < lim then startL W 2 x else (-1, x)
theorem p2_startSlot (hg : OKG σ 1) (button : Int) (hx : OKX x) (s0 : 0 ≤ x.1 82) (s1 : x.1 82 < 2147483647) : inv N mX2_startSlot [vR 6 i, vI button] (P (putC σ i x)) = some (some (vI (startSlotC (whyS σ) (σ 2 1 2) button x).1), P (putC σ i (startSlotC (whyS σ) (σ 2 1 2) button x).2)) := by
  rw [iX2_startSlot, eX2_startSlot_0, putC_6, put2]
  unfold startSlotC
  by_cases h1 : button = 0
  · rw [if_pos h1]
    by_cases h2 : x.2 4 < σ 2 1 2
    · rw [if_pos h2, if_pos ⟨h1, h2⟩]
      exact s2_start_loop hg button 2 x 0 vX rfl (by omega) hx s0 s1
    · rw [if_neg h2, if_neg (fun z => h2 z.2)]
  · rw [if_neg h1, if_neg (fun z => h1 z.1)]
def startRecoveryC (cp : Int) (x : XP) : Int × XP := if cp = -1 then (3, x) else (2, noteStartC 2 ((writeFlagsC (x.1, set x.2 5 2)).1 (14 * cp.toNat) - 1) (writeFlagsC (x.1, set x.2 5 2)))
theorem p2_startRecovery (cp : Int) (hcp : cp = -1 ∨ cp = 2 ∨ cp = 3) (hx : OKX x) (s0 : 0 ≤ x.1 82) (s1 : x.1 82 < 2147483647) : inv N mX2_startRecovery [vR 6 i, vI cp] (P (putC σ i x)) = some (some (vI (startRecoveryC cp x).1), P (putC σ i (startRecoveryC cp x).2)) := by
  have hx1 : OKX (x.1, set x.2 5 2) := ⟨hx.1, okf_set hx.2 (fun _ => by omega) (by omega)⟩
  have hx2 := writeFlagsC_ok hx1
  have e82 : (writeFlagsC (x.1, set x.2 5 2)).1 82 = x.1 82 := writeFlagsC_at _ (Or.inr (by omega))
  unfold startRecoveryC
  by_cases h1 : cp = -1
  · rw [if_pos h1, h1]
    simp (disch := omega) only [iX2_startRecovery, eX2_startRecovery_0, eX2_startRecovery_10, eX2_startRecovery_15, eX2_startRecovery_16, bnd_s, bnd_n, push_s, push_n, w32i, ↓if_pos, ↓if_neg, Int.reduceAdd, Int.reduceMul, Int.reduceSub, Int.reduceToNat, Int.reduceNeg, Nat.reduceAdd, Nat.reduceMul, sup_row, row_same, row_row]
  · obtain ⟨s, hs, rfl⟩ : ∃ s : Nat, s < 4 ∧ cp = (s : Int) := by
      rcases hcp with h | h | h
      · exact absurd h h1
      · exact ⟨2, by omega, h⟩
      · exact ⟨3, by omega, h⟩
    have v := p2_version (N := N) (i := i) (σ := σ) s hs hx2.1
    have n := p2_noteStart (N := N) (i := i) (σ := σ) (x := writeFlagsC (x.1, set x.2 5 2)) 2 ((writeFlagsC (x.1, set x.2 5 2)).1 (14 * s) - 1) (by rw [e82]; exact s0) (by rw [e82]; exact s1)
    rw [if_neg h1, Int.toNat_natCast]
    simp only [iX2_startRecovery, eX2_startRecovery_0, eX2_startRecovery_10, eX2_startRecovery_15, eX2_startRecovery_16, h1, ↓reduceIte, sup_row, row_putC6, putC_6, p2_writeFlags hx1, v, n, bnd_s, push_s, push_n]
end CLS
end
section
/-! THE CLASS: the deeds -/
theorem ok82 {x : XP} {what ver : Int} : (noteStartC what ver x).1 82 = if x.2 9 = 0 then x.1 82 + 1 else x.1 82 := by
  unfold noteStartC
  split
  · simp (disch := omega) only [set_at, Nat.reduceEqDiff, ↓reduceIte]
  · rfl
theorem noteStartC_le {x : XP} {what ver : Int} : x.1 82 ≤ (noteStartC what ver x).1 82 ∧ (noteStartC what ver x).1 82 ≤ x.1 82 + 1 := by
  rw [ok82]
  split <;> omega
theorem setFl_ok {s : Nat} {v : Int} {x : XP} (h : OKX x) (hv : 0 ≤ v ∧ v < 256) (hs : s < 2) : OKX (x.1, set x.2 (2 + s) v) := ⟨h.1, okf_set h.2 (fun _ => hv) (by omega)⟩
theorem startL_ok (W : Vec → Nat → Int) : ∀ (m : Nat) (x : XP), OKX x → OKX (startL W m x).2 ∧ x.1 82 ≤ (startL W m x).2.1 82 ∧ (startL W m x).2.1 82 ≤ x.1 82 + 1 ∧ ((startL W m x).1 = -1 → (startL W m x).2.1 82 = x.1 82) ∧ ((startL W m x).1 = -1 ∨ (startL W m x).1 = 0 ∨ (startL W m x).1 = 1) := by
  intro m
  induction m with
  | zero =>
    intro x hx
    unfold startL
    exact ⟨hx, Int.le_refl _, Int.le_add_one (Int.le_refl _), fun _ => rfl, Or.inl rfl⟩
  | succ m ih =>
    intro x hx
    unfold startL
    by_cases h1 : chosenC x.2 = -1
    · rw [if_pos h1]
      exact ⟨hx, Int.le_refl _, Int.le_add_one (Int.le_refl _), fun _ => rfl, Or.inl rfl⟩
    rw [if_neg h1]
    obtain ⟨s, hs, hcs, hr⟩ : ∃ s : Nat, s < 2 ∧ chosenC x.2 = (s : Int) ∧ ¬ x.2 (2 + s) % 16 = 0 := by
      rcases chosenC_c hx.2 with h | ⟨h, h2⟩ | ⟨h, h2⟩
      · exact absurd h h1
      · exact ⟨0, by omega, h, h2⟩
      · exact ⟨1, by omega, h, h2⟩
    rw [hcs, Int.toNat_natCast]
    by_cases h2 : W x.1 s = 0
    · rw [if_pos h2]
      have hx1 := countTryC_ok s hs hx hr
      have hx2 := writeFlagsC_ok hx1
      have e82 : (writeFlagsC (countTryC s x)).1 82 = x.1 82 := writeFlagsC_at _ (Or.inr (by omega))
      have h9 := noteStartC_le (x := writeFlagsC (countTryC s x)) (what := (s : Int)) (ver := (writeFlagsC (countTryC s x)).1 (14 * s) - 1)
      rw [e82] at h9
      exact ⟨noteStartC_ok hx2 (by omega), h9.1, h9.2, fun z => by dsimp only at z; omega, Or.inr (by dsimp only; omega)⟩
    · rw [if_neg h2]
      have hx1 := setFl_ok (s := s) (v := 0) hx (by omega) hs
      have e82 : (writeFlagsC (x.1, set x.2 (2 + s) 0)).1 82 = x.1 82 := writeFlagsC_at _ (Or.inr (by omega))
      have := ih _ (writeFlagsC_ok hx1)
      rw [e82] at this
      exact this
theorem startSlotC_ok (W : Vec → Nat → Int) (lim button : Int) {x : XP} (hx : OKX x) : OKX (startSlotC W lim button x).2 ∧ x.1 82 ≤ (startSlotC W lim button x).2.1 82 ∧ (startSlotC W lim button x).2.1 82 ≤ x.1 82 + 1 ∧ ((startSlotC W lim button x).1 = -1 → (startSlotC W lim button x).2.1 82 = x.1 82) ∧ ((startSlotC W lim button x).1 = -1 ∨ (startSlotC W lim button x).1 = 0 ∨ (startSlotC W lim button x).1 = 1) := by
  unfold startSlotC
  split
  · exact startL_ok W 2 x hx
  · exact ⟨hx, Int.le_refl _, Int.le_add_one (Int.le_refl _), fun _ => rfl, Or.inl rfl⟩
theorem startRecoveryC_ok (cp : Int) {x : XP} (hx : OKX x) : OKX (startRecoveryC cp x).2 ∧ x.1 82 ≤ (startRecoveryC cp x).2.1 82 ∧ (startRecoveryC cp x).2.1 82 ≤ x.1 82 + 1 := by
  unfold startRecoveryC
  split
  · exact ⟨hx, Int.le_refl _, Int.le_add_one (Int.le_refl _)⟩
  · have hx1 : OKX (x.1, set x.2 5 2) := ⟨hx.1, okf_set hx.2 (fun _ => by omega) (by omega)⟩
    have hx2 := writeFlagsC_ok hx1
    have e82 : (writeFlagsC (x.1, set x.2 5 2)).1 82 = x.1 82 := writeFlagsC_at _ (Or.inr (by omega))
    have h9 := noteStartC_le (x := writeFlagsC (x.1, set x.2 5 2)) (what := 2) (ver := (writeFlagsC (x.1, set x.2 5 2)).1 (14 * cp.toNat) - 1)
    rw [e82] at h9
    exact ⟨noteStartC_ok hx2 (by omega), h9.1, h9.2⟩
theorem copyF_c (ks : Int) (sec und c : Vec) : copyF ks sec und c = -1 ∨ copyF ks sec und c = 2 ∨ copyF ks sec und c = 3 := by
  unfold copyF
  (repeat' split) <;> simp
/-- a deed begins: no write yet, the flags are read -/
def readFlC (x : XP) : XP := (x.1, set (set (set (set (set x.2 6 (newestF x.1)) 2 (flagF x.1 0)) 3 (flagF x.1 1)) 4 (flagF x.1 2)) 5 (flagF x.1 3))
def beginC (cut : Int) (x : XP) : XP := readFlC (x.1, set (set (set x.2 7 cut) 8 0) 9 0)
def endC (ans : Int) (x : XP) : Int × XP := if x.2 9 = 0 then (ans, (set x.1 81 (x.2 8), x.2)) else (-2, (set (set x.1 81 (x.2 8)) 78 (-1), x.2))
theorem flagF_r {c : Vec} (h : OKB c) (k : Nat) (hk : k < 4) : 0 ≤ flagF c k ∧ flagF c k < 256 := by
  unfold flagF
  split
  · split <;> omega
  · split
    · exact h _ (by omega) (by omega)
    · exact h _ (by omega) (by omega)
theorem readFlC_ok {x : XP} (h : OKC x.1) : OKX (readFlC x) := by
  have f0 := flagF_r h.2.1 0 (by omega)
  have f1 := flagF_r h.2.1 1 (by omega)
  have f2 := flagF_r h.2.1 2 (by omega)
  have f3 := flagF_r h.2.1 3 (by omega)
  have n := newest_c x.1
  refine ⟨h, ?_⟩
  unfold readFlC OKF
  simp (disch := omega) only [set_at, Nat.reduceEqDiff, ↓reduceIte]
  exact ⟨f0, f1, f2, f3, n⟩
theorem beginC_ok {x : XP} (cut : Int) (h : OKC x.1) : OKX (beginC cut x) := readFlC_ok (x := (x.1, _)) h
theorem endC_ok {x : XP} (ans : Int) (h : OKX x) : OKX (endC ans x).2 ∧ (endC ans x).2.1 82 = x.1 82 := by
  unfold endC
  split
  · refine ⟨⟨okc_hi h.1 (by omega), h.2⟩, ?_⟩
    show set x.1 81 (x.2 8) 82 = _
    rw [set_ne _ _ (by omega)]
  · refine ⟨⟨okc_set (okc_hi h.1 (by omega)) (by omega) (fun z => by omega) (fun z => by omega) (fun _ => by omega), h.2⟩, ?_⟩
    show set (set x.1 81 (x.2 8)) 78 (-1) 82 = _
    rw [set_ne _ _ (by omega), set_ne _ _ (by omega)]
section CLS
variable {N i j : Nat} {σ : Sto} {x : XP}
theorem p2_readFlags (h : OKC x.1) : inv N mX2_readFlags [vR 6 i] (P (putC σ i x)) = some (none, P (putC σ i (readFlC x))) := by
  rw [s2_readFlags (by rw [putC_7]; exact h.2.1), putC_7, putC_6, row_putC6]
  rfl
theorem p2_turnOff : inv N mX2_turnOff [vR 6 i] (P (putC σ i x)) = some (none, P (putC σ i (set x.1 78 (-1), x.2))) := by
  rw [s2_turnOff, putC_7, row_putC7]
theorem p2_recoveryCopy (hg : OKG σ 1) (hc : OKC x.1) : inv N mX2_recoveryCopy [vR 6 i] (P (putC σ i x)) = some (some (vI (copyF (σ 2 1 0) (σ 3 1) (σ 4 1) x.1)), P (putC σ i x)) := by
  have h := s2_recoveryCopy (N := N) (i := i) (σ := putC σ i x) (OKG_put hg) (by rw [putC_7]; exact hc)
  rw [putC_7, put2, put3, put4] at h
  exact h
/-- the tail that all deeds share -/
theorem s2_end (x1 x2 x3 x4 x5 : Int) : ev N mX2_perform 87 [vR 6 i, vI x1, vI x2, vI x3, vI x4, vI x5] [] (P (putC σ i (set x.1 81 (x.2 8), x.2))) = some (some (vI (endC x5 x).1), P (putC σ i (endC x5 x).2)) := by
  rw [eX2_perform_87, putC_6]
  unfold endC
  by_cases h : x.2 9 = 0
  · rw [if_pos h, if_pos h]
  · rw [if_neg h, if_neg h, p2_turnOff, bnd_s, push_n, eX2_perform_92]
theorem p2_begin (x1 x2 x3 cut : Int) (h : OKC x.1) : inv N mX2_perform [vR 6 i, vI x1, vI x2, vI x3, vI cut] (P (putC σ i x)) = ev N mX2_perform 11 [vR 6 i, vI x1, vI x2, vI x3, vI cut, vX] [] (P (putC σ i (beginC cut x))) := by
  rw [iX2_perform, eX2_perform_0]
  simp only [sup_row, row_putC6, putC_6]
  rw [p2_readFlags (by exact h), bnd_s, push_n]
  rfl
/-- BOOT -/
def bootC (σ : Sto) (a cut : Int) (x : XP) : Int × XP :=
  if (startSlotC (whyS σ) (σ 2 1 2) (if a = 1 then 1 else 0) (beginC cut x)).1 = -1
  then endC (startRecoveryC (copyF (σ 2 1 0) (σ 3 1) (σ 4 1) (startSlotC (whyS σ) (σ 2 1 2) (if a = 1 then 1 else 0) (beginC cut x)).2.1) (startSlotC (whyS σ) (σ 2 1 2) (if a = 1 then 1 else 0) (beginC cut x)).2).1 (startRecoveryC (copyF (σ 2 1 0) (σ 3 1) (σ 4 1) (startSlotC (whyS σ) (σ 2 1 2) (if a = 1 then 1 else 0) (beginC cut x)).2.1) (startSlotC (whyS σ) (σ 2 1 2) (if a = 1 then 1 else 0) (beginC cut x)).2).2
  else endC (startSlotC (whyS σ) (σ 2 1 2) (if a = 1 then 1 else 0) (beginC cut x)).1 (startSlotC (whyS σ) (σ 2 1 2) (if a = 1 then 1 else 0) (beginC cut x)).2
theorem p2_boot (hg : OKG σ 1) (hc : OKC x.1) (s0 : 0 ≤ x.1 82) (s1 : x.1 82 < 2147483647) (a b cut : Int) : inv N mX2_perform [vR 6 i, vI 0, vI a, vI b, vI cut] (P (putC σ i x)) = some (some (vI (bootC σ a cut x).1), P (putC σ i (bootC σ a cut x).2)) := by
  have hx := beginC_ok cut hc
  have hs := p2_startSlot (N := N) (i := i) (σ := σ) (x := beginC cut x) hg (if a = 1 then 1 else 0) hx s0 s1
  have hok := startSlotC_ok (whyS σ) (σ 2 1 2) (if a = 1 then 1 else 0) hx
  rw [p2_begin _ _ _ _ hc, eX2_perform_11, if_pos rfl]
  have e1 : (if a = 1 then bnd (inv N mX2_startSlot [vR 6 i, vI 1] (P (putC σ i (beginC cut x)))) (fun r S2 => ev N mX2_perform 23 [vR 6 i, vI 0, vI a, vI b, vI cut, vI (-1)] (push r []) S2) else bnd (inv N mX2_startSlot [vR 6 i, vI 0] (P (putC σ i (beginC cut x)))) (fun r S2 => ev N mX2_perform 23 [vR 6 i, vI 0, vI a, vI b, vI cut, vI (-1)] (push r []) S2)) = bnd (inv N mX2_startSlot [vR 6 i, vI (if a = 1 then 1 else 0)] (P (putC σ i (beginC cut x)))) (fun r S2 => ev N mX2_perform 23 [vR 6 i, vI 0, vI a, vI b, vI cut, vI (-1)] (push r []) S2) := by
    split <;> rfl
  rw [e1, hs, bnd_s, push_s, eX2_perform_23]
  unfold bootC
  have s01 : 0 ≤ (beginC cut x).1 82 := s0
  have s11 : (beginC cut x).1 82 < 2147483647 := s1
  generalize startSlotC (whyS σ) (σ 2 1 2) (if a = 1 then 1 else 0) (beginC cut x) = r at hok
  generalize beginC cut x = x0 at hok s01 s11
  obtain ⟨h1, h2, h3, h4, h5⟩ := hok
  by_cases h : r.1 = -1
  · have e82 := h4 h
    have hrc := p2_startRecovery (N := N) (i := i) (σ := σ) (x := r.2) (copyF (σ 2 1 0) (σ 3 1) (σ 4 1) r.2.1) (copyF_c _ _ _ _) h1 (by omega) (by omega)
    rw [if_pos h, if_pos h, p2_recoveryCopy hg h1.1, bnd_s, push_s, eX2_perform_30, hrc, bnd_s, push_s, eX2_perform_31, putC_6, p2_setCell _ _ (by omega) (by omega), bnd_s, push_n]
    exact s2_end _ _ _ _ _
  · rw [if_neg h, if_neg h, putC_6, p2_setCell _ _ (by omega) (by omega), bnd_s, push_n]
    exact s2_end _ _ _ _ _
end CLS
end
section
/-! THE CLASS: the other deeds -/
theorem bit_zero {a : Int} (h0 : 0 ≤ a) (h1 : a < 2147483648) (k : Nat) (hk : k < 31) : bAnd a (shl32 1 (k : Int)) = 0 ↔ a / ((2 ^ k : Nat) : Int) % 2 = 0 := by
  obtain ⟨n, rfl⟩ := Int.eq_ofNat_of_zero_le h0
  have hp0 : 0 < 2 ^ k := Nat.pow_pos (by omega)
  rw [shl1 k hk, bAnd_bit (by omega) hk]
  generalize 2 ^ k = p at hp0
  have e : (n : Int) / (p : Int) % 2 = ((n / p % 2 : Nat) : Int) := by
    rw [Int.natCast_emod, Int.natCast_ediv]
    rfl
  rw [e]
  constructor
  · intro h
    have h2 : n / p % 2 * p = 0 := by omega
    rcases Nat.mul_eq_zero.mp h2 with h3 | h3 <;> omega
  · intro h
    have h2 : n / p % 2 = 0 := by omega
    rw [h2, Nat.zero_mul]
    rfl
theorem bit_01 (a : Int) (k : Nat) : a / ((2 ^ k : Nat) : Int) % 2 = 0 ∨ a / ((2 ^ k : Nat) : Int) % 2 = 1 := by
  generalize a / ((2 ^ k : Nat) : Int) = q
  omega
theorem bOr_lt {a : Int} (h0 : 0 ≤ a) (h1 : a < 64) (k : Nat) (hk : k < 6) : 0 ≤ bOr a (shl32 1 (k : Int)) ∧ bOr a (shl32 1 (k : Int)) < 64 := by
  obtain ⟨n, rfl⟩ := Int.eq_ofNat_of_zero_le h0
  have hp : 2 ^ k < 2 ^ 6 := Nat.pow_lt_pow_right (a := 2) (by omega) hk
  have hn : n < 2 ^ 6 := by omega
  have := Nat.or_lt_two_pow hn hp
  rw [shl1 k (by omega), bOr_nat (by omega) (by omega)]
  omega
def blowVC : Nat → Int → XP → XP
  | 0, _, x => x
  | m + 1, b, x => blowVC m (b + 1) (wrC 76 1 (b + 1) x)
def blowKC1 (rv : Int) (k : Nat) (x : XP) : XP := if rv / ((2 ^ k : Nat) : Int) % 2 = 1 ∧ x.1 77 / ((2 ^ k : Nat) : Int) % 2 = 0 then wrC 77 1 (bOr (x.1 77) (shl32 1 (k : Int))) x else x
def blowKC (rv : Int) : Nat → Nat → XP → XP
  | 0, _, x => x
  | m + 1, k, x => blowKC rv m (k + 1) (blowKC1 rv k x)
theorem blowVC_ok : ∀ (m : Nat) (b : Int) (x : XP), 0 ≤ b → b + m ≤ 31 → OKX x → OKX (blowVC m b x)
  | 0, b, x, _, _, h => h
  | m + 1, b, x, h0, h1, h => blowVC_ok m (b + 1) _ (by omega) (by omega) ⟨wrC_76 h.1 (by omega), wrC_F h.2⟩
theorem blowKC1_ok (rv : Int) (k : Nat) (hk : k < 6) {x : XP} (h : OKX x) : OKX (blowKC1 rv k x) := by
  unfold blowKC1
  split
  · exact ⟨wrC_77 h.1 (bOr_lt h.1.2.2.2.1.1 h.1.2.2.2.1.2 k hk), wrC_F h.2⟩
  · exact h
theorem blowKC_ok (rv : Int) : ∀ (m k : Nat) (x : XP), m + k ≤ 6 → OKX x → OKX (blowKC rv m k x)
  | 0, k, x, _, h => h
  | m + 1, k, x, hk, h => blowKC_ok rv m (k + 1) _ (by omega) (blowKC1_ok rv k (by omega) h)
theorem blowVC_at : ∀ (m : Nat) (b : Int) (x : XP) {j : Nat}, j ≠ 76 → (blowVC m b x).1 j = x.1 j
  | 0, b, x, j, _ => rfl
  | m + 1, b, x, j, h => (blowVC_at m (b + 1) _ h).trans (wrC_at _ _ _ _ (by omega))
theorem blowKC1_at (rv : Int) (k : Nat) (x : XP) {j : Nat} (h : j ≠ 77) : (blowKC1 rv k x).1 j = x.1 j := by
  unfold blowKC1
  split
  · exact wrC_at _ _ _ _ (by omega)
  · rfl
theorem blowKC_at (rv : Int) : ∀ (m k : Nat) (x : XP) {j : Nat}, j ≠ 77 → (blowKC rv m k x).1 j = x.1 j
  | 0, k, x, j, _ => rfl
  | m + 1, k, x, j, h => (blowKC_at rv m (k + 1) _ h).trans (blowKC1_at rv k x h)
section CLS
variable {N i j : Nat} {σ : Sto} {x : XP}
theorem s2_blowV_loop (v due : Int) (hd : due ≤ 31) : ∀ (m : Nat) (b : Int) (x : XP), 0 ≤ b → m = (due - b).toNat → ev N mX2_blowVersionFuses 8 [vR 6 i, vI v, vI due, vI b] [] (P (putC σ i x)) = some (none, P (putC σ i (blowVC m b x))) := by
  intro m
  induction m with
  | zero =>
    intro b x h0 hm
    rw [eX2_blowVersionFuses_8, if_neg (by omega)]
    rfl
  | succ m ih =>
    intro b x h0 hm
    rw [eX2_blowVersionFuses_8, if_pos (by omega), w32i (by omega) (by omega), show (76 : Int) = ((76 : Nat) : Int) from rfl, s2_write1 76 (by omega), bnd_s, push_n, eX2_blowVersionFuses_18, w32i (by omega) (by omega)]
    exact ih (b + 1) _ (by omega) (by omega)
theorem p2_blowV (v : Int) (h0 : 0 ≤ x.1 76) : inv N mX2_blowVersionFuses [vR 6 i, vI v] (P (putC σ i x)) = some (none, P (putC σ i (blowVC (min v 31 - x.1 76).toNat (x.1 76) x))) := by
  rw [iX2_blowVersionFuses, eX2_blowVersionFuses_0, p2_cell _ (by omega) (by omega), bnd_s, push_s, eX2_blowVersionFuses_7]
  exact s2_blowV_loop v (min v 31) (by omega) _ _ _ h0 rfl
theorem s2_blowK_loop (rv : Int) (r0 : 0 ≤ rv) (r1 : rv < 2147483648) : ∀ (m k : Nat) (x : XP) (x3 x4 : MV), m + k = 6 → OKX x → ev N mX2_blowKeyFuses 2 [vR 6 i, vI rv, vI (k : Int), x3, x4] [] (P (putC σ i x)) = some (none, P (putC σ i (blowKC rv m k x))) := by
  intro m
  induction m with
  | zero =>
    intro k x x3 x4 hk hx
    rw [eX2_blowKeyFuses_2, if_neg (by omega)]
    rfl
  | succ m ih =>
    intro k x x3 x4 hk hx
    have hx1 := blowKC1_ok rv k (by omega) hx
    have c77 := hx.1.2.2.2.1
    have z1 := bit_zero r0 r1 k (by omega)
    have z2 := bit_zero c77.1 (by omega) k (by omega)
    have o1 := bit_01 rv k
    have o2 := bit_01 (x.1 77) k
    have e : w32 ((k : Int) + 1) = ((k + 1 : Nat) : Int) := by rw [w32i (by omega) (by omega)]; omega
    have ih1 := fun x3 x4 => ih (k + 1) (blowKC1 rv k x) x3 x4 (by omega) hx1
    rw [eX2_blowKeyFuses_2, if_pos (by omega), p2_cell _ (by omega) (by omega), bnd_s, push_s, eX2_blowKeyFuses_12, show (77 : Int).toNat = 77 from rfl]
    show _ = some (none, P (putC σ i (blowKC rv m (k + 1) (blowKC1 rv k x))))
    unfold blowKC1 at ih1 ⊢
    rcases o1 with o1 | o1
    · rw [if_neg (show ¬ (rv / ((2 ^ k : Nat) : Int) % 2 = 1 ∧ x.1 77 / ((2 ^ k : Nat) : Int) % 2 = 0) from fun z => by omega)] at ih1 ⊢
      rw [if_pos (z1.mpr o1), eX2_blowKeyFuses_28, e]
      exact ih1 _ _
    · rw [if_neg (fun z => by have := z1.mp z; omega)]
      rcases o2 with o2 | o2
      · rw [if_pos (show rv / ((2 ^ k : Nat) : Int) % 2 = 1 ∧ x.1 77 / ((2 ^ k : Nat) : Int) % 2 = 0 from ⟨o1, o2⟩)] at ih1 ⊢
        rw [if_pos (z2.mpr o2), show (77 : Int) = ((77 : Nat) : Int) from rfl, s2_write1 77 (by omega), bnd_s, push_n, eX2_blowKeyFuses_28, e]
        exact ih1 _ _
      · rw [if_neg (show ¬ (rv / ((2 ^ k : Nat) : Int) % 2 = 1 ∧ x.1 77 / ((2 ^ k : Nat) : Int) % 2 = 0) from fun z => by omega)] at ih1 ⊢
        rw [if_neg (fun z => by have := z2.mp z; omega), eX2_blowKeyFuses_28, e]
        exact ih1 _ _
theorem p2_blowK (rv : Int) (r0 : 0 ≤ rv) (r1 : rv < 2147483648) (hx : OKX x) : inv N mX2_blowKeyFuses [vR 6 i, vI rv] (P (putC σ i x)) = some (none, P (putC σ i (blowKC rv 6 0 x))) := by
  rw [iX2_blowKeyFuses, eX2_blowKeyFuses_0]
  exact s2_blowK_loop rv r0 r1 6 0 x _ _ rfl hx
/-- the flags that HEALTH writes -/
def healthFlC (tr : Int) (x : XP) : XP := (x.1, if x.1 78 = 0 ∨ x.1 78 = 1 then set (set x.2 4 0) (2 + (x.1 78).toNat) (x.2 (2 + (x.1 78).toNat) - x.2 (2 + (x.1 78).toNat) % 16 + 2 * tr + 1) else set x.2 4 0)
def healthFuC (r : Int) (y : XP) : XP := if r = 0 ∨ r = 1 then blowKC (y.1 (14 * r.toNat + 2)) 6 0 (blowVC (min (y.1 (14 * r.toNat) - 1) 31 - y.1 76).toNat (y.1 76) y) else y
def toldC (y : XP) : XP := if y.2 9 = 0 then (set y.1 80 1, y.2) else y
def healthC (tr : Int) (x : XP) : XP := toldC (healthFuC (x.1 78) (writeFlagsC (healthFlC tr x)))
theorem healthFlC_ok {tr : Int} (h1 : 1 ≤ tr) (h7 : tr ≤ 7) (hx : OKX x) : OKX (healthFlC tr x) := by
  have hf := hx.2
  obtain ⟨f2, f3, f4, f5, f6⟩ := hf
  unfold healthFlC
  refine ⟨hx.1, ?_⟩
  split
  · rename_i h
    rcases h with h | h <;> rw [h]
    · exact okf_set (okf_set hx.2 (fun _ => by omega) (by omega)) (fun _ => by
        show 0 ≤ x.2 2 - x.2 2 % 16 + 2 * tr + 1 ∧ x.2 2 - x.2 2 % 16 + 2 * tr + 1 < 256
        omega) (by decide)
    · exact okf_set (okf_set hx.2 (fun _ => by omega) (by omega)) (fun _ => by
        show 0 ≤ x.2 3 - x.2 3 % 16 + 2 * tr + 1 ∧ x.2 3 - x.2 3 % 16 + 2 * tr + 1 < 256
        omega) (by decide)
  · exact okf_set hx.2 (fun _ => by omega) (by omega)
theorem healthFuC_ok {r : Int} (hx : OKX x) : OKX (healthFuC r x) := by
  unfold healthFuC
  split
  · rename_i h
    have w := hx.1.1 (14 * r.toNat) (by omega)
    have c := hx.1.2.2.1
    exact blowKC_ok _ 6 0 _ (by omega) (blowVC_ok _ _ _ c.1 (by omega) hx)
  · exact hx
theorem healthFuC_at {r : Int} {k : Nat} (h6 : k ≠ 76) (h7 : k ≠ 77) : (healthFuC r x).1 k = x.1 k := by
  unfold healthFuC
  split
  · rw [blowKC_at _ _ _ _ h7, blowVC_at _ _ _ h6]
  · rfl
theorem toldC_ok (hx : OKX x) : OKX (toldC x) := by
  unfold toldC
  split
  · exact ⟨okc_hi hx.1 (by omega), hx.2⟩
  · exact hx
theorem toldC_at {k : Nat} (h : k ≠ 80) : (toldC x).1 k = x.1 k := by
  unfold toldC
  split
  · exact set_ne _ _ h
  · rfl
theorem healthC_ok {tr : Int} (h1 : 1 ≤ tr) (h7 : tr ≤ 7) (hx : OKX x) : OKX (healthC tr x) ∧ (healthC tr x).1 82 = x.1 82 := by
  refine ⟨toldC_ok (healthFuC_ok (writeFlagsC_ok (healthFlC_ok h1 h7 hx))), ?_⟩
  unfold healthC
  rw [toldC_at (by omega), healthFuC_at (by omega) (by omega), writeFlagsC_at _ (by omega)]
  rfl
theorem p2_told (x1 : Int) (hx : OKX x) : ev N mX2_tellHealth 45 [vR 6 i, vI x1] [] (P (putC σ i x)) = some (some (vI ((toldC x).1 76)), P (putC σ i (toldC x))) := by
  rw [eX2_tellHealth_45, putC_6]
  unfold toldC
  by_cases h : x.2 9 = 0
  · rw [if_pos h, if_pos h, p2_setCell _ _ (by omega) (by omega), bnd_s, push_n, eX2_tellHealth_52, p2_cell _ (by omega) (by omega), bnd_s, push_s, eX2_tellHealth_55]
    rfl
  · rw [if_neg h, if_neg h, eX2_tellHealth_52, p2_cell _ (by omega) (by omega), bnd_s, push_s, eX2_tellHealth_55]
    rfl
theorem p2_tellHealth (hg : OKG σ 1) (hx : OKX x) : inv N mX2_tellHealth [vR 6 i] (P (putC σ i x)) = some (some (vI ((healthC (σ 2 1 3) x).1 76)), P (putC σ i (healthC (σ 2 1 3) x))) := by
  have g7 := hg.2.2.2.2.2.2.1
  have g8 := hg.2.2.2.2.2.2.2.1
  have hy := healthFlC_ok g7 g8 hx
  have hy2 := writeFlagsC_ok hy
  have hf := hx.2
  obtain ⟨f2, f3, f4, f5, f6⟩ := hf
  rw [iX2_tellHealth, eX2_tellHealth_0, p2_cell _ (by omega) (by omega), bnd_s, push_s, eX2_tellHealth_3, show (78 : Int).toNat = 78 from rfl, sup_row, row_putC6, putC_6, s8_isSlot, bnd_s, push_s, eX2_tellHealth_9]
  have tail : ∀ (z : XP), OKX z → z.1 = x.1 → ev N mX2_tellHealth 26 [vR 6 i, vI (x.1 78)] [] (P (putC σ i z)) = some (some (vI ((toldC (healthFuC (x.1 78) (writeFlagsC z))).1 76)), P (putC σ i (toldC (healthFuC (x.1 78) (writeFlagsC z))))) := by
    intro z hz ez
    have hz2 := writeFlagsC_ok hz
    rw [eX2_tellHealth_26, p2_writeFlags hz, bnd_s, push_n, eX2_tellHealth_28, s8_isSlot, bnd_s, push_s, eX2_tellHealth_30]
    have hfu := healthFuC_ok (r := x.1 78) hz2
    unfold healthFuC at hfu ⊢
    by_cases h : x.1 78 = 0 ∨ x.1 78 = 1
    · rw [if_pos h] at hfu
      rw [if_pos h, if_neg (show ¬ (1 : Int) = 0 by omega), if_pos h]
      obtain ⟨s, hs, es⟩ : ∃ s : Nat, s < 2 ∧ x.1 78 = (s : Int) := by
        rcases h with h | h
        · exact ⟨0, by omega, h⟩
        · exact ⟨1, by omega, h⟩
      rw [es, Int.toNat_natCast] at hfu ⊢
      have w0 := hz2.1.1 (14 * s) (by omega)
      have w2 := hz2.1.1 (14 * s + 2) (by omega)
      have c76 := hz2.1.2.2.1
      have hb := blowVC_ok (min ((writeFlagsC z).1 (14 * s) - 1) 31 - (writeFlagsC z).1 76).toNat ((writeFlagsC z).1 76) (writeFlagsC z) c76.1 (by omega) hz2
      have e2 : ((s : Int) * 14 + 2).toNat = 14 * s + 2 := by omega
      rw [p2_version s (by omega) hz2.1, bnd_s, push_s, eX2_tellHealth_35, p2_blowV _ c76.1, bnd_s, push_n, eX2_tellHealth_36, w32i (x := (s : Int) * 14) (by omega) (by omega), w32i (by omega) (by omega), p2_cell _ (by omega) (by omega), bnd_s, push_s, e2, eX2_tellHealth_44,
        blowVC_at _ _ _ (by omega), p2_blowK _ w2.1 w2.2 hb, bnd_s, push_n]
      exact p2_told _ hfu
    · rw [if_neg h] at hfu
      rw [if_neg h, if_pos rfl, if_neg h]
      exact p2_told _ hfu
  by_cases h : x.1 78 = 0 ∨ x.1 78 = 1
  · rw [if_pos h, if_neg (show ¬ (1 : Int) = 0 by omega), p2_slotFlags, bnd_s, push_s, eX2_tellHealth_15, put2, p2_setSlotFlags, bnd_s, push_n]
    have ez : (x.1, set (set x.2 4 0) (if x.1 78 = 0 then 2 else 3) (w32 (w32 (bAnd (if x.1 78 = 0 then (set x.2 4 0) 2 else (set x.2 4 0) 3) 240 + w32 (2 * σ 2 1 3)) + 1))) = healthFlC (σ 2 1 3) x := by
      unfold healthFlC
      rw [if_pos h]
      have e2 : (set x.2 4 0) 2 = x.2 2 := set_ne _ _ (by omega)
      have e3 : (set x.2 4 0) 3 = x.2 3 := set_ne _ _ (by omega)
      rw [e2, e3, w32i (x := 2 * σ 2 1 3) (by omega) (by omega)]
      rcases h with h | h
      · simp only [h, ↓reduceIte, Int.reduceToNat, Nat.add_zero]
        rw [bAnd_240 f2.1 f2.2, w32i (x := x.2 2 - x.2 2 % 16 + 2 * σ 2 1 3) (by omega) (by omega), w32i (by omega) (by omega)]
      · simp only [h, ↓reduceIte, Int.reduceToNat, Int.reduceEq, Nat.reduceAdd]
        rw [bAnd_240 f3.1 f3.2, w32i (x := x.2 3 - x.2 3 % 16 + 2 * σ 2 1 3) (by omega) (by omega), w32i (by omega) (by omega)]
    rw [ez]
    exact tail _ hy rfl
  · rw [if_neg h, if_pos rfl]
    have ez : (x.1, set x.2 4 0) = healthFlC (σ 2 1 3) x := by
      unfold healthFlC
      rw [if_neg h]
    rw [ez]
    exact tail _ hy rfl
def perfHealthC (σ : Sto) (cut : Int) (x : XP) : Int × XP := endC ((healthC (σ 2 1 3) (beginC cut x)).1 76) (healthC (σ 2 1 3) (beginC cut x))
theorem p2_health (hg : OKG σ 1) (hc : OKC x.1) (a b cut : Int) : inv N mX2_perform [vR 6 i, vI 1, vI a, vI b, vI cut] (P (putC σ i x)) = some (some (vI (perfHealthC σ cut x).1), P (putC σ i (perfHealthC σ cut x).2)) := by
  have hx := beginC_ok cut hc
  rw [p2_begin _ _ _ _ hc, eX2_perform_11, if_neg (by omega), if_pos rfl, p2_tellHealth hg hx, bnd_s, push_s, eX2_perform_35, putC_6, p2_setCell _ _ (by omega) (by omega), bnd_s, push_n]
  exact s2_end _ _ _ _ _
end CLS
end
