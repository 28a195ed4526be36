/-! STORES BY ROWS -/
abbrev Vec : Type := Nat → Int
def set (f : Vec) (j : Nat) (v : Int) : Vec := fun j' => if j' = j then v else f j'
def row (σ : Sto) (k i : Nat) (f : Vec) : Sto := fun k' i' => if k' = k ∧ i' = i then f else σ k' i'
theorem sup_row (σ : Sto) (k i j : Nat) (v : Int) : sup σ k i j v = row σ k i (set (σ k i) j v) := by
  funext k' i' j'
  unfold sup row set
  by_cases h : k' = k ∧ i' = i
  · obtain ⟨rfl, rfl⟩ := h
    by_cases h2 : j' = j
    · simp [h2]
    · simp [h2]
  · rw [if_neg h, if_neg (fun z => h ⟨z.1, z.2.1⟩)]
theorem row_at (σ : Sto) (k i : Nat) (f : Vec) (k' i' : Nat) : row σ k i f k' i' = if k' = k ∧ i' = i then f else σ k' i' := rfl
theorem row_same (σ : Sto) (k i : Nat) (f : Vec) : row σ k i f k i = f := by simp [row]
theorem row_row (σ : Sto) (k i : Nat) (f g : Vec) : row (row σ k i f) k i g = row σ k i g := by
  funext k' i'
  unfold row
  split <;> rfl
theorem row_id (σ : Sto) (k i : Nat) : row σ k i (σ k i) = σ := by
  funext k' i'
  unfold row
  split
  · rename_i h; rw [h.1, h.2]
  · rfl
theorem row_comm (σ : Sto) (k i k2 i2 : Nat) (f g : Vec) (h : ¬ (k = k2 ∧ i = i2)) : row (row σ k i f) k2 i2 g = row (row σ k2 i2 g) k i f := by
  funext k' i'
  unfold row
  by_cases h1 : k' = k ∧ i' = i <;> by_cases h2 : k' = k2 ∧ i' = i2
  · exact absurd ⟨h1.1.symm.trans h2.1, h1.2.symm.trans h2.2⟩ h
  · rw [if_neg h2, if_pos h1, if_pos h1]
  · rw [if_pos h2, if_neg h1, if_pos h2]
  · rw [if_neg h2, if_neg h1, if_neg h1, if_neg h2]
theorem set_same (f : Vec) (j : Nat) (v : Int) : set f j v j = v := by simp [set]
theorem set_ne (f : Vec) {j j' : Nat} (v : Int) (h : j' ≠ j) : set f j v j' = f j' := by simp [set, h]
theorem set_at (f : Vec) (j : Nat) (v : Int) (j' : Nat) : set f j v j' = if j' = j then v else f j' := rfl
theorem set_set (f : Vec) (j : Nat) (v w : Int) : set (set f j v) j w = set f j w := by
  funext j'
  unfold set
  split <;> rfl
theorem set_id (f : Vec) (j : Nat) : set f j (f j) = f := by
  funext j'
  unfold set
  split
  · rename_i h; rw [h]
  · rfl
theorem set_comm (f : Vec) (j j2 : Nat) (v w : Int) (h : j ≠ j2) : set (set f j v) j2 w = set (set f j2 w) j v := by
  funext j'
  unfold set
  by_cases h1 : j' = j <;> by_cases h2 : j' = j2
  · exact absurd (h1.symm.trans h2) h
  · simp [h1, h]
  · simp [h2, Ne.symm h]
  · simp [h1, h2]
/-- a stretch of a row, out of another one -/
def cpyV (f g : Vec) (sp dp n : Nat) : Vec := fun j => if dp ≤ j ∧ j < dp + n then f (sp + (j - dp)) else g j
theorem cpy_row (σ : Sto) (k i sp k2 i2 dp n : Nat) : cpy σ k i sp k2 i2 dp n = row σ k2 i2 (cpyV (σ k i) (σ k2 i2) sp dp n) := by
  funext k' i' j'
  unfold cpy row cpyV
  by_cases h : k' = k2 ∧ i' = i2
  · obtain ⟨rfl, rfl⟩ := h
    by_cases h2 : dp ≤ j' ∧ j' < dp + n
    · simp [h2]
    · simp [h2]
  · rw [if_neg h, if_neg (fun z => h ⟨z.1, z.2.1⟩)]
theorem w32i {x : Int} (h1 : -2147483648 ≤ x) (h2 : x < 2147483648) : w32 x = x := by unfold w32; omega
theorem w64i {x : Int} (h1 : -9223372036854775808 ≤ x) (h2 : x < 9223372036854775808) : w64 x = x := by unfold w64; omega
/-! BITS of small numbers -/
theorem bAnd_nat {a b : Nat} (ha : a < 2147483648) (hb : b < 2147483648) : bAnd (a : Int) (b : Int) = ((a &&& b : Nat) : Int) := by
  unfold bAnd
  have hab : a &&& b < 2147483648 := Nat.lt_of_le_of_lt Nat.and_le_left ha
  rw [show (Int32.ofInt (a : Int) &&& Int32.ofInt (b : Int)) = Int32.ofInt ((a &&& b : Nat) : Int) from ?_]
  · exact toInt32_in (by unfold in32; omega)
  · apply Int32.toBitVec_inj.mp
    rw [Int32.toBitVec_and]
    apply BitVec.eq_of_toNat_eq
    rw [BitVec.toNat_and]
    have e : ∀ n : Nat, n < 2147483648 → (Int32.ofInt (n : Int)).toBitVec.toNat = n := by
      intro n hn
      rw [Int32.toBitVec_ofInt, BitVec.toNat_ofInt]
      omega
    rw [e a ha, e b hb, e _ hab]
theorem ofInt_nat_bv {n : Nat} (hn : n < 2147483648) : (Int32.ofInt (n : Int)).toBitVec.toNat = n := by
  rw [Int32.toBitVec_ofInt, BitVec.toNat_ofInt]
  omega
theorem ofInt_bv (x : Int) : (Int32.ofInt x).toBitVec.toNat = (x % 4294967296).toNat := by
  rw [Int32.toBitVec_ofInt, BitVec.toNat_ofInt]
  rfl
/-- a word whose bits are a small number -/
theorem toInt_small {X : Int32} {n : Nat} (h : X.toBitVec.toNat = n) (hn : n < 2147483648) : X.toInt = (n : Int) := by
  have e : X = Int32.ofInt (n : Int) := by
    apply Int32.toBitVec_inj.mp
    apply BitVec.eq_of_toNat_eq
    rw [h, ofInt_nat_bv hn]
  rw [e]
  exact toInt32_in (by unfold in32; omega)
theorem bAnd_mod (x : Int) (n : Nat) (hn : n < 32) : bAnd x ((2 ^ n - 1 : Nat) : Int) = x % ((2 ^ n : Nat) : Int) := by
  have hp : 2 ^ n ≤ 2147483648 := Nat.pow_le_pow_right (n := 2) (by omega) (show n ≤ 31 by omega)
  have hp0 : 0 < 2 ^ n := Nat.pow_pos (by omega)
  have e : ((Int32.ofInt x) &&& Int32.ofInt ((2 ^ n - 1 : Nat) : Int)).toBitVec.toNat = (x % 4294967296).toNat % 2 ^ n := by
    rw [Int32.toBitVec_and, BitVec.toNat_and, ofInt_bv, ofInt_nat_bv (by omega), Nat.and_two_pow_sub_one_eq_mod]
  unfold bAnd
  have hlt : (x % 4294967296).toNat % 2 ^ n < 2 ^ n := Nat.mod_lt _ hp0
  rw [toInt_small e (by omega), Int.natCast_emod, Int.toNat_of_nonneg (by omega)]
  exact Int.emod_emod_of_dvd x (by exact ⟨((2 ^ (32 - n) : Nat) : Int), by rw [← Int.natCast_mul, ← Nat.pow_add, show n + (32 - n) = 32 by omega]; rfl⟩)
theorem bAnd_255 (x : Int) : bAnd x 255 = x % 256 := bAnd_mod x 8 (by omega)
theorem bAnd_65535 (x : Int) : bAnd x 65535 = x % 65536 := bAnd_mod x 16 (by omega)
theorem bAnd_15 (x : Int) : bAnd x 15 = x % 16 := bAnd_mod x 4 (by omega)
theorem bAnd_7 (x : Int) : bAnd x 7 = x % 8 := bAnd_mod x 3 (by omega)
theorem bAnd_1 (x : Int) : bAnd x 1 = x % 2 := bAnd_mod x 1 (by omega)
theorem bAnd_63 (x : Int) : bAnd x 63 = x % 64 := bAnd_mod x 6 (by omega)
theorem shr32_nat {a n : Nat} (ha : a < 2147483648) (hn : n < 32) : shr32 (a : Int) (n : Int) = ((a / 2 ^ n : Nat) : Int) := by
  unfold shr32
  have e : (Int32.ofInt (a : Int) >>> (Int32.ofInt (n : Int) &&& 31)).toBitVec.toNat = a / 2 ^ n := by
    rw [Int32.toBitVec_shiftRight]
    have e1 : ((Int32.ofInt (n : Int) &&& 31).toBitVec.smod 32).toNat = n := by
      have : ∀ n : Nat, n < 32 → ((Int32.ofInt (n : Int) &&& 31).toBitVec.smod 32).toNat = n := by decide +kernel
      exact this n hn
    rw [BitVec.sshiftRight_eq', e1, BitVec.sshiftRight_eq_of_msb_false, BitVec.toNat_ushiftRight, ofInt_nat_bv ha, Nat.shiftRight_eq_div_pow]
    rw [BitVec.msb_eq_false_iff_two_mul_lt, ofInt_nat_bv ha]
    omega
  exact toInt_small e (Nat.lt_of_le_of_lt (Nat.div_le_self _ _) ha)
theorem shr32_div {x : Int} (h0 : 0 ≤ x) (h1 : x < 2147483648) (n : Nat) (hn : n < 32) : shr32 x (n : Int) = x / ((2 ^ n : Nat) : Int) := by
  have := shr32_nat (a := x.toNat) (n := n) (by omega) hn
  rw [Int.toNat_of_nonneg h0] at this
  rw [this, Int.natCast_ediv, Int.toNat_of_nonneg h0]
theorem shl1 : ∀ n : Nat, n < 31 → shl32 1 (n : Int) = ((2 ^ n : Nat) : Int) := by decide +kernel
theorem bXor_nat {a b : Nat} (ha : a < 2147483648) (hb : b < 2147483648) : bXor (a : Int) (b : Int) = ((a ^^^ b : Nat) : Int) := by
  unfold bXor
  have hab : a ^^^ b < 2 ^ 31 := Nat.xor_lt_two_pow ha hb
  refine toInt_small ?_ hab
  rw [Int32.toBitVec_xor, BitVec.toNat_xor, ofInt_nat_bv ha, ofInt_nat_bv hb]
theorem bOr_nat {a b : Nat} (ha : a < 2147483648) (hb : b < 2147483648) : bOr (a : Int) (b : Int) = ((a ||| b : Nat) : Int) := by
  unfold bOr
  have hab : a ||| b < 2 ^ 31 := Nat.or_lt_two_pow ha hb
  refine toInt_small ?_ hab
  rw [Int32.toBitVec_or, BitVec.toNat_or, ofInt_nat_bv ha, ofInt_nat_bv hb]
/-- a flip is undone by the same flip; it stays within so many bits -/
theorem bXor_back {x m : Int} (h0 : 0 ≤ x) (h1 : x < 2147483648) (m0 : 0 ≤ m) (m1 : m < 2147483648) : bXor (bXor x m) m = x := by
  obtain ⟨a, rfl⟩ := Int.eq_ofNat_of_zero_le h0
  obtain ⟨b, rfl⟩ := Int.eq_ofNat_of_zero_le m0
  have ha : a < 2147483648 := by omega
  have hb : b < 2147483648 := by omega
  have hab : a ^^^ b < 2 ^ 31 := Nat.xor_lt_two_pow ha hb
  rw [bXor_nat ha hb, bXor_nat (by omega) hb, Nat.xor_assoc, Nat.xor_self, Nat.xor_zero]
theorem bXor_lt {x m : Int} {n : Nat} (hn : n ≤ 31) (h0 : 0 ≤ x) (h1 : x < ((2 ^ n : Nat) : Int)) (m0 : 0 ≤ m) (m1 : m < ((2 ^ n : Nat) : Int)) : 0 ≤ bXor x m ∧ bXor x m < ((2 ^ n : Nat) : Int) := by
  have hp : 2 ^ n ≤ 2147483648 := Nat.pow_le_pow_right (n := 2) (by omega) hn
  obtain ⟨a, rfl⟩ := Int.eq_ofNat_of_zero_le h0
  obtain ⟨b, rfl⟩ := Int.eq_ofNat_of_zero_le m0
  have ha : a < 2 ^ n := by omega
  have hb : b < 2 ^ n := by omega
  have hab : a ^^^ b < 2 ^ n := Nat.xor_lt_two_pow ha hb
  rw [bXor_nat (by omega) (by omega)]
  omega
theorem bAnd_bit {a k : Nat} (ha : a < 2147483648) (hk : k < 31) : bAnd (a : Int) (((2 ^ k : Nat)) : Int) = ((a / 2 ^ k % 2 * 2 ^ k : Nat) : Int) := by
  have hp : 2 ^ k < 2147483648 := Nat.pow_lt_pow_right (a := 2) (by omega) (show k < 31 by omega)
  have hp0 : 0 < 2 ^ k := Nat.pow_pos (by omega)
  have h1 : (a &&& 2 ^ k) / 2 ^ k = a / 2 ^ k % 2 := by rw [Nat.and_div_two_pow, Nat.div_self hp0, Nat.and_one_is_mod]
  have h2 : (a &&& 2 ^ k) % 2 ^ k = 0 := by rw [Nat.and_mod_two_pow, Nat.mod_self, Nat.and_zero]
  have h3 := Nat.div_add_mod (a &&& 2 ^ k) (2 ^ k)
  rw [h1, h2] at h3
  rw [bAnd_nat ha hp, ← h3, Nat.mul_comm, Nat.add_zero]
theorem bAnd_240 {v : Int} (h0 : 0 ≤ v) (h1 : v < 256) : bAnd v 240 = v - v % 16 := by
  have : ∀ n : Nat, n < 256 → bAnd (n : Int) 240 = (n : Int) - (n : Int) % 16 := by decide +kernel
  obtain ⟨a, rfl⟩ := Int.eq_ofNat_of_zero_le h0
  exact this a (by omega)
