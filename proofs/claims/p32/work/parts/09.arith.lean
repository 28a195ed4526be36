/-! NUMBERS: the small machine's whole numbers and the JVM's words -/
theorem bmod32 (x : Int) : Int.bmod x 4294967296 = w32 x := by
  unfold Int.bmod w32
  dsimp only
  split <;> omega
theorem bmod64 (x : Int) : Int.bmod x 18446744073709551616 = w64 x := by
  unfold Int.bmod w64
  dsimp only
  split <;> omega
theorem bmod8 (x : Int) : Int.bmod x 256 = w8 x := by
  unfold Int.bmod w8
  dsimp only
  split <;> omega
theorem w32_in (x : Int) : in32 (w32 x) := by unfold in32 w32; omega
theorem w64_in (x : Int) : in64 (w64 x) := by unfold in64 w64; omega
theorem w32_id {x : Int} (h : in32 x) : w32 x = x := by unfold in32 at h; unfold w32; omega
theorem w64_id {x : Int} (h : in64 x) : w64 x = x := by unfold in64 at h; unfold w64; omega
theorem in32_64 {x : Int} (h : in32 x) : in64 x := by unfold in32 at h; unfold in64; omega
theorem toInt32_of (x : Int) : (Int32.ofInt x).toInt = w32 x := by rw [Int32.toInt_ofInt]; exact bmod32 x
theorem toInt64_of (x : Int) : (Int64.ofInt x).toInt = w64 x := by rw [Int64.toInt_ofInt]; exact bmod64 x
theorem toInt32_in {x : Int} (h : in32 x) : (Int32.ofInt x).toInt = x := (toInt32_of x).trans (w32_id h)
theorem toInt64_in {x : Int} (h : in64 x) : (Int64.ofInt x).toInt = x := (toInt64_of x).trans (w64_id h)
theorem of32 (x : Int32) : Int32.ofInt x.toInt = x := Int32.ofInt_toInt x
theorem of64 (x : Int64) : Int64.ofInt x.toInt = x := Int64.ofInt_toInt x
theorem in32_of (x : Int32) : in32 x.toInt := ⟨Int32.le_toInt x, Int32.toInt_lt x⟩
theorem in64_of (x : Int64) : in64 x.toInt := ⟨Int64.le_toInt x, Int64.toInt_lt x⟩
theorem w32_of (x : Int) : Int32.ofInt (w32 x) = Int32.ofInt x := by rw [← toInt32_of, of32]
theorem w64_of (x : Int) : Int64.ofInt (w64 x) = Int64.ofInt x := by rw [← toInt64_of, of64]
theorem lt32 {a b : Int} (ha : in32 a) (hb : in32 b) : Int32.ofInt a < Int32.ofInt b ↔ a < b := by
  rw [Int32.lt_iff_toInt_lt, toInt32_in ha, toInt32_in hb]
theorem le32 {a b : Int} (ha : in32 a) (hb : in32 b) : Int32.ofInt a ≤ Int32.ofInt b ↔ a ≤ b := by
  rw [Int32.le_iff_toInt_le, toInt32_in ha, toInt32_in hb]
theorem eq32 {a b : Int} (ha : in32 a) (hb : in32 b) : Int32.ofInt a = Int32.ofInt b ↔ a = b := by
  rw [← Int32.toInt_inj, toInt32_in ha, toInt32_in hb]
theorem eq64 {a b : Int} (ha : in64 a) (hb : in64 b) : Int64.ofInt a = Int64.ofInt b ↔ a = b := by
  rw [← Int64.toInt_inj, toInt64_in ha, toInt64_in hb]
theorem lt64 {a b : Int} (ha : in64 a) (hb : in64 b) : Int64.ofInt a < Int64.ofInt b ↔ a < b := by
  rw [Int64.lt_iff_toInt_lt, toInt64_in ha, toInt64_in hb]
theorem in32_0 : in32 0 := by unfold in32; omega
theorem in64_0 : in64 0 := by unfold in64; omega
theorem of32_0 : Int32.ofInt 0 = 0 := rfl
theorem add32 (a b : Int) : Int32.ofInt (w32 (a + b)) = Int32.ofInt a + Int32.ofInt b := by rw [w32_of, Int32.ofInt_add]
theorem sub32 (a b : Int) : Int32.ofInt (w32 (a - b)) = Int32.ofInt a - Int32.ofInt b := by rw [w32_of, Int32.ofInt_sub]
theorem mul32 (a b : Int) : Int32.ofInt (w32 (a * b)) = Int32.ofInt a * Int32.ofInt b := by rw [w32_of, Int32.ofInt_mul]
theorem add64 (a b : Int) : Int64.ofInt (w64 (a + b)) = Int64.ofInt a + Int64.ofInt b := by rw [w64_of, Int64.ofInt_add]
theorem mul64 (a b : Int) : Int64.ofInt (w64 (a * b)) = Int64.ofInt a * Int64.ofInt b := by rw [w64_of, Int64.ofInt_mul]
theorem div32 {a b : Int} (ha : in32 a) (hb : in32 b) : Int32.ofInt (w32 (a.tdiv b)) = Int32.ofInt a / Int32.ofInt b := by
  rw [← Int32.toInt_inj, toInt32_of, Int32.toInt_div, toInt32_in ha, toInt32_in hb]
  show w32 (w32 _) = Int.bmod _ 4294967296
  rw [bmod32, w32_id (w32_in _)]
theorem div64 {a b : Int} (ha : in64 a) (hb : in64 b) : Int64.ofInt (w64 (a.tdiv b)) = Int64.ofInt a / Int64.ofInt b := by
  rw [← Int64.toInt_inj, toInt64_of, Int64.toInt_div, toInt64_in ha, toInt64_in hb]
  show w64 (w64 _) = Int.bmod _ 18446744073709551616
  rw [bmod64, w64_id (w64_in _)]
theorem rem32 {a b : Int} (ha : in32 a) (hb : in32 b) : Int32.ofInt (a.tmod b) = Int32.ofInt a - Int32.ofInt a / Int32.ofInt b * Int32.ofInt b := by
  rw [← div32 ha hb, ← mul32, ← sub32]
  rw [← Int32.toInt_inj, toInt32_of, toInt32_of]
  have e : a.tmod b = a - a.tdiv b * b := by rw [Int.tmod_def, Int.mul_comm]
  rw [e]
  have k : ∀ x y : Int, w32 (x - y * b) = w32 (w32 (x - w32 (w32 y * b))) := by
    intro x y
    have k1 : Int32.ofInt (x - y * b) = Int32.ofInt (x - w32 (w32 y * b)) := by
      rw [Int32.ofInt_sub, Int32.ofInt_sub, w32_of, Int32.ofInt_mul, Int32.ofInt_mul, w32_of]
    rw [← toInt32_of, k1, toInt32_of, w32_id (w32_in _)]
  exact k a (a.tdiv b)
theorem rem64 {a b : Int} (ha : in64 a) (hb : in64 b) : Int64.ofInt (a.tmod b) = Int64.ofInt a - Int64.ofInt a / Int64.ofInt b * Int64.ofInt b := by
  rw [← div64 ha hb, ← mul64]
  have e : a.tmod b = a - a.tdiv b * b := by rw [Int.tmod_def, Int.mul_comm]
  rw [e, Int64.ofInt_sub, Int64.ofInt_mul, w64_of, Int64.ofInt_mul, w64_of]
theorem tmod_in32 {a b : Int} (ha : in32 a) : in32 (a.tmod b) := by
  have h1 : (a.tmod b).natAbs ≤ a.natAbs := by rw [Int.natAbs_tmod]; exact Nat.mod_le _ _
  rcases Int.le_total 0 a with h | h
  · have := Int.tmod_nonneg b h
    unfold in32 at *
    omega
  · have h2 := Int.tmod_nonneg b (show 0 ≤ -a by omega)
    rw [Int.neg_tmod] at h2
    unfold in32 at *
    omega
theorem tmod_in64 {a b : Int} (ha : in64 a) : in64 (a.tmod b) := by
  have h1 : (a.tmod b).natAbs ≤ a.natAbs := by rw [Int.natAbs_tmod]; exact Nat.mod_le _ _
  rcases Int.le_total 0 a with h | h
  · have := Int.tmod_nonneg b h
    unfold in64 at *
    omega
  · have h2 := Int.tmod_nonneg b (show 0 ≤ -a by omega)
    rw [Int.neg_tmod] at h2
    unfold in64 at *
    omega
theorem i2l_of {a : Int} (h : in32 a) : (Int32.ofInt a).toInt64 = Int64.ofInt a := by
  rw [← Int64.toInt_inj, Int32.toInt_toInt64, toInt32_in h, toInt64_in (in32_64 h)]
theorem l2i_of {a : Int} (h : in64 a) : (Int64.ofInt a).toInt32 = Int32.ofInt (w32 a) := by
  rw [← Int32.toInt_inj, Int64.toInt_toInt32, toInt64_in h, toInt32_in (w32_in _)]
  exact bmod32 a
theorem w8_in (x : Int) : in32 (w8 x) := by unfold in32 w8; omega
theorem i2b_of {a : Int} (h : in32 a) : (Int32.ofInt a).toInt8.toInt32 = Int32.ofInt (w8 a) := by
  rw [← Int32.toInt_inj, Int8.toInt_toInt32, Int32.toInt_toInt8, toInt32_in h, toInt32_in (w8_in _)]
  exact bmod8 a
theorem min_of {a b : Int} (ha : in32 a) (hb : in32 b) : (if Int32.ofInt b < Int32.ofInt a then Int32.ofInt b else Int32.ofInt a) = Int32.ofInt (min a b) := by
  by_cases h : b < a
  · rw [if_pos ((lt32 hb ha).mpr h), Int.min_eq_right (by omega)]
  · rw [if_neg (fun z => h ((lt32 hb ha).mp z)), Int.min_eq_left (by omega)]
theorem clampI {j : Int} (h0 : 0 ≤ j) (h : in32 j) : (Int32.ofInt j).toNatClampNeg = j.toNat := by
  show (Int32.ofInt j).toInt.toNat = j.toNat
  rw [toInt32_in h]
theorem vpinI {j : Int} {n : Nat} (h0 : ¬ j < 0) (hn : j < (n : Int)) (h : in32 j) : vp_in (Int32.ofInt j) n := by
  rintro (z | z)
  · rw [Int32.lt_iff_toInt_lt, toInt32_in h, Int32.toInt_zero] at z; exact h0 z
  · rw [clampI (by omega) h] at z; omega
theorem and_in (a b : Int) : in32 (bAnd a b) := in32_of _
