/-! THE CLASS: rows, and what a machine reads -/
section CLS
variable {N i j : Nat} {σ : Sto}
theorem s6_at3 (x : Int) (h0 : 0 ≤ x) (h1 : x < 6) : inv N mX6_at [vR 3 i, vI x] (P σ) = some (some (vI (σ 3 i x.toNat)), P σ) := by
  rw [iX6_at_k3, eX6_at_0_k3, if_neg (by omega), if_pos h1, if_neg (by omega), if_pos h1]
theorem s6_atO3 (x : Int) (h0 : x < 0 ∨ 6 ≤ x) : inv N mX6_at [vR 3 i, vI x] (P σ) = some (some (vI 0), P σ) := by
  rw [iX6_at_k3, eX6_at_0_k3]
  rcases h0 with h0 | h0
  · rw [if_pos h0]
  · rw [if_neg (by omega), if_neg (by omega)]
theorem s6_at4 (x : Int) (h0 : 0 ≤ x) (h1 : x < 6) : inv N mX6_at [vR 4 i, vI x] (P σ) = some (some (vI (σ 4 i x.toNat)), P σ) := by
  rw [iX6_at_k4, eX6_at_0_k4, if_neg (by omega), if_pos h1, if_neg (by omega), if_pos h1]
theorem s6_atO4 (x : Int) (h0 : x < 0 ∨ 6 ≤ x) : inv N mX6_at [vR 4 i, vI x] (P σ) = some (some (vI 0), P σ) := by
  rw [iX6_at_k4, eX6_at_0_k4]
  rcases h0 with h0 | h0
  · rw [if_pos h0]
  · rw [if_neg (by omega), if_neg (by omega)]
theorem s6_at5 (x : Int) (h0 : 0 ≤ x) (h1 : x < 84) : inv N mX6_at [vR 5 i, vI x] (P σ) = some (some (vI (σ 5 i x.toNat)), P σ) := by
  rw [iX6_at_k5, eX6_at_0_k5, if_neg (by omega), if_pos h1, if_neg (by omega), if_pos h1]
theorem s6_atO5 (x : Int) (h0 : x < 0 ∨ 84 ≤ x) : inv N mX6_at [vR 5 i, vI x] (P σ) = some (some (vI 0), P σ) := by
  rw [iX6_at_k5, eX6_at_0_k5]
  rcases h0 with h0 | h0
  · rw [if_pos h0]
  · rw [if_neg (by omega), if_neg (by omega)]
theorem s6_at7 (x : Int) (h0 : 0 ≤ x) (h1 : x < 107) : inv N mX6_at [vR 7 i, vI x] (P σ) = some (some (vI (σ 7 i x.toNat)), P σ) := by
  rw [iX6_at_k7, eX6_at_0_k7, if_neg (by omega), if_pos h1, if_neg (by omega), if_pos h1]
theorem s6_atO7 (x : Int) (h0 : x < 0 ∨ 107 ≤ x) : inv N mX6_at [vR 7 i, vI x] (P σ) = some (some (vI 0), P σ) := by
  rw [iX6_at_k7, eX6_at_0_k7]
  rcases h0 with h0 | h0
  · rw [if_pos h0]
  · rw [if_neg (by omega), if_neg (by omega)]
theorem s6_at13 (x : Int) (h0 : 0 ≤ x) (h1 : x < 31) : inv N mX6_at [vR 13 0, vI x] (P σ) = some (some (vI (σ 13 0 x.toNat)), P σ) := by
  rw [iX6_at_k13, eX6_at_0_k13, if_neg (by omega), if_pos h1, if_neg (by omega), if_pos h1]
theorem s6_atO13 (x : Int) (h0 : x < 0 ∨ 31 ≤ x) : inv N mX6_at [vR 13 0, vI x] (P σ) = some (some (vI 0), P σ) := by
  rw [iX6_at_k13, eX6_at_0_k13]
  rcases h0 with h0 | h0
  · rw [if_pos h0]
  · rw [if_neg (by omega), if_neg (by omega)]
theorem s6_at16 (x : Int) (h0 : 0 ≤ x) (h1 : x < 300) : inv N mX6_at [vR 16 0, vI x] (P σ) = some (some (vI (σ 16 0 x.toNat)), P σ) := by
  rw [iX6_at_k16, eX6_at_0_k16, if_neg (by omega), if_pos h1, if_neg (by omega), if_pos h1]
theorem s6_atO16 (x : Int) (h0 : x < 0 ∨ 300 ≤ x) : inv N mX6_at [vR 16 0, vI x] (P σ) = some (some (vI 0), P σ) := by
  rw [iX6_at_k16, eX6_at_0_k16]
  rcases h0 with h0 | h0
  · rw [if_pos h0]
  · rw [if_neg (by omega), if_neg (by omega)]
theorem s6_at17 (x : Int) (h0 : 0 ≤ x) (h1 : x < 300) : inv N mX6_at [vR 17 0, vI x] (P σ) = some (some (vI (σ 17 0 x.toNat)), P σ) := by
  rw [iX6_at_k17, eX6_at_0_k17, if_neg (by omega), if_pos h1, if_neg (by omega), if_pos h1]
theorem s6_atO17 (x : Int) (h0 : x < 0 ∨ 300 ≤ x) : inv N mX6_at [vR 17 0, vI x] (P σ) = some (some (vI 0), P σ) := by
  rw [iX6_at_k17, eX6_at_0_k17]
  rcases h0 with h0 | h0
  · rw [if_pos h0]
  · rw [if_neg (by omega), if_neg (by omega)]
theorem s6_at18 (x : Int) (h0 : 0 ≤ x) (h1 : x < 300) : inv N mX6_at [vR 18 0, vI x] (P σ) = some (some (vI (σ 18 0 x.toNat)), P σ) := by
  rw [iX6_at_k18, eX6_at_0_k18, if_neg (by omega), if_pos h1, if_neg (by omega), if_pos h1]
theorem s6_atO18 (x : Int) (h0 : x < 0 ∨ 300 ≤ x) : inv N mX6_at [vR 18 0, vI x] (P σ) = some (some (vI 0), P σ) := by
  rw [iX6_at_k18, eX6_at_0_k18]
  rcases h0 with h0 | h0
  · rw [if_pos h0]
  · rw [if_neg (by omega), if_neg (by omega)]
theorem s6_at19 (x : Int) (h0 : 0 ≤ x) (h1 : x < 1024) : inv N mX6_at [vR 19 0, vI x] (P σ) = some (some (vI (σ 19 0 x.toNat)), P σ) := by
  rw [iX6_at_k19, eX6_at_0_k19, if_neg (by omega), if_pos h1, if_neg (by omega), if_pos h1]
theorem s6_atO19 (x : Int) (h0 : x < 0 ∨ 1024 ≤ x) : inv N mX6_at [vR 19 0, vI x] (P σ) = some (some (vI 0), P σ) := by
  rw [iX6_at_k19, eX6_at_0_k19]
  rcases h0 with h0 | h0
  · rw [if_pos h0]
  · rw [if_neg (by omega), if_neg (by omega)]
theorem s6_at20 (x : Int) (h0 : 0 ≤ x) (h1 : x < 12) : inv N mX6_at [vR 20 0, vI x] (P σ) = some (some (vI (σ 20 0 x.toNat)), P σ) := by
  rw [iX6_at_k20, eX6_at_0_k20, if_neg (by omega), if_pos h1, if_neg (by omega), if_pos h1]
theorem s6_atO20 (x : Int) (h0 : x < 0 ∨ 12 ≤ x) : inv N mX6_at [vR 20 0, vI x] (P σ) = some (some (vI 0), P σ) := by
  rw [iX6_at_k20, eX6_at_0_k20]
  rcases h0 with h0 | h0
  · rw [if_pos h0]
  · rw [if_neg (by omega), if_neg (by omega)]
theorem s6_put1 (x v : Int) (h0 : 0 ≤ x) (h1 : x < 300) : inv N mX6_put [vR 1 0, vI x, vI v] (P σ) = some (none, P (row σ 1 0 (set (σ 1 0) x.toNat v))) := by
  rw [iX6_put_k1, eX6_put_0_k1, if_neg (by omega), if_pos h1, if_neg (by omega), if_pos h1, sup_row]
theorem s6_put3 (x v : Int) (h0 : 0 ≤ x) (h1 : x < 6) : inv N mX6_put [vR 3 i, vI x, vI v] (P σ) = some (none, P (row σ 3 i (set (σ 3 i) x.toNat v))) := by
  rw [iX6_put_k3, eX6_put_0_k3, if_neg (by omega), if_pos h1, if_neg (by omega), if_pos h1, sup_row]
theorem s6_put4 (x v : Int) (h0 : 0 ≤ x) (h1 : x < 6) : inv N mX6_put [vR 4 i, vI x, vI v] (P σ) = some (none, P (row σ 4 i (set (σ 4 i) x.toNat v))) := by
  rw [iX6_put_k4, eX6_put_0_k4, if_neg (by omega), if_pos h1, if_neg (by omega), if_pos h1, sup_row]
theorem s6_put5 (x v : Int) (h0 : 0 ≤ x) (h1 : x < 84) : inv N mX6_put [vR 5 i, vI x, vI v] (P σ) = some (none, P (row σ 5 i (set (σ 5 i) x.toNat v))) := by
  rw [iX6_put_k5, eX6_put_0_k5, if_neg (by omega), if_pos h1, if_neg (by omega), if_pos h1, sup_row]
theorem s6_put13 (x v : Int) (h0 : 0 ≤ x) (h1 : x < 31) : inv N mX6_put [vR 13 0, vI x, vI v] (P σ) = some (none, P (row σ 13 0 (set (σ 13 0) x.toNat v))) := by
  rw [iX6_put_k13, eX6_put_0_k13, if_neg (by omega), if_pos h1, if_neg (by omega), if_pos h1, sup_row]
theorem s6_put16 (x v : Int) (h0 : 0 ≤ x) (h1 : x < 300) : inv N mX6_put [vR 16 0, vI x, vI v] (P σ) = some (none, P (row σ 16 0 (set (σ 16 0) x.toNat v))) := by
  rw [iX6_put_k16, eX6_put_0_k16, if_neg (by omega), if_pos h1, if_neg (by omega), if_pos h1, sup_row]
theorem s6_put17 (x v : Int) (h0 : 0 ≤ x) (h1 : x < 300) : inv N mX6_put [vR 17 0, vI x, vI v] (P σ) = some (none, P (row σ 17 0 (set (σ 17 0) x.toNat v))) := by
  rw [iX6_put_k17, eX6_put_0_k17, if_neg (by omega), if_pos h1, if_neg (by omega), if_pos h1, sup_row]
theorem s6_put18 (x v : Int) (h0 : 0 ≤ x) (h1 : x < 300) : inv N mX6_put [vR 18 0, vI x, vI v] (P σ) = some (none, P (row σ 18 0 (set (σ 18 0) x.toNat v))) := by
  rw [iX6_put_k18, eX6_put_0_k18, if_neg (by omega), if_pos h1, if_neg (by omega), if_pos h1, sup_row]
theorem s6_put19 (x v : Int) (h0 : 0 ≤ x) (h1 : x < 1024) : inv N mX6_put [vR 19 0, vI x, vI v] (P σ) = some (none, P (row σ 19 0 (set (σ 19 0) x.toNat v))) := by
  rw [iX6_put_k19, eX6_put_0_k19, if_neg (by omega), if_pos h1, if_neg (by omega), if_pos h1, sup_row]
theorem s6_put20 (x v : Int) (h0 : 0 ≤ x) (h1 : x < 12) : inv N mX6_put [vR 20 0, vI x, vI v] (P σ) = some (none, P (row σ 20 0 (set (σ 20 0) x.toNat v))) := by
  rw [iX6_put_k20, eX6_put_0_k20, if_neg (by omega), if_pos h1, if_neg (by omega), if_pos h1, sup_row]
theorem s2_cell (x : Int) (h0 : 0 ≤ x) (h1 : x < 107) : inv N mX2_cell [vR 6 i, vI x] (P σ) = some (some (vI (σ 7 i x.toNat)), P σ) := by
  rw [iX2_cell, eX2_cell_0, if_neg (by omega), if_pos h1, if_neg (by omega), if_pos h1]
theorem s2_setCell (x v : Int) (h0 : 0 ≤ x) (h1 : x < 107) : inv N mX2_setCell [vR 6 i, vI x, vI v] (P σ) = some (none, P (row σ 7 i (set (σ 7 i) x.toNat v))) := by
  rw [iX2_setCell, eX2_setCell_0, if_neg (by omega), if_pos h1, if_neg (by omega), if_pos h1, sup_row]
/-- 1 if the page that begins at b is WHOLE -/
def whole1 (c : Vec) (b : Nat) : Int := if c b = 165 ∧ c (b + 6) * 256 + c (b + 7) = c b + 2 * c (b + 1) + 3 * c (b + 2) + 4 * c (b + 3) + 5 * c (b + 4) + 6 * c (b + 5) then 1 else 0
theorem whole1_b (c : Vec) (b : Nat) : whole1 c b = 0 ∨ whole1 c b = 1 := by unfold whole1; split <;> simp
def newestF (c : Vec) : Int := if whole1 c 56 = 1 ∧ whole1 c 64 = 1 then (if c 65 = (c 57 + 1) % 256 then 1 else 0) else if whole1 c 56 = 1 then 0 else if whole1 c 64 = 1 then 1 else -1
def OKB (c : Vec) : Prop := ∀ j, 56 ≤ j → j < 76 → 0 ≤ c j ∧ c j < 256
def OKW (c : Vec) : Prop := ∀ j, j < 56 → 0 ≤ c j ∧ c j < 2147483648
theorem s2_isWhole0 (hb : OKB (σ 7 i)) : inv N mX2_isWhole [vR 6 i, vI 0] (P σ) = some (some (vI (whole1 (σ 7 i) 56)), P σ) := by
  have b0 := hb 56 (by omega) (by omega)
  have b1 := hb 57 (by omega) (by omega)
  have b2 := hb 58 (by omega) (by omega)
  have b3 := hb 59 (by omega) (by omega)
  have b4 := hb 60 (by omega) (by omega)
  have b5 := hb 61 (by omega) (by omega)
  have b6 := hb 62 (by omega) (by omega)
  have b7 := hb 63 (by omega) (by omega)
  simp (disch := omega) only [iX2_isWhole, eX2_isWhole_0, eX2_isWhole_10, eX2_isWhole_22, eX2_isWhole_30, eX2_isWhole_37, eX2_isWhole_44, s2_cell, bnd_s, bnd_n, push_s, push_n, w32i, ↓if_pos, ↓if_neg, Int.reduceAdd, Int.reduceMul, Int.reduceSub, Int.reduceToNat, Int.reduceNeg, Nat.reduceAdd, Nat.reduceMul, sup_row, row_same, row_row]
  simp only [whole1, Nat.reduceAdd]
  by_cases h1 : σ 7 i 56 = 165
  · simp only [h1, ↓reduceIte, true_and]
    split <;> split <;> first | rfl | omega
  · simp only [h1, ↓reduceIte, false_and]
theorem s2_isWhole1 (hb : OKB (σ 7 i)) : inv N mX2_isWhole [vR 6 i, vI 1] (P σ) = some (some (vI (whole1 (σ 7 i) 64)), P σ) := by
  have b0 := hb 64 (by omega) (by omega)
  have b1 := hb 65 (by omega) (by omega)
  have b2 := hb 66 (by omega) (by omega)
  have b3 := hb 67 (by omega) (by omega)
  have b4 := hb 68 (by omega) (by omega)
  have b5 := hb 69 (by omega) (by omega)
  have b6 := hb 70 (by omega) (by omega)
  have b7 := hb 71 (by omega) (by omega)
  simp (disch := omega) only [iX2_isWhole, eX2_isWhole_0, eX2_isWhole_10, eX2_isWhole_22, eX2_isWhole_30, eX2_isWhole_37, eX2_isWhole_44, s2_cell, bnd_s, bnd_n, push_s, push_n, w32i, ↓if_pos, ↓if_neg, Int.reduceAdd, Int.reduceMul, Int.reduceSub, Int.reduceToNat, Int.reduceNeg, Nat.reduceAdd, Nat.reduceMul, sup_row, row_same, row_row]
  simp only [whole1, Nat.reduceAdd]
  by_cases h1 : σ 7 i 64 = 165
  · simp only [h1, ↓reduceIte, true_and]
    split <;> split <;> first | rfl | omega
  · simp only [h1, ↓reduceIte, false_and]
theorem s2_newest (hb : OKB (σ 7 i)) : inv N mX2_newestPage [vR 6 i] (P σ) = some (some (vI (newestF (σ 7 i))), P σ) := by
  have b1 := hb 57 (by omega) (by omega)
  have b2 := hb 65 (by omega) (by omega)
  unfold newestF
  rw [iX2_newestPage, eX2_newestPage_0, s2_isWhole0 hb, bnd_s, push_s, eX2_newestPage_3, s2_isWhole1 hb, bnd_s, push_s, eX2_newestPage_7]
  rcases whole1_b (σ 7 i) 56 with h0 | h0 <;> rcases whole1_b (σ 7 i) 64 with h1 | h1 <;> simp only [h0, h1, ↓reduceIte, Int.reduceEq, and_self, and_true, and_false, false_and]
  simp (disch := omega) only [iX2_sequence, eX2_sequence_0, eX2_sequence_9, eX2_newestPage_15, eX2_newestPage_18, s2_cell, bAnd_255, bnd_s, bnd_n, push_s, push_n, w32i, ↓if_pos, ↓if_neg, Int.reduceAdd, Int.reduceMul, Int.reduceSub, Int.reduceToNat, Int.reduceNeg, Nat.reduceAdd, Nat.reduceMul, sup_row, row_same, row_row]
  split <;> rfl
theorem newest_c (c : Vec) : newestF c = -1 ∨ newestF c = 0 ∨ newestF c = 1 := by unfold newestF; split <;> (try split) <;> (try split) <;> simp
/-- FLAGS as the NEWEST page holds them: bytes of A, of B, FAILURES, LAST -/
def flagF (c : Vec) (k : Nat) : Int := if newestF c = -1 then (if k = 3 then 3 else 0) else if newestF c = 0 then c (58 + k) else c (66 + k)
theorem s2_readFlags (hb : OKB (σ 7 i)) : inv N mX2_readFlags [vR 6 i] (P σ) = some (none, P (row σ 6 i (set (set (set (set (set (σ 6 i) 6 (newestF (σ 7 i))) 2 (flagF (σ 7 i) 0)) 3 (flagF (σ 7 i) 1)) 4 (flagF (σ 7 i) 2)) 5 (flagF (σ 7 i) 3)))) := by
  rw [iX2_readFlags, eX2_readFlags_0, s2_newest hb, bnd_s, push_s, eX2_readFlags_3]
  unfold flagF
  rcases newest_c (σ 7 i) with h | h | h <;> simp (disch := omega) only [h, eX2_readFlags_14, eX2_readFlags_28, eX2_readFlags_33, eX2_readFlags_38, eX2_readFlags_43, eX2_readFlags_44, iX2_takeFlags, eX2_takeFlags_0, s2_cell, ↓reduceIte, Int.reduceEq, set_same, row_at, Nat.reduceEqDiff, and_true, and_self, false_and, bnd_s, bnd_n, push_s, push_n, w32i, ↓if_pos, ↓if_neg, Int.reduceAdd, Int.reduceMul, Int.reduceSub, Int.reduceToNat, Int.reduceNeg, Nat.reduceAdd, Nat.reduceMul, sup_row, row_same, row_row]
theorem s2_seq0 : inv N mX2_sequence [vR 6 i, vI 0] (P σ) = some (some (vI (σ 7 i 57)), P σ) := by
  simp (disch := omega) only [iX2_sequence, eX2_sequence_0, eX2_sequence_9, s2_cell, bnd_s, bnd_n, push_s, push_n, w32i, ↓if_pos, ↓if_neg, Int.reduceAdd, Int.reduceMul, Int.reduceSub, Int.reduceToNat, Int.reduceNeg, Nat.reduceAdd, Nat.reduceMul, sup_row, row_same, row_row]
theorem s2_seq1 : inv N mX2_sequence [vR 6 i, vI 1] (P σ) = some (some (vI (σ 7 i 65)), P σ) := by
  simp (disch := omega) only [iX2_sequence, eX2_sequence_0, eX2_sequence_9, s2_cell, bnd_s, bnd_n, push_s, push_n, w32i, ↓if_pos, ↓if_neg, Int.reduceAdd, Int.reduceMul, Int.reduceSub, Int.reduceToNat, Int.reduceNeg, Nat.reduceAdd, Nat.reduceMul, sup_row, row_same, row_row]
theorem s2_isOn : inv N mX2_isOn [vR 6 i] (P σ) = some (some (vI (if σ 7 i 78 = -1 then 0 else 1)), P σ) := by
  simp (disch := omega) only [iX2_isOn, eX2_isOn_0, eX2_isOn_3, s2_cell, bnd_s, bnd_n, push_s, push_n, w32i, ↓if_pos, ↓if_neg, Int.reduceAdd, Int.reduceMul, Int.reduceSub, Int.reduceToNat, Int.reduceNeg, Nat.reduceAdd, Nat.reduceMul, sup_row, row_same, row_row]
  split <;> rfl
theorem s2_turnOff : inv N mX2_turnOff [vR 6 i] (P σ) = some (none, P (row σ 7 i (set (σ 7 i) 78 (-1)))) := by
  simp (disch := omega) only [iX2_turnOff, eX2_turnOff_0, eX2_turnOff_4, s2_setCell, bnd_s, bnd_n, push_s, push_n, w32i, ↓if_pos, ↓if_neg, Int.reduceAdd, Int.reduceMul, Int.reduceSub, Int.reduceToNat, Int.reduceNeg, Nat.reduceAdd, Nat.reduceMul, sup_row, row_same, row_row]
theorem s2_slotFlags (x : Int) : inv N mX2_slotFlags [vR 6 i, vI x] (P σ) = some (some (vI (if x = 0 then σ 6 i 2 else σ 6 i 3)), P σ) := by
  rw [iX2_slotFlags, eX2_slotFlags_0]
  split <;> rfl
theorem s2_setSlotFlags (x v : Int) : inv N mX2_setSlotFlags [vR 6 i, vI x, vI v] (P σ) = some (none, P (row σ 6 i (set (σ 6 i) (if x = 0 then 2 else 3) v))) := by
  rw [iX2_setSlotFlags, eX2_setSlotFlags_0]
  split <;> rw [sup_row]
theorem s2_turnBit (x bit : Int) (h0 : 0 ≤ x) (h1 : x < 107) : inv N mX2_turnBit [vR 6 i, vI x, vI bit] (P σ) = some (some (vI (bXor (σ 7 i x.toNat) (shl32 1 bit))), P (row σ 7 i (set (σ 7 i) x.toNat (bXor (σ 7 i x.toNat) (shl32 1 bit))))) := by
  simp (disch := omega) only [iX2_turnBit, eX2_turnBit_0, eX2_turnBit_5, eX2_turnBit_10, eX2_turnBit_13, s2_cell, s2_setCell, set_same, bnd_s, bnd_n, push_s, push_n, w32i, ↓if_pos, ↓if_neg, Int.reduceAdd, Int.reduceMul, Int.reduceSub, Int.reduceToNat, Int.reduceNeg, Nat.reduceAdd, Nat.reduceMul, sup_row, row_same, row_row]
def dig (p b : Int) : Int := ((p + 527) * 31 + b) % 65536
theorem w32_65536 (x : Int) : w32 x % 65536 = x % 65536 := by unfold w32; omega
theorem s0_digest (p b : Int) : inv N mX0_digest [vI p, vI b] (P σ) = some (some (vI (dig p b)), P σ) := by
  rw [iX0_digest, eX0_digest_0, bAnd_65535, w32_65536]
  unfold dig w32
  congr 4
  omega
def sgn (s a b c d e : Int) : Int := ((((((((((s + 7) * 31 + a) % 65536) * 31 + b) % 65536) * 31 + c) % 65536) * 31 + d) % 65536) * 31 + e) % 65536
theorem bAnd_w (x : Int) : bAnd (w32 x) 65535 = x % 65536 := by rw [bAnd_65535, w32_65536]
def signF (sec c : Vec) (b : Nat) : Int := sgn (sec (c (b + 1)).toNat) (c b) (c (b + 1)) (c (b + 2)) (c (b + 3)) (c (b + 4))
theorem s0_sign7 (b : Nat) (hb : b + 4 < 107) (hk : 0 ≤ σ 7 j (b + 1) ∧ σ 7 j (b + 1) < 6) (hs : ∀ k, k < 6 → 0 ≤ σ 3 i k ∧ σ 3 i k < 10000) : inv N mX0_sign [vR 2 i, vR 7 j, vI (b : Int)] (P σ) = some (some (vI (signF (σ 3 i) (σ 7 j) b)), P σ) := by
  have hs1 := hs (σ 7 j (b + 1)).toNat (by omega)
  have e1 : ((b : Int) + 1).toNat = b + 1 := by omega
  have e2 : ((b : Int) + 2).toNat = b + 2 := by omega
  have e3 : ((b : Int) + 3).toNat = b + 3 := by omega
  have e4 : ((b : Int) + 4).toNat = b + 4 := by omega
  have e0 : ((b : Int) + 0).toNat = b := by omega
  rw [iX0_sign_k7, eX0_sign_0_k7, w32i (by omega) (by omega), s6_at7 _ (by omega) (by omega), bnd_s, push_s, eX0_sign_7_k7, e1, s6_at3 _ (by omega) (by omega), bnd_s, push_s, eX0_sign_8_k7]
  simp (disch := omega) only [eX0_sign_13_k7, eX0_sign_24_k7, s6_at7, bAnd_65535, w32_65536, e0, e1, e2, e3, e4, bnd_s, push_s, w32i, ↓if_pos, ↓if_neg, Int.reduceAdd]
  rfl
theorem s0_sign5 (b : Nat) (hb : b + 4 < 84) (hk : 0 ≤ σ 5 j (b + 1) ∧ σ 5 j (b + 1) < 6) (hs : ∀ k, k < 6 → 0 ≤ σ 3 i k ∧ σ 3 i k < 10000) : inv N mX0_sign [vR 2 i, vR 5 j, vI (b : Int)] (P σ) = some (some (vI (signF (σ 3 i) (σ 5 j) b)), P σ) := by
  have hs1 := hs (σ 5 j (b + 1)).toNat (by omega)
  have e1 : ((b : Int) + 1).toNat = b + 1 := by omega
  have e2 : ((b : Int) + 2).toNat = b + 2 := by omega
  have e3 : ((b : Int) + 3).toNat = b + 3 := by omega
  have e4 : ((b : Int) + 4).toNat = b + 4 := by omega
  have e0 : ((b : Int) + 0).toNat = b := by omega
  rw [iX0_sign_k5, eX0_sign_0_k5, w32i (by omega) (by omega), s6_at5 _ (by omega) (by omega), bnd_s, push_s, eX0_sign_7_k5, e1, s6_at3 _ (by omega) (by omega), bnd_s, push_s, eX0_sign_8_k5]
  simp (disch := omega) only [eX0_sign_13_k5, eX0_sign_24_k5, s6_at5, bAnd_65535, w32_65536, e0, e1, e2, e3, e4, bnd_s, push_s, w32i, ↓if_pos, ↓if_neg, Int.reduceAdd]
  rfl
end CLS
