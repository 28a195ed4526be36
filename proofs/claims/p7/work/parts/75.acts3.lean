/-! ACTS: bits, the factory -/
section ACT
variable {N : Nat} {σ : Sto} {L : Int}
theorem a_bit (h : INV L σ) (k b : Nat) (hk : k < 72) (hb : k < 56 → b < 31) (hb2 : 56 ≤ k → b < 8) : INV L (row (remS (row (keepS σ) 7 0 (set (σ 7 0) k (bXor (σ 7 0 k) (shl32 1 (b : Int)))))) 40 0 (set (σ 40 0) k (bXor (σ 7 0 k) (shl32 1 (b : Int))))) := by
  have b31 : b < 31 := by omega
  have hp : 0 < 2 ^ b := Nat.pow_pos (by omega)
  refine a_cells h (CELL_low h.2.1 k _ hk (fun q => ?_) (fun q => ?_))
  · have w := h.2.1.1.1 k q
    have p : 2 ^ b < 2 ^ 31 := Nat.pow_lt_pow_right (by omega) b31
    rw [shl1 b b31]
    exact bXor_lt (n := 31) (by omega) w.1 (by have := w.2; omega) (by omega) (by omega)
  · have w := h.2.1.1.2.1 k q (by omega)
    have p : 2 ^ b < 2 ^ 8 := Nat.pow_lt_pow_right (by omega) (hb2 q)
    rw [shl1 b b31]
    have := bXor_lt (x := σ 7 0 k) (m := ((2 ^ b : Nat) : Int)) (n := 8) (by omega) w.1 (by have := w.2; omega) (by omega) (by omega)
    exact ⟨this.1, by have := this.2; omega⟩
theorem s8_isStore (x : Int) : inv N mX8_isStore [vI x] (P σ) = some (some (vI (if 0 ≤ x ∧ x < 4 then 1 else 0)), P σ) := by
  rw [iX8_isStore, eX8_isStore_0]
  by_cases h1 : x < 0
  · rw [if_pos h1, if_neg (by omega)]
  · rw [if_neg h1]
    by_cases h2 : x < 4
    · rw [if_pos h2, if_pos (by omega)]
    · rw [if_neg h2, if_neg (by omega)]
theorem s8_isPage (x : Int) : inv N mX8_isPage [vI x] (P σ) = some (some (vI (if x = 0 ∨ x = 1 then 1 else 0)), P σ) := by
  rw [iX8_isPage, eX8_isPage_0]
  by_cases h1 : x = 0
  · rw [if_pos h1, if_pos (Or.inl h1)]
  · rw [if_neg h1]
    by_cases h2 : x = 1
    · rw [if_pos h2, if_pos (Or.inr h2)]
    · rw [if_neg h2, if_neg (by omega)]
/-- the model's side of a bit's turn -/
theorem bit_store (h : INV L σ) (k b : Nat) : row (keepS σ) 7 0 (set (σ 7 0) k (bXor (σ 7 0 k) (shl32 1 (b : Int)))) 40 0 = σ 40 0 ∧ remS (row (keepS σ) 7 0 (set (σ 7 0) k (bXor (σ 7 0 k) (shl32 1 (b : Int))))) 40 0 = σ 40 0 ∧ inv N mX9_remembers [vR 30 0] (P (row (keepS σ) 7 0 (set (σ 7 0) k (bXor (σ 7 0 k) (shl32 1 (b : Int)))))) = some (none, P (remS (row (keepS σ) 7 0 (set (σ 7 0) k (bXor (σ 7 0 k) (shl32 1 (b : Int))))))) := by
  have o := fun (j : Nat) (hk : j ≠ 7) => (row_at (keepS σ) 7 0 (set (σ 7 0) k (bXor (σ 7 0 k) (shl32 1 (b : Int)))) j 0).trans (if_neg (fun z => hk z.1))
  have p40 := (o 40 (by decide)).trans (keepS_o σ (k := 40) 0 (by decide) (by decide))
  have p30 := (o 30 (by decide)).trans (keepS_o σ (k := 30) 0 (by decide) (by decide))
  exact ⟨p40, (remS_o _ 0 (by decide) (by decide)).trans p40, a_rem h (by rw [p30])⟩
theorem pair_flip (s w b : Int) : PAIR N mX8_flip mX9_flip [vI s, vI w, vI b] := by
  intro L σ h hL
  by_cases q : (0 ≤ s ∧ s < 4) ∧ (0 ≤ w ∧ w < 14) ∧ 0 ≤ b ∧ b < 31
  · obtain ⟨q1, q2, q3⟩ := q
    obtain ⟨s, rfl⟩ := Int.eq_ofNat_of_zero_le q1.1
    obtain ⟨w, rfl⟩ := Int.eq_ofNat_of_zero_le q2.1
    obtain ⟨b, rfl⟩ := Int.eq_ofNat_of_zero_le q3.1
    have hk : 14 * s + w < 56 := by omega
    have hb : b < 31 := by omega
    have e1 : w32 (w32 ((s : Int) * 14) + (w : Int)) = ((14 * s + w : Nat) : Int) := by rw [w32i (x := (s : Int) * 14) (by omega) (by omega), w32i (by omega) (by omega)]; omega
    have e2 : w32 (w32 (14 * (s : Int)) + (w : Int)) = ((14 * s + w : Nat) : Int) := by rw [w32i (x := 14 * (s : Int)) (by omega) (by omega), w32i (by omega) (by omega)]; omega
    have n1 : ¬ (((14 * s + w : Nat) : Int) < 0) ∧ ((14 * s + w : Nat) : Int) < 107 := by omega
    have a1 := s9_in (N := N) (σ := row (keepS σ) 7 0 (set (σ 7 0) (14 * s + w) (bXor (σ 7 0 (14 * s + w)) (shl32 1 (b : Int))))) (s : Int) 0 3
    have a2 := s9_in (N := N) (σ := row (keepS σ) 7 0 (set (σ 7 0) (14 * s + w) (bXor (σ 7 0 (14 * s + w)) (shl32 1 (b : Int))))) (w : Int) 0 13
    have a3 := s9_in (N := N) (σ := row (keepS σ) 7 0 (set (σ 7 0) (14 * s + w) (bXor (σ 7 0 (14 * s + w)) (shl32 1 (b : Int))))) (b : Int) 0 30
    rw [if_pos (by omega)] at a1 a2 a3
    have tb := s2_turnBit (N := N) (σ := keepS σ) (i := 0) ((14 * s + w : Nat) : Int) (b : Int) (by omega) (by omega)
    have g1 : ¬ (w : Int) < 0 := by omega
    have g2 : (w : Int) < 14 := by omega
    have g3 : ¬ (b : Int) < 0 := by omega
    have g4 : (b : Int) < 31 := by omega
    have iv := a_bit h (14 * s + w) b (by omega) (fun _ => hb) (fun z => absurd hk (by omega))
    have ex := h.2.1.2.1.1.1 (14 * s + w) (by omega)
    generalize 14 * s + w = k at hk e1 e2 n1 a1 a2 a3 tb iv ex
    rw [Int.toNat_natCast, keepS_o σ 0 (by decide) (by decide)] at tb
    obtain ⟨m1, m2, m3⟩ := bit_store (N := N) h k b
    refine ⟨bXor (σ 7 0 k) (shl32 1 (b : Int)), row (keepS σ) 7 0 (set (σ 7 0) k (bXor (σ 7 0 k) (shl32 1 (b : Int)))), _, ?_, ?_, up300 iv (by omega)⟩
    · rw [iX8_flip, eX8_flip_0, s8_isStore, if_pos q1, bnd_s, push_s, eX8_flip_2, if_neg (by decide), if_neg g1, if_pos g2, if_neg g3, if_pos g4, a_keep h, bnd_s, push_n, eX8_flip_18, e1, tb, bnd_s, push_s, eX8_flip_27]
    · rw [iX9_flip, eX9_flip_0, a1, bnd_s, push_s, eX9_flip_5, if_neg (by decide), a2, bnd_s, push_s, eX9_flip_11, if_neg (by decide), a3, bnd_s, push_s, eX9_flip_17, if_neg (by decide), m3, bnd_s, push_n, eX9_flip_22, e2, if_neg n1.1, if_pos n1.2, if_neg n1.1, if_pos n1.2, if_neg n1.1, if_pos n1.2, sup_row, Int.toNat_natCast, m2, row_same, set_same, ex]
  · have c : inv N mX8_flip [vR 0 0, vI s, vI w, vI b] (P σ) = some (some (vI (-1)), P σ) := by
      rw [iX8_flip, eX8_flip_0, s8_isStore, bnd_s, push_s, eX8_flip_2]
      by_cases q1 : 0 ≤ s ∧ s < 4
      · rw [if_pos q1, if_neg (by decide)]
        by_cases z1 : w < 0
        · rw [if_pos z1]
        rw [if_neg z1]
        by_cases z2 : w < 14
        · rw [if_pos z2]
          by_cases z3 : b < 0
          · rw [if_pos z3]
          · rw [if_neg z3, if_neg (by omega)]
        · rw [if_neg z2]
      · rw [if_neg q1, if_pos rfl]
    have m : inv N mX9_flip [vR 30 0, vI s, vI w, vI b] (P σ) = some (some (vI (-1)), P σ) := by
      rw [iX9_flip, eX9_flip_0, s9_in, bnd_s, push_s, eX9_flip_5]
      by_cases q1 : 0 ≤ s ∧ s ≤ 3
      · rw [if_pos q1, if_neg (by decide), s9_in, bnd_s, push_s, eX9_flip_11]
        by_cases q2 : 0 ≤ w ∧ w ≤ 13
        · rw [if_pos q2, if_neg (by decide), s9_in, bnd_s, push_s, eX9_flip_17, if_neg (show ¬ (0 ≤ b ∧ b ≤ 30) by omega), if_pos rfl]
        · rw [if_neg q2, if_pos rfl]
      · rw [if_neg q1, if_pos rfl]
    exact ⟨-1, σ, σ, c, m, up300 h (by omega)⟩
theorem pair_blot (s w b : Int) : PAIR N mX8_blot mX9_blot [vI s, vI w, vI b] := by
  intro L σ h hL
  by_cases q : (s = 0 ∨ s = 1) ∧ (0 ≤ w ∧ w < 8) ∧ 0 ≤ b ∧ b < 8
  · obtain ⟨q1, q2, q3⟩ := q
    obtain ⟨s, rfl⟩ := Int.eq_ofNat_of_zero_le (show 0 ≤ s by omega)
    obtain ⟨w, rfl⟩ := Int.eq_ofNat_of_zero_le q2.1
    obtain ⟨b, rfl⟩ := Int.eq_ofNat_of_zero_le q3.1
    have hk : 56 ≤ 56 + 8 * s + w ∧ 56 + 8 * s + w < 72 := by omega
    have hb : b < 8 := by omega
    have e1 : w32 (w32 (56 + w32 ((s : Int) * 8)) + (w : Int)) = ((56 + 8 * s + w : Nat) : Int) := by rw [w32i (x := (s : Int) * 8) (by omega) (by omega), w32i (x := 56 + (s : Int) * 8) (by omega) (by omega), w32i (by omega) (by omega)]; omega
    have e2 : w32 (56 + 8 * (s : Int) + (w : Int)) = ((56 + 8 * s + w : Nat) : Int) := by rw [w32i (by omega) (by omega)]; omega
    have n1 : ¬ (((56 + 8 * s + w : Nat) : Int) < 0) ∧ ((56 + 8 * s + w : Nat) : Int) < 107 := by omega
    have a1 := s9_in (N := N) (σ := row (keepS σ) 7 0 (set (σ 7 0) (56 + 8 * s + w) (bXor (σ 7 0 (56 + 8 * s + w)) (shl32 1 (b : Int))))) (s : Int) 0 1
    have a2 := s9_in (N := N) (σ := row (keepS σ) 7 0 (set (σ 7 0) (56 + 8 * s + w) (bXor (σ 7 0 (56 + 8 * s + w)) (shl32 1 (b : Int))))) (w : Int) 0 7
    have a3 := s9_in (N := N) (σ := row (keepS σ) 7 0 (set (σ 7 0) (56 + 8 * s + w) (bXor (σ 7 0 (56 + 8 * s + w)) (shl32 1 (b : Int))))) (b : Int) 0 7
    rw [if_pos (by omega)] at a1 a2 a3
    have pa := fun τ : Sto => s9_pageAt (N := N) (σ := τ) (s : Int) (by omega) (by omega)
    have tb := s2_turnBit (N := N) (σ := keepS σ) (i := 0) ((56 + 8 * s + w : Nat) : Int) (b : Int) (by omega) (by omega)
    have g1 : ¬ (w : Int) < 0 := by omega
    have g2 : (w : Int) < 8 := by omega
    have g3 : ¬ (b : Int) < 0 := by omega
    have g4 : ¬ 7 < (b : Int) := by omega
    have iv := a_bit h (56 + 8 * s + w) b hk.2 (fun z => absurd hk.1 (by omega)) (fun _ => hb)
    have ex := h.2.1.2.1.1.1 (56 + 8 * s + w) (by omega)
    generalize 56 + 8 * s + w = k at hk e1 e2 n1 a1 a2 a3 tb iv ex
    rw [Int.toNat_natCast, keepS_o σ 0 (by decide) (by decide)] at tb
    obtain ⟨m1, m2, m3⟩ := bit_store (N := N) h k b
    refine ⟨bXor (σ 7 0 k) (shl32 1 (b : Int)), row (keepS σ) 7 0 (set (σ 7 0) k (bXor (σ 7 0 k) (shl32 1 (b : Int)))), _, ?_, ?_, up300 iv (by omega)⟩
    · rw [iX8_blot, eX8_blot_0, s8_isPage, if_pos q1, bnd_s, push_s, eX8_blot_2, if_neg (by decide), if_neg g1, if_pos g2, if_neg g3, if_neg g4, a_keep h, bnd_s, push_n, eX8_blot_18, e1, tb, bnd_s, push_s, eX8_blot_29]
    · rw [iX9_blot, eX9_blot_0, a1, bnd_s, push_s, eX9_blot_5, if_neg (by decide), a2, bnd_s, push_s, eX9_blot_11, if_neg (by decide), a3, bnd_s, push_s, eX9_blot_17, if_neg (by decide), m3, bnd_s, push_n, eX9_blot_22, pa, bnd_s, push_s, eX9_blot_26, e2, if_neg n1.1, if_pos n1.2, if_neg n1.1, if_pos n1.2, pa, bnd_s, push_s, eX9_blot_39, e2, if_neg n1.1, if_pos n1.2, sup_row, Int.toNat_natCast, m2, row_same, set_same, ex]
  · have c : inv N mX8_blot [vR 0 0, vI s, vI w, vI b] (P σ) = some (some (vI (-1)), P σ) := by
      rw [iX8_blot, eX8_blot_0, s8_isPage, bnd_s, push_s, eX8_blot_2]
      by_cases q1 : s = 0 ∨ s = 1
      · rw [if_pos q1, if_neg (by decide)]
        by_cases z1 : w < 0
        · rw [if_pos z1]
        rw [if_neg z1]
        by_cases z2 : w < 8
        · rw [if_pos z2]
          by_cases z3 : b < 0
          · rw [if_pos z3]
          · rw [if_neg z3, if_pos (by omega)]
        · rw [if_neg z2]
      · rw [if_neg q1, if_pos rfl]
    have m : inv N mX9_blot [vR 30 0, vI s, vI w, vI b] (P σ) = some (some (vI (-1)), P σ) := by
      rw [iX9_blot, eX9_blot_0, s9_in, bnd_s, push_s, eX9_blot_5]
      by_cases q1 : 0 ≤ s ∧ s ≤ 1
      · rw [if_pos q1, if_neg (by decide), s9_in, bnd_s, push_s, eX9_blot_11]
        by_cases q2 : 0 ≤ w ∧ w ≤ 7
        · rw [if_pos q2, if_neg (by decide), s9_in, bnd_s, push_s, eX9_blot_17, if_neg (show ¬ (0 ≤ b ∧ b ≤ 7) by omega), if_pos rfl]
        · rw [if_neg q2, if_pos rfl]
      · rw [if_neg q1, if_pos rfl]
    exact ⟨-1, σ, σ, c, m, up300 h (by omega)⟩
end ACT
