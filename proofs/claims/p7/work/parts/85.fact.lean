/-! THE FACTORY -/
section ACT
variable {N : Nat} {σ : Sto} {L : Int}
theorem s2_putImage (i s im : Nat) (hs : s < 4) (him : im < 6) : inv N mX2_putImage [vR 6 i, vI (s : Int), vI (im : Int)] (P σ) = some (none, P (row σ 7 i (cpyV (σ 5 1) (σ 7 i) (14 * im) (14 * s) 14))) := by
  have e1 : w32 ((im : Int) * 14) = ((14 * im : Nat) : Int) := by rw [w32i (by omega) (by omega)]; omega
  have e2 : w32 ((s : Int) * 14) = ((14 * s : Nat) : Int) := by rw [w32i (by omega) (by omega)]; omega
  have w1 : w32 (84 - 14) = 70 := rfl
  have w2 : w32 (107 - 14) = 93 := rfl
  rw [iX2_putImage, eX2_putImage_0, iX6_copy_k5_k7, eX6_copy_0_k5_k7, e1, e2, w1, w2]
  rw [if_neg (by omega), if_neg (by omega), if_neg (by omega), if_neg (by omega), if_neg (by omega), if_neg (by omega), if_neg (by omega), if_neg (by omega), if_neg (by omega), if_neg (by omega), bnd_s, push_n, eX2_putImage_13, cpy_row, Int.toNat_natCast, Int.toNat_natCast]
  rfl
/-- both copies out of an image -/
def imgV (w n : Vec) (a k : Nat) : Vec := cpyV w (cpyV w n a 28 k) a 42 k
theorem imgV_s (w n : Vec) (a k : Nat) (hk : k < 14) : set (set (imgV w n a k) (28 + k) (w (a + k))) (42 + k) (w (a + k)) = imgV w n a (k + 1) := by
  have e : set (cpyV w (cpyV w n a 28 k) a 42 k) (28 + k) (w (a + k)) = cpyV w (set (cpyV w n a 28 k) (28 + k) (w (a + k))) a 42 k := by
    funext j
    unfold set cpyV
    by_cases h : j = 28 + k
    · rw [if_pos h, if_neg (by omega)]
      exact (if_pos h).symm
    · rw [if_neg h]
      by_cases h2 : 42 ≤ j ∧ j < 42 + k
      · rw [if_pos h2, if_pos h2]
      · rw [if_neg h2, if_neg h2]
        exact (if_neg h).symm
  unfold imgV
  rw [e, cpyV_s, cpyV_s]
theorem s9_fac_loop (im : Nat) (him : im < 6) : ∀ (m k : Nat), k + m = 14 → ev N mX9_factory 22 [vR 30 0, vI (im : Int), vI (k : Int)] [] (P (row σ 40 0 (imgV (σ 36 0) (σ 40 0) (14 * im) k))) = some (some (vI 1), P (row σ 40 0 (imgV (σ 36 0) (σ 40 0) (14 * im) 14))) := by
  intro m
  induction m with
  | zero =>
    intro k hk
    have e : k = 14 := by omega
    subst e
    rw [eX9_factory_22, if_neg (by omega)]
  | succ m ih =>
    intro k hk
    have e1 : w32 (w32 (14 * (im : Int)) + (k : Int)) = ((14 * im + k : Nat) : Int) := by rw [w32i (x := 14 * (im : Int)) (by omega) (by omega), w32i (by omega) (by omega)]; omega
    have e2 : w32 (28 + (k : Int)) = ((28 + k : Nat) : Int) := by rw [w32i (by omega) (by omega)]; omega
    have e3 : w32 (42 + (k : Int)) = ((42 + k : Nat) : Int) := by rw [w32i (by omega) (by omega)]; omega
    have e4 : w32 ((k : Int) + 1) = ((k + 1 : Nat) : Int) := by rw [w32i (by omega) (by omega)]; omega
    have r36 : ∀ g, row σ 40 0 g 36 0 = σ 36 0 := fun g => by rw [row_at, if_neg (by omega)]
    rw [eX9_factory_22, if_pos (by omega), e1, e2, e3, e4, if_neg (by omega), if_pos (by omega), if_neg (by omega), if_pos (by omega), if_neg (by omega), if_pos (by omega), if_neg (by omega), if_pos (by omega)]
    simp only [Int.toNat_natCast, sup_row, row_same, row_row, r36]
    rw [imgV_s _ _ _ _ (by omega)]
    exact ih (k + 1) (by omega)
theorem CELL_img {c n w w2 : Vec} {a : Nat} (h : CELL L c n) (hw : ∀ j, j < 14 → w2 (a + j) = w (a + j)) (hr : ∀ j, j < 14 → 0 ≤ w (a + j) ∧ w (a + j) < 2147483648) : CELL L (imgV w c a 14) (imgV w2 n a 14) := by
  have v : ∀ (f g : Vec) (j : Nat), imgV f g a 14 j = if 28 ≤ j ∧ j < 42 then f (a + (j - 28)) else if 42 ≤ j ∧ j < 56 then f (a + (j - 42)) else g j := by
    intro f g j
    unfold imgV cpyV
    by_cases h1 : 28 ≤ j ∧ j < 42
    · rw [if_neg (show ¬ (42 ≤ j ∧ j < 42 + 14) by omega), if_pos (show 28 ≤ j ∧ j < 28 + 14 by omega)]
      exact (if_pos h1).symm
    · by_cases h2 : 42 ≤ j ∧ j < 56
      · rw [if_pos (show 42 ≤ j ∧ j < 42 + 14 by omega)]
        exact ((if_neg h1).trans (if_pos h2)).symm
      · rw [if_neg (show ¬ (42 ≤ j ∧ j < 42 + 14) by omega), if_neg (show ¬ (28 ≤ j ∧ j < 28 + 14) by omega)]
        exact ((if_neg h1).trans (if_neg h2)).symm
  have o : ∀ (f g : Vec) (j : Nat), 56 ≤ j → imgV f g a 14 j = g j := by
    intro f g j hj
    rw [v, if_neg (by omega), if_neg (by omega)]
  obtain ⟨⟨c1, c2, c3, c4, c5⟩, ⟨⟨b1, b2, b3, b4, b5⟩, d⟩, e⟩ := h
  refine ⟨⟨fun j hj => ?_, fun j hj hj2 => ?_, ?_, ?_, ?_⟩, ⟨⟨fun j hj => ?_, ?_, ?_, ?_, RS_congr b5 (fun j hj => o _ _ j (by omega)) (fun j hj => o _ _ j (by omega))⟩, ?_⟩, ?_⟩
  · rw [v]
    split
    · exact hr _ (by omega)
    · split
      · exact hr _ (by omega)
      · exact c1 j hj
  · rw [o _ _ j hj]
    exact c2 j hj hj2
  · rw [o _ _ 76 (by omega)]
    exact c3
  · rw [o _ _ 77 (by omega)]
    exact c4
  · rw [o _ _ 78 (by omega)]
    exact c5
  · rw [v, v]
    by_cases h1 : 28 ≤ j ∧ j < 42
    · rw [if_pos h1, if_pos h1, hw _ (by omega)]
    · rw [if_neg h1, if_neg h1]
      by_cases h2 : 42 ≤ j ∧ j < 56
      · rw [if_pos h2, if_pos h2, hw _ (by omega)]
      · rw [if_neg h2, if_neg h2, b1 j hj]
  · rw [o _ _ 79 (by omega), o _ _ 80 (by omega), b2]
  · rw [o _ _ 80 (by omega), o _ _ 79 (by omega), b3]
  · rw [o _ _ 81 (by omega), o _ _ 81 (by omega), b4]
  · rw [o _ _ 78 (by omega), o _ _ 78 (by omega), d]
  · rw [o _ _ 82 (by omega)]
    exact e
end ACT
