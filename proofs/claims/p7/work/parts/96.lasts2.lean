/-! LASTS, whole -/
section TRY
variable {N : Nat} {σ σ0 : Sto} {L : Int}
/-- what is put by, tried and put back leaves all as it was -/
theorem QX_think (a : Nat) (ha : a < 3) {τ υ : Sto} (km : KM (row τ 42 0 (cpyV (τ 40 0) (τ 42 0) 0 (107 * a) 107)) υ) : QX τ (row υ 40 0 (cpyV (υ 42 0) (υ 40 0) (107 * a) 0 107)) := by
  have o : ∀ k k', ¬ (k' = 0 ∧ (k = 30 ∨ k = 40 ∨ k = 42 ∨ k = 43 ∨ k = 44 ∨ k = 45)) → row υ 40 0 (cpyV (υ 42 0) (υ 40 0) (107 * a) 0 107) k k' = τ k k' := by
    intro k k' hk
    rw [row_at, if_neg (by omega), km.1 k k' (by omega), row_at, if_neg (by omega)]
  have f : ∀ j, j ≠ 22 → j ≠ 23 → j ≠ 24 → row υ 40 0 (cpyV (υ 42 0) (υ 40 0) (107 * a) 0 107) 30 0 j = τ 30 0 j := by
    intro j h1 h2 h3
    rw [row_at, if_neg (by omega), km.2 j h1 h2 h3, row_at, if_neg (by omega)]
  have v42 : υ 42 0 = cpyV (τ 40 0) (τ 42 0) 0 (107 * a) 107 := by
    rw [km.1 42 0 (by omega), row_same]
  refine QX_WM (b := 0) ⟨o, f, fun j hj => ?_, fun j hj => absurd hj (Nat.not_lt_zero j)⟩
  rw [row_same]
  have := cpyV_in (υ 42 0) (υ 40 0) (107 * a) 0 107 j hj
  rw [Nat.zero_add] at this
  rw [this, v42, cpyV_in _ _ _ _ _ _ hj, Nat.zero_add]
theorem pair_lasts (w : Int) : PAIR N mX8_lasts mX9_lasts [vI w] := by
  intro L σ h hL
  have oi := fun τ v lo hi => s9_in (N := N) (σ := τ) v lo hi
  by_cases q : w = 0 ∨ w = 1
  case neg =>
    refine ⟨-1, σ, σ, ?_, ?_, up300 h (by omega)⟩
    · rw [iX8_lasts, eX8_lasts_0, iX7_bootsWithoutHealth, eX7_bootsWithoutHealth_0, if_neg (fun z => q (Or.inl z)), if_neg (fun z => q (Or.inr z)), bnd_s, push_s, eX8_lasts_4]
    · rw [iX9_lasts, eX9_lasts_0, oi, if_neg (show ¬ (0 ≤ w ∧ w ≤ 1) by omega), bnd_s, push_s, eX9_lasts_5, if_pos rfl]
  have qi : 0 ≤ w ∧ w ≤ 1 := by omega
  have hc : CELL L (cpyV (σ 7 0) (σ 7 1) 0 0 107) (σ 40 0) := CELL_107 h.2.1 (fun j hj => cpy_all _ _ hj) (fun _ _ => rfl)
  have ct := c_take (N := N) (σ := σ) 1 0
  generalize cpyV (σ 7 0) (σ 7 1) 0 0 107 = c at hc ct
  rw [row_as_put] at ct
  have h82 : c 82 + (60 : Nat) < 2147483000 := Int.lt_of_le_of_lt (Int.add_le_add_right hc.2.2 _) (by omega)
  have b0 : 0 ≤ c 82 := hc.2.1.1.2.2.2.2.1
  have th := fun τ : Sto => m_thinks (N := N) (σ := τ) 0 (by decide)
  have pb := fun τ : Sto => m_putsBack (N := N) (σ := τ) 0 (by decide)
  simp only [Int.cast_ofNat_Int] at th pb
  have lp := fun τ hz he => la_loop (N := N) (σ0 := σ) h.1.1 w q 60 0 (c, σ 6 1) τ vX (-1) rfl (by decide) (by decide) hz hc.1 he h82 b0
  -- the class's end does not depend on the model's store
  obtain ⟨y0, -, a0, -, -, c1, -⟩ := lp σ hc.2.1 h.1.2.1
  have q1 := QX_put σ 1 (by decide) y0
  have t40 : putC σ 1 y0 40 0 = σ 40 0 := putC_o _ _ _ _ (by decide) (by decide)
  generalize hs : putC σ 1 y0 = τ at c1 q1 t40
  have r40 : row τ 42 0 (cpyV (τ 40 0) (τ 42 0) 0 (107 * 0) 107) 40 0 = σ 40 0 := by rw [row_at, if_neg (by decide), t40]
  obtain ⟨y, υ, ans, n2, is2, d1, d2, d3, d4⟩ := lp (row τ 42 0 (cpyV (τ 40 0) (τ 42 0) 0 (107 * 0) 107)) (by rw [r40]; exact hc.2.1) (EnvM_FX (FX_trans q1.1 (FX_row _ 42 0 _ (by decide) (by decide) (by decide))) (FX_refl σ) h.1.2.1)
  have ea : a0 = ans := Sum.inl.inj (Option.some.inj (congrArg Prod.fst (Option.some.inj (c1.symm.trans d1))))
  simp only [Int.cast_ofNat_Int, Nat.zero_add] at c1 d2
  refine ⟨ans, τ, row υ 40 0 (cpyV (υ 42 0) (υ 40 0) (107 * 0) 0 107), ?_, ?_, up300 (INV_QX (QX_trans q1 (QX_think 0 (by decide) d3)) h) (by omega)⟩
  · rw [iX8_lasts, eX8_lasts_0, iX7_bootsWithoutHealth, eX7_bootsWithoutHealth_0]
    rcases q with rfl | rfl
    · rw [if_pos rfl, ct, bnd_s, push_n, eX7_bootsWithoutHealth_12, c1, bnd_s, push_s, eX8_lasts_4, ea]
    · rw [if_neg (by decide), if_pos rfl, ct, bnd_s, push_n, eX7_bootsWithoutHealth_12, c1, bnd_s, push_s, eX8_lasts_4, ea]
  · rw [iX9_lasts, eX9_lasts_0, oi, if_pos qi, bnd_s, push_s, eX9_lasts_5, if_neg (by decide), th, bnd_s, push_n, eX9_lasts_11, d2, pb, bnd_s, push_n, d4]
end TRY
