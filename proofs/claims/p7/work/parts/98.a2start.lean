/-! THE STORE behind the constructors -/

def B0 : Vec := set (set (set Z 2 3) 3 3) 4 20
def C0 : Vec := set (fill Z 56 20 255) 78 (-1)
def S0 : Vec := set (set (set (set (set Z 0 0) 1 0) 2 3) 3 3) 4 20
theorem zro_row (σ : Sto) (k i : Nat) : zro σ k i = row σ k i Z := by
  funext k' i' j'
  unfold zro row
  by_cases h : k' = k ∧ i' = i
  · rw [if_pos h, if_pos h]
    rfl
  · rw [if_neg h, if_neg h]
theorem gs_0_0 (σ : Sto) : gStart σ 0 0 = Z := rfl
theorem gs_1_0 (σ : Sto) : gStart σ 1 0 = Z := rfl
theorem gs_3_0 (σ : Sto) : gStart σ 3 0 = Z := rfl
theorem gs_3_1 (σ : Sto) : gStart σ 3 1 = Z := rfl
theorem gs_4_0 (σ : Sto) : gStart σ 4 0 = Z := rfl
theorem gs_4_1 (σ : Sto) : gStart σ 4 1 = Z := rfl
theorem gs_5_0 (σ : Sto) : gStart σ 5 0 = Z := rfl
theorem gs_5_1 (σ : Sto) : gStart σ 5 1 = Z := rfl
theorem gs_7_0 (σ : Sto) : gStart σ 7 0 = C0 := rfl
theorem gs_8_0 (σ : Sto) : gStart σ 8 0 = Z := rfl
theorem gs_9_0 (σ : Sto) : gStart σ 9 0 = Z := rfl
theorem gs_10_0 (σ : Sto) : gStart σ 10 0 = Z := rfl
theorem gs_30_0 (σ : Sto) : gStart σ 30 0 = Z := rfl
theorem gs_31_0 (σ : Sto) : gStart σ 31 0 = Z := rfl
theorem gs_32_0 (σ : Sto) : gStart σ 32 0 = Z := rfl
theorem gs_33_0 (σ : Sto) : gStart σ 33 0 = Z := rfl
theorem gs_34_0 (σ : Sto) : gStart σ 34 0 = Z := rfl
theorem gs_35_0 (σ : Sto) : gStart σ 35 0 = Z := rfl
theorem gs_36_0 (σ : Sto) : gStart σ 36 0 = Z := rfl
theorem gs_37_0 (σ : Sto) : gStart σ 37 0 = Z := rfl
theorem gs_39_0 (σ : Sto) : gStart σ 39 0 = Z := rfl
theorem gs_41_0 (σ : Sto) : gStart σ 41 0 = Z := rfl
theorem three (X : Sto) (i : Nat) (h : X 2 i = Z) : sup (sup (sup X 2 i 2 3) 2 i 3 3) 2 i 4 20 2 i = B0 := by
  rw [sup_row, row_same, sup_row, row_same, sup_row, row_same, h]
  rfl
theorem gs_2_0 (σ : Sto) : gStart σ 2 0 = B0 := three (zro (zro (zro (zro (zro (zro σ 0 0) 1 0) 2 0) 3 0) 4 0) 5 0) 0 rfl
theorem gs_2_1 (σ : Sto) : gStart σ 2 1 = B0 := three (zro (zro (zro (zro (gwk3 (zro (zro (zro σ 0 0) 1 0) 2 0)) 2 1) 3 1) 4 1) 5 1) 1 rfl
theorem five (X : Sto) (h : X 38 0 = Z) : sup (sup (sup (sup (sup X 38 0 0 0) 38 0 1 0) 38 0 2 3) 38 0 3 3) 38 0 4 20 38 0 = S0 := by
  rw [sup_row, row_same, sup_row, row_same, sup_row, row_same, sup_row, row_same, sup_row, row_same, h]
  rfl
theorem gs_38_0 (σ : Sto) : gStart σ 38 0 = S0 := five (zro (zro (zro (zro (zro (zro (zro (zro (zro (gwk1 (zro σ 0 0)) 30 0) 31 0) 32 0) 33 0) 34 0) 35 0) 36 0) 37 0) 38 0) rfl
theorem forty (X : Sto) (h : X 40 0 = Z) : sup (row X 40 0 (fill (X 40 0) 56 20 255)) 40 0 78 (-1) 40 0 = C0 := by
  rw [sup_row, row_same, row_same, h]
  rfl
theorem gs_40_0 (σ : Sto) : gStart σ 40 0 = C0 := forty ((zro ((zro (zro (zro ((zro (zro (zro ((zro (zro (zro ((zro (zro (zro ((sup (sup (sup ((sup (sup (zro ((zro (zro ((zro (zro (zro ((zro (zro ((zro (gwk1 (zro (σ) 0 0)) 30 0)) 31 0) 32 0)) 33 0) 34 0) 35 0)) 36 0) 37 0)) 38 0) 38 0 ((0 : Int).toNat) 0) 38 0 ((1 : Int).toNat) 0)) 38 0 ((2 : Int).toNat) 3) 38 0 ((3 : Int).toNat) 3) 38 0 ((4 : Int).toNat) 20)) 39 0) 40 0) 41 0)) 42 0) 43 0) 44 0)) 45 0) 46 0) 47 0)) 48 0) 49 0) 50 0)) 51 0)) rfl
theorem C0_in {j : Nat} (h1 : 56 ≤ j) (h2 : j < 76) : C0 j = 255 := by
  unfold C0
  rw [set_ne _ _ (by omega)]
  unfold fill
  rw [if_pos (by omega)]
theorem C0_out {j : Nat} (h : j < 56 ∨ 76 ≤ j) (h2 : j ≠ 78) : C0 j = 0 := by
  unfold C0
  rw [set_ne _ _ h2]
  unfold fill
  rw [if_neg (by omega)]
  rfl
theorem C0_78 : C0 78 = -1 := set_same _ _ _
theorem C0_ok : OKC C0 := by
  refine ⟨fun j hj => ?_, fun j h1 h2 => ?_, ?_, ?_, ?_⟩
  · rw [C0_out (Or.inl hj) (by omega)]; omega
  · rw [C0_in h1 h2]; omega
  · rw [C0_out (by omega) (by omega)]; omega
  · rw [C0_out (by omega) (by omega)]; omega
  · rw [C0_78]; omega
theorem C0_cell : CELL 0 C0 C0 := by
  have z := fun (j : Nat) (h : 76 ≤ j) (h2 : j ≠ 78) => C0_out (j := j) (Or.inr h) h2
  refine ⟨C0_ok, ⟨⟨fun _ _ => rfl, ?_, ?_, rfl, ?_⟩, rfl⟩, ?_⟩
  · rw [z 79 (by decide) (by decide), z 80 (by decide) (by decide)]
  · rw [z 79 (by decide) (by decide), z 80 (by decide) (by decide)]
  · refine ⟨by rw [z 82 (by decide) (by decide)]; decide, by rw [z 82 (by decide) (by decide)]; rfl, fun k hk h => ?_⟩
    rw [z 82 (by decide) (by decide)] at h
    omega
  · rw [z 82 (by decide) (by decide)]; decide
theorem INV_start (σ : Sto) : INV 0 (gStart σ) := by
  have z : ∀ k, Z k = 0 := fun _ => rfl
  have b2 : B0 2 = 3 := rfl
  have b3 : B0 3 = 3 := rfl
  have b4 : B0 4 = 20 := rfl
  have b0 : B0 0 = 0 := rfl
  have b1 : B0 1 = 0 := rfl
  refine ⟨⟨?_, ?_, ?_, ?_, ?_⟩, ?_, ?_⟩
  · unfold OKG OKU
    rw [gs_2_1, gs_3_1, gs_4_1, gs_5_1, b0, b1, b2, b3, b4]
    refine ⟨by decide, by decide, by decide, by decide, by decide, by decide, by decide, by decide, by decide, by decide, fun k _ => ?_, ⟨by decide, fun k h => absurd h (by omega)⟩, fun k _ => ?_⟩
    · rw [z]; decide
    · rw [z]; decide
  · unfold EnvM OKM whyM whyS OKU
    rw [gs_2_1, gs_3_1, gs_4_1, gs_5_1, gs_30_0, gs_32_0, gs_33_0, gs_36_0, gs_38_0, b0, b1, b2, b3, b4]
    refine ⟨⟨by decide, by decide, by decide, by decide, by decide, by decide, by decide, by decide, by decide, by decide, fun k _ => by rw [z]; decide, ⟨by decide, fun k h => absurd h (by rw [z]; omega)⟩, fun k _ => by rw [z]; decide⟩, fun _ _ => rfl, rfl, rfl, rfl, rfl, rfl, fun j h => absurd h (by omega), fun j h => absurd h (by omega)⟩
  · unfold TAPE
    rw [gs_0_0, gs_1_0, gs_30_0, gs_31_0]
    exact ⟨by decide, by decide, rfl, fun j _ => ⟨by rw [z]; decide, by rw [z]; decide, by rw [z]; decide, by rw [z]; decide, rfl⟩⟩
  · unfold DRAWN
    rw [gs_0_0, gs_30_0]
    exact ⟨rfl, by decide, by decide⟩
  · unfold DRAFT
    rw [gs_3_0, gs_5_0]
    exact ⟨fun k _ => ⟨by rw [z]; decide, by rw [z]; decide⟩, fun k _ => ⟨by rw [z]; decide, by rw [z]; decide⟩⟩
  · rw [gs_7_0, gs_40_0]
    exact C0_cell
  · rw [gs_10_0, gs_9_0, gs_41_0, gs_30_0]
    exact PAST_0 0 Z Z 0 (by decide)
