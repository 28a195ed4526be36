/-! THE MODEL: writes, flags -/
def canM (σ : Sto) : Int × Sto :=
  if σ 30 0 24 = 0 then
    (if σ 30 0 22 = 0 then (0, row (row σ 30 0 (set (σ 30 0) 24 1)) 40 0 (set (σ 40 0) 78 (-1)))
     else (1, row σ 30 0 (set (set (σ 30 0) 22 (w32 (σ 30 0 22 - (if 0 < σ 30 0 22 then 1 else 0)))) 23 (w32 (σ 30 0 23 + 1)))))
  else (0, σ)
/-- one write -/
def wrM (a n : Nat) (v : Int) (σ : Sto) : Sto := if (canM σ).1 = 0 then (canM σ).2 else row (canM σ).2 40 0 (fill ((canM σ).2 40 0) a n v)
/-- what the model's deeds may change -/
def KM (σ τ : Sto) : Prop := (∀ k k', ¬ (k' = 0 ∧ (k = 30 ∨ k = 40 ∨ k = 43 ∨ k = 44 ∨ k = 45)) → τ k k' = σ k k') ∧ (∀ j, j ≠ 22 → j ≠ 23 → j ≠ 24 → τ 30 0 j = σ 30 0 j)
theorem KM_refl (σ : Sto) : KM σ σ := ⟨fun _ _ _ => rfl, fun _ _ _ _ => rfl⟩
theorem KM_trans {σ τ υ : Sto} (h1 : KM σ τ) (h2 : KM τ υ) : KM σ υ := ⟨fun k k' h => (h2.1 k k' h).trans (h1.1 k k' h), fun j a b c => (h2.2 j a b c).trans (h1.2 j a b c)⟩
theorem KM_row (σ : Sto) (k : Nat) (f : Vec) (h : k = 40 ∨ k = 43 ∨ k = 44 ∨ k = 45) : KM σ (row σ k 0 f) := by
  refine ⟨fun k1 k' h1 => ?_, fun j _ _ _ => ?_⟩
  · rw [row_at, if_neg (by omega)]
  · rw [row_at, if_neg (by omega)]
theorem KM_30 (σ : Sto) (f : Vec) (h : ∀ j, j ≠ 22 → j ≠ 23 → j ≠ 24 → f j = σ 30 0 j) : KM σ (row σ 30 0 f) := by
  refine ⟨fun k1 k' h1 => ?_, fun j a b c => ?_⟩
  · rw [row_at, if_neg (by omega)]
  · rw [row_same]
    exact h j a b c
theorem KM_can (σ : Sto) : KM σ (canM σ).2 := by
  unfold canM
  split
  · split
    · refine KM_trans (KM_30 σ (set (σ 30 0) 24 1) (fun j _ _ c => set_ne _ _ c)) (KM_row _ 40 _ (Or.inl rfl))
    · refine KM_30 σ _ (fun j a b _ => ?_)
      rw [set_ne _ _ b, set_ne _ _ a]
  · exact KM_refl σ
theorem KM_wr (a n : Nat) (v : Int) (σ : Sto) : KM σ (wrM a n v σ) := by
  unfold wrM
  split
  · exact KM_can σ
  · exact KM_trans (KM_can σ) (KM_row _ 40 _ (Or.inl rfl))
section MOD
variable {N : Nat} {σ : Sto}
theorem s9_canWrite : inv N mX9_canWrite [vR 30 0] (P σ) = some (some (vI (canM σ).1), P (canM σ).2) := by
  rw [iX9_canWrite, eX9_canWrite_0]
  by_cases h1 : σ 30 0 24 = 0
  · rw [if_pos h1]
    by_cases h2 : σ 30 0 22 = 0
    · have e : (sup (sup σ 30 0 24 1) 40 0 ((78 : Int).toNat) (-1)) = row (row σ 30 0 (set (σ 30 0) 24 1)) 40 0 (set (σ 40 0) 78 (-1)) := by
        rw [sup_row, sup_row, row_at, if_neg (by omega), show (78 : Int).toNat = 78 from rfl]
      have e2 : (row (row σ 30 0 (set (σ 30 0) 24 1)) 40 0 (set (σ 40 0) 78 (-1))) 30 0 24 = 1 := by
        rw [row_at, if_neg (by omega), row_same, set_same]
      have ec : canM σ = (0, row (row σ 30 0 (set (σ 30 0) 24 1)) 40 0 (set (σ 40 0) 78 (-1))) := by
        unfold canM
        rw [if_pos h1, if_pos h2]
      rw [if_pos h2, e, if_neg (by rw [e2]; omega), ec]
    · have ec : canM σ = (1, row σ 30 0 (set (set (σ 30 0) 22 (w32 (σ 30 0 22 - (if 0 < σ 30 0 22 then 1 else 0)))) 23 (w32 (σ 30 0 23 + 1)))) := by
        unfold canM
        rw [if_pos h1, if_neg h2]
      rw [if_neg h2, if_pos h1, ec]
      by_cases h3 : 0 < σ 30 0 22
      · rw [if_pos h3, if_pos h3, sup_row, sup_row, row_same, row_row, set_ne _ _ (by omega)]
      · rw [if_neg h3, if_neg h3, sup_row, sup_row, row_same, row_row, set_ne _ _ (by omega)]
  · have ec : canM σ = (0, σ) := by
      unfold canM
      rw [if_neg h1]
    rw [if_neg h1, if_neg h1, ec]
theorem canM_b (σ : Sto) : (canM σ).1 = 0 ∨ (canM σ).1 = 1 := by
  unfold canM
  split
  · split
    · exact Or.inl rfl
    · exact Or.inr rfl
  · exact Or.inl rfl
theorem s9_writes (a : Nat) (ha : a < 107) (v : Int) : inv N mX9_writes [vR 30 0, vI (a : Int), vI v] (P σ) = some (none, P (wrM a 1 v σ)) := by
  rw [iX9_writes, eX9_writes_0, s9_canWrite, bnd_s, push_s, eX9_writes_2]
  unfold wrM
  rw [if_neg (show ¬ (a : Int) < 0 by omega), if_pos (show (a : Int) < 107 by omega), sup_row, Int.toNat_natCast, fill_1]
  split <;> rfl
/-- a row of eight -/
def v8 (f : Vec) (a0 a1 a2 a3 a4 a5 a6 a7 : Int) : Vec := fun j => if j = 0 then a0 else if j = 1 then a1 else if j = 2 then a2 else if j = 3 then a3 else if j = 4 then a4 else if j = 5 then a5 else if j = 6 then a6 else if j = 7 then a7 else f j
theorem v8_eq {f g : Vec} {a0 a1 a2 a3 a4 a5 a6 a7 : Int} (h0 : g 0 = a0) (h1 : g 1 = a1) (h2 : g 2 = a2) (h3 : g 3 = a3) (h4 : g 4 = a4) (h5 : g 5 = a5) (h6 : g 6 = a6) (h7 : g 7 = a7) (h : ∀ j, 8 ≤ j → g j = f j) : g = v8 f a0 a1 a2 a3 a4 a5 a6 a7 := by
  funext j
  unfold v8
  by_cases c0 : j = 0
  · rw [if_pos c0, c0, h0]
  by_cases c1 : j = 1
  · rw [if_neg c0, if_pos c1, c1, h1]
  by_cases c2 : j = 2
  · rw [if_neg c0, if_neg c1, if_pos c2, c2, h2]
  by_cases c3 : j = 3
  · rw [if_neg c0, if_neg c1, if_neg c2, if_pos c3, c3, h3]
  by_cases c4 : j = 4
  · rw [if_neg c0, if_neg c1, if_neg c2, if_neg c3, if_pos c4, c4, h4]
  by_cases c5 : j = 5
  · rw [if_neg c0, if_neg c1, if_neg c2, if_neg c3, if_neg c4, if_pos c5, c5, h5]
  by_cases c6 : j = 6
  · rw [if_neg c0, if_neg c1, if_neg c2, if_neg c3, if_neg c4, if_neg c5, if_pos c6, c6, h6]
  by_cases c7 : j = 7
  · rw [if_neg c0, if_neg c1, if_neg c2, if_neg c3, if_neg c4, if_neg c5, if_neg c6, if_pos c7, c7, h7]
  rw [if_neg c0, if_neg c1, if_neg c2, if_neg c3, if_neg c4, if_neg c5, if_neg c6, if_neg c7, h j (by omega)]
/-- the flags of the newest page -/
def flV (f c : Vec) : Vec :=
  if newestF c = -1 then v8 f 0 0 0 0 0 0 0 3
  else if newestF c = 0 then v8 f (c 58 / 16) (c 59 / 16) (c 58 / 2 % 8) (c 59 / 2 % 8) (c 58 % 2) (c 59 % 2) (c 60) (c 61)
  else v8 f (c 66 / 16) (c 67 / 16) (c 66 / 2 % 8) (c 67 / 2 % 8) (c 66 % 2) (c 67 % 2) (c 68) (c 69)
def rfM (σ : Sto) : Sto := row σ 43 0 (flV (σ 43 0) (σ 40 0))
theorem s9_rf_zero (p : Int) : ev N mX9_readsFlags 5 [vR 30 0, vI p, vI 0, vX, vX] [] (P σ) = ev N mX9_readsFlags 5 [vR 30 0, vI p, vI 8, vX, vX] [] (P (row σ 43 0 (fill (σ 43 0) 0 8 0))) := by
  have st : ∀ (k : Nat) (τ : Sto), k < 8 → ev N mX9_readsFlags 5 [vR 30 0, vI p, vI (k : Int), vX, vX] [] (P τ) = ev N mX9_readsFlags 5 [vR 30 0, vI p, vI ((k + 1 : Nat) : Int), vX, vX] [] (P (row τ 43 0 (set (τ 43 0) k 0))) := by
    intro k τ hk
    have e : w32 ((k : Int) + 1) = ((k + 1 : Nat) : Int) := by rw [w32i (by omega) (by omega)]; omega
    rw [eX9_readsFlags_5, if_pos (by omega), if_neg (by omega), if_pos (by omega), sup_row, e, Int.toNat_natCast]
  have s0 := st 0 σ (by omega)
  rw [Int.cast_ofNat_Int] at s0
  rw [s0, st 1 _ (by omega), st 2 _ (by omega), st 3 _ (by omega), st 4 _ (by omega), st 5 _ (by omega), st 6 _ (by omega), st 7 _ (by omega)]
  simp only [row_same, row_row]
  rw [← fill_s, ← fill_s, ← fill_s, ← fill_s, ← fill_s, ← fill_s, ← fill_s, ← fill_s, fill_0]
  rfl
theorem shr4 {x : Int} (h0 : 0 ≤ x) (h1 : x < 256) : shr32 x 4 = x / 16 := shr32_div h0 (by omega) 4 (by omega)
theorem shr1 {x : Int} (h0 : 0 ≤ x) (h1 : x < 256) : shr32 x 1 = x / 2 := shr32_div h0 (by omega) 1 (by omega)
theorem s9_rf_page (q p : Int) (b : Nat) (f : Vec) (hb : b = 56 ∨ b = 64) (hc : OKB (σ 40 0)) (hf : ∀ j, 8 ≤ j → σ 43 0 j = f j) : ev N mX9_readsFlags 29 [vR 30 0, vI p, vI (b : Int), vI 0, vX] [] (P σ) = some (none, P (row σ 43 0 (v8 f (σ 40 0 (b + 2) / 16) (σ 40 0 (b + 3) / 16) (σ 40 0 (b + 2) / 2 % 8) (σ 40 0 (b + 3) / 2 % 8) (σ 40 0 (b + 2) % 2) (σ 40 0 (b + 3) % 2) (σ 40 0 (b + 4)) (σ 40 0 (b + 5))))) := by
  have b2 := hc (b + 2) (by omega) (by omega)
  have b3 := hc (b + 3) (by omega) (by omega)
  have e2 : w32 (w32 ((b : Int) + 2) + 0) = ((b + 2 : Nat) : Int) := by rw [w32i (x := (b : Int) + 2) (by omega) (by omega), w32i (by omega) (by omega)]; omega
  have e3 : w32 (w32 ((b : Int) + 2) + 1) = ((b + 3 : Nat) : Int) := by rw [w32i (x := (b : Int) + 2) (by omega) (by omega), w32i (by omega) (by omega)]; omega
  have e4 : w32 ((b : Int) + 4) = ((b + 4 : Nat) : Int) := by rw [w32i (by omega) (by omega)]; omega
  have e5 : w32 ((b : Int) + 5) = ((b + 5 : Nat) : Int) := by rw [w32i (by omega) (by omega)]; omega
  have p2 : ¬ (((b + 2 : Nat) : Int) < 0) ∧ ((b + 2 : Nat) : Int) < 107 := by omega
  have p3 : ¬ (((b + 3 : Nat) : Int) < 0) ∧ ((b + 3 : Nat) : Int) < 107 := by omega
  have p4 : ¬ (((b + 4 : Nat) : Int) < 0) ∧ ((b + 4 : Nat) : Int) < 107 := by omega
  have p5 : ¬ (((b + 5 : Nat) : Int) < 0) ∧ ((b + 5 : Nat) : Int) < 107 := by omega
  clear hb
  rw [eX9_readsFlags_29, e2, if_pos (by omega), if_neg p2.1, if_pos p2.2]
  simp only [Int.toNat_natCast, shr4 b2.1 b2.2, shr1 b2.1 b2.2, bAnd_1, bAnd_7, sup_row, row_same, row_row]
  have w00 : w32 (0 + 0) = 0 := rfl
  have w20 : w32 (2 + 0) = 2 := rfl
  have w40 : w32 (4 + 0) = 4 := rfl
  have w01 : w32 (0 + 1) = 1 := rfl
  have w21 : w32 (2 + 1) = 3 := rfl
  have w41 : w32 (4 + 1) = 5 := rfl
  have w11 : w32 (1 + 1) = 2 := rfl
  rw [w00, w20, w40, w01, if_neg (by omega), if_pos (by omega), if_neg (by omega), if_pos (by omega), if_neg (by omega), if_pos (by omega)]
  rw [eX9_readsFlags_29, e3, if_pos (by omega), if_neg p3.1, if_pos p3.2]
  have r40 : ∀ (g : Vec), (row σ 43 0 g) 40 0 = σ 40 0 := fun g => by rw [row_at, if_neg (by omega)]
  simp only [Int.toNat_natCast, r40, shr4 b3.1 b3.2, shr1 b3.1 b3.2, bAnd_1, bAnd_7, sup_row, row_same, row_row]
  rw [w01, w21, w41, w11, if_neg (by omega), if_pos (by omega), if_neg (by omega), if_pos (by omega), if_neg (by omega), if_pos (by omega)]
  rw [eX9_readsFlags_29, if_neg (by omega), e4, e5, if_neg p4.1, if_pos p4.2, if_neg p5.1, if_pos p5.2]
  simp only [Int.toNat_natCast, r40, sup_row, row_same, row_row]
  clear e2 e3 e4 e5 p2 p3 p4 p5 b2 b3 w00 w20 w40 w01 w21 w41 w11
  refine congrArg (fun g => some (none, P (row σ 43 0 g))) (v8_eq ?_ ?_ ?_ ?_ ?_ ?_ ?_ ?_ ?_)
  all_goals first | (simp only [set_at, Int.reduceToNat, Nat.reduceEqDiff, ↓reduceIte]; done) | skip
  intro j hj
  simp only [Int.reduceToNat]
  rw [set_ne _ _ (by omega), set_ne _ _ (by omega), set_ne _ _ (by omega), set_ne _ _ (by omega), set_ne _ _ (by omega), set_ne _ _ (by omega), set_ne _ _ (by omega), set_ne _ _ (by omega)]
  exact hf j hj
theorem newestF_b (c : Vec) : newestF c = -1 ∨ newestF c = 0 ∨ newestF c = 1 := by
  unfold newestF
  split
  · split
    · exact Or.inr (Or.inr rfl)
    · exact Or.inr (Or.inl rfl)
  · split
    · exact Or.inr (Or.inl rfl)
    · split
      · exact Or.inr (Or.inr rfl)
      · exact Or.inl rfl
theorem s9_readsFlags (hb : OKB (σ 40 0)) : inv N mX9_readsFlags [vR 30 0] (P σ) = some (none, P (rfM σ)) := by
  have r40 : ∀ (g : Vec), (row σ 43 0 g) 40 0 = σ 40 0 := fun g => by rw [row_at, if_neg (by omega)]
  have hfl : ∀ j, 8 ≤ j → set (fill (σ 43 0) 0 8 0) 7 3 j = σ 43 0 j := by
    intro j hj
    rw [set_ne _ _ (by omega)]
    unfold fill
    rw [if_neg (by omega)]
  have r7 : sup (row σ 43 0 (fill (σ 43 0) 0 8 0)) 43 0 ((7 : Int).toNat) 3 = row σ 43 0 (set (fill (σ 43 0) 0 8 0) 7 3) := by
    rw [sup_row, row_same, row_row]
    rfl
  have pg := fun (b : Nat) (hb2 : b = 56 ∨ b = 64) (p : Int) => s9_rf_page (N := N) (σ := row σ 43 0 (set (fill (σ 43 0) 0 8 0) 7 3)) 0 p b (σ 43 0) hb2 (by rw [r40]; exact hb) (by rw [row_same]; exact hfl)
  have g0 := pg 56 (Or.inl rfl) 0
  have g1 := pg 64 (Or.inr rfl) 1
  simp only [r40, row_row, Int.cast_ofNat_Int, Nat.reduceAdd] at g0 g1
  rw [iX9_readsFlags, eX9_readsFlags_0, s9_newest hb, bnd_s, push_s, eX9_readsFlags_2, s9_rf_zero, eX9_readsFlags_5, if_neg (by omega), r7]
  unfold rfM flV
  rcases newestF_b (σ 40 0) with h | h | h
  · rw [h, if_pos rfl, if_pos rfl]
    refine congrArg (fun g => some (none, P (row σ 43 0 g))) (v8_eq ?_ ?_ ?_ ?_ ?_ ?_ ?_ ?_ hfl)
    all_goals first | rfl | skip
  · rw [h, if_neg (by omega), if_neg (by omega), if_pos rfl, s9_pageAt _ (by omega) (by omega), bnd_s, push_s, eX9_readsFlags_26]
    exact g0
  · rw [h, if_neg (by omega), if_neg (by omega), if_neg (by omega), s9_pageAt _ (by omega) (by omega), bnd_s, push_s, eX9_readsFlags_26]
    exact g1
theorem KM_rf (σ : Sto) : KM σ (rfM σ) := KM_row _ _ _ (Or.inr (Or.inl rfl))
end MOD
