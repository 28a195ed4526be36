/-! THE MODEL: what it reads -/
section MOD
variable {N : Nat} {σ : Sto}
theorem s9_in (v lo hi : Int) : inv N mX9_in [vJ v, vJ lo, vJ hi] (P σ) = some (some (vI (if lo ≤ v ∧ v ≤ hi then 1 else 0)), P σ) := by
  rw [iX9_in, eX9_in_0]
  by_cases h1 : v < lo
  · rw [if_pos h1, if_neg (show ¬ (lo ≤ v ∧ v ≤ hi) by omega)]
  · rw [if_neg h1]
    have e : (if v < hi then some (some (vI 1), P σ) else if v = hi then some (some (vI 1), P σ) else some (some (vI 0), P σ)) = some (some (vI (if lo ≤ v ∧ v ≤ hi then 1 else 0)), P σ) := by
      by_cases h2 : v < hi
      · rw [if_pos h2, if_pos (show lo ≤ v ∧ v ≤ hi by omega)]
      · rw [if_neg h2]
        by_cases h3 : v = hi
        · rw [if_pos h3, if_pos (show lo ≤ v ∧ v ≤ hi by omega)]
        · rw [if_neg h3, if_neg (show ¬ (lo ≤ v ∧ v ≤ hi) by omega)]
    rw [e]
    split <;> rfl
theorem s9_truth (v : Int) : inv N mX9_truth [vI v] (P σ) = some (some (vI (if v = 0 then 0 else 1)), P σ) := by
  rw [iX9_truth, eX9_truth_0]
  split <;> rfl
theorem s9_pageAt (p : Int) (h0 : 0 ≤ p) (h1 : p < 2) : inv N mX9_pageAt [vI p] (P σ) = some (some (vI (56 + 8 * p)), P σ) := by
  simp (disch := omega) only [iX9_pageAt, eX9_pageAt_0, w32i]
theorem s9_isWhole0 (hb : OKB (σ 40 0)) : inv N mX9_isWhole [vR 30 0, vI 0] (P σ) = some (some (vI (whole1 (σ 40 0) 56)), P σ) := by
  have b0 := hb 56 (by omega) (by omega)
  have b1 := hb 57 (by omega) (by omega)
  have b2 := hb 58 (by omega) (by omega)
  have b3 := hb 59 (by omega) (by omega)
  have b4 := hb 60 (by omega) (by omega)
  have b5 := hb 61 (by omega) (by omega)
  have b6 := hb 62 (by omega) (by omega)
  have b7 := hb 63 (by omega) (by omega)
  simp (disch := omega) only [iX9_isWhole, eX9_isWhole_0, eX9_isWhole_2, eX9_isWhole_27, iX9_checkOf, eX9_checkOf_0, eX9_checkOf_4, eX9_checkOf_15, s9_pageAt, bnd_s, bnd_n, push_s, push_n, w32i, ↓if_pos, ↓if_neg, Int.reduceAdd, Int.reduceMul, Int.reduceSub, Int.reduceToNat, Int.reduceNeg, Nat.reduceAdd, Nat.reduceMul, sup_row, row_same, row_row]
  simp only [whole1, Nat.reduceAdd]
  by_cases h1 : σ 40 0 56 = 165
  · simp only [h1, ↓reduceIte, true_and]
    split <;> split <;> first | rfl | omega
  · simp only [h1, ↓reduceIte, false_and]
theorem s9_isWhole1 (hb : OKB (σ 40 0)) : inv N mX9_isWhole [vR 30 0, vI 1] (P σ) = some (some (vI (whole1 (σ 40 0) 64)), P σ) := by
  have b0 := hb 64 (by omega) (by omega)
  have b1 := hb 65 (by omega) (by omega)
  have b2 := hb 66 (by omega) (by omega)
  have b3 := hb 67 (by omega) (by omega)
  have b4 := hb 68 (by omega) (by omega)
  have b5 := hb 69 (by omega) (by omega)
  have b6 := hb 70 (by omega) (by omega)
  have b7 := hb 71 (by omega) (by omega)
  simp (disch := omega) only [iX9_isWhole, eX9_isWhole_0, eX9_isWhole_2, eX9_isWhole_27, iX9_checkOf, eX9_checkOf_0, eX9_checkOf_4, eX9_checkOf_15, s9_pageAt, bnd_s, bnd_n, push_s, push_n, w32i, ↓if_pos, ↓if_neg, Int.reduceAdd, Int.reduceMul, Int.reduceSub, Int.reduceToNat, Int.reduceNeg, Nat.reduceAdd, Nat.reduceMul, sup_row, row_same, row_row]
  simp only [whole1, Nat.reduceAdd]
  by_cases h1 : σ 40 0 64 = 165
  · simp only [h1, ↓reduceIte, true_and]
    split <;> split <;> first | rfl | omega
  · simp only [h1, ↓reduceIte, false_and]
theorem tmod256 {x : Int} (h0 : 0 ≤ x) : Int.tmod x 256 = x % 256 := Int.tmod_eq_emod_of_nonneg h0
theorem s9_newest (hb : OKB (σ 40 0)) : inv N mX9_newest [vR 30 0] (P σ) = some (some (vI (newestF (σ 40 0))), P σ) := by
  have b1 := hb 57 (by omega) (by omega)
  have b2 := hb 65 (by omega) (by omega)
  unfold newestF
  rw [iX9_newest, eX9_newest_0, s9_isWhole0 hb, bnd_s, push_s, eX9_newest_3, s9_isWhole1 hb, bnd_s, push_s, eX9_newest_7]
  rcases whole1_b (σ 40 0) 56 with h0 | h0 <;> rcases whole1_b (σ 40 0) 64 with h1 | h1 <;> simp only [h0, h1, ↓reduceIte, Int.reduceEq, and_self, and_true, and_false, false_and]
  simp (disch := omega) only [eX9_newest_16, eX9_newest_23, s9_pageAt, tmod256, bnd_s, bnd_n, push_s, push_n, w32i, ↓if_pos, ↓if_neg, Int.reduceAdd, Int.reduceMul, Int.reduceSub, Int.reduceToNat, Int.reduceNeg, Nat.reduceAdd, Nat.reduceMul, sup_row, row_same, row_row]
  split <;> rfl
theorem s9_digestOf (p b : Int) (h0 : 0 ≤ p) (h1 : p < 2147483648) (h2 : 0 ≤ b) (h3 : b < 2147483648) : inv N mX9_digestOf [vJ p, vJ b] (P σ) = some (some (vI (dig p b)), P σ) := by
  have t : Int.tmod ((p + 527) * 31 + b) 65536 = ((p + 527) * 31 + b) % 65536 := Int.tmod_eq_emod_of_nonneg (by omega)
  rw [iX9_digestOf, eX9_digestOf_0]
  unfold dig
  rw [w64i (x := p + 527) (by omega) (by omega), w64i (x := (p + 527) * 31) (by omega) (by omega), w64i (by omega) (by omega), t, w32i (by omega) (by omega)]
theorem tmod65536 {x : Int} (h0 : 0 ≤ x) : Int.tmod x 65536 = x % 65536 := Int.tmod_eq_emod_of_nonneg h0
theorem s9_sg_step (x0 : Int) (b k : Nat) (h : Int) (hk : k < 5) (hb : b + 4 < 107) (h0 : 0 ≤ h) (h1 : h < 100000) (w0 : 0 ≤ σ 40 0 (b + k)) (w1 : σ 40 0 (b + k) < 2147483648) : ev N mX9_signOf 7 [vI x0, vR 40 0, vI (b : Int), vJ h, vX, vI (k : Int)] [] (P σ) = ev N mX9_signOf 7 [vI x0, vR 40 0, vI (b : Int), vJ ((h * 31 + σ 40 0 (b + k)) % 65536), vX, vI ((k + 1 : Nat) : Int)] [] (P σ) := by
  have e1 : w32 ((b : Int) + (k : Int)) = ((b + k : Nat) : Int) := by rw [w32i (by omega) (by omega)]; omega
  have e2 : w32 ((k : Int) + 1) = ((k + 1 : Nat) : Int) := by rw [w32i (by omega) (by omega)]; omega
  have t : Int.tmod (h * 31 + σ 40 0 (b + k)) 65536 = (h * 31 + σ 40 0 (b + k)) % 65536 := Int.tmod_eq_emod_of_nonneg (by omega)
  have e3 : w64 (h * 31) = h * 31 := w64i (by omega) (by omega)
  have e4 : w64 (h * 31 + σ 40 0 (b + k)) = h * 31 + σ 40 0 (b + k) := w64i (by omega) (by omega)
  rw [eX9_signOf_7_k40, e1, if_pos (by omega), if_neg (by omega), if_pos (by omega), Int.toNat_natCast, e3, e4, t, e2]
theorem s9_signOf40 (s : Int) (b : Nat) (hb : b + 4 < 107) (hs : 0 ≤ s ∧ s < 10000) (hw : ∀ k, k < 5 → 0 ≤ σ 40 0 (b + k) ∧ σ 40 0 (b + k) < 2147483648) : inv N mX9_signOf [vI s, vR 40 0, vI (b : Int)] (P σ) = some (some (vI (sgn s (σ 40 0 b) (σ 40 0 (b + 1)) (σ 40 0 (b + 2)) (σ 40 0 (b + 3)) (σ 40 0 (b + 4)))), P σ) := by
  have st := fun (k : Nat) (h : Int) (hk : k < 5) (h0 : 0 ≤ h) (h1 : h < 100000) => s9_sg_step (N := N) (σ := σ) s b k h hk hb h0 h1 (hw k hk).1 (hw k hk).2
  have r : ∀ x : Int, 0 ≤ x % 65536 ∧ x % 65536 < 100000 := fun x => by omega
  rw [iX9_signOf_k40, eX9_signOf_0_k40, w32i (x := s + 7) (by omega) (by omega)]
  have st0 := st 0 (s + 7) (by omega) (by omega) (by omega)
  rw [Int.cast_ofNat_Int, Nat.add_zero] at st0
  rw [st0, st 1 _ (by omega) (r _).1 (r _).2, st 2 _ (by omega) (r _).1 (r _).2, st 3 _ (by omega) (r _).1 (r _).2, st 4 _ (by omega) (r _).1 (r _).2, eX9_signOf_7_k40, if_neg (by omega), w32i (Int.le_trans (by omega) (r _).1) (Int.lt_of_lt_of_le (r _).2 (by omega))]
  rfl
/-- the model's way to look at the parts -/
def toldM (c : Vec) (b k : Nat) : Int := if k = 0 then c (b + 4) else c (b + 5 + 2 * k)
def areL (c : Vec) (b : Nat) : Nat → Nat → Int → Int
  | 0, _, a => a
  | m + 1, k, a => areL c b m (k + 1) (if a = 0 then 0 else if toldM c b k = dig (c (b + 6 + 2 * k)) (c (b + 7 + 2 * k)) then 1 else 0)
theorem areL_0 (c : Vec) (b : Nat) : ∀ (m k : Nat), areL c b m k 0 = 0
  | 0, k => rfl
  | m + 1, k => by
    unfold areL
    rw [if_pos rfl]
    exact areL_0 c b m (k + 1)
theorem areL_sound (c : Vec) (b : Nat) : ∀ (m k : Nat) (z : Int), z = (if c (b + 7 + 2 * (k + m)) = 0 then 1 else 0) → areL c b (m + 1) k z = soundL c b (m + 1) k (toldM c b k)
  | 0, k, z, hz => by
    have hz : z = (if c (b + 7 + 2 * k) = 0 then 1 else 0) := hz
    unfold areL soundL
    show (if z = 0 then 0 else if toldM c b k = dig (c (b + 6 + 2 * k)) (c (b + 7 + 2 * k)) then 1 else 0) = if dig (c (b + 6 + 2 * k)) (c (b + 7 + 2 * k)) = toldM c b k then (if c (b + 7 + 2 * k) = 0 then 1 else 0) else 0
    by_cases h1 : c (b + 7 + 2 * k) = 0
    · rw [if_pos h1] at hz
      rw [hz, if_neg (show ¬ (1 : Int) = 0 by omega), if_pos h1]
      by_cases h2 : toldM c b k = dig (c (b + 6 + 2 * k)) (c (b + 7 + 2 * k))
      · rw [if_pos h2, if_pos h2.symm]
      · rw [if_neg h2, if_neg (fun q => h2 q.symm)]
    · rw [if_neg h1] at hz
      rw [hz, if_pos rfl, if_neg h1]
      split <;> rfl
  | m + 1, k, z, hz => by
    have ih := areL_sound c b m (k + 1)
    rw [show k + 1 + m = k + (m + 1) by omega] at ih
    have et : toldM c b (k + 1) = c (b + 7 + 2 * k) := by
      unfold toldM
      rw [if_neg (by omega), show b + 5 + 2 * (k + 1) = b + 7 + 2 * k by omega]
    rw [et] at ih
    show areL c b (m + 1) (k + 1) (if z = 0 then 0 else if toldM c b k = dig (c (b + 6 + 2 * k)) (c (b + 7 + 2 * k)) then 1 else 0) = if dig (c (b + 6 + 2 * k)) (c (b + 7 + 2 * k)) = toldM c b k then soundL c b (m + 1) (k + 1) (c (b + 7 + 2 * k)) else 0
    by_cases h1 : c (b + 7 + 2 * (k + (m + 1))) = 0
    · rw [if_pos h1] at hz
      rw [hz, if_neg (show ¬ (1 : Int) = 0 by omega)]
      by_cases h2 : toldM c b k = dig (c (b + 6 + 2 * k)) (c (b + 7 + 2 * k))
      · rw [if_pos h2, if_pos h2.symm, ih 1 (by rw [if_pos h1])]
      · rw [if_neg h2, if_neg (fun q => h2 q.symm)]
        exact areL_0 c b (m + 1) (k + 1)
    · rw [if_neg h1] at hz
      have e1 : soundL c b (m + 1) (k + 1) (c (b + 7 + 2 * k)) = 0 := (ih 0 (by rw [if_neg h1])).symm.trans (areL_0 c b (m + 1) (k + 1))
      rw [hz, if_pos rfl, areL_0, e1]
      split <;> rfl
theorem s9_are_loop (b : Nat) (n : Int) (hb : b + 13 < 107) (h4 : n ≤ 4) (hw : ∀ k, k < 14 → 0 ≤ σ 40 0 (b + k) ∧ σ 40 0 (b + k) < 2147483648) : ∀ (m k : Nat) (a : Int) (x5 : MV), (k : Int) + (m : Int) = n → (a = 0 ∨ a = 1) → ev N mX9_areDigests 26 [vR 30 0, vI (b : Int), vI n, vI a, vI (k : Int), x5] [] (P σ) = some (some (vI (areL (σ 40 0) b m k a)), P σ) := by
  intro m
  induction m with
  | zero =>
    intro k a x5 hk ha
    rw [eX9_areDigests_26, if_neg (by omega)]
    unfold areL
    rcases ha with rfl | rfl
    · rw [if_pos rfl]
    · rw [if_neg (by omega), if_pos rfl]
  | succ m ih =>
    intro k a x5 hk ha
    have hk4 : k < 4 := by omega
    have hkn : (k : Int) < n := by omega
    have ih0 := fun x5 => ih (k + 1) 0 x5 (by omega) (Or.inl rfl)
    have ih1 := fun x5 => ih (k + 1) 1 x5 (by omega) (Or.inr rfl)
    clear ih hk h4
    have w6 := hw (6 + 2 * k) (by omega)
    have w7 := hw (7 + 2 * k) (by omega)
    have hd := s9_digestOf (N := N) (σ := σ) (σ 40 0 (b + (6 + 2 * k))) (σ 40 0 (b + (7 + 2 * k))) w6.1 w6.2 w7.1 w7.2
    clear w6 w7 hw
    have ek : w32 ((k : Int) + 1) = ((k + 1 : Nat) : Int) := by rw [w32i (by omega) (by omega)]; omega
    have v4 : w32 ((b : Int) + 4) = ((b + 4 : Nat) : Int) := by rw [w32i (by omega) (by omega)]; omega
    have v5 : w32 (w32 ((b : Int) + 5) + w32 (2 * (k : Int))) = ((b + 5 + 2 * k : Nat) : Int) := by rw [w32i (x := (b : Int) + 5) (by omega) (by omega), w32i (x := 2 * (k : Int)) (by omega) (by omega), w32i (by omega) (by omega)]; omega
    have v6 : w32 (w32 ((b : Int) + 6) + w32 (2 * (k : Int))) = ((b + (6 + 2 * k) : Nat) : Int) := by rw [w32i (x := (b : Int) + 6) (by omega) (by omega), w32i (x := 2 * (k : Int)) (by omega) (by omega), w32i (by omega) (by omega)]; omega
    have v7 : w32 (w32 ((b : Int) + 7) + w32 (2 * (k : Int))) = ((b + (7 + 2 * k) : Nat) : Int) := by rw [w32i (x := (b : Int) + 7) (by omega) (by omega), w32i (x := 2 * (k : Int)) (by omega) (by omega), w32i (by omega) (by omega)]; omega
    have p4 : ¬ (((b + 4 : Nat) : Int) < 0) ∧ ((b + 4 : Nat) : Int) < 107 := by omega
    have p5 : ¬ (((b + 5 + 2 * k : Nat) : Int) < 0) ∧ ((b + 5 + 2 * k : Nat) : Int) < 107 := by omega
    have p6 : ¬ (((b + (6 + 2 * k) : Nat) : Int) < 0) ∧ ((b + (6 + 2 * k) : Nat) : Int) < 107 := by omega
    have p7 : ¬ (((b + (7 + 2 * k) : Nat) : Int) < 0) ∧ ((b + (7 + 2 * k) : Nat) : Int) < 107 := by omega
    unfold areL toldM
    rw [show b + 6 + 2 * k = b + (6 + 2 * k) by omega, show b + 7 + 2 * k = b + (7 + 2 * k) by omega, eX9_areDigests_26, if_pos hkn, v4, v5, v6, v7, ek]
    by_cases hk0 : k = 0
    · rw [if_pos (show (k : Int) = 0 by omega), if_neg p4.1, if_pos p4.2, if_pos hk0, Int.toNat_natCast]
      rcases ha with rfl | rfl
      · rw [if_pos rfl, if_pos rfl]
        exact ih0 _
      · rw [if_neg (show ¬ (1 : Int) = 0 by omega), if_neg (show ¬ (1 : Int) = 0 by omega), if_neg p6.1, if_pos p6.2, if_neg p7.1, if_pos p7.2, Int.toNat_natCast, Int.toNat_natCast, hd, bnd_s, push_s, eX9_areDigests_75, ek]
        by_cases h2 : σ 40 0 (b + 4) = dig (σ 40 0 (b + (6 + 2 * k))) (σ 40 0 (b + (7 + 2 * k)))
        · rw [if_pos h2, if_pos h2]
          exact ih1 _
        · rw [if_neg h2, if_neg h2]
          exact ih0 _
    · rw [if_neg (show ¬ (k : Int) = 0 by omega), if_neg p5.1, if_pos p5.2, if_neg hk0, Int.toNat_natCast]
      rcases ha with rfl | rfl
      · rw [if_pos rfl, if_pos rfl]
        exact ih0 _
      · rw [if_neg (show ¬ (1 : Int) = 0 by omega), if_neg (show ¬ (1 : Int) = 0 by omega), if_neg p6.1, if_pos p6.2, if_neg p7.1, if_pos p7.2, Int.toNat_natCast, Int.toNat_natCast, hd, bnd_s, push_s, eX9_areDigests_75, ek]
        by_cases h2 : σ 40 0 (b + 5 + 2 * k) = dig (σ 40 0 (b + (6 + 2 * k))) (σ 40 0 (b + (7 + 2 * k)))
        · rw [if_pos h2, if_pos h2]
          exact ih1 _
        · rw [if_neg h2, if_neg h2]
          exact ih0 _
end MOD
