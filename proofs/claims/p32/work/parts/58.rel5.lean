/-! THE TWO MACHINES: the bundle, the start -/
theorem revN_congr {u u2 : Vec} {fz : Int} (ks : Int) (hu : OKU ks u) (h : ∀ k : Nat, (k : Int) < ks → u2 k = u k) : ∀ (n : Nat) (k : Int), k < ks → revN u2 fz n k = revN u fz n k
  | 0, _, _ => rfl
  | n + 1, k, hk => by
    unfold revN
    by_cases h0 : k < 0
    · rw [if_pos h0, if_pos h0]
    · have e := h k.toNat (by omega)
      have q := hu.2 k.toNat (by omega)
      rw [if_neg h0, if_neg h0, e, revN_congr ks hu h n _ (by omega)]
theorem whyF_bundle {ks : Int} {sec sec2 u u2 : Vec} (hu : OKU ks u) (h1 : ∀ k : Nat, (k : Int) < ks → sec2 k = sec k) (h : ∀ k : Nat, (k : Int) < ks → u2 k = u k) (c : Vec) (s : Nat) : whyF ks sec2 u2 c s = whyF ks sec u c s := by
  unfold whyF
  by_cases g : c (14 * s) - 1 < 0 ∨ 30 < c (14 * s) - 1 ∨ ¬ (0 ≤ c (14 * s + 1) ∧ c (14 * s + 1) < ks) ∨ c (14 * s + 3) < 1 ∨ 4 < c (14 * s + 3)
  · rw [if_pos g, if_pos g]
  · have e : signF sec2 c (14 * s) = signF sec c (14 * s) := by
      unfold signF
      rw [h1 _ (by omega)]
    rw [if_neg g, if_neg g, e, revN_congr ks hu h 6 _ (by omega)]
theorem soundL_congr {c n : Vec} (b : Nat) (h : ∀ j, b ≤ j → j < b + 14 → c j = n j) : ∀ (m k : Nat) (d : Int), k + m ≤ 4 → soundL c b m k d = soundL n b m k d
  | 0, _, _, _ => rfl
  | m + 1, k, d, hk => by
    unfold soundL
    rw [h (b + 6 + 2 * k) (by omega) (by omega), h (b + 7 + 2 * k) (by omega) (by omega), soundL_congr b h m (k + 1) _ (by omega)]
theorem whyF_cells {c n : Vec} (h : ∀ j, j < 78 → c j = n j) (ks : Int) (sec u : Vec) (s : Nat) (hs : s < 4) : whyF ks sec u c s = whyF ks sec u n s := by
  unfold whyF signF soundF
  rw [h (14 * s) (by omega), h (14 * s + 1) (by omega), h (14 * s + 2) (by omega), h (14 * s + 3) (by omega), h (14 * s + 4) (by omega), h (14 * s + 5) (by omega), h 76 (by omega), h 77 (by omega)]
  by_cases g : n (14 * s) - 1 < 0 ∨ 30 < n (14 * s) - 1 ∨ ¬ (0 ≤ n (14 * s + 1) ∧ n (14 * s + 1) < ks) ∨ n (14 * s + 3) < 1 ∨ 4 < n (14 * s + 3)
  · rw [if_pos g, if_pos g]
  · rw [if_neg g, if_neg g, soundL_congr (14 * s) (fun j a b => h j (by omega)) _ 0 _ (by omega)]
theorem copyF_cells {c n : Vec} (h : ∀ j, j < 78 → c j = n j) (ks : Int) (sec u : Vec) : copyF ks sec u c = copyF ks sec u n := by
  unfold copyF
  rw [whyF_cells h ks sec u 2 (by omega), whyF_cells h ks sec u 3 (by omega), h 28 (by omega), h 42 (by omega)]
/-- the model knows the bundle that machines know -/
def EnvM (σ0 τ : Sto) : Prop := OKM τ ∧ (∀ c s, whyM τ c s = whyS σ0 c s) ∧ τ 30 0 5 = σ0 2 1 0 ∧ τ 30 0 6 = σ0 2 1 1 ∧ τ 38 0 2 = σ0 2 1 2 ∧ τ 38 0 3 = σ0 2 1 3 ∧ τ 38 0 4 = σ0 2 1 4 ∧ (∀ j : Nat, (j : Int) < 14 * σ0 2 1 1 → τ 36 0 j = σ0 5 1 j) ∧ (∀ k : Nat, (k : Int) < σ0 2 1 0 → τ 33 0 k = σ0 4 1 k)
theorem KM_r {σ τ : Sto} (h : KM σ τ) (k : Nat) (hk : k ≠ 30 ∧ k ≠ 40 ∧ k ≠ 43 ∧ k ≠ 44 ∧ k ≠ 45) (k' : Nat) : τ k k' = σ k k' := h.1 k k' (by omega)
theorem EnvM_KM {σ0 τ υ : Sto} (h : EnvM σ0 τ) (k : KM τ υ) : EnvM σ0 υ := by
  have e32 := KM_r k 32 (by omega) 0
  have e33 := KM_r k 33 (by omega) 0
  have e36 := KM_r k 36 (by omega) 0
  have e38 := KM_r k 38 (by omega) 0
  have e5 := k.2 5 (by omega) (by omega) (by omega)
  have e6 := k.2 6 (by omega) (by omega) (by omega)
  unfold EnvM OKM whyM at h ⊢
  rw [e32, e33, e36, e38, e5, e6]
  exact h
theorem EnvM_copy {σ0 τ : Sto} (h : EnvM σ0 τ) (c : Vec) : copyF (τ 30 0 5) (τ 32 0) (τ 33 0) c = copyF (σ0 2 1 0) (σ0 3 1) (σ0 4 1) c := by
  have w := h.2.1
  have w2 : whyF (τ 30 0 5) (τ 32 0) (τ 33 0) c 2 = whyF (σ0 2 1 0) (σ0 3 1) (σ0 4 1) c 2 := w c 2
  have w3 : whyF (τ 30 0 5) (τ 32 0) (τ 33 0) c 3 = whyF (σ0 2 1 0) (σ0 3 1) (σ0 4 1) c 3 := w c 3
  unfold copyF
  rw [w2, w3]
theorem OKC_R {c n : Vec} (h : OKC c) (h1 : ∀ j, j < 78 → c j = n j) (h2 : -1 ≤ n 78 ∧ n 78 ≤ 2) : OKC n := by
  obtain ⟨a, b, d, e, f⟩ := h
  refine ⟨fun j hj => ?_, fun j hj hj2 => ?_, ?_, ?_, h2⟩
  · rw [← h1 j (by omega)]
    exact a j hj
  · rw [← h1 j (by omega)]
    exact b j hj hj2
  · rw [← h1 76 (by omega)]
    exact d
  · rw [← h1 77 (by omega)]
    exact e
theorem R_okc {x : XP} {σ : Sto} (h : R x σ) (hx : OKC x.1) : OKC (σ 40 0) := by
  refine OKC_R hx h.1.1 ?_
  rcases h.2.2 with ⟨_, _, q, _⟩ | ⟨_, _, q, _⟩
  · rw [← q]
    exact hx.2.2.2.2
  · omega
theorem R_start {x : XP} {σ : Sto} (h : R x σ) (h0 : σ 30 0 24 = 0) (what ver : Int) (hb : x.1 82 < 2147483000) : R (noteStartC what ver x) (row σ 40 0 (startV (σ 40 0) what ver)) := by
  obtain ⟨l1, l2, l3, l4⟩ := R_live h h0
  have hs := RC_start h.1 what ver hb
  have r30 : ∀ g, row σ 40 0 g 30 0 = σ 30 0 := fun g => by rw [row_at, if_neg (by omega)]
  unfold noteStartC
  rw [if_pos l2]
  refine ⟨?_, ?_, Or.inl ⟨?_, l2, ?_, ?_⟩⟩
  · rw [row_same]
    exact hs.1
  · rw [r30]
    exact h.2.1
  · rw [r30]
    exact l1
  · rw [row_same]
    exact hs.2
  · rw [r30]
    exact l4
/-- a live machine with flags that the model knows, too -/
def RF (x : XP) (σ : Sto) : Prop := R x σ ∧ σ 30 0 24 = 0 ∧ FR x.2 (σ 43 0) ∧ NR x ∧ OKX x
theorem FR_count {g f : Vec} (h : FR g f) (c : Vec) (s : Nat) (hs : s < 2) (hst : ¬ standF (g (2 + s)) = 0) : FR (countTryC s (c, g)).2 (set (set (set f (2 + s) (f (2 + s) - (if f (4 + s) = 1 then 0 else 1))) 6 (min 255 (f 6 + 1))) 7 (s : Int)) := by
  obtain ⟨h2, h3, h4, h5, f0, f1, f2, f3, f4, f5, f6, f7⟩ := h
  unfold countTryC
  rcases (show s = 0 ∨ s = 1 by omega) with rfl | rfl
  · have st := stand_FR h2 f0 f2 f4
    rw [st] at hst
    clear st
    unfold FR OKFl
    by_cases q : f 4 = 1
    · rw [if_neg (show ¬ g (2 + 0) % 2 = 0 by show ¬ g 2 % 2 = 0; omega)]
      simp only [set_at, Nat.reduceEqDiff, Nat.reduceAdd, ↓reduceIte, q, true_and, and_true, Int.cast_ofNat_Int]
      clear hst
      omega
    · have hp : 0 < f 2 := by
        by_cases z : 0 < f 0 ∧ (f 4 = 1 ∨ 0 < f 2)
        · omega
        · rw [if_neg z] at hst
          exact absurd rfl hst
      rw [if_pos (show g (2 + 0) % 2 = 0 by show g 2 % 2 = 0; omega)]
      simp only [set_at, Nat.reduceEqDiff, Nat.reduceAdd, ↓reduceIte, q, true_and, and_true, Int.cast_ofNat_Int]
      clear hst
      omega
  · have st := stand_FR h3 f1 f3 f5
    rw [st] at hst
    clear st
    unfold FR OKFl
    by_cases q : f 5 = 1
    · rw [if_neg (show ¬ g (2 + 1) % 2 = 0 by show ¬ g 3 % 2 = 0; omega)]
      simp only [set_at, Nat.reduceEqDiff, Nat.reduceAdd, ↓reduceIte, q, true_and, and_true, Int.cast_ofNat_Int]
      clear hst
      omega
    · have hp : 0 < f 3 := by
        by_cases z : 0 < f 1 ∧ (f 5 = 1 ∨ 0 < f 3)
        · omega
        · rw [if_neg z] at hst
          exact absurd rfl hst
      rw [if_pos (show g (2 + 1) % 2 = 0 by show g 3 % 2 = 0; omega)]
      simp only [set_at, Nat.reduceEqDiff, Nat.reduceAdd, ↓reduceIte, q, true_and, and_true, Int.cast_ofNat_Int]
      clear hst
      omega
theorem chosen_st {g : Vec} {s : Nat} (h2 : 0 ≤ standF (g 2)) (h3 : 0 ≤ standF (g 3)) (h : chosenC g = (s : Int)) : s < 2 ∧ ¬ standF (g (2 + s)) = 0 := by
  unfold chosenC at h
  by_cases q : standF (g 2) = 0 ∧ standF (g 3) = 0
  · rw [if_pos q] at h
    omega
  · rw [if_neg q] at h
    by_cases r : standF (g 2) < standF (g 3)
    · rw [if_pos r] at h
      have e : s = 1 := by omega
      subst e
      exact ⟨by omega, show ¬ standF (g 3) = 0 by omega⟩
    · rw [if_neg r] at h
      have e : s = 0 := by omega
      subst e
      exact ⟨by omega, show ¬ standF (g 2) = 0 by omega⟩
