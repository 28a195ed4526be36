/-! THE TWO MACHINES: writes -/
/-- the starts: a ring against a row that is shifted -/
def RS (c n : Vec) : Prop := 0 ≤ c 82 ∧ n 82 = min 12 (c 82) ∧ ∀ k : Nat, k < 12 → (k : Int) < c 82 → n (83 + 2 * k) = c (83 + 2 * ((c 82 - 1 - k) % 12).toNat) ∧ n (84 + 2 * k) = c (84 + 2 * ((c 82 - 1 - k) % 12).toNat)
def RC (c n : Vec) : Prop := (∀ j, j < 78 → c j = n j) ∧ c 79 = n 80 ∧ c 80 = n 79 ∧ c 81 = n 81 ∧ RS c n
/-- power is there -/
def RL (x : XP) (σ : Sto) : Prop := σ 30 0 24 = 0 ∧ x.2 9 = 0 ∧ x.1 78 = σ 40 0 78 ∧ ((x.2 7 = -1 ∧ σ 30 0 22 = -1) ∨ (0 ≤ x.2 8 ∧ x.2 8 ≤ x.2 7 ∧ x.2 7 < 2147483648 ∧ σ 30 0 22 = x.2 7 - x.2 8))
/-- power has failed -/
def RD (x : XP) (σ : Sto) : Prop := ¬ σ 30 0 24 = 0 ∧ x.2 9 = 1 ∧ σ 40 0 78 = -1 ∧ ¬ x.2 7 = -1 ∧ ¬ x.2 8 < x.2 7
def R (x : XP) (σ : Sto) : Prop := RC x.1 (σ 40 0) ∧ x.2 8 = σ 30 0 23 ∧ (RL x σ ∨ RD x σ)
theorem RS_congr {c n c2 n2 : Vec} (h : RS c n) (h1 : ∀ j, 82 ≤ j → c2 j = c j) (h2 : ∀ j, 82 ≤ j → n2 j = n j) : RS c2 n2 := by
  obtain ⟨a, b, d⟩ := h
  unfold RS
  rw [h1 82 (by omega), h2 82 (by omega)]
  refine ⟨a, b, fun k hk hk2 => ?_⟩
  rw [h2 _ (by omega), h2 _ (by omega), h1 _ (by omega), h1 _ (by omega)]
  exact d k hk hk2
theorem RC_fill {c n : Vec} (h : RC c n) (a m : Nat) (ha : a + m ≤ 78) (v : Int) : RC (fill c a m v) (fill n a m v) := by
  obtain ⟨h1, h2, h3, h4, h5⟩ := h
  have e : ∀ (f : Vec) (j : Nat), 78 ≤ j → fill f a m v j = f j := by
    intro f j hj
    unfold fill
    rw [if_neg (by omega)]
  refine ⟨fun j hj => ?_, ?_, ?_, ?_, RS_congr h5 (fun j hj => e c j (by omega)) (fun j hj => e n j (by omega))⟩
  · unfold fill
    rw [h1 j hj]
  · rw [e c _ (by omega), e n _ (by omega), h2]
  · rw [e c _ (by omega), e n _ (by omega), h3]
  · rw [e c _ (by omega), e n _ (by omega), h4]
theorem RC_78 {c n : Vec} (h : RC c n) (v : Int) : RC c (set n 78 v) := by
  obtain ⟨h1, h2, h3, h4, h5⟩ := h
  refine ⟨fun j hj => ?_, ?_, ?_, ?_, RS_congr h5 (fun j hj => rfl) (fun j hj => set_ne _ _ (by omega))⟩
  · rw [set_ne _ _ (by omega), h1 j hj]
  · rw [set_ne _ _ (by omega), h2]
  · rw [set_ne _ _ (by omega), h3]
  · rw [set_ne _ _ (by omega), h4]
theorem canM_live {σ : Sto} (h1 : σ 30 0 24 = 0) (h2 : ¬ σ 30 0 22 = 0) : canM σ = (1, row σ 30 0 (set (set (σ 30 0) 22 (w32 (σ 30 0 22 - (if 0 < σ 30 0 22 then 1 else 0)))) 23 (w32 (σ 30 0 23 + 1)))) := by
  unfold canM
  rw [if_pos h1, if_neg h2]
theorem canM_cut {σ : Sto} (h1 : σ 30 0 24 = 0) (h2 : σ 30 0 22 = 0) : canM σ = (0, row (row σ 30 0 (set (σ 30 0) 24 1)) 40 0 (set (σ 40 0) 78 (-1))) := by
  unfold canM
  rw [if_pos h1, if_pos h2]
theorem canM_dead {σ : Sto} (h1 : ¬ σ 30 0 24 = 0) : canM σ = (0, σ) := by
  unfold canM
  rw [if_neg h1]
theorem R_wr {x : XP} {σ : Sto} (h : R x σ) (a n : Nat) (ha : a + n ≤ 78) (v : Int) : R (wrC a n v x) (wrM a n v σ) := by
  obtain ⟨hc, hd, hm⟩ := h
  rcases hm with ⟨l1, l2, l3, l4⟩ | ⟨d1, d2, d3, d4, d5⟩
  · by_cases hz : σ 30 0 22 = 0
    · have hf : ¬ x.2 7 = -1 ∧ ¬ x.2 8 < x.2 7 := by
        rcases l4 with ⟨q1, q2⟩ | ⟨q1, q2, q3, q4⟩
        · omega
        · omega
      unfold wrC wrM
      rw [if_pos hf, canM_cut l1 hz, if_pos rfl]
      refine ⟨?_, ?_, Or.inr ⟨?_, ?_, ?_, ?_, ?_⟩⟩
      · show RC x.1 ((row (row σ 30 0 (set (σ 30 0) 24 1)) 40 0 (set (σ 40 0) 78 (-1))) 40 0)
        rw [row_same]
        exact RC_78 hc _
      · show set x.2 9 1 8 = (row (row σ 30 0 (set (σ 30 0) 24 1)) 40 0 (set (σ 40 0) 78 (-1))) 30 0 23
        rw [set_ne _ _ (by omega), row_at, if_neg (by omega), row_same, set_ne _ _ (by omega), hd]
      · show ¬ (row (row σ 30 0 (set (σ 30 0) 24 1)) 40 0 (set (σ 40 0) 78 (-1))) 30 0 24 = 0
        rw [row_at, if_neg (by omega), row_same, set_same]
        omega
      · exact set_same x.2 9 1
      · show (row (row σ 30 0 (set (σ 30 0) 24 1)) 40 0 (set (σ 40 0) 78 (-1))) 40 0 78 = -1
        rw [row_same, set_same]
      · show ¬ set x.2 9 1 7 = -1
        rw [set_ne _ _ (by omega)]
        exact hf.1
      · show ¬ set x.2 9 1 8 < set x.2 9 1 7
        rw [set_ne _ _ (by omega), set_ne _ _ (by omega)]
        exact hf.2
    · have hf : ¬ (¬ x.2 7 = -1 ∧ ¬ x.2 8 < x.2 7) := by
        rcases l4 with ⟨q1, q2⟩ | ⟨q1, q2, q3, q4⟩
        · omega
        · omega
      unfold wrC wrM
      rw [if_neg hf, canM_live l1 hz, if_neg (show ¬ (1 : Int) = 0 by omega)]
      generalize hq : set (set (σ 30 0) 22 (w32 (σ 30 0 22 - (if 0 < σ 30 0 22 then 1 else 0)))) 23 (w32 (σ 30 0 23 + 1)) = q
      have q22 : q 22 = w32 (σ 30 0 22 - (if 0 < σ 30 0 22 then 1 else 0)) := by rw [← hq, set_ne _ _ (by omega), set_same]
      have q23 : q 23 = w32 (σ 30 0 23 + 1) := by rw [← hq, set_same]
      have q24 : q 24 = 0 := by rw [← hq, set_ne _ _ (by omega), set_ne _ _ (by omega), l1]
      clear hq
      have r40 : row σ 30 0 q 40 0 = σ 40 0 := by rw [row_at, if_neg (by omega)]
      have r30 : ∀ g, row (row σ 30 0 q) 40 0 g 30 0 = q := fun g => by rw [row_at, if_neg (by omega), row_same]
      have e78 : ∀ f : Vec, fill f a n v 78 = f 78 := fun f => by unfold fill; rw [if_neg (by omega)]
      refine ⟨?_, ?_, Or.inl ⟨?_, ?_, ?_, ?_⟩⟩
      · show RC (fill x.1 a n v) (row (row σ 30 0 q) 40 0 (fill (row σ 30 0 q 40 0) a n v) 40 0)
        rw [row_same, r40]
        exact RC_fill hc a n ha v
      · show set x.2 8 (w32 (x.2 8 + 1)) 8 = row (row σ 30 0 q) 40 0 _ 30 0 23
        rw [set_same, r30, q23, hd]
      · show row (row σ 30 0 q) 40 0 _ 30 0 24 = 0
        rw [r30, q24]
      · show set x.2 8 (w32 (x.2 8 + 1)) 9 = 0
        rw [set_ne _ _ (by omega), l2]
      · show fill x.1 a n v 78 = row (row σ 30 0 q) 40 0 (fill (row σ 30 0 q 40 0) a n v) 40 0 78
        rw [row_same, r40, e78, e78, l3]
      · show (set x.2 8 (w32 (x.2 8 + 1)) 7 = -1 ∧ row (row σ 30 0 q) 40 0 _ 30 0 22 = -1) ∨ (0 ≤ set x.2 8 (w32 (x.2 8 + 1)) 8 ∧ set x.2 8 (w32 (x.2 8 + 1)) 8 ≤ set x.2 8 (w32 (x.2 8 + 1)) 7 ∧ set x.2 8 (w32 (x.2 8 + 1)) 7 < 2147483648 ∧ row (row σ 30 0 q) 40 0 _ 30 0 22 = set x.2 8 (w32 (x.2 8 + 1)) 7 - set x.2 8 (w32 (x.2 8 + 1)) 8)
        rw [r30, q22, set_same, set_ne _ _ (show 7 ≠ 8 by omega)]
        rcases l4 with ⟨s1, s2⟩ | ⟨s1, s2, s3, s4⟩
        · left
          rw [s2]
          exact ⟨s1, rfl⟩
        · right
          rw [if_pos (by omega), w32i (x := σ 30 0 22 - 1) (by omega) (by omega), w32i (by omega) (by omega)]
          omega
  · unfold wrC wrM
    rw [if_pos ⟨d4, d5⟩, canM_dead d1, if_pos rfl]
    refine ⟨hc, ?_, Or.inr ⟨d1, ?_, d3, ?_, ?_⟩⟩
    · show set x.2 9 1 8 = _
      rw [set_ne _ _ (by omega), hd]
    · exact set_same x.2 9 1
    · show ¬ set x.2 9 1 7 = -1
      rw [set_ne _ _ (by omega)]
      exact d4
    · show ¬ set x.2 9 1 8 < set x.2 9 1 7
      rw [set_ne _ _ (by omega), set_ne _ _ (by omega)]
      exact d5
/-- a write of a machine that is alive behind it -/
theorem wrC_live {a n : Nat} {v : Int} {x : XP} (h : (wrC a n v x).2 9 = 0) : (wrC a n v x).1 = fill x.1 a n v ∧ x.2 9 = 0 := by
  unfold wrC at h ⊢
  split at h
  · rw [show (x.1, set x.2 9 1).2 9 = 1 from set_same x.2 9 1] at h
    cases h
  · rename_i hh
    rw [if_neg hh]
    refine ⟨rfl, ?_⟩
    rw [show (fill x.1 a n v, set x.2 8 (w32 (x.2 8 + 1))).2 9 = x.2 9 from set_ne x.2 (w32 (x.2 8 + 1)) (show 9 ≠ 8 by omega)] at h
    exact h
/-- flags and their bytes -/
def FR (g f : Vec) : Prop := g 2 = 16 * f 0 + 2 * f 2 + f 4 ∧ g 3 = 16 * f 1 + 2 * f 3 + f 5 ∧ g 4 = f 6 ∧ g 5 = f 7 ∧ OKFl f
theorem FR_sum {g f : Vec} (h : FR g f) (nx : Int) : sumV f nx = 165 + 2 * nx + 3 * g 2 + 4 * g 3 + 5 * g 4 + 6 * g 5 := by
  obtain ⟨h2, h3, h4, h5, -⟩ := h
  unfold sumV
  rw [h2, h3, h4, h5]
/-- the machine's own word of the newest page is right -/
def NR (x : XP) : Prop := x.2 6 = newestF x.1
theorem R_44 {x : XP} {σ : Sto} (h : R x σ) (k : Nat) (f : Vec) (hk : k = 43 ∨ k = 44 ∨ k = 45) : R x (row σ k 0 f) := by
  have r40 : row σ k 0 f 40 0 = σ 40 0 := by rw [row_at, if_neg (by omega)]
  have r30 : row σ k 0 f 30 0 = σ 30 0 := by rw [row_at, if_neg (by omega)]
  unfold R RL RD
  rw [r40, r30]
  exact h
theorem R_wfC {x : XP} {σ : Sto} (h : R x σ) (b : Nat) (hb : b = 56 ∨ b = 64) (nx : Int) (f : Vec) (hf : FR x.2 f) : R (wfC b nx x) (wrL b (ocV (σ 44 0) f nx) 8 0 (wrM b 8 255 (row σ 44 0 (ocV (σ 44 0) f nx)))) := by
  have h0 := R_44 h 44 (ocV (σ 44 0) f nx) (by omega)
  have hs := FR_sum hf nx
  obtain ⟨h2, h3, h4, h5, -⟩ := hf
  unfold wfC
  rw [← hs, h2, h3, h4, h5]
  exact R_wr (R_wr (R_wr (R_wr (R_wr (R_wr (R_wr (R_wr (R_wr h0 b 8 (by omega) 255) b 1 (by omega) 165) (b + 1) 1 (by omega) nx) (b + 2) 1 (by omega) _) (b + 3) 1 (by omega) _) (b + 4) 1 (by omega) _) (b + 5) 1 (by omega) _) (b + 6) 1 (by omega) _) (b + 7) 1 (by omega) _
