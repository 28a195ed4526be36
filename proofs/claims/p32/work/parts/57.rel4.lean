/-! THE TWO MACHINES: starts -/
/-- the row of starts, shifted down to a place -/
def shA (n : Vec) (k : Nat) : Vec := fun j => if 83 + k < j ∧ j < 107 then n (j - 2) else n j
theorem shA_23 (n : Vec) : shA n 23 = n := by
  funext j
  unfold shA
  rw [if_neg (by omega)]
theorem shA_s (n : Vec) (k : Nat) (h1 : 1 < k) (h2 : k ≤ 23) : set (shA n k) (83 + k) (shA n k (83 + k - 2)) = shA n (k - 1) := by
  funext j
  unfold set shA
  by_cases h : j = 83 + k
  · subst h
    rw [if_pos rfl, if_neg (by omega), if_pos (by omega)]
  · rw [if_neg h]
    by_cases h3 : 83 + k < j ∧ j < 107
    · rw [if_pos h3, if_pos (by omega)]
    · rw [if_neg h3, if_neg (by omega)]
def startV (n : Vec) (what ver : Int) : Vec := set (set (set (shA (set (set (set n 78 what) 79 0) 80 0) 1) 83 what) 84 ver) 82 (min 12 (w32 (n 82 + 1)))
section MOD
variable {N : Nat} {σ : Sto}
theorem s9_st_loop (x1 x2 : Int) : ∀ (m k : Nat) (n : Vec) (τ : Sto), k = m + 1 → k ≤ 23 → τ 40 0 = shA n k → ev N mX9_starts 21 [vR 30 0, vI x1, vI x2, vI (k : Int)] [] (P τ) = ev N mX9_starts 21 [vR 30 0, vI x1, vI x2, vI 1] [] (P (row τ 40 0 (shA n 1))) := by
  intro m
  induction m with
  | zero =>
    intro k n τ hk hk2 ht
    subst hk
    rw [Nat.zero_add] at ht ⊢
    rw [← ht, row_id]
    rfl
  | succ m ih =>
    intro k n τ hk hk2 ht
    have e1 : w32 (83 + (k : Int)) = ((83 + k : Nat) : Int) := by rw [w32i (by omega) (by omega)]; omega
    have e2 : w32 (((83 + k : Nat) : Int) - 2) = ((83 + k - 2 : Nat) : Int) := by rw [w32i (by omega) (by omega)]; omega
    have e3 : w32 ((k : Int) + -1) = ((k - 1 : Nat) : Int) := by rw [w32i (by omega) (by omega)]; omega
    rw [eX9_starts_21, if_pos (by omega), e1, e2, e3, if_neg (by omega), if_pos (by omega), if_neg (by omega), if_pos (by omega), sup_row, Int.toNat_natCast, Int.toNat_natCast, ht, shA_s n k (by omega) hk2, ih (k - 1) n _ (by omega) (by omega) (by rw [row_same]), row_row]
theorem s9_starts (what : Int) (s : Nat) (hs : s < 4) (hw : OKW (σ 40 0)) (h0 : σ 30 0 24 = 0) : inv N mX9_starts [vR 30 0, vI what, vI (s : Int)] (P σ) = some (none, P (row σ 40 0 (startV (σ 40 0) what (σ 40 0 (14 * s) - 1)))) := by
  have lp := s9_st_loop (N := N) what (s : Int) 22 23 (set (set (set (σ 40 0) 78 what) 79 0) 80 0) (row σ 40 0 (set (set (set (σ 40 0) 78 what) 79 0) 80 0)) rfl (by omega) (by rw [row_same, shA_23])
  simp only [Int.cast_ofNat_Int, row_row] at lp
  rw [iX9_starts, eX9_starts_0, if_pos h0]
  simp only [Int.reduceToNat, sup_row, row_same, row_row]
  rw [lp, eX9_starts_21, if_neg (by omega)]
  simp only [Int.reduceToNat, sup_row, row_same, row_row]
  generalize hn : set (shA (set (set (set (σ 40 0) 78 what) 79 0) 80 0) 1) 83 what = n
  have a : ∀ j, j < 56 → n j = σ 40 0 j := by
    intro j hj
    rw [← hn, set_ne _ _ (by omega)]
    unfold shA
    rw [if_neg (by omega), set_ne _ _ (by omega), set_ne _ _ (by omega), set_ne _ _ (by omega)]
  have a82 : n 82 = σ 40 0 82 := by
    rw [← hn, set_ne _ _ (by omega)]
    unfold shA
    rw [if_neg (by omega), set_ne _ _ (by omega), set_ne _ _ (by omega), set_ne _ _ (by omega)]
  have v := s9_versionOf (N := N) (σ := row σ 40 0 n) s hs (by rw [row_same]; intro j hj; rw [a j hj]; exact hw j hj)
  rw [row_same, a (14 * s) (by omega)] at v
  rw [v, bnd_s, push_s, eX9_starts_51, if_neg (by omega), if_pos (by omega)]
  simp only [Int.reduceToNat, sup_row, row_same, row_row]
  unfold startV
  rw [hn, set_ne _ _ (show 82 ≠ 84 by omega), a82]
theorem s9_starts_cut (what s : Int) (h0 : ¬ σ 30 0 24 = 0) : inv N mX9_starts [vR 30 0, vI what, vI s] (P σ) = some (none, P σ) := by
  rw [iX9_starts, eX9_starts_0, if_neg h0]
end MOD
/-- the class's cells behind a start -/
def ringV (c : Vec) (what ver : Int) : Vec := set (set (set (set (set (set c (83 + 2 * (c 82 % 12).toNat) what) (83 + 2 * (c 82 % 12).toNat + 1) ver) 82 (c 82 + 1)) 78 what) 79 0) 80 0
theorem RC_start {c n : Vec} (h : RC c n) (what ver : Int) (hb : c 82 < 2147483000) : RC (ringV c what ver) (startV n what ver) ∧ ringV c what ver 78 = startV n what ver 78 := by
  obtain ⟨h1, h2, h3, h4, h0, h5, h6⟩ := h
  have m0 : 0 ≤ c 82 % 12 ∧ c 82 % 12 < 12 := by omega
  have ec : ∀ j, j < 78 ∨ j = 81 → ringV c what ver j = c j := by
    intro j hj
    unfold ringV
    rw [set_ne _ _ (by omega), set_ne _ _ (by omega), set_ne _ _ (by omega), set_ne _ _ (by omega), set_ne _ _ (by omega), set_ne _ _ (by omega)]
  have en : ∀ j, j < 78 ∨ j = 81 → startV n what ver j = n j := by
    intro j hj
    unfold startV
    rw [set_ne _ _ (by omega), set_ne _ _ (by omega), set_ne _ _ (by omega)]
    unfold shA
    rw [if_neg (by omega), set_ne _ _ (by omega), set_ne _ _ (by omega), set_ne _ _ (by omega)]
  have n78 : startV n what ver 78 = what ∧ startV n what ver 79 = 0 ∧ startV n what ver 80 = 0 := by
    unfold startV
    refine ⟨?_, ?_, ?_⟩
    · rw [set_ne _ _ (by omega), set_ne _ _ (by omega), set_ne _ _ (by omega)]
      unfold shA
      rw [if_neg (by omega), set_ne _ _ (by omega), set_ne _ _ (by omega), set_same]
    · rw [set_ne _ _ (by omega), set_ne _ _ (by omega), set_ne _ _ (by omega)]
      unfold shA
      rw [if_neg (by omega), set_ne _ _ (by omega), set_same]
    · rw [set_ne _ _ (by omega), set_ne _ _ (by omega), set_ne _ _ (by omega)]
      unfold shA
      rw [if_neg (by omega), set_same]
  have c78 : ringV c what ver 78 = what ∧ ringV c what ver 79 = 0 ∧ ringV c what ver 80 = 0 := by
    unfold ringV
    refine ⟨?_, ?_, ?_⟩
    · rw [set_ne _ _ (by omega), set_ne _ _ (by omega), set_same]
    · rw [set_ne _ _ (by omega), set_same]
    · rw [set_same]
  refine ⟨⟨fun j hj => ?_, ?_, ?_, ?_, ?_⟩, ?_⟩
  · rw [ec j (Or.inl hj), en j (Or.inl hj), h1 j hj]
  · rw [c78.2.1, n78.2.2]
  · rw [c78.2.2, n78.2.1]
  · rw [ec 81 (Or.inr rfl), en 81 (Or.inr rfl), h4]
  · have c82 : ringV c what ver 82 = c 82 + 1 := by
      unfold ringV
      rw [set_ne _ _ (by omega), set_ne _ _ (by omega), set_ne _ _ (by omega), set_same]
    have n82 : startV n what ver 82 = min 12 (w32 (n 82 + 1)) := by
      unfold startV
      rw [set_same]
    unfold RS
    rw [c82, n82, h5]
    refine ⟨by omega, ?_, fun k hk hk2 => ?_⟩
    · rw [w32i (by omega) (by omega)]
      omega
    · have er : ∀ t : Nat, t < 12 → (¬ t = (c 82 % 12).toNat → ringV c what ver (83 + 2 * t) = c (83 + 2 * t) ∧ ringV c what ver (84 + 2 * t) = c (84 + 2 * t)) ∧ (t = (c 82 % 12).toNat → ringV c what ver (83 + 2 * t) = what ∧ ringV c what ver (84 + 2 * t) = ver) := by
        intro t ht
        generalize hq : (c 82 % 12).toNat = q at *
        refine ⟨fun hne => ?_, fun heq => ?_⟩
        · unfold ringV
          rw [hq]
          refine ⟨?_, ?_⟩
          · rw [set_ne _ _ (by omega), set_ne _ _ (by omega), set_ne _ _ (by omega), set_ne _ _ (by omega), set_ne _ _ (by omega), set_ne _ _ (by omega)]
          · rw [set_ne _ _ (by omega), set_ne _ _ (by omega), set_ne _ _ (by omega), set_ne _ _ (by omega), set_ne _ _ (by omega), set_ne _ _ (by omega)]
        · unfold ringV
          rw [hq, heq]
          refine ⟨?_, ?_⟩
          · rw [set_ne _ _ (by omega), set_ne _ _ (by omega), set_ne _ _ (by omega), set_ne _ _ (by omega), set_ne _ _ (by omega), set_same]
          · rw [set_ne _ _ (by omega), set_ne _ _ (by omega), set_ne _ _ (by omega), set_ne _ _ (by omega), show 84 + 2 * q = 83 + 2 * q + 1 by omega, set_same]
      by_cases hk0 : k = 0
      · subst hk0
        have e := (er ((c 82 + 1 - 1 - ((0 : Nat) : Int)) % 12).toNat (by omega)).2 (by omega)
        rw [e.1, e.2]
        unfold startV
        refine ⟨?_, ?_⟩
        · rw [set_ne _ _ (by omega), set_ne _ _ (by omega), set_same]
        · rw [set_ne _ _ (by omega), set_same]
      · have e := (er ((c 82 + 1 - 1 - (k : Int)) % 12).toNat (by omega)).1 (by omega)
        have o := h6 (k - 1) (by omega) (by omega)
        rw [show (c 82 + 1 - 1 - (k : Int)) % 12 = (c 82 - 1 - ((k - 1 : Nat) : Int)) % 12 by omega] at e ⊢
        rw [e.1, e.2, ← o.1, ← o.2]
        unfold startV
        refine ⟨?_, ?_⟩
        · rw [set_ne _ _ (by omega), set_ne _ _ (by omega), set_ne _ _ (by omega)]
          unfold shA
          rw [if_pos (by omega), show 83 + 2 * k - 2 = 83 + 2 * (k - 1) by omega, set_ne _ _ (by omega), set_ne _ _ (by omega), set_ne _ _ (by omega)]
        · rw [set_ne _ _ (by omega), set_ne _ _ (by omega), set_ne _ _ (by omega)]
          unfold shA
          rw [if_pos (by omega), show 84 + 2 * k - 2 = 84 + 2 * (k - 1) by omega, set_ne _ _ (by omega), set_ne _ _ (by omega), set_ne _ _ (by omega)]
  · rw [c78.1, n78.1]
