/-! WANTED -/
section STUB
variable {N : Nat}
theorem pair_bundle : PAIR N mX8_bundle mX9_bundle [] := sorry
theorem bool_if (v : Int) : (if v = 0 then (0 : Int) else 1) = 0 ∨ (if v = 0 then (0 : Int) else 1) = 1 := by
  by_cases h : v = 0
  · rw [if_pos h]; exact Or.inl rfl
  · rw [if_neg h]; exact Or.inr rfl
theorem fresh_route (a b : Int) {σ : Sto} {L : Int} (hs : ∃ σ0, σ = gStart σ0) (h : INV L σ) : ∃ ans σ1 σ2, inv N mX8_route [vR 0 0, vI a, vI b] (P σ) = some (some (vI ans), P σ1) ∧ inv N mX9_route [vR 30 0, vI a, vI b] (P σ1) = some (some (vI ans), P σ2) ∧ INV (L + 300) σ2 := sorry
theorem fresh_life (a b : Int) {σ : Sto} {L : Int} (hs : ∃ σ0, σ = gStart σ0) (h : INV L σ) : ∃ ans σ1 σ2, inv N mX8_life [vR 0 0, vI a, vI b] (P σ) = some (some (vI ans), P σ1) ∧ inv N mX9_life [vR 30 0, vI a, vI b] (P σ1) = some (some (vI ans), P σ2) ∧ INV (L + 300) σ2 := sorry
end STUB
