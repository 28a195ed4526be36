/-! QUESTIONS: started, image, least; end, draws -/
section ASK
variable {N : Nat} {σ : Sto} {L : Int}
theorem ring_k {c82 : Int} {k : Nat} (h0 : 0 ≤ c82) (hk : k < 12) (hk2 : (k : Int) < c82) (h2 : c82 < 2147483000) : w32 (w32 (c82 - 1) - (k : Int)) = c82 - 1 - k ∧ Int.tmod (c82 - 1 - k) 12 = (c82 - 1 - k) % 12 := by
  refine ⟨?_, tmod12 (by omega)⟩
  rw [w32i (x := c82 - 1) (by omega) (by omega), w32i (by omega) (by omega)]
theorem ring_i {m : Int} {w : Nat} (h0 : 0 ≤ m ∧ m < 12) (hw : w ≤ 1) : w32 (w32 (83 + w32 (2 * m)) + (w : Int)) = ((83 + 2 * m.toNat + w : Nat) : Int) ∧ 83 + 2 * m.toNat + w < 107 := by
  refine ⟨?_, by omega⟩
  rw [w32i (x := 2 * m) (by omega) (by omega), w32i (x := 83 + 2 * m) (by omega) (by omega), w32i (by omega) (by omega)]
  omega
theorem st_facts {k w : Nat} {c : Int} (r0 : 0 ≤ c) (cm : c < 2147483000) (hk : (k : Int) < 12) (hk2 : (k : Int) < c) (hw : (w : Int) ≤ 1) : (¬ (k : Int) < 0) ∧ (¬ (w : Int) < 0) ∧ (¬ 1 < (w : Int)) ∧ (0 ≤ (k : Int) ∧ (k : Int) ≤ min 12 c - 1) ∧ w32 (w32 (c - 1) - (k : Int)) = c - 1 - k ∧ Int.tmod (c - 1 - k) 12 = (c - 1 - k) % 12 ∧ w32 (w32 (83 + w32 (2 * ((c - 1 - (k : Int)) % 12))) + (w : Int)) = ((83 + 2 * ((c - 1 - (k : Int)) % 12).toNat + w : Nat) : Int) ∧ 83 + 2 * ((c - 1 - (k : Int)) % 12).toNat + w < 107 ∧ w32 (w32 (83 + w32 (2 * (k : Int))) + (w : Int)) = ((83 + 2 * k + w : Nat) : Int) ∧ 83 + 2 * k + w < 107 ∧ k < 12 ∧ (w = 0 ∨ w = 1) := by
  have rk := ring_k r0 (by omega) hk2 cm
  have m0 : 0 ≤ (c - 1 - (k : Int)) % 12 ∧ (c - 1 - (k : Int)) % 12 < 12 := by omega
  have ri := ring_i (w := w) m0 (by omega)
  have ri2 := ring_i (m := (k : Int)) (w := w) (by omega) (by omega)
  rw [Int.toNat_natCast] at ri2
  refine ⟨by omega, by omega, by omega, by omega, rk.1, rk.2, ri.1, ri.2, ri2.1, ri2.2, by omega, by omega⟩
theorem st_off {k c : Int} (h : ¬ (0 ≤ k ∧ k < 12 ∧ k < c)) : ¬ (0 ≤ k ∧ k ≤ min 12 c - 1) := by omega
theorem pair_started (k w : Int) : PAIR N mX8_started mX9_started [vI k, vI w] := by
  intro L σ h hL
  obtain ⟨r0, r1, r2⟩ := h.2.1.2.1.1.2.2.2.2
  have cm : σ 7 0 82 < 2147483000 := Int.lt_of_le_of_lt h.2.1.2.2 (by omega)
  have ci := fun j h0 h1 => s2_cell (N := N) (σ := σ) (i := 0) j h0 h1
  have oi := fun v lo hi => s9_in (N := N) (σ := σ) v lo hi
  have ew : w32 (min 12 (σ 7 0 82) - 1) = min 12 (σ 7 0 82) - 1 := w32i (by omega) (by omega)
  refine (fun z : ∃ ans, inv N mX8_started [vR 0 0, vI k, vI w] (P σ) = some (some (vI ans), P σ) ∧ inv N mX9_started [vR 30 0, vI k, vI w] (P σ) = some (some (vI ans), P σ) => ?_) ?_
  · obtain ⟨ans, z1, z2⟩ := z
    exact ⟨ans, σ, σ, z1, z2, up300 h (by omega)⟩
  clear h hL
  have e82 : (82 : Int).toNat = 82 := rfl
  by_cases q : (0 ≤ k ∧ k < 12 ∧ k < σ 7 0 82) ∧ 0 ≤ w ∧ w ≤ 1
  · obtain ⟨⟨q1, q2, q3⟩, q4, q5⟩ := q
    obtain ⟨k, rfl⟩ := Int.eq_ofNat_of_zero_le q1
    obtain ⟨w, rfl⟩ := Int.eq_ofNat_of_zero_le q4
    obtain ⟨g1, g2, g3, g4, rk1, rk2, ri1, ri2, rj1, rj2, k12, w01⟩ := st_facts (w := w) r0 cm q2 q3 q5
    have rr := r2 k k12 q3
    have same : σ 40 0 (83 + 2 * k + w) = σ 7 0 (83 + 2 * ((σ 7 0 82 - 1 - (k : Int)) % 12).toNat + w) := by
      rcases w01 with rfl | rfl
      · exact rr.1
      · rw [show 83 + 2 * k + 1 = 84 + 2 * k from by rw [Nat.add_right_comm], show 83 + 2 * ((σ 7 0 82 - 1 - (k : Int)) % 12).toNat + 1 = 84 + 2 * ((σ 7 0 82 - 1 - (k : Int)) % 12).toNat from by rw [Nat.add_right_comm]]
        exact rr.2
    have nn : ∀ z : Nat, 0 ≤ (z : Int) := fun z => Int.natCast_nonneg z
    have lt : ∀ z : Nat, z < 107 → (z : Int) < 107 := fun z hz => by omega
    refine ⟨σ 40 0 (83 + 2 * k + w), ?_, ?_⟩
    · rw [iX8_started, eX8_started_0, ci _ (by decide) (by decide), bnd_s, push_s, e82, eX8_started_4, if_neg g1, if_pos q2, if_pos q3, if_neg g2, if_neg g3, rk1, rk2, ri1, ci _ (nn _) (lt _ ri2), bnd_s, push_s, eX8_started_36, Int.toNat_natCast, same]
    · rw [iX9_started, eX9_started_0, e82, r1, ew, oi, if_pos g4, bnd_s, push_s, eX9_started_11, if_neg (by decide), oi, if_pos ⟨q4, q5⟩, bnd_s, push_s, eX9_started_17, if_neg (by decide), rj1, if_neg (Int.not_lt.mpr (nn _)), if_pos (lt _ rj2), Int.toNat_natCast]
  · refine ⟨-1, ?_, ?_⟩
    · rw [iX8_started, eX8_started_0, ci _ (by decide) (by decide), bnd_s, push_s, e82, eX8_started_4]
      by_cases z1 : k < 0
      · rw [if_pos z1]
      rw [if_neg z1]
      by_cases z2 : k < 12
      · rw [if_pos z2]
        by_cases z3 : k < σ 7 0 82
        · rw [if_pos z3]
          by_cases z4 : w < 0
          · rw [if_pos z4]
          · rw [if_neg z4, if_pos (by omega)]
        · rw [if_neg z3]
      · rw [if_neg z2]
    · clear r2 ci
      rw [iX9_started, eX9_started_0, e82, r1, ew, oi, bnd_s, push_s, eX9_started_11]
      by_cases q1 : 0 ≤ k ∧ k ≤ min 12 (σ 7 0 82) - 1
      · rw [if_pos q1, if_neg (by decide), oi, bnd_s, push_s, eX9_started_17, if_neg (show ¬ (0 ≤ w ∧ w ≤ 1) by omega), if_pos rfl]
      · rw [if_neg q1, if_pos rfl]
end ASK
