/-! END, DRAWS; LEAST -/
section ASK
variable {N : Nat} {σ : Sto} {L : Int}
theorem INV_new (h : INV L σ) {τ : Sto} (o : ∀ k k', k ≠ 0 → k ≠ 30 → τ k k' = σ k k') (e5 : τ 30 0 5 = σ 30 0 5) (e6 : τ 30 0 6 = σ 30 0 6) (e21 : τ 30 0 21 = σ 30 0 21) (ht : TAPE τ) (hd : DRAWN τ) : INV L τ := by
  obtain ⟨⟨b1, b2, b3, b4, b5⟩, c, p⟩ := h
  refine ⟨⟨?_, ?_, ht, hd, ?_⟩, ?_, ?_⟩
  · unfold OKG at b1 ⊢
    rw [o 2 1 (by decide) (by decide), o 3 1 (by decide) (by decide), o 4 1 (by decide) (by decide), o 5 1 (by decide) (by decide)]
    exact b1
  · unfold EnvM OKM whyM whyS at b2 ⊢
    rw [o 32 0 (by decide) (by decide), o 33 0 (by decide) (by decide), o 36 0 (by decide) (by decide), o 38 0 (by decide) (by decide), e5, e6, o 2 1 (by decide) (by decide), o 3 1 (by decide) (by decide), o 4 1 (by decide) (by decide), o 5 1 (by decide) (by decide)]
    exact b2
  · unfold DRAFT at b5 ⊢
    rw [o 3 0 (by decide) (by decide), o 5 0 (by decide) (by decide)]
    exact b5
  · rw [o 7 0 (by decide) (by decide), o 40 0 (by decide) (by decide)]
    exact c
  · rw [o 10 0 (by decide) (by decide), o 9 0 (by decide) (by decide), o 41 0 (by decide) (by decide), e21]
    exact p
/-- both set one field -/
def two (σ : Sto) (i j : Nat) (v : Int) : Sto := row (row σ 0 0 (set (σ 0 0) i v)) 30 0 (set (σ 30 0) j v)
theorem two_o (σ : Sto) (i j : Nat) (v : Int) : ∀ k k', k ≠ 0 → k ≠ 30 → two σ i j v k k' = σ k k' := by
  intro k k' h1 h2
  unfold two
  rw [row_at, if_neg (fun z => h2 z.1), row_at, if_neg (fun z => h1 z.1)]
theorem two_0 (σ : Sto) (i j : Nat) (v : Int) : two σ i j v 0 0 = set (σ 0 0) i v := by
  unfold two
  rw [row_at, if_neg (by decide), row_same]
theorem two_30 (σ : Sto) (i j : Nat) (v : Int) : two σ i j v 30 0 = set (σ 30 0) j v := by
  unfold two
  rw [row_same]
theorem pair_end (v : Int) : PAIR N mX8_end mX9_end [vI v] := by
  intro L σ h hL
  obtain ⟨t1, t2, t3, t4⟩ := h.1.2.2.1
  have hd := h.1.2.2.2.1
  by_cases q : 0 ≤ v ∧ v ≤ σ 0 0 1
  · refine ⟨v, row σ 0 0 (set (σ 0 0) 1 v), two σ 1 1 v, ?_, ?_, up300 (INV_new h (two_o σ 1 1 v) ?_ ?_ ?_ ?_ ?_) (by omega)⟩
    · rw [iX8_end, eX8_end_0, if_neg (Int.not_lt.mpr q.1), if_neg (Int.not_lt.mpr q.2), sup_row]
    · have r30 : row σ 0 0 (set (σ 0 0) 1 v) 30 0 = σ 30 0 := by rw [row_at, if_neg (by decide)]
      rw [iX9_end, eX9_end_0, if_neg (Int.not_lt.mpr q.1), r30, t3, if_neg (Int.not_lt.mpr q.2), sup_row, r30]
      rfl
    · rw [two_30, set_ne _ _ (by decide)]
    · rw [two_30, set_ne _ _ (by decide)]
    · rw [two_30, set_ne _ _ (by decide)]
    · unfold TAPE
      rw [two_30, two_0, set_same, set_same, two_o σ 1 1 v 1 0 (by decide) (by decide), two_o σ 1 1 v 31 0 (by decide) (by decide)]
      exact ⟨q.1, Int.le_trans q.2 t2, rfl, t4⟩
    · unfold DRAWN at hd ⊢
      rw [two_30, two_0, set_ne _ _ (by decide), set_ne _ _ (by decide)]
      exact hd
  · refine ⟨-1, σ, σ, ?_, ?_, up300 h (by omega)⟩
    · rw [iX8_end, eX8_end_0]
      by_cases z : v < 0
      · rw [if_pos z]
      · rw [if_neg z, if_pos (by omega)]
    · rw [iX9_end, eX9_end_0, t3]
      by_cases z : v < 0
      · rw [if_pos z]
      · rw [if_neg z, if_pos (by omega)]
theorem pair_draws (v : Int) (hv : v < 2147483648) : PAIR N mX8_draws mX9_draws [vI v] := by
  intro L σ h hL
  have ht := h.1.2.2.1
  obtain ⟨d1, d2, d3⟩ := h.1.2.2.2.1
  by_cases q : v < 0
  · refine ⟨-1, σ, σ, ?_, ?_, up300 h (by omega)⟩
    · rw [iX8_draws, eX8_draws_0, if_pos q]
    · rw [iX9_draws, eX9_draws_0, if_pos q]
  · refine ⟨σ 0 0 10, row σ 0 0 (set (σ 0 0) 10 v), two σ 10 35 v, ?_, ?_, up300 (INV_new h (two_o σ 10 35 v) ?_ ?_ ?_ ?_ ?_) (by omega)⟩
    · rw [iX8_draws, eX8_draws_0, if_neg q, sup_row]
    · have r30 : row σ 0 0 (set (σ 0 0) 10 v) 30 0 = σ 30 0 := by rw [row_at, if_neg (by decide)]
      rw [iX9_draws, eX9_draws_0, if_neg q, sup_row, r30, d1]
      rfl
    · rw [two_30, set_ne _ _ (by decide)]
    · rw [two_30, set_ne _ _ (by decide)]
    · rw [two_30, set_ne _ _ (by decide)]
    · unfold TAPE at ht ⊢
      rw [two_30, two_0, set_ne _ _ (by decide), set_ne _ _ (by decide), two_o σ 10 35 v 1 0 (by decide) (by decide), two_o σ 10 35 v 31 0 (by decide) (by decide)]
      exact ht
    · unfold DRAWN
      rw [two_30, two_0, set_same, set_same]
      exact ⟨rfl, Int.not_lt.mp q, hv⟩
theorem pair_least (w : Int) : PAIR N mX8_least mX9_least [vI w] := pair_of (fun L σ h => by
  have eq := INV_eq h
  have hm := INV_okm h
  have hc := h.2.1.1
  have he := h.1.2.1
  have hg := h.1.1
  have oi := fun v lo hi => s9_in (N := N) (σ := σ) v lo hi
  have ma := s9_why (N := N) 0 (by decide) he.1 hm
  have mb := s9_why (N := N) 1 (by decide) he.1 hm
  have ca := s2_reason (N := N) (i := 0) 0 (by decide) hg hc
  have cb := s2_reason (N := N) (i := 0) 1 (by decide) hg hc
  have va := s2_version (N := N) (σ := σ) (i := 0) 0 (by decide) hc.1
  have vb := s2_version (N := N) (σ := σ) (i := 0) 1 (by decide) hc.1
  have na := s9_versionOf (N := N) (σ := σ) 0 (by decide) hm.1
  have nb := s9_versionOf (N := N) (σ := σ) 1 (by decide) hm.1
  rw [show whyM σ (σ 40 0) 0 = whyF (σ 2 1 0) (σ 3 1) (σ 4 1) (σ 7 0) 0 from (he.2.1 _ _).trans (whyF_cells eq _ _ _ 0 (by decide)).symm] at ma
  rw [show whyM σ (σ 40 0) 1 = whyF (σ 2 1 0) (σ 3 1) (σ 4 1) (σ 7 0) 1 from (he.2.1 _ _).trans (whyF_cells eq _ _ _ 1 (by decide)).symm] at mb
  rw [← eq _ (by decide)] at na nb
  have p0 : whyF (σ 2 1 0) (σ 3 1) (σ 4 1) (σ 7 0) 0 = 0 → 0 ≤ σ 7 0 0 - 1 := by
    intro z
    unfold whyF at z
    split at z
    · cases z
    · rename_i g
      exact Int.not_lt.mp (fun y => g (Or.inl y))
  have p1 : whyF (σ 2 1 0) (σ 3 1) (σ 4 1) (σ 7 0) 1 = 0 → 0 ≤ σ 7 0 14 - 1 := by
    intro z
    unfold whyF at z
    split at z
    · cases z
    · rename_i g
      exact Int.not_lt.mp (fun y => g (Or.inl y))
  simp only [Int.cast_ofNat_Int, Nat.mul_zero, Nat.mul_one] at ma mb ca cb va vb na nb
  generalize whyF (σ 2 1 0) (σ 3 1) (σ 4 1) (σ 7 0) 0 = ya at ma ca p0
  generalize whyF (σ 2 1 0) (σ 3 1) (σ 4 1) (σ 7 0) 1 = yb at mb cb p1
  generalize σ 7 0 0 - 1 = v0 at va na p0
  generalize σ 7 0 14 - 1 = v1 at vb nb p1
  clear eq hm hc he hg h
  have w1 : w32 (0 + 1) = 1 := rfl
  have w2 : w32 (1 + 1) = 2 := rfl
  by_cases q : w = 0 ∨ w = 1
  · have qi : 0 ≤ w ∧ w ≤ 1 := by omega
    have ent : inv N mX8_least [vR 0 0, vI w] (P σ) = bnd (inv N mX2_reasonAgainst [vR 6 0, vI 0] (P σ)) (fun r S2 => ev N mX8_least 11 [vR 0 0, vI w, vX, vX, vX, vX] (push r []) S2) := by
      rw [iX8_least, eX8_least_0]
      rcases q with rfl | rfl
      · rw [if_pos rfl]
      · rw [if_neg (by decide), if_pos rfl]
    refine ⟨if ya = 0 then (if yb = 0 then (if w = 0 then min v0 v1 else max v0 v1) else v0) else if yb = 0 then v1 else -2, ?_, ?_⟩
    · rw [ent, ca, bnd_s, push_s, eX8_least_11]
      by_cases a : ya = 0 <;> by_cases b : yb = 0 <;> simp only [a, b, ↓reduceIte, cb, va, vb, bnd_s, push_s, eX8_least_20, eX8_least_39, eX8_least_48, Int.reduceEq, Int.min_self, Int.max_self, ite_self]
      split <;> rfl
    · rw [iX9_least, eX9_least_0, oi, if_pos qi, bnd_s, push_s, eX9_least_5, if_neg (by decide), eX9_least_12, if_pos (by decide), ma, bnd_s, push_s, eX9_least_18]
      have fin : ∀ (b : Int) (x4 : MV), ev N mX9_least 12 [vR 30 0, vI w, vI b, vI 2, x4] [] (P σ) = some (some (vI b), P σ) := by
        intro b x4
        rw [eX9_least_12, if_neg (by decide)]
      have one : ∀ (b : Int) (x4 : MV), ev N mX9_least 12 [vR 30 0, vI w, vI b, vI 1, x4] [] (P σ) = some (some (vI (if yb = 0 then (if b = -2 then v1 else if w = 0 then (if v1 < b then v1 else b) else if b < v1 then v1 else b) else b)), P σ) := by
        intro b x4
        rw [eX9_least_12, if_pos (by decide), mb, bnd_s, push_s, eX9_least_18, w2]
        by_cases b1 : yb = 0
        · rw [if_pos b1, if_pos b1, nb, bnd_s, push_s, eX9_least_22, w2, fin, fin]
          by_cases b2 : b = -2
          · rw [if_pos b2, if_pos b2]
          · rw [if_neg b2, if_neg b2]
            by_cases b3 : w = 0
            · rw [if_pos b3, if_pos b3]
              split <;> rfl
            · rw [if_neg b3, if_neg b3]
              split <;> rfl
        · rw [if_neg b1, if_neg b1, fin]
      rw [w1, one, na, bnd_s, push_s, eX9_least_22, if_pos rfl, w1, one]
      by_cases a : ya = 0
      · rw [if_pos a, if_pos a]
        refine congrArg (fun v => some (some (vI v), P σ)) ?_
        have := p0 a
        by_cases b : yb = 0
        · rw [if_pos b, if_pos b, if_neg (by omega)]
          by_cases b3 : w = 0
          · rw [if_pos b3, if_pos b3]
            split <;> omega
          · rw [if_neg b3, if_neg b3]
            split <;> omega
        · rw [if_neg b, if_neg b]
      · rw [if_neg a, if_neg a]
        refine congrArg (fun v => some (some (vI v), P σ)) ?_
        by_cases b : yb = 0
        · rw [if_pos b, if_pos b, if_pos rfl]
        · rw [if_neg b, if_neg b]
  · refine ⟨-1, ?_, ?_⟩
    · rw [iX8_least, eX8_least_0, if_neg (fun z => q (Or.inl z)), if_neg (fun z => q (Or.inr z))]
    · rw [iX9_least, eX9_least_0, oi, if_neg (show ¬ (0 ≤ w ∧ w ≤ 1) by omega), bnd_s, push_s, eX9_least_5, if_pos rfl])
end ASK
