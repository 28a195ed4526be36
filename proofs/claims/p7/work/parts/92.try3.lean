/-! NEXT -/
section TRY
variable {N : Nat} {σ σ0 : Sto} {L : Int}
theorem QX_put (σ : Sto) (i : Nat) (hi : i ≠ 0) (x : XP) : QX σ (putC σ i x) := by
  refine ⟨FX_put σ i x, putC_i σ i x (Ne.symm hi), fun j _ => by rw [putC_o σ i x 0 (by decide) (by decide)], putC_o σ i x 0 (by decide) (by decide), putC_o σ i x 0 (by decide) (by decide), putC_o σ i x 0 (by decide) (by decide), by rw [putC_o σ i x 0 (by decide) (by decide)]⟩
theorem QX_WM {b : Nat} {τ : Sto} (h : WM b σ τ) : QX σ τ := by
  obtain ⟨o, f, c, -⟩ := h
  refine ⟨⟨fun k k' hk => o k k' (by omega), f 1 (by decide) (by decide) (by decide), f 5 (by decide) (by decide) (by decide), f 6 (by decide) (by decide) (by decide), f 35 (by decide) (by decide) (by decide)⟩, o 7 0 (by decide), c, o 9 0 (by decide), o 10 0 (by decide), o 41 0 (by decide), f 21 (by decide) (by decide) (by decide)⟩
theorem row_as_put (σ : Sto) (i : Nat) (c : Vec) : row σ 7 i c = putC σ i (c, σ 6 i) := by
  have h := row_putC7 σ i (σ 7 i, σ 6 i) c
  rw [putC_id] at h
  exact h
theorem pair_next (b : Int) (hb : b = 0 ∨ b = 1) : PAIR N mX8_next mX9_next [vI b] := by
  intro L σ h hL
  have hc : CELL L (cpyV (σ 7 0) (σ 7 1) 0 0 107) (σ 40 0) := CELL_107 h.2.1 (fun j hj => cpy_all _ _ hj) (fun _ _ => rfl)
  have ct := c_take (N := N) (σ := σ) 1 0
  generalize cpyV (σ 7 0) (σ 7 1) 0 0 107 = c at hc ct
  have h82 : c 82 < 2147483000 := Int.lt_of_le_of_lt hc.2.2 (by omega)
  have b0 : 0 ≤ c 82 := hc.2.1.1.2.2.2.2.1
  have of := s2_turnOff (N := N) (σ := row σ 7 1 c) (i := 1)
  rw [row_same, row_row, row_as_put σ 1 (set c 78 (-1))] at of
  have e82 : set c 78 (-1) 82 = c 82 := set_ne _ _ (by decide)
  have a1 : ableF (σ 2 1 1) (σ 5 1) (set c 78 (-1)) 0 b 0 = 1 := by
    unfold ableF
    rw [if_pos rfl, if_pos ⟨set_same _ _ _, hb, rfl⟩]
  have pf := p2_perform (N := N) (i := 1) (σ := σ) (x := (set c 78 (-1), σ 6 1)) h.1.1 (OKC_78 hc.1) (show 0 ≤ set c 78 (-1) 82 by rw [e82]; exact b0) (show set c 78 (-1) 82 < 2147483647 by rw [e82]; exact Int.lt_trans h82 (by decide)) 0 b 0 (-1) a1
  have q1 := QX_put σ 1 (by decide) (performC σ 0 b 0 (-1) (set c 78 (-1), σ 6 1)).2
  generalize hs : putC σ 1 (performC σ 0 b 0 (-1) (set c 78 (-1), σ 6 1)).2 = τ at pf q1
  have t40 : τ 40 0 = σ 40 0 := by rw [← hs, putC_o _ _ _ _ (by decide) (by decide)]
  obtain ⟨υ, w1, w2⟩ := m_would (N := N) (σ0 := σ) (σ := τ) (c := c) (g := σ 6 1) h.1.1 (by rw [t40]; exact hc.2.1) hc.1 (EnvM_FX q1.1 (FX_refl σ) h.1.2.1) h82 b hb
  refine ⟨(performC σ 0 b 0 (-1) (set c 78 (-1), σ 6 1)).1, τ, υ, ?_, ?_, up300 (INV_QX (QX_trans q1 (QX_WM w2)) h) (by omega)⟩
  · rw [iX8_next, eX8_next_0, iX7_nextStart, eX7_nextStart_0, ct, bnd_s, push_n, eX7_nextStart_5, of, bnd_s, push_n, eX7_nextStart_8]
    rcases hb with rfl | rfl
    · rw [if_pos rfl, pf, bnd_s, push_s, eX7_nextStart_19, bnd_s, push_s, eX8_next_4]
    · rw [if_neg (by decide), pf, bnd_s, push_s, eX7_nextStart_19, bnd_s, push_s, eX8_next_4]
  · rw [iX9_next, eX9_next_0, w1, bnd_s, push_s, eX9_next_3]
end TRY
