/-! ROUTE on the object as it was made: the class's search (p1 alone) -/
theorem gs_7_4 (σ : Sto) : gStart σ 7 4 = C0 := rfl
theorem gs_6_4 (σ : Sto) : gStart σ 6 4 = Z := rfl
section FRESH
variable {N : Nat} {σ τ : Sto}
theorem f_search (h : INV 0 σ) (k21 : σ 2 1 = B0) (k70 : σ 7 0 = C0) (k74 : σ 7 4 = C0) (k64 : σ 6 4 = Z) (v : Int) : ∃ τ, inv N mX5_search [vR 14 0, vI v] (P σ) = some (some (vI 0), P τ) ∧ RtT σ τ := by
  have hg := h.1.1
  have b0 : B0 0 = 0 := rfl
  have b1 : B0 1 = 0 := rfl
  have c82 : C0 82 = 0 := by decide +kernel
  have c78 : C0 78 = -1 := C0_78
  have r0 : RtT σ σ := ⟨fun _ _ _ => rfl, by rw [k74]; exact C0_ok, by rw [k74, c82]; decide, by rw [k74, c82]; decide⟩
  have ct := p2_take (N := N) (i := 4) (b := σ) (x := (σ 7 4, σ 6 4)) 0 (by decide)
  have id4 : putC σ 4 (C0, σ 6 4) = σ := by
    have t := putC_id σ 4
    rw [k74] at t
    exact t
  rw [putC_id, k70, k74] at ct
  change inv N mX2_takeFrom [vR 6 4, vR 6 0] (P σ) = some (none, P (putC σ 4 (cpyV C0 C0 0 0 107, σ 6 4))) at ct
  rw [cpyV_self, id4] at ct
  rw [iX5_search, eX5_search_0, ct, bnd_s, push_n, eX5_search_5]
  have r1 := RtT_sup r0 14 (by decide) 10 0
  have o1 : ∀ k k', k ≠ 14 → sup σ 14 0 10 0 k k' = σ k k' := fun k k' q => by rw [sup_row, row_at, if_neg (fun z => q z.1)]
  generalize sup σ 14 0 10 0 = υ at r1 o1
  have th := f_there (N := N) (τ := υ) (by rw [o1 7 4 (by decide), k74]; exact c78) v
  have fa := f_findAlike (N := N) (τ := υ) (by rw [o1 2 1 (by decide), k21]; exact b1)
  rw [th, bnd_s, push_s, eX5_search_11, if_pos rfl, fa, bnd_s, push_n, eX5_search_16, c_fill19, bnd_s, push_n, eX5_search_20, sup_row]
  have r2 := RtT_row (RtT_row r1 19 (by decide) (fill (υ 19 0) 0 1024 0)) 14 (by decide) (set (row υ 19 0 (fill (υ 19 0) 0 1024 0) 14 0) 9 0)
  have o2 : ∀ k k', k ≠ 14 → k ≠ 19 → row (row υ 19 0 (fill (υ 19 0) 0 1024 0)) 14 0 (set (row υ 19 0 (fill (υ 19 0) 0 1024 0) 14 0) 9 0) k k' = σ k k' := fun k k' q q2 => by
    rw [row_at, if_neg (fun z => q z.1), row_at, if_neg (fun z => q2 z.1)]
    exact o1 k k' q
  have o9 : row (row υ 19 0 (fill (υ 19 0) 0 1024 0)) 14 0 (set (row υ 19 0 (fill (υ 19 0) 0 1024 0) 14 0) 9 0) 14 0 9 = 0 := by rw [row_same, set_same]
  have o19 : ∀ j, j < 1024 → row (row υ 19 0 (fill (υ 19 0) 0 1024 0)) 14 0 (set (row υ 19 0 (fill (υ 19 0) 0 1024 0) 14 0) 9 0) 19 0 j = 0 := fun j hj => by
    rw [row_at, if_neg (by decide), row_same]
    unfold fill
    rw [if_pos (by omega)]
  generalize row (row υ 19 0 (fill (υ 19 0) 0 1024 0)) 14 0 (set (row υ 19 0 (fill (υ 19 0) 0 1024 0) 14 0) 9 0) = ρ at r2 o2 o9 o19
  have e74 : ρ 7 4 = C0 := by rw [o2 7 4 (by decide) (by decide)]; exact k74
  have e64 : ρ 6 4 = Z := by rw [o2 6 4 (by decide) (by decide)]; exact k64
  have pk := f_pack (N := N) (τ := ρ) (by rw [e74]; exact C0_ok) (by rw [e74]; exact FL0_C0)
  rw [e74, e64] at pk
  change inv N mX5_pack [vR 14 0, vI 0, vI 0] (P ρ) = some (some (vJ 3221225472), P (putC ρ 4 PA)) at pk
  have r3 : RtT σ (putC ρ 4 PA) := RtT_put r2 PA C0_ok (by show 0 ≤ C0 82; rw [c82]; decide) (by show C0 82 < _; rw [c82]; decide)
  have q14 : putC ρ 4 PA 14 0 9 = 0 := by rw [putC_o _ _ _ _ (by decide) (by decide)]; exact o9
  have q19 : ∀ j, j < 1024 → putC ρ 4 PA 19 0 j = 0 := fun j hj => by rw [putC_o _ _ _ _ (by decide) (by decide)]; exact o19 j hj
  obtain ⟨κ, a1, a2, a3, a4, a5⟩ := f_add0 (N := N) (τ := putC ρ 4 PA) q14 q19
  have x74 : κ 7 4 = C0 := by rw [a2 7 4 (by decide), putC_7]; rfl
  have x64 : κ 6 4 = PA.2 := by rw [a2 6 4 (by decide), putC_6]
  have r4 : RtT σ κ := by
    refine ⟨fun k k' q => ?_, by rw [x74]; exact C0_ok, by rw [x74, c82]; decide, by rw [x74, c82]; decide⟩
    rw [a2 k k' (fun z => q (Or.inr z))]
    exact r3.1 k k' q
  have x70 : κ 7 0 = C0 := by rw [RtT_7 r4]; exact k70
  have x21 : κ 2 1 = B0 := by rw [r4.1 2 1 (by decide)]; exact k21
  have e15 : ∀ y, putC κ 4 y 15 0 0 = 3221225472 := fun y => by rw [putC_o _ _ _ _ (by decide) (by decide)]; exact a4
  have e14 : ∀ y, putC κ 4 y 14 0 9 = 1 := fun y => by rw [putC_o _ _ _ _ (by decide) (by decide)]; exact a3
  have e21 : ∀ y, putC κ 4 y 2 1 = B0 := fun y => by rw [putC_o _ _ _ _ (by decide) (by decide)]; exact x21
  obtain ⟨y, s1, s2, s3, s4⟩ := f_step1 (N := N) (τ := κ) (RtT_G r4 hg) (by rw [x21]; exact b0) x70 x74 x64 a4 a5 v
  have s0 := f_stepN (N := N) (τ := κ) a4 0 v (Or.inl rfl)
  have t2 := f_stepN (N := N) (τ := putC κ 4 y) (e15 y) 2 v (Or.inr rfl)
  refine ⟨putC κ 4 y, ?_, RtT_put r4 y s2 s3 s4⟩
  rw [pk, bnd_s, push_s, eX5_search_28, a1, bnd_s, push_s, eX5_search_31, eX5_search_36, a3, if_pos (by decide), if_pos (by decide), if_pos rfl]
  rw [eX5_search_47, if_neg (by decide), if_pos rfl, s0, bnd_s, push_s, eX5_search_57, show w32 (0 + 1) = 1 from rfl]
  rw [eX5_search_47, if_neg (by decide), if_pos rfl, s1, bnd_s, push_s, eX5_search_57, show w32 (1 + 1) = 2 from rfl]
  rw [eX5_search_47, if_neg (by decide), if_pos rfl, t2, bnd_s, push_s, eX5_search_57, show w32 (2 + 1) = 3 from rfl]
  rw [eX5_search_47, if_pos (by decide), eX5_search_62, e21, b1, show w32 (2 * 0) = 0 from rfl, if_neg (by decide), show w32 (0 + 1) = 1 from rfl, eX5_search_36, e14, if_neg (by decide)]
end FRESH
