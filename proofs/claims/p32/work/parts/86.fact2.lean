/-! THE FACTORY, whole -/
section ACT
variable {N : Nat} {σ : Sto} {L : Int}
theorem pair_factory (b : Int) : PAIR N mX8_factory mX9_factory [vI b] := by
  intro L σ h hL
  have he := h.1.2.1
  have hg := h.1.1
  have im := he.2.2.2.1
  have i0 := hg.2.2.1
  have i6 := hg.2.2.2.1
  have wd := he.2.2.2.2.2.2.2.1
  have e78 := h.2.1.2.1.2
  have on := s2_isOn (N := N) (σ := σ) (i := 0)
  have hr := s0_hasRec (N := N) (σ := σ) (j := 1) hg b
  have mi := fun (τ : Sto) (e : τ 30 0 = σ 30 0) => s9_isImage (N := N) (σ := τ) (by rw [e, im]; exact i0) (by rw [e, im]; exact i6) b
  have cr := hg.2.2.2.2.2.2.2.2.2.2.2.2
  have eqw : 0 ≤ b → b < σ 2 1 1 → σ 36 0 (14 * b.toNat + 1) = σ 5 1 (14 * b.toNat + 1) := fun z1 z2 => wd _ (by clear on hr mi cr wd he hg im h; omega)
  have ew : 0 ≤ b → b < 6 → w32 (w32 (14 * b) + 1) = ((14 * b.toNat + 1 : Nat) : Int) := fun z1 z2 => by
    clear on hr mi cr wd he hg im h eqw
    rw [w32i (x := 14 * b) (by omega) (by omega), w32i (by omega) (by omega)]
    omega
  have nn : b < 6 → 0 ≤ b → ¬ (((14 * b.toNat + 1 : Nat) : Int) < 0) ∧ ((14 * b.toNat + 1 : Nat) : Int) < 84 := fun z1 z2 => by
    clear on hr mi cr wd he hg im h eqw ew
    omega
  by_cases o : σ 7 0 78 = -1
  case neg =>
    refine ⟨0, σ, σ, ?_, ?_, up300 h (by omega)⟩
    · rw [iX8_factory, eX8_factory_0, on, bnd_s, push_s, eX8_factory_3, if_neg o, if_neg (by decide)]
    · rw [iX9_factory, eX9_factory_0, s9_isOff, bnd_s, push_s, eX9_factory_2, if_neg (fun z => o (e78.trans z)), if_pos rfl]
  have o9 : σ 40 0 78 = -1 := e78.symm.trans o
  by_cases q : 0 ≤ b ∧ b < σ 2 1 1 ∧ σ 5 1 (14 * b.toNat + 1) = 0
  case neg =>
    refine ⟨0, σ, σ, ?_, ?_, up300 h (by omega)⟩
    · rw [iX8_factory, eX8_factory_0, on, bnd_s, push_s, eX8_factory_3, if_pos o, if_pos rfl, hr, if_neg q, bnd_s, push_s, eX8_factory_8, if_pos rfl]
    · rw [iX9_factory, eX9_factory_0, s9_isOff, bnd_s, push_s, eX9_factory_2, if_pos o9, if_neg (by decide), mi σ rfl, im, bnd_s, push_s, eX9_factory_6]
      by_cases q1 : 0 ≤ b ∧ b < σ 2 1 1
      · have b6 : b < 6 := Int.lt_of_lt_of_le q1.2 i6
        have n := nn b6 q1.1
        rw [if_pos q1, if_neg (by decide), ew q1.1 b6, if_neg n.1, if_pos n.2, Int.toNat_natCast, eqw q1.1 q1.2, if_neg (fun z => q ⟨q1.1, q1.2, z⟩)]
      · rw [if_neg q1, if_pos rfl]
  have b6 : b < 6 := Int.lt_of_lt_of_le q.2.1 i6
  have n := nn b6 q.1
  have ewb := ew q.1 b6
  have eqb := eqw q.1 q.2.1
  have bn : ((b.toNat : Nat) : Int) = b := Int.toNat_of_nonneg q.1
  have bn6 : b.toNat < 6 := Int.ofNat_lt.mp (by rw [bn]; exact b6)
  have wj : ∀ j, j < 14 → σ 36 0 (14 * b.toNat + j) = σ 5 1 (14 * b.toNat + j) := fun j hj => env_words he (by rw [bn]; exact q.2.1) j hj
  have rj : ∀ j, j < 14 → 0 ≤ σ 5 1 (14 * b.toNat + j) ∧ σ 5 1 (14 * b.toNat + j) < 2147483648 := fun j hj => wrd_r hg (14 * b.toNat) (n84 bn6) j hj
  have ci := CELL_img (a := 14 * b.toNat) h.2.1 wj rj
  have k7 := keepS_o σ (k := 7) 0 (by decide) (by decide)
  have k5 := keepS_o σ (k := 5) 1 (by decide) (by decide)
  have p2 := s2_putImage (N := N) (σ := keepS σ) 0 2 b.toNat (by decide) bn6
  rw [k7, k5] at p2
  have p3 := s2_putImage (N := N) (σ := row (keepS σ) 7 0 (cpyV (σ 5 1) (σ 7 0) (14 * b.toNat) (14 * 2) 14)) 0 3 b.toNat (by decide) bn6
  rw [row_same, row_row, row_at, if_neg (by decide), k5] at p3
  rw [bn] at p2 p3
  have c3 : cpyV (σ 5 1) (cpyV (σ 5 1) (σ 7 0) (14 * b.toNat) (14 * 2) 14) (14 * b.toNat) (14 * 3) 14 = imgV (σ 5 1) (σ 7 0) (14 * b.toNat) 14 := rfl
  rw [c3] at p3
  generalize hc : imgV (σ 5 1) (σ 7 0) (14 * b.toNat) 14 = c at p3 ci
  have ox := fun (k : Nat) (hk : k ≠ 7) => (row_at (keepS σ) 7 0 c k 0).trans (if_neg (fun z => hk z.1))
  have p40 := (ox 40 (by decide)).trans (keepS_o σ (k := 40) 0 (by decide) (by decide))
  have p30 := (ox 30 (by decide)).trans (keepS_o σ (k := 30) 0 (by decide) (by decide))
  have p36 := (ox 36 (by decide)).trans (keepS_o σ (k := 36) 0 (by decide) (by decide))
  have rm := a_rem (N := N) h (τ := row (keepS σ) 7 0 c) (by rw [p30])
  have s40 : remS (row (keepS σ) 7 0 c) 40 0 = σ 40 0 := (remS_o _ 0 (by decide) (by decide)).trans p40
  have s36 : remS (row (keepS σ) 7 0 c) 36 0 = σ 36 0 := (remS_o _ 0 (by decide) (by decide)).trans p36
  have lp := s9_fac_loop (N := N) (σ := remS (row (keepS σ) 7 0 c)) b.toNat bn6 14 0 rfl
  rw [s40, s36, bn, Int.cast_ofNat_Int] at lp
  have z0 : row (remS (row (keepS σ) 7 0 c)) 40 0 (imgV (σ 36 0) (σ 40 0) (14 * b.toNat) 0) = remS (row (keepS σ) 7 0 c) := by
    unfold imgV
    rw [cpyV_0, cpyV_0, ← s40, row_id]
  rw [z0] at lp
  have w28 : ((2 : Nat) : Int) = 2 := rfl
  refine ⟨1, row (keepS σ) 7 0 c, row (remS (row (keepS σ) 7 0 c)) 40 0 (imgV (σ 36 0) (σ 40 0) (14 * b.toNat) 14), ?_, ?_, up300 (a_cells h ci) (by omega)⟩
  · simp only [Int.cast_ofNat_Int] at p2 p3
    rw [iX8_factory, eX8_factory_0, on, bnd_s, push_s, eX8_factory_3, if_pos o, if_pos rfl, hr, if_pos q, bnd_s, push_s, eX8_factory_8, if_neg (by decide), a_keep h, bnd_s, push_n, eX8_factory_14, p2, bnd_s, push_n, eX8_factory_19, p3, bnd_s, push_n, eX8_factory_24]
  · rw [iX9_factory, eX9_factory_0, s9_isOff, bnd_s, push_s, eX9_factory_2, p40, if_pos o9, if_neg (by decide), mi _ p30, p30, im, bnd_s, push_s, eX9_factory_6, if_pos (show 0 ≤ b ∧ b < σ 2 1 1 from ⟨q.1, q.2.1⟩), if_neg (by decide), ewb, if_neg n.1, if_pos n.2, Int.toNat_natCast, p36, eqb, if_pos q.2.2, rm, bnd_s, push_n, eX9_factory_20]
    exact lp
end ACT
