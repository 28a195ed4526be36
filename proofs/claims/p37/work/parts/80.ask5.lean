section
/-! FLAG, COUNT -/
section ASK
variable {N : Nat} {σ : Sto} {L : Int}
theorem QX_row (σ : Sto) (k i : Nat) (f : Vec) (h1 : 5 < k) (h2 : k < 31 ∨ 39 < k) (h3 : k ≠ 30 ∧ k ≠ 7 ∧ k ≠ 9 ∧ k ≠ 10 ∧ k ≠ 40 ∧ k ≠ 41) : QX σ (row σ k i f) := by
  have o := fun (j : Nat) (hj : j ≠ k) => (row_at σ k i f j 0).trans (if_neg (fun z => hj z.1))
  refine ⟨FX_row σ k i f h1 h2 h3.1, o 7 (by omega), fun j _ => by rw [o 40 (by omega)], o 9 (by omega), o 10 (by omega), o 41 (by omega), by rw [o 30 (by omega)]⟩
theorem pair_q {mc mm : Nat} {args : List MV} (h : ∀ (L : Int) (σ : Sto), INV L σ → ∃ ans σ1 σ2, inv N mc (vR 0 0 :: args) (P σ) = some (some (vI ans), P σ1) ∧ inv N mm (vR 30 0 :: args) (P σ1) = some (some (vI ans), P σ2) ∧ QX σ σ2) : PAIR N mc mm args := by
  intro L σ hI hL
  obtain ⟨ans, σ1, σ2, h1, h2, h3⟩ := h L σ hI
  exact ⟨ans, σ1, σ2, h1, h2, up300 (INV_QX h3 hI) (by omega)⟩
/-- the class's fields behind a reading of flags -/
def rdV (c g : Vec) : Vec := set (set (set (set (set g 6 (newestF c)) 2 (flagF c 0)) 3 (flagF c 1)) 4 (flagF c 2)) 5 (flagF c 3)
theorem rdV_v (c g : Vec) : rdV c g 6 = newestF c ∧ rdV c g 2 = flagF c 0 ∧ rdV c g 3 = flagF c 1 ∧ rdV c g 4 = flagF c 2 ∧ rdV c g 5 = flagF c 3 := by
  unfold rdV
  refine ⟨?_, ?_, ?_, ?_, ?_⟩
  · rw [set_ne _ _ (by decide), set_ne _ _ (by decide), set_ne _ _ (by decide), set_ne _ _ (by decide), set_same]
  · rw [set_ne _ _ (by decide), set_ne _ _ (by decide), set_ne _ _ (by decide), set_same]
  · rw [set_ne _ _ (by decide), set_ne _ _ (by decide), set_same]
  · rw [set_ne _ _ (by decide), set_same]
  · rw [set_same]
/-- flags read by both -/
theorem flags_both (h : INV L σ) : FR (rdV (σ 7 0) (σ 6 0)) (flV (σ 43 0) (σ 40 0)) := by
  have v := rdV_v (σ 7 0) (σ 6 0)
  have f := FR_read h.2.1.1.2.1 (rdV (σ 7 0) (σ 6 0)) (σ 43 0) v.2.1 v.2.2.1 v.2.2.2.1 v.2.2.2.2
  rw [flV_congr (fun j a b => INV_eq h j (by omega))] at f
  exact f
theorem byte_p {p t g : Int} (hp : 0 ≤ p ∧ p < 16) (ht : 0 ≤ t ∧ t < 8) (hg : 0 ≤ g ∧ g < 2) : (16 * p + 2 * t + g) / 16 = p ∧ (16 * p + 2 * t + g) / 2 % 8 = t ∧ (16 * p + 2 * t + g) % 2 = g ∧ 0 ≤ 16 * p + 2 * t + g ∧ 16 * p + 2 * t + g < 256 := by omega
theorem flag_w {w : Int} (s : Nat) (hs : s < 2) (hw : w = 0 ∨ w = 1 ∨ w = 2) : w32 (w32 (2 * w) + (s : Int)) = ((2 * w.toNat + s : Nat) : Int) ∧ 2 * w.toNat + s < 8 := by
  refine ⟨?_, by omega⟩
  rw [w32i (x := 2 * w) (by omega) (by omega), w32i (by omega) (by omega)]
  omega
theorem pair_flag (s w : Int) : PAIR N mX8_flag mX9_flag [vI s, vI w] := pair_q (fun L σ h => by
  have fr := flags_both h
  have hm := INV_okm h
  have rf := s2_readFlags (N := N) (σ := σ) (i := 0) h.2.1.1.2.1
  have r6 : row σ 6 0 (rdV (σ 7 0) (σ 6 0)) 6 0 = rdV (σ 7 0) (σ 6 0) := row_same _ _ _ _
  have r40 : row σ 6 0 (rdV (σ 7 0) (σ 6 0)) 40 0 = σ 40 0 := by rw [row_at, if_neg (by decide)]
  have r43 : row σ 6 0 (rdV (σ 7 0) (σ 6 0)) 43 0 = σ 43 0 := by rw [row_at, if_neg (by decide)]
  have mf := s9_readsFlags (N := N) (σ := row σ 6 0 (rdV (σ 7 0) (σ 6 0))) (by rw [r40]; exact hm.2.1)
  have q6 := QX_row σ 6 0 (rdV (σ 7 0) (σ 6 0)) (by decide) (by decide) (by decide)
  have q43 : QX σ (rfM (row σ 6 0 (rdV (σ 7 0) (σ 6 0)))) := QX_trans q6 (QX_row _ 43 0 _ (by decide) (by decide) (by decide))
  have m43 : rfM (row σ 6 0 (rdV (σ 7 0) (σ 6 0))) 43 0 = flV (σ 43 0) (σ 40 0) := by
    unfold rfM
    rw [row_same, r40, r43]
  have oi := fun τ v lo hi => s9_in (N := N) (σ := τ) v lo hi
  clear h hm
  have no : ¬ ((s = 0 ∨ s = 1) ∧ (w = 0 ∨ w = 1 ∨ w = 2)) → ∀ τ, inv N mX9_flag [vR 30 0, vI s, vI w] (P τ) = some (some (vI (-1)), P τ) := by
    intro q τ
    rw [iX9_flag, eX9_flag_0, oi, bnd_s, push_s, eX9_flag_5]
    clear fr rf r6 r40 r43 mf q6 q43 m43
    by_cases q1 : 0 ≤ s ∧ s ≤ 1
    · rw [if_pos q1, if_neg (by decide), oi, bnd_s, push_s, eX9_flag_11, if_neg (show ¬ (0 ≤ w ∧ w ≤ 2) by omega), if_pos rfl]
    · rw [if_neg q1, if_pos rfl]
  by_cases q1 : s = 0 ∨ s = 1
  · have cl : inv N mX8_flag [vR 0 0, vI s, vI w] (P σ) = ev N mX8_flag 12 [vR 0 0, vI s, vI w, vX] [vI (if s = 0 then rdV (σ 7 0) (σ 6 0) 2 else rdV (σ 7 0) (σ 6 0) 3)] (P (row σ 6 0 (rdV (σ 7 0) (σ 6 0)))) := by
      have sf := s2_slotFlags (N := N) (σ := row σ 6 0 (rdV (σ 7 0) (σ 6 0))) (i := 0) s
      rw [r6] at sf
      rw [iX8_flag, eX8_flag_0, s8_isSlot, if_pos q1, bnd_s, push_s, eX8_flag_2, if_neg (by decide), rf, bnd_s, push_n]
      show ev N mX8_flag 8 _ _ (P (row σ 6 0 (rdV (σ 7 0) (σ 6 0)))) = _
      rw [eX8_flag_8, sf, bnd_s, push_s]
    obtain ⟨s, hs, rfl⟩ := slot_s q1
    obtain ⟨g2, g3, -, -, f0, f1, f2, f3, f4, f5, -⟩ := fr
    have qi : 0 ≤ (s : Int) ∧ (s : Int) ≤ 1 := by
      clear rf mf m43 q6 q43 r6 r40 r43 no cl g2 g3 f0 f1 f2 f3 f4 f5
      omega
    by_cases q2 : w = 0 ∨ w = 1 ∨ w = 2
    · have fw := flag_w s hs q2
      have qw : 0 ≤ w ∧ w ≤ 2 := by
        clear rf mf m43 q6 q43 r6 r40 r43 no cl g2 g3 f0 f1 f2 f3 f4 f5 fw
        omega
      have ml : inv N mX9_flag [vR 30 0, vI (s : Int), vI w] (P (row σ 6 0 (rdV (σ 7 0) (σ 6 0)))) = some (some (vI (flV (σ 43 0) (σ 40 0) (2 * w.toNat + s))), P (rfM (row σ 6 0 (rdV (σ 7 0) (σ 6 0))))) := by
        have n0 : ¬ (((2 * w.toNat + s : Nat) : Int) < 0) := Int.not_lt.mpr (Int.natCast_nonneg _)
        have n8 : ((2 * w.toNat + s : Nat) : Int) < 8 := Int.ofNat_lt.mpr fw.2
        rw [iX9_flag, eX9_flag_0, oi, if_pos qi, bnd_s, push_s, eX9_flag_5, if_neg (by decide), oi, if_pos qw, bnd_s, push_s, eX9_flag_11, if_neg (by decide), mf, bnd_s, push_n, eX9_flag_16, fw.1, if_neg n0, if_pos n8, Int.toNat_natCast, m43]
      refine ⟨_, _, _, ?_, ml, q43⟩
      rw [cl]
      generalize flV (σ 43 0) (σ 40 0) = f at g2 g3 f0 f1 f2 f3 f4 f5 ⊢
      have B0 := byte_p f0 f2 f4
      have B1 := byte_p f1 f3 f5
      rw [← g2] at B0
      rw [← g3] at B1
      generalize rdV (σ 7 0) (σ 6 0) 2 = b0 at B0 ⊢
      generalize rdV (σ 7 0) (σ 6 0) 3 = b1 at B1 ⊢
      clear rf mf m43 q6 q43 r6 r40 r43 no cl g2 g3 f0 f1 f2 f3 f4 f5 ml fw qw qi
      rw [eX8_flag_12]
      have s40 := shr4 B0.2.2.2.1 B0.2.2.2.2
      have s41 := shr4 B1.2.2.2.1 B1.2.2.2.2
      have s10 := shr1 B0.2.2.2.1 B0.2.2.2.2
      have s11 := shr1 B1.2.2.2.1 B1.2.2.2.2
      rcases (show s = 0 ∨ s = 1 by omega) with rfl | rfl
      · rcases q2 with rfl | rfl | rfl
        · rw [if_pos rfl, if_pos (show ((0 : Nat) : Int) = 0 from rfl), s40, B0.1]
          rfl
        · rw [if_neg (by decide), if_pos rfl, if_pos (show ((0 : Nat) : Int) = 0 from rfl), s10, bAnd_7, B0.2.1]
          rfl
        · rw [if_neg (by decide), if_neg (by decide), if_pos rfl, if_pos (show ((0 : Nat) : Int) = 0 from rfl), bAnd_1, B0.2.2.1]
          rfl
      · rcases q2 with rfl | rfl | rfl
        · rw [if_pos rfl, if_neg (by decide), s41, B1.1]
          rfl
        · rw [if_neg (by decide), if_pos rfl, if_neg (by decide), s11, bAnd_7, B1.2.1]
          rfl
        · rw [if_neg (by decide), if_neg (by decide), if_pos rfl, if_neg (by decide), bAnd_1, B1.2.2.1]
          rfl
    · refine ⟨-1, row σ 6 0 (rdV (σ 7 0) (σ 6 0)), row σ 6 0 (rdV (σ 7 0) (σ 6 0)), ?_, no (fun z => q2 z.2) _, q6⟩
      rw [cl, eX8_flag_12, if_neg (fun z => q2 (Or.inl z)), if_neg (fun z => q2 (Or.inr (Or.inl z))), if_neg (fun z => q2 (Or.inr (Or.inr z)))]
  · refine ⟨-1, σ, σ, ?_, no (fun z => q1 z.1) _, QX_refl σ⟩
    rw [iX8_flag, eX8_flag_0, s8_isSlot, if_neg q1, bnd_s, push_s, eX8_flag_2, if_pos rfl])
end ASK
end
section
/-! COUNT -/
section ASK
variable {N : Nat} {σ : Sto} {L : Int}
theorem c_cof (h : INV L σ) (w : Int) : inv N mX8_countOfFlags [vR 0 0, vI w] (P σ) = some (some (vI (if w = 7 then flagF (σ 7 0) 2 else if w = 8 then flagF (σ 7 0) 3 else if w = 9 then newestF (σ 7 0) else if w = 10 then (if newestF (σ 7 0) = -1 then -1 else if newestF (σ 7 0) = 0 then σ 7 0 57 else σ 7 0 65) else -1)), P (row σ 6 0 (rdV (σ 7 0) (σ 6 0)))) := by
  have rf := s2_readFlags (N := N) (σ := σ) (i := 0) h.2.1.1.2.1
  have v := rdV_v (σ 7 0) (σ 6 0)
  have r6 : row σ 6 0 (rdV (σ 7 0) (σ 6 0)) 6 0 = rdV (σ 7 0) (σ 6 0) := row_same _ _ _ _
  have r7 : row σ 6 0 (rdV (σ 7 0) (σ 6 0)) 7 0 = σ 7 0 := by rw [row_at, if_neg (by decide)]
  have q0 := s2_seq0 (N := N) (σ := row σ 6 0 (rdV (σ 7 0) (σ 6 0))) (i := 0)
  have q1 := s2_seq1 (N := N) (σ := row σ 6 0 (rdV (σ 7 0) (σ 6 0))) (i := 0)
  rw [r7] at q0 q1
  rw [iX8_countOfFlags, eX8_countOfFlags_0, rf, bnd_s, push_n]
  show ev N mX8_countOfFlags 3 _ _ (P (row σ 6 0 (rdV (σ 7 0) (σ 6 0)))) = _
  rw [eX8_countOfFlags_3, r6, v.1, v.2.2.2.1, v.2.2.2.2]
  by_cases a7 : w = 7
  · rw [if_pos a7, if_pos a7]
  by_cases a8 : w = 8
  · rw [if_neg a7, if_pos a8, if_neg a7, if_pos a8]
  by_cases a9 : w = 9
  · rw [if_neg a7, if_neg a8, if_pos a9, if_neg a7, if_neg a8, if_pos a9]
  by_cases a10 : w = 10
  · rw [if_neg a7, if_neg a8, if_neg a9, if_pos a10, if_neg a7, if_neg a8, if_neg a9, if_pos a10]
    rcases newestF_b (σ 7 0) with n | n | n
    · rw [n, if_pos rfl, if_pos rfl, eX8_countOfFlags_30]
    · rw [n, if_neg (by decide), if_neg (by decide), if_pos rfl, q0, bnd_s, push_s, eX8_countOfFlags_30]
    · rw [n, if_neg (by decide), if_neg (by decide), if_neg (by decide), q1, bnd_s, push_s, eX8_countOfFlags_30]
  rw [if_neg a7, if_neg a8, if_neg a9, if_neg a10, if_neg a7, if_neg a8, if_neg a9, if_neg a10]
theorem flV_67 (f c : Vec) : flV f c 6 = flagF c 2 ∧ flV f c 7 = flagF c 3 := by
  unfold flV flagF
  rcases newestF_b c with n | n | n
  · rw [n]
    exact ⟨rfl, rfl⟩
  · simp only [n, Int.reduceEq, Int.reduceNeg, ↓reduceIte]
    exact ⟨rfl, rfl⟩
  · simp only [n, Int.reduceEq, Int.reduceNeg, ↓reduceIte]
    exact ⟨rfl, rfl⟩
/-- the model's COUNT, behind its reading of flags -/
theorem pair_count (w : Int) : PAIR N mX8_count mX9_count [vI w] := pair_q (fun L σ h => by
  have cof := c_cof (N := N) h w
  have hm := INV_okm h
  have he := h.1.2.1
  have hg := h.1.1
  obtain ⟨ht1, ht2, ht3, -⟩ := h.1.2.2.1
  obtain ⟨hd1, -, -⟩ := h.1.2.2.2.1
  obtain ⟨-, -, hp, -⟩ := h.2.2
  have z := h.2.1.2.1
  have eq := INV_eq h
  have cg : ∀ j, 56 ≤ j → j < 72 → σ 7 0 j = σ 40 0 j := fun j a b => eq j (by omega)
  have ci := fun j h0 h1 => s2_cell (N := N) (σ := σ) (i := 0) j h0 h1
  have co := s2_isOpen (N := N) (σ := σ) (i := 0) h.2.1.1
  have op : openF (σ 30 0 6) (σ 40 0) = openF (σ 2 1 1) (σ 7 0) := by
    unfold openF
    rw [he.2.2.2.1, eq 72 (by decide), eq 73 (by decide), eq 74 (by decide), eq 75 (by decide)]
  -- the model, over any store that differs in the class's fields alone
  have mod : ∀ τ : Sto, (∀ k k', k ≠ 6 → τ k k' = σ k k') → inv N mX9_count [vR 30 0, vI w] (P τ) = ev N mX9_count 4 [vR 30 0, vI w, vX] [vI (newestF (σ 7 0))] (P (rfM τ)) := by
    intro τ ho
    have h40 : OKB (τ 40 0) := by rw [ho 40 0 (by decide)]; exact hm.2.1
    have r40 : rfM τ 40 0 = σ 40 0 := by
      unfold rfM
      rw [row_at, if_neg (by decide), ho 40 0 (by decide)]
    have nw := s9_newest (N := N) (σ := rfM τ) (by rw [r40]; exact hm.2.1)
    rw [r40, ← newestF_congr cg] at nw
    rw [iX9_count, eX9_count_0, s9_readsFlags h40, bnd_s, push_n, eX9_count_2, nw, bnd_s, push_s]
  have rfo : ∀ τ : Sto, (∀ k k', k ≠ 6 → τ k k' = σ k k') → ∀ k, k ≠ 6 → k ≠ 43 → rfM τ k 0 = σ k 0 := by
    intro τ ho k h6 h43
    unfold rfM
    rw [row_at, if_neg (fun y => h43 y.1), ho k 0 h6]
  have rf43 : ∀ τ : Sto, (∀ k k', k ≠ 6 → τ k k' = σ k k') → rfM τ 43 0 6 = flagF (σ 7 0) 2 ∧ rfM τ 43 0 7 = flagF (σ 7 0) 3 := by
    intro τ ho
    have f := flV_67 (τ 43 0) (τ 40 0)
    rw [flagF_congr cg (by decide : 2 < 4), flagF_congr cg (by decide : 3 < 4)]
    rw [ho 40 0 (by decide)] at f
    unfold rfM
    rw [row_same, ho 40 0 (by decide)]
    exact f
  have qx : ∀ τ : Sto, QX σ τ → QX σ (rfM τ) := fun τ q => QX_trans q (QX_row τ 43 0 _ (by decide) (by decide) (by decide))
  have o1 : ∀ k k', k ≠ 6 → row σ 6 0 (rdV (σ 7 0) (σ 6 0)) k k' = σ k k' := fun k k' hk => by rw [row_at, if_neg (fun y => hk y.1)]
  have o0 : ∀ k k', k ≠ 6 → σ k k' = σ k k' := fun _ _ _ => rfl
  have q6 := QX_row σ 6 0 (rdV (σ 7 0) (σ 6 0)) (by decide) (by decide) (by decide)
  have e76 := eq 76 (by decide)
  have e77 := eq 77 (by decide)
  have e57 := eq 57 (by decide)
  have e65 := eq 65 (by decide)
  by_cases a0 : w = 0
  · refine ⟨σ 2 1 0, σ, rfM σ, ?_, ?_, qx σ (QX_refl σ)⟩
    · rw [iX8_count, eX8_count_0, if_pos a0]
    · rw [mod σ o0, eX9_count_4, if_pos a0, rfo σ o0 30 (by decide) (by decide), he.2.2.1]
  by_cases a1 : w = 1
  · refine ⟨σ 2 1 1, σ, rfM σ, ?_, ?_, qx σ (QX_refl σ)⟩
    · rw [iX8_count, eX8_count_0, if_neg a0, if_pos a1]
    · rw [mod σ o0, eX9_count_4, if_neg a0, if_pos a1, rfo σ o0 30 (by decide) (by decide), he.2.2.2.1]
  by_cases a2 : w = 2
  · refine ⟨σ 2 1 2, σ, rfM σ, ?_, ?_, qx σ (QX_refl σ)⟩
    · rw [iX8_count, eX8_count_0, if_neg a0, if_neg a1, if_pos a2]
    · rw [mod σ o0, eX9_count_4, if_neg a0, if_neg a1, if_pos a2, rfo σ o0 38 (by decide) (by decide), show (2 : Int).toNat = 2 from rfl, he.2.2.2.2.1]
  by_cases a3 : w = 3
  · refine ⟨σ 2 1 3, σ, rfM σ, ?_, ?_, qx σ (QX_refl σ)⟩
    · rw [iX8_count, eX8_count_0, if_neg a0, if_neg a1, if_neg a2, if_pos a3]
    · rw [mod σ o0, eX9_count_4, if_neg a0, if_neg a1, if_neg a2, if_pos a3, rfo σ o0 38 (by decide) (by decide), show (3 : Int).toNat = 3 from rfl, he.2.2.2.2.2.1]
  by_cases a4 : w = 4
  · refine ⟨σ 7 0 76, σ, rfM σ, ?_, ?_, qx σ (QX_refl σ)⟩
    · rw [iX8_count, eX8_count_0, if_neg a0, if_neg a1, if_neg a2, if_neg a3, if_pos a4, ci _ (by decide) (by decide), bnd_s, push_s, eX8_count_22]
      rfl
    · rw [mod σ o0, eX9_count_4, if_neg a0, if_neg a1, if_neg a2, if_neg a3, if_pos a4, rfo σ o0 40 (by decide) (by decide), show (76 : Int).toNat = 76 from rfl, e76]
  by_cases a5 : w = 5
  · refine ⟨σ 7 0 77, σ, rfM σ, ?_, ?_, qx σ (QX_refl σ)⟩
    · rw [iX8_count, eX8_count_0, if_neg a0, if_neg a1, if_neg a2, if_neg a3, if_neg a4, if_pos a5, ci _ (by decide) (by decide), bnd_s, push_s, eX8_count_27]
      rfl
    · rw [mod σ o0, eX9_count_4, if_neg a0, if_neg a1, if_neg a2, if_neg a3, if_neg a4, if_pos a5, rfo σ o0 40 (by decide) (by decide), show (77 : Int).toNat = 77 from rfl, e77]
  by_cases a6 : w = 6
  · refine ⟨σ 7 0 78, σ, rfM σ, ?_, ?_, qx σ (QX_refl σ)⟩
    · rw [iX8_count, eX8_count_0, if_neg a0, if_neg a1, if_neg a2, if_neg a3, if_neg a4, if_neg a5, if_pos a6, ci _ (by decide) (by decide), bnd_s, push_s, eX8_count_32]
      rfl
    · rw [mod σ o0, eX9_count_4, if_neg a0, if_neg a1, if_neg a2, if_neg a3, if_neg a4, if_neg a5, if_pos a6, rfo σ o0 40 (by decide) (by decide), show (78 : Int).toNat = 78 from rfl, z.2]
  by_cases a7 : w = 7
  · refine ⟨flagF (σ 7 0) 2, row σ 6 0 (rdV (σ 7 0) (σ 6 0)), rfM (row σ 6 0 (rdV (σ 7 0) (σ 6 0))), ?_, ?_, qx _ q6⟩
    · rw [if_pos a7] at cof
      rw [iX8_count, eX8_count_0, if_neg a0, if_neg a1, if_neg a2, if_neg a3, if_neg a4, if_neg a5, if_neg a6, if_pos a7, cof, bnd_s, push_s, eX8_count_73]
    · rw [mod _ o1, eX9_count_4, if_neg a0, if_neg a1, if_neg a2, if_neg a3, if_neg a4, if_neg a5, if_neg a6, if_pos a7, show (6 : Int).toNat = 6 from rfl, (rf43 _ o1).1]
  by_cases a8 : w = 8
  · refine ⟨flagF (σ 7 0) 3, row σ 6 0 (rdV (σ 7 0) (σ 6 0)), rfM (row σ 6 0 (rdV (σ 7 0) (σ 6 0))), ?_, ?_, qx _ q6⟩
    · rw [if_neg a7, if_pos a8] at cof
      rw [iX8_count, eX8_count_0, if_neg a0, if_neg a1, if_neg a2, if_neg a3, if_neg a4, if_neg a5, if_neg a6, if_neg a7, if_pos a8, cof, bnd_s, push_s, eX8_count_73]
    · rw [mod _ o1, eX9_count_4, if_neg a0, if_neg a1, if_neg a2, if_neg a3, if_neg a4, if_neg a5, if_neg a6, if_neg a7, if_pos a8, show (7 : Int).toNat = 7 from rfl, (rf43 _ o1).2]
  by_cases a9 : w = 9
  · refine ⟨newestF (σ 7 0), row σ 6 0 (rdV (σ 7 0) (σ 6 0)), rfM (row σ 6 0 (rdV (σ 7 0) (σ 6 0))), ?_, ?_, qx _ q6⟩
    · rw [if_neg a7, if_neg a8, if_pos a9] at cof
      rw [iX8_count, eX8_count_0, if_neg a0, if_neg a1, if_neg a2, if_neg a3, if_neg a4, if_neg a5, if_neg a6, if_neg a7, if_neg a8, if_pos a9, cof, bnd_s, push_s, eX8_count_73]
    · rw [mod _ o1, eX9_count_4, if_neg a0, if_neg a1, if_neg a2, if_neg a3, if_neg a4, if_neg a5, if_neg a6, if_neg a7, if_neg a8, if_pos a9]
  by_cases a10 : w = 10
  · refine ⟨if newestF (σ 7 0) = -1 then -1 else if newestF (σ 7 0) = 0 then σ 7 0 57 else σ 7 0 65, row σ 6 0 (rdV (σ 7 0) (σ 6 0)), rfM (row σ 6 0 (rdV (σ 7 0) (σ 6 0))), ?_, ?_, qx _ q6⟩
    · rw [if_neg a7, if_neg a8, if_neg a9, if_pos a10] at cof
      rw [iX8_count, eX8_count_0, if_neg a0, if_neg a1, if_neg a2, if_neg a3, if_neg a4, if_neg a5, if_neg a6, if_neg a7, if_neg a8, if_neg a9, if_pos a10, cof, bnd_s, push_s, eX8_count_73]
    · rw [mod _ o1, eX9_count_4, if_neg a0, if_neg a1, if_neg a2, if_neg a3, if_neg a4, if_neg a5, if_neg a6, if_neg a7, if_neg a8, if_neg a9, if_pos a10]
      have r40 := rfo _ o1 40 (by decide) (by decide)
      rcases newestF_b (σ 7 0) with n | n | n
      · rw [n, if_pos rfl, if_pos rfl]
      · rw [n, if_neg (by decide), s9_pageAt _ (by decide) (by decide), bnd_s, push_s, eX9_count_59, r40]
        exact congrArg (fun v => some (some (vI v), _)) e57.symm
      · rw [n, if_neg (by decide), s9_pageAt _ (by decide) (by decide), bnd_s, push_s, eX9_count_59, r40]
        exact congrArg (fun v => some (some (vI v), _)) e65.symm
  by_cases a11 : w = 11
  · refine ⟨σ 9 0 3, σ, rfM σ, ?_, ?_, qx σ (QX_refl σ)⟩
    · rw [iX8_count, eX8_count_0, if_neg a0, if_neg a1, if_neg a2, if_neg a3, if_neg a4, if_neg a5, if_neg a6, if_neg a7, if_neg a8, if_neg a9, if_neg a10, if_pos a11]
    · rw [mod σ o0, eX9_count_4, if_neg a0, if_neg a1, if_neg a2, if_neg a3, if_neg a4, if_neg a5, if_neg a6, if_neg a7, if_neg a8, if_neg a9, if_neg a10, if_pos a11, rfo σ o0 30 (by decide) (by decide), hp]
  by_cases a12 : w = 12
  · refine ⟨σ 0 0 10, σ, rfM σ, ?_, ?_, qx σ (QX_refl σ)⟩
    · rw [iX8_count, eX8_count_0, if_neg a0, if_neg a1, if_neg a2, if_neg a3, if_neg a4, if_neg a5, if_neg a6, if_neg a7, if_neg a8, if_neg a9, if_neg a10, if_neg a11, if_pos a12]
    · rw [mod σ o0, eX9_count_4, if_neg a0, if_neg a1, if_neg a2, if_neg a3, if_neg a4, if_neg a5, if_neg a6, if_neg a7, if_neg a8, if_neg a9, if_neg a10, if_neg a11, if_pos a12, rfo σ o0 30 (by decide) (by decide), ← hd1]
  by_cases a13 : w = 13
  · refine ⟨σ 0 0 1, σ, rfM σ, ?_, ?_, qx σ (QX_refl σ)⟩
    · rw [iX8_count, eX8_count_0, if_neg a0, if_neg a1, if_neg a2, if_neg a3, if_neg a4, if_neg a5, if_neg a6, if_neg a7, if_neg a8, if_neg a9, if_neg a10, if_neg a11, if_neg a12, if_pos a13]
    · rw [mod σ o0, eX9_count_4, if_neg a0, if_neg a1, if_neg a2, if_neg a3, if_neg a4, if_neg a5, if_neg a6, if_neg a7, if_neg a8, if_neg a9, if_neg a10, if_neg a11, if_neg a12, if_pos a13, rfo σ o0 30 (by decide) (by decide), ht3]
  by_cases a14 : w = 14
  · refine ⟨σ 7 0 81, σ, rfM σ, ?_, ?_, qx σ (QX_refl σ)⟩
    · rw [iX8_count, eX8_count_0, if_neg a0, if_neg a1, if_neg a2, if_neg a3, if_neg a4, if_neg a5, if_neg a6, if_neg a7, if_neg a8, if_neg a9, if_neg a10, if_neg a11, if_neg a12, if_neg a13, if_pos a14, ci _ (by decide) (by decide), bnd_s, push_s, eX8_count_47]
      rfl
    · rw [mod σ o0, eX9_count_4, if_neg a0, if_neg a1, if_neg a2, if_neg a3, if_neg a4, if_neg a5, if_neg a6, if_neg a7, if_neg a8, if_neg a9, if_neg a10, if_neg a11, if_neg a12, if_neg a13, if_pos a14, rfo σ o0 40 (by decide) (by decide), show (81 : Int).toNat = 81 from rfl, z.1.2.2.2.1]
  by_cases a15 : w = 15
  · refine ⟨σ 2 1 4, σ, rfM σ, ?_, ?_, qx σ (QX_refl σ)⟩
    · rw [iX8_count, eX8_count_0, if_neg a0, if_neg a1, if_neg a2, if_neg a3, if_neg a4, if_neg a5, if_neg a6, if_neg a7, if_neg a8, if_neg a9, if_neg a10, if_neg a11, if_neg a12, if_neg a13, if_neg a14, if_pos a15]
    · rw [mod σ o0, eX9_count_4, if_neg a0, if_neg a1, if_neg a2, if_neg a3, if_neg a4, if_neg a5, if_neg a6, if_neg a7, if_neg a8, if_neg a9, if_neg a10, if_neg a11, if_neg a12, if_neg a13, if_neg a14, if_pos a15, rfo σ o0 38 (by decide) (by decide), show (4 : Int).toNat = 4 from rfl, he.2.2.2.2.2.2.1]
  by_cases a16 : w = 16
  · refine ⟨σ 7 0 79, σ, rfM σ, ?_, ?_, qx σ (QX_refl σ)⟩
    · rw [iX8_count, eX8_count_0, if_neg a0, if_neg a1, if_neg a2, if_neg a3, if_neg a4, if_neg a5, if_neg a6, if_neg a7, if_neg a8, if_neg a9, if_neg a10, if_neg a11, if_neg a12, if_neg a13, if_neg a14, if_neg a15, if_pos a16, ci _ (by decide) (by decide), bnd_s, push_s, eX8_count_56]
      rfl
    · rw [mod σ o0, eX9_count_4, if_neg a0, if_neg a1, if_neg a2, if_neg a3, if_neg a4, if_neg a5, if_neg a6, if_neg a7, if_neg a8, if_neg a9, if_neg a10, if_neg a11, if_neg a12, if_neg a13, if_neg a14, if_neg a15, if_pos a16, rfo σ o0 40 (by decide) (by decide), show (80 : Int).toNat = 80 from rfl, z.1.2.1]
  by_cases a17 : w = 17
  · refine ⟨σ 7 0 80, σ, rfM σ, ?_, ?_, qx σ (QX_refl σ)⟩
    · rw [iX8_count, eX8_count_0, if_neg a0, if_neg a1, if_neg a2, if_neg a3, if_neg a4, if_neg a5, if_neg a6, if_neg a7, if_neg a8, if_neg a9, if_neg a10, if_neg a11, if_neg a12, if_neg a13, if_neg a14, if_neg a15, if_neg a16, if_pos a17, ci _ (by decide) (by decide), bnd_s, push_s, eX8_count_61]
      rfl
    · rw [mod σ o0, eX9_count_4, if_neg a0, if_neg a1, if_neg a2, if_neg a3, if_neg a4, if_neg a5, if_neg a6, if_neg a7, if_neg a8, if_neg a9, if_neg a10, if_neg a11, if_neg a12, if_neg a13, if_neg a14, if_neg a15, if_neg a16, if_pos a17, rfo σ o0 40 (by decide) (by decide), show (79 : Int).toNat = 79 from rfl, z.1.2.2.1]
  by_cases a18 : w = 18
  · have io := s9_isOpen (N := N) (σ := rfM σ) (EnvM_KM he (KM_rf σ)).1 (by rw [rfo σ o0 40 (by decide) (by decide)]; exact hm)
    rw [rfo σ o0 40 (by decide) (by decide), rfo σ o0 30 (by decide) (by decide), op] at io
    refine ⟨if openF (σ 2 1 1) (σ 7 0) = 0 then 0 else 1, σ, rfM σ, ?_, ?_, qx σ (QX_refl σ)⟩
    · rw [iX8_count, eX8_count_0, if_neg a0, if_neg a1, if_neg a2, if_neg a3, if_neg a4, if_neg a5, if_neg a6, if_neg a7, if_neg a8, if_neg a9, if_neg a10, if_neg a11, if_neg a12, if_neg a13, if_neg a14, if_neg a15, if_neg a16, if_neg a17, if_pos a18, co, bnd_s, push_s, eX8_count_65]
      split <;> rfl
    · rw [mod σ o0, eX9_count_4, if_neg a0, if_neg a1, if_neg a2, if_neg a3, if_neg a4, if_neg a5, if_neg a6, if_neg a7, if_neg a8, if_neg a9, if_neg a10, if_neg a11, if_neg a12, if_neg a13, if_neg a14, if_neg a15, if_neg a16, if_neg a17, if_pos a18, io, bnd_s, push_s, eX9_count_94, s9_truth, bnd_s, push_s, eX9_count_95]
  refine ⟨-1, row σ 6 0 (rdV (σ 7 0) (σ 6 0)), rfM (row σ 6 0 (rdV (σ 7 0) (σ 6 0))), ?_, ?_, qx _ q6⟩
  · rw [if_neg a7, if_neg a8, if_neg a9, if_neg a10] at cof
    rw [iX8_count, eX8_count_0, if_neg a0, if_neg a1, if_neg a2, if_neg a3, if_neg a4, if_neg a5, if_neg a6, if_neg a7, if_neg a8, if_neg a9, if_neg a10, if_neg a11, if_neg a12, if_neg a13, if_neg a14, if_neg a15, if_neg a16, if_neg a17, if_neg a18, cof, bnd_s, push_s, eX8_count_73]
  · rw [mod _ o1, eX9_count_4, if_neg a0, if_neg a1, if_neg a2, if_neg a3, if_neg a4, if_neg a5, if_neg a6, if_neg a7, if_neg a8, if_neg a9, if_neg a10, if_neg a11, if_neg a12, if_neg a13, if_neg a14, if_neg a15, if_neg a16, if_neg a17, if_neg a18])
end ASK
end
section
/-! TICKS: a boot does not look at them -/
def S79 (x y : XP) : Prop := (∀ j, j ≠ 79 → x.1 j = y.1 j) ∧ x.2 = y.2
theorem S79_wr {x y : XP} (h : S79 x y) (a n : Nat) (v : Int) (ha : a + n ≤ 78) : S79 (wrC a n v x) (wrC a n v y) := by
  obtain ⟨h1, h2⟩ := h
  unfold wrC
  rw [h2]
  split
  · exact ⟨h1, rfl⟩
  · refine ⟨fun j hj => ?_, rfl⟩
    show fill x.1 a n v j = fill y.1 a n v j
    unfold fill
    rw [h1 j hj]
theorem S79_wfC {x y : XP} (h : S79 x y) (b : Nat) (hb : b = 56 ∨ b = 64) (nx : Int) : S79 (wfC b nx x) (wfC b nx y) := by
  unfold wfC
  rw [h.2]
  exact S79_wr (S79_wr (S79_wr (S79_wr (S79_wr (S79_wr (S79_wr (S79_wr (S79_wr h _ _ _ (by omega)) _ _ _ (by omega)) _ _ _ (by omega)) _ _ _ (by omega)) _ _ _ (by omega)) _ _ _ (by omega)) _ _ _ (by omega)) _ _ _ (by omega)) _ _ _ (by omega)
theorem S79_wf {x y : XP} (h : S79 x y) : S79 (writeFlagsC x) (writeFlagsC y) := by
  have e : ∀ w, nxC x.1 w = nxC y.1 w := fun w => nxC_congr (fun j a b => h.1 j (by omega)) w
  unfold writeFlagsC
  rw [h.2, e, e]
  split
  · have s := S79_wfC h 64 (Or.inr rfl) (nxC y.1 0)
    exact ⟨s.1, by show set _ 6 1 = set _ 6 1; rw [s.2]⟩
  · have s := S79_wfC h 56 (Or.inl rfl) (nxC y.1 (y.2 6))
    exact ⟨s.1, by show set _ 6 0 = set _ 6 0; rw [s.2]⟩
theorem S79_g {x y : XP} (h : S79 x y) (f : Vec → Vec) : S79 (x.1, f x.2) (y.1, f y.2) := ⟨h.1, by show f x.2 = f y.2; rw [h.2]⟩
theorem S79_note {x y : XP} (h : S79 x y) (w v : Int) : S79 (noteStartC w v x) (noteStartC w v y) := by
  unfold noteStartC
  rw [h.2]
  split
  · refine ⟨fun j hj => ?_, rfl⟩
    show set (set (set (set (set (set x.1 _ _) _ _) _ _) _ _) _ _) _ _ j = set (set (set (set (set (set y.1 _ _) _ _) _ _) _ _) _ _) _ _ j
    rw [h.1 82 (by decide)]
    unfold set
    rw [h.1 j hj]
  · exact h
theorem S79_why {x y : XP} (h : S79 x y) (ks : Int) (sec u : Vec) (s : Nat) (hs : s < 4) : whyF ks sec u x.1 s = whyF ks sec u y.1 s := whyF_cells (fun j hj => h.1 j (by omega)) ks sec u s hs
theorem S79_startL (σ : Sto) : ∀ (m : Nat) (x y : XP), S79 x y → (startL (whyS σ) m x).1 = (startL (whyS σ) m y).1 ∧ S79 (startL (whyS σ) m x).2 (startL (whyS σ) m y).2
  | 0, _, _, h => ⟨rfl, h⟩
  | m + 1, x, y, h => by
    unfold startL
    rw [h.2]
    by_cases c : chosenC y.2 = -1
    · rw [if_pos c, if_pos c]
      exact ⟨rfl, h⟩
    · obtain ⟨s, hs, e⟩ := chosen_s c
      have ew : whyS σ x.1 s = whyS σ y.1 s := S79_why h _ _ _ s (by omega)
      rw [if_neg c, if_neg c, e, Int.toNat_natCast, ew]
      split
      · have s1 : S79 (countTryC s x) (countTryC s y) := S79_g h (fun g => set (set (if g (2 + s) % 2 = 0 then set g (2 + s) (g (2 + s) - 2) else g) 4 (min (g 4 + 1) 255)) 5 (s : Int))
        have s2 := S79_wf s1
        rw [s2.1 (14 * s) (by omega)]
        exact ⟨rfl, S79_note s2 _ _⟩
      · exact S79_startL σ m _ _ (S79_wf ⟨h.1, rfl⟩)
theorem S79_rec {x y : XP} (h : S79 x y) (cp : Int) (hc : cp = -1 ∨ cp = 2 ∨ cp = 3) : (startRecoveryC cp x).1 = (startRecoveryC cp y).1 ∧ S79 (startRecoveryC cp x).2 (startRecoveryC cp y).2 := by
  unfold startRecoveryC
  split
  · exact ⟨rfl, h⟩
  · have s2 := S79_wf (S79_g h (fun g => set g 5 2))
    have : 14 * cp.toNat ≠ 79 := by omega
    refine ⟨rfl, ?_⟩
    show S79 (noteStartC 2 ((writeFlagsC (x.1, set x.2 5 2)).1 (14 * cp.toNat) - 1) _) (noteStartC 2 ((writeFlagsC (y.1, set y.2 5 2)).1 (14 * cp.toNat) - 1) _)
    rw [s2.1 _ this]
    exact S79_note s2 _ _
theorem S79_end {x y : XP} (h : S79 x y) (a : Int) : (endC a x).1 = (endC a y).1 ∧ S79 (endC a x).2 (endC a y).2 := by
  unfold endC
  rw [h.2]
  split
  · refine ⟨rfl, fun j hj => ?_, rfl⟩
    show set x.1 81 _ j = set y.1 81 _ j
    unfold set
    rw [h.1 j hj]
  · refine ⟨rfl, fun j hj => ?_, rfl⟩
    show set (set x.1 81 _) 78 _ j = set (set y.1 81 _) 78 _ j
    unfold set
    rw [h.1 j hj]
theorem S79_begin {x y : XP} (h : S79 x y) (cut : Int) : S79 (beginC cut x) (beginC cut y) := by
  have cg : ∀ j, 56 ≤ j → j < 72 → x.1 j = y.1 j := fun j a b => h.1 j (by omega)
  refine ⟨h.1, ?_⟩
  show set (set (set (set (set (set (set (set x.2 7 cut) 8 0) 9 0) 6 (newestF x.1)) 2 (flagF x.1 0)) 3 (flagF x.1 1)) 4 (flagF x.1 2)) 5 (flagF x.1 3) = set (set (set (set (set (set (set (set y.2 7 cut) 8 0) 9 0) 6 (newestF y.1)) 2 (flagF y.1 0)) 3 (flagF y.1 1)) 4 (flagF y.1 2)) 5 (flagF y.1 3)
  rw [h.2, newestF_congr cg, flagF_congr cg (by decide : 0 < 4), flagF_congr cg (by decide : 1 < 4), flagF_congr cg (by decide : 2 < 4), flagF_congr cg (by decide : 3 < 4)]
theorem S79_boot (σ : Sto) {x y : XP} (h : S79 x y) (a cut : Int) : (bootC σ a cut x).1 = (bootC σ a cut y).1 ∧ S79 (bootC σ a cut x).2 (bootC σ a cut y).2 := by
  have hb := S79_begin h cut
  have hs : ∀ bt lim, (startSlotC (whyS σ) lim bt (beginC cut x)).1 = (startSlotC (whyS σ) lim bt (beginC cut y)).1 ∧ S79 (startSlotC (whyS σ) lim bt (beginC cut x)).2 (startSlotC (whyS σ) lim bt (beginC cut y)).2 := by
    intro bt lim
    unfold startSlotC
    rw [hb.2]
    split
    · exact S79_startL σ 2 _ _ hb
    · exact ⟨rfl, hb⟩
  unfold bootC
  generalize (if a = 1 then (1 : Int) else 0) = bt
  obtain ⟨e1, e2⟩ := hs bt (σ 2 1 2)
  generalize startSlotC (whyS σ) (σ 2 1 2) bt (beginC cut x) = p at e1 e2
  generalize startSlotC (whyS σ) (σ 2 1 2) bt (beginC cut y) = q at e1 e2
  have ec : copyF (σ 2 1 0) (σ 3 1) (σ 4 1) p.2.1 = copyF (σ 2 1 0) (σ 3 1) (σ 4 1) q.2.1 := copyF_cells (fun j hj => e2.1 j (by omega)) _ _ _
  rw [e1, ec]
  split
  · obtain ⟨r1, r2⟩ := S79_rec e2 (copyF (σ 2 1 0) (σ 3 1) (σ 4 1) q.2.1) (copyF_c _ _ _ _)
    rw [r1]
    exact S79_end r2 _
  · exact S79_end e2 _
end
section
/-! WAITS -/
theorem Z79_note {x : XP} (h : x.1 79 = 0) (w v : Int) : (noteStartC w v x).1 79 = 0 := by
  unfold noteStartC
  split
  · exact (set_ne (set (set (set (set (set x.1 (83 + 2 * (x.1 82 % 12).toNat) w) (83 + 2 * (x.1 82 % 12).toNat + 1) v) 82 (x.1 82 + 1)) 78 w) 79 0) 0 (show 79 ≠ 80 by decide)).trans (set_same _ _ _)
  · exact h
theorem Z79_startL (W : Vec → Nat → Int) : ∀ (m : Nat) (x : XP), x.1 79 = 0 → (startL W m x).2.1 79 = 0
  | 0, _, h => h
  | m + 1, x, h => by
    unfold startL
    split
    · exact h
    · split
      · exact Z79_note (by rw [writeFlagsC_at _ (Or.inr (by decide))]; exact h) _ _
      · exact Z79_startL W m _ (by rw [writeFlagsC_at _ (Or.inr (by decide))]; exact h)
theorem Z79_rec {x : XP} (h : x.1 79 = 0) (cp : Int) : (startRecoveryC cp x).2.1 79 = 0 := by
  unfold startRecoveryC
  split
  · exact h
  · exact Z79_note (by rw [writeFlagsC_at _ (Or.inr (by decide))]; exact h) _ _
theorem Z79_end {x : XP} (h : x.1 79 = 0) (a : Int) : (endC a x).2.1 79 = 0 := by
  unfold endC
  split
  · show set x.1 81 (x.2 8) 79 = 0
    rw [set_ne _ _ (by decide)]
    exact h
  · show set (set x.1 81 (x.2 8)) 78 (-1) 79 = 0
    rw [set_ne _ _ (by decide), set_ne _ _ (by decide)]
    exact h
theorem Z79_boot (σ : Sto) {x : XP} (h : x.1 79 = 0) (a cut : Int) : (bootC σ a cut x).2.1 79 = 0 := by
  have hs : ∀ bt lim, (startSlotC (whyS σ) lim bt (beginC cut x)).2.1 79 = 0 := by
    intro bt lim
    unfold startSlotC
    split
    · exact Z79_startL _ 2 _ h
    · exact h
  unfold bootC
  generalize (if a = 1 then (1 : Int) else 0) = bt
  have e := hs bt (σ 2 1 2)
  generalize startSlotC (whyS σ) (σ 2 1 2) bt (beginC cut x) = p at e
  by_cases q : p.1 = -1
  · rw [if_pos q]
    exact Z79_end (Z79_rec e _) _
  · rw [if_neg q]
    exact Z79_end e _
section ACT
variable {N : Nat} {σ σ0 : Sto} {L : Int}
theorem OKC_79 {c : Vec} (h : OKC c) (v : Int) : OKC (set c 79 v) := okc_hi h (by decide)
theorem RZ_tick {c n : Vec} (h : RZ c n) (v : Int) : RZ (set c 79 v) (set n 80 v) := by
  obtain ⟨⟨b1, b2, b3, b4, b5⟩, d⟩ := h
  refine ⟨⟨fun j hj => ?_, ?_, ?_, ?_, RS_congr b5 (fun j hj => set_ne _ _ (by omega)) (fun j hj => set_ne _ _ (by omega))⟩, ?_⟩
  · rw [set_ne _ _ (by omega), set_ne _ _ (by omega), b1 j hj]
  · rw [set_same, set_same]
  · rw [set_ne _ _ (by decide), set_ne _ _ (by decide), b3]
  · rw [set_ne _ _ (by decide), set_ne _ _ (by decide), b4]
  · rw [set_ne _ _ (by decide), set_ne _ _ (by decide), d]
theorem RZ_78 {c n : Vec} (h : RZ c n) : RZ (set c 78 (-1)) (set n 78 (-1)) := by
  obtain ⟨⟨b1, b2, b3, b4, b5⟩, d⟩ := h
  refine ⟨⟨fun j hj => ?_, ?_, ?_, ?_, RS_congr b5 (fun j hj => set_ne _ _ (by omega)) (fun j hj => set_ne _ _ (by omega))⟩, ?_⟩
  · rw [set_ne _ _ (by omega), set_ne _ _ (by omega), b1 j hj]
  · rw [set_ne _ _ (by decide), set_ne _ _ (by decide), b2]
  · rw [set_ne _ _ (by decide), set_ne _ _ (by decide), b3]
  · rw [set_ne _ _ (by decide), set_ne _ _ (by decide), b4]
  · rw [set_same, set_same]
theorem OKC_78 {c : Vec} (h : OKC c) : OKC (set c 78 (-1)) := okc_set h (by decide) (fun z => absurd z (by decide)) (fun z => absurd z (by decide)) (fun _ => by omega)
/-- one boot by the watch, both: the class keeps its ticks till behind it -/
theorem w_boot (hg : OKG σ0 1) {c g n : Vec} {τ : Sto} (t : Int) (hz : RZ (set (set c 78 (-1)) 79 0) (τ 40 0)) (hc : OKC c) (he : EnvM σ0 τ) (b0 : 0 ≤ c 82) (hb : c 82 < 2147483000) :
    ∃ y : XP, inv N mX2_perform [vR 6 0, vI 0, vI 0, vI 0, vI (-1)] (P (putC σ0 0 (set (set c 79 t) 78 (-1), g))) = some (some (vI (performC σ0 0 0 0 (-1) (set (set c 79 t) 78 (-1), g)).1), P (putC σ0 0 y)) ∧ ∃ ans υ, inv N mX9_does [vR 30 0, vI 0, vI 0, vI 0, vI (-1)] (P τ) = some (some (vI ans), P υ) ∧ KM τ υ ∧ RZ (set y.1 79 0) (υ 40 0) ∧ OKC y.1 ∧ c 82 ≤ y.1 82 ∧ y.1 82 ≤ c 82 + 1 := by
  have e78 : (set (set c 78 (-1)) 79 0) 78 = -1 := by rw [set_ne _ _ (by decide), set_same]
  have f78 : (set (set c 79 t) 78 (-1)) 78 = -1 := set_same _ _ _
  have e82 : (set (set c 78 (-1)) 79 0) 82 = c 82 := by rw [set_ne _ _ (by decide), set_ne _ _ (by decide)]
  have f82 : (set (set c 79 t) 78 (-1)) 82 = c 82 := by rw [set_ne _ _ (by decide), set_ne _ _ (by decide)]
  have a1 : ableF (σ0 2 1 1) (σ0 5 1) (set (set c 78 (-1)) 79 0) 0 0 0 = 1 := by
    unfold ableF
    rw [if_pos rfl, if_pos ⟨e78, Or.inl rfl, rfl⟩]
  have a2 : ableF (σ0 2 1 1) (σ0 5 1) (set (set c 79 t) 78 (-1)) 0 0 0 = 1 := by
    unfold ableF
    rw [if_pos rfl, if_pos ⟨f78, Or.inl rfl, rfl⟩]
  have o1 : OKC (set (set c 78 (-1)) 79 0) := OKC_79 (OKC_78 hc) 0
  have o2 : OKC (set (set c 79 t) 78 (-1)) := OKC_78 (OKC_79 hc t)
  have pf := p2_perform (N := N) (i := 0) (σ := σ0) (x := (set (set c 79 t) 78 (-1), g)) hg o2 (show 0 ≤ set (set c 79 t) 78 (-1) 82 by rw [f82]; exact b0) (show set (set c 79 t) 78 (-1) 82 < 2147483647 by rw [f82]; exact Int.lt_trans hb (by decide)) 0 0 0 (-1) a2
  have ok := performC_ok (σ := σ0) (x := (set (set c 79 t) 78 (-1), g)) hg o2 0 0 0 (-1) a2
  obtain ⟨υ, u1, u2, u3, -⟩ := m_does (N := N) (x := (set (set c 78 (-1)) 79 0, g)) hg hz o1 he (show set (set c 78 (-1)) 79 0 82 < 2147483000 by rw [e82]; exact hb) 0 0 0 (-1) a1 (by decide) (by decide)
  have s0 : S79 (set (set c 78 (-1)) 79 0, g) (set (set c 79 t) 78 (-1), g) := by
    refine ⟨fun j hj => ?_, rfl⟩
    show set (set c 78 (-1)) 79 0 j = set (set c 79 t) 78 (-1) j
    by_cases q : j = 78
    · rw [q, set_ne _ _ (by decide), set_same, set_same]
    · rw [set_ne _ _ hj, set_ne _ _ q, set_ne _ _ q, set_ne _ _ hj]
  have sb : S79 (performC σ0 0 0 0 (-1) (set (set c 78 (-1)) 79 0, g)).2 (performC σ0 0 0 0 (-1) (set (set c 79 t) 78 (-1), g)).2 := by
    unfold performC
    rw [if_pos rfl, if_pos rfl]
    exact (S79_boot σ0 s0 0 (-1)).2
  have l1 : set (set c 79 t) 78 (-1) 82 ≤ _ := ok.2.1
  have l2 : _ ≤ set (set c 79 t) 78 (-1) 82 + 1 := ok.2.2
  rw [f82] at l1 l2
  have z0 := Z79_boot σ0 (x := (set (set c 78 (-1)) 79 0, g)) (set_same (set c 78 (-1)) 79 0) 0 (-1)
  refine ⟨_, pf, _, υ, u1, u2, ?_, ok.1.1, l1, l2⟩
  refine RZ_107 u3 (fun j hj => ?_) (fun _ _ => rfl)
  have zp : (performC σ0 0 0 0 (-1) (set (set c 78 (-1)) 79 0, g)).2.1 79 = 0 := by
    unfold performC
    rw [if_pos rfl]
    exact z0
  by_cases q : j = 79
  · rw [q, set_same, zp]
  · rw [set_ne _ _ q]
    exact (sb.1 j q).symm
end ACT
end
section
/-! WAITS, whole -/
section ACT
variable {N : Nat} {σ σ0 : Sto} {L : Int}
theorem s9_isSR : inv N mX9_isSlotRunning [vR 30 0] (P σ) = some (some (vI (if σ 40 0 78 = 0 ∨ σ 40 0 78 = 1 then 1 else 0)), P σ) := by
  rw [iX9_isSlotRunning, eX9_isSlotRunning_0, show (78 : Int).toNat = 78 from rfl]
  by_cases h1 : σ 40 0 78 = 0
  · rw [if_pos h1, if_pos (Or.inl h1)]
  · rw [if_neg h1]
    by_cases h2 : σ 40 0 78 = 1
    · rw [if_pos h2, if_pos (Or.inr h2)]
    · rw [if_neg h2, if_neg (fun z => by rcases z with z | z <;> contradiction)]
theorem w_nums {n : Int} {k m b : Nat} (h : (k : Int) + ((m + 1 : Nat) : Int) = n) (hn : n ≤ 200) (hb : b ≤ k) : (k : Int) < n ∧ ((k + 1 : Nat) : Int) + (m : Int) = n ∧ w32 ((k : Int) + 1) = ((k + 1 : Nat) : Int) ∧ w32 ((b : Int) + 1) = ((b + 1 : Nat) : Int) ∧ b ≤ k + 1 ∧ b + 1 ≤ k + 1 := by
  refine ⟨by omega, by omega, ?_, ?_, by omega, by omega⟩
  · rw [w32i (by omega) (by omega)]; omega
  · rw [w32i (by omega) (by omega)]; omega
theorem w_loop (hg : OKG σ0 1) (n : Int) (hn : n ≤ 200) : ∀ (m k b : Nat) (x : XP) (τ : Sto) (x4 : MV), (k : Int) + (m : Int) = n → b ≤ k → RZ x.1 (τ 40 0) → OKC x.1 → EnvM σ0 τ → x.1 82 + m < 2147483000 → 0 ≤ x.1 82 →
    ∃ (y : XP) (υ : Sto) (ans : Int), ev N mX2_passTicks 4 [vR 6 0, vI n, vI (b : Int), vI (k : Int), x4] [] (P (putC σ0 0 x)) = some (some (vI ans), P (putC σ0 0 y)) ∧ ev N mX9_waits 17 [vR 30 0, vI n, vI (b : Int), vI (k : Int)] [] (P τ) = some (some (vI ans), P υ) ∧ KM τ υ ∧ RZ y.1 (υ 40 0) ∧ OKC y.1 ∧ y.1 82 ≤ x.1 82 + m := by
  intro m
  induction m with
  | zero =>
    intro k b x τ x4 hk hbk hz hc he hb h0
    have nk : ¬ (k : Int) < n := by omega
    refine ⟨x, τ, b, ?_, ?_, KM_refl τ, hz, hc, by omega⟩
    · rw [eX2_passTicks_4, if_neg nk]
    · rw [eX9_waits_17, if_neg nk]
  | succ m ih =>
    intro k b x τ x4 hk hbk hz hc he hb h0
    obtain ⟨n1, n2, n3, n4, n5, n6⟩ := w_nums hk hn hbk
    have hb1 : x.1 82 + m < 2147483000 := by omega
    have hb2 : x.1 82 < 2147483000 := by omega
    have hb3 : x.1 82 + 1 + m < 2147483000 := by omega
    have on := s2_isOn (N := N) (σ := putC σ0 0 x) (i := 0)
    rw [putC_7] at on
    have e78 : (78 : Int).toNat = 78 := rfl
    have e80 : (80 : Int).toNat = 80 := rfl
    have e79 : (79 : Int).toNat = 79 := rfl
    rw [eX2_passTicks_4, if_pos n1, on, bnd_s, push_s, eX2_passTicks_9, eX9_waits_17, if_pos n1, s9_isOff, bnd_s, push_s, eX9_waits_22, ← hz.2]
    by_cases q : x.1 78 = -1
    · rw [if_pos q, if_pos q, if_pos rfl, if_neg (show ¬ (1 : Int) = 0 by decide)]
      exact ⟨x, τ, b, rfl, rfl, KM_refl τ, hz, hc, by omega⟩
    rw [if_neg q, if_neg q, if_neg (show ¬ (1 : Int) = 0 by decide), if_pos rfl, p2_cell _ (by decide) (by decide), bnd_s, push_s, eX2_passTicks_13, p2_setCell _ _ (by decide) (by decide), bnd_s, push_n, eX2_passTicks_20, p2_cell _ (by decide) (by decide), bnd_s, push_s, eX2_passTicks_23, s8_isSlot, bnd_s, push_s, eX2_passTicks_24, sup_row, e80, e79, e78, s9_isSR, bnd_s, push_s, eX9_waits_33]
    have t80 : τ 40 0 80 = x.1 79 := hz.1.2.1.symm
    have r40 : ∀ g, row τ 40 0 g 40 0 = g := fun g => row_same _ _ _ _
    have r38 : ∀ g, row τ 40 0 g 38 0 = τ 38 0 := fun g => by rw [row_at, if_neg (by decide)]
    rw [t80]
    generalize ht : w32 (x.1 79 + 1) = t
    have hz1 := RZ_tick hz t
    have hc1 := OKC_79 hc t
    have km1 := KM_row τ 40 (set (τ 40 0) 80 t) (Or.inl rfl)
    have he1 := EnvM_KM he km1
    have c82 : set x.1 79 t 82 = x.1 82 := set_ne _ _ (by decide)
    have c78 : set x.1 79 t 78 = x.1 78 := set_ne _ _ (by decide)
    have d78 : set (τ 40 0) 80 t 78 = x.1 78 := (set_ne _ _ (by decide)).trans hz.2.symm
    have goOn : ∃ (y : XP) (υ : Sto) (ans : Int), ev N mX2_passTicks 4 [vR 6 0, vI n, vI (b : Int), vI (w32 ((k : Int) + 1)), vI t] [] (P (putC σ0 0 (set x.1 79 t, x.2))) = some (some (vI ans), P (putC σ0 0 y)) ∧ ev N mX9_waits 17 [vR 30 0, vI n, vI (b : Int), vI (w32 ((k : Int) + 1))] [] (P (row τ 40 0 (set (τ 40 0) 80 t))) = some (some (vI ans), P υ) ∧ KM τ υ ∧ RZ y.1 (υ 40 0) ∧ OKC y.1 ∧ y.1 82 ≤ x.1 82 + ((m + 1 : Nat) : Int) := by
      obtain ⟨y, υ, ans, y1, y2, y3, y4, y5, y6⟩ := ih (k + 1) b (set x.1 79 t, x.2) (row τ 40 0 (set (τ 40 0) 80 t)) (vI t) n2 n5 (by rw [row_same]; exact hz1) hc1 he1 (show set x.1 79 t 82 + m < 2147483000 by rw [c82]; exact hb1) (show 0 ≤ set x.1 79 t 82 by rw [c82]; exact h0)
      have y6 : y.1 82 ≤ set x.1 79 t 82 + m := y6
      rw [c82] at y6
      refine ⟨y, υ, ans, ?_, ?_, KM_trans km1 y3, y4, y5, by omega⟩
      · rw [n3]; exact y1
      · rw [n3]; exact y2
    have e80c : set x.1 79 t 80 = x.1 80 := set_ne _ _ (by decide)
    have e79n : set (τ 40 0) 80 t 79 = x.1 80 := (set_ne _ _ (by decide)).trans hz.1.2.2.1.symm
    show ∃ (y : XP) (υ : Sto) (ans : Int), (if (if set x.1 79 t 78 = 0 ∨ set x.1 79 t 78 = 1 then (1 : Int) else 0) = 0 then _ else _) = _ ∧ _
    rw [r40, c78, d78]
    by_cases s : x.1 78 = 0 ∨ x.1 78 = 1
    case neg =>
      rw [if_neg s, if_pos rfl, if_pos rfl]
      exact goOn
    rw [if_pos s, if_neg (show ¬ (1 : Int) = 0 by decide), if_neg (show ¬ (1 : Int) = 0 by decide), p2_cell _ (by decide) (by decide), bnd_s, push_s, eX2_passTicks_28, put2, e80, r38, show (4 : Int).toNat = 4 from rfl, he.2.2.2.2.2.2.1, e79, e79n, set_same]
    show ∃ (y : XP) (υ : Sto) (ans : Int), (if set x.1 79 t 80 = 0 then _ else _) = _ ∧ _
    rw [e80c]
    by_cases u : x.1 80 = 0
    case neg =>
      rw [if_neg u, if_neg u]
      exact goOn
    rw [if_pos u, if_pos u]
    by_cases v : t < σ0 2 1 4
    case pos =>
      rw [if_pos v, if_pos v]
      exact goOn
    rw [if_neg v, if_neg v]
    clear goOn
    have tof := s2_turnOff (N := N) (σ := putC σ0 0 (set x.1 79 t, x.2)) (i := 0)
    rw [putC_7, row_putC7] at tof
    have nn : sup (sup (row τ 40 0 (set (τ 40 0) 80 t)) 40 0 78 (-1)) 40 0 80 0 = row τ 40 0 (set (set (τ 40 0) 78 (-1)) 80 0) := by
      rw [sup_row, sup_row, row_same, row_row, row_same, row_row, set_comm (τ 40 0) 80 78 _ _ (by decide), set_set]
    have hz2 := RZ_tick (RZ_78 hz) 0
    have km2 := KM_row τ 40 (set (set (τ 40 0) 78 (-1)) 80 0) (Or.inl rfl)
    obtain ⟨y, w1, ans2, υ, w2, w3, w4, w5, w6, w7⟩ := w_boot (N := N) (σ0 := σ0) (c := x.1) (g := x.2) (n := x.1) (τ := row τ 40 0 (set (set (τ 40 0) 78 (-1)) 80 0)) hg t (by rw [row_same]; exact hz2) hc (EnvM_KM he km2) h0 hb2
    have y82 : set y.1 79 0 82 = y.1 82 := set_ne _ _ (by decide)
    obtain ⟨z, ω, ans, z1, z2, z3, z4, z5, z6⟩ := ih (k + 1) (b + 1) (set y.1 79 0, y.2) υ (vI t) n2 n6 w4 (OKC_79 w5 0) (EnvM_KM (EnvM_KM he km2) w3) (show set y.1 79 0 82 + m < 2147483000 by rw [y82]; exact Int.lt_of_le_of_lt (Int.add_le_add_right w7 m) hb3) (show 0 ≤ set y.1 79 0 82 by rw [y82]; exact Int.le_trans h0 w6)
    have z6 : z.1 82 ≤ set y.1 79 0 82 + m := z6
    rw [y82] at z6
    refine ⟨z, ω, ans, ?_, ?_, KM_trans km2 (KM_trans w3 z3), z4, z5, by omega⟩
    · rw [tof, bnd_s, push_n, eX2_passTicks_36]
      show bnd (inv N mX2_perform [vR 6 0, vI 0, vI 0, vI 0, vI (-1)] (P (putC σ0 0 (set (set x.1 79 t) 78 (-1), x.2)))) _ = _
      rw [w1, bnd_s, push_s, eX2_passTicks_42, p2_setCell _ _ (by decide) (by decide), bnd_s, push_n, eX2_passTicks_47, n3, n4]
      exact z1
    · rw [e78, nn, w2, bnd_s, push_s, eX9_waits_64, n3, n4]
      exact z2
theorem pair_waits (n : Int) : PAIR N mX8_waits mX9_waits [vI n] := by
  intro L σ h hL
  have hcell := h.2.1
  have e78 := hcell.2.1.2
  have on := s2_isOn (N := N) (σ := σ) (i := 0)
  have oi := fun τ v lo hi => s9_in (N := N) (σ := τ) v lo hi
  by_cases q : 1 ≤ n ∧ n ≤ 200
  case neg =>
    refine ⟨-1, σ, σ, ?_, ?_, up300 h (by omega)⟩
    · rw [iX8_waits, eX8_waits_0]
      by_cases z : n < 1
      · rw [if_pos z]
      · rw [if_neg z, if_pos (by omega)]
    · rw [iX9_waits, eX9_waits_0, oi, if_neg q, bnd_s, push_s, eX9_waits_5, if_pos rfl]
  have q1 : ¬ n < 1 := by omega
  have q2 : ¬ 200 < n := by omega
  by_cases o : σ 7 0 78 = -1
  · refine ⟨-1, σ, σ, ?_, ?_, up300 h (by omega)⟩
    · rw [iX8_waits, eX8_waits_0, if_neg q1, if_neg q2, on, bnd_s, push_s, eX8_waits_9, if_pos o, if_pos rfl]
    · rw [iX9_waits, eX9_waits_0, oi, if_pos q, bnd_s, push_s, eX9_waits_5, if_neg (by decide), s9_isOff, bnd_s, push_s, eX9_waits_8, if_pos (e78.symm.trans o), if_neg (by decide)]
  have k6 := keepS_o σ (k := 6) 0 (by decide) (by decide)
  have k7 := keepS_o σ (k := 7) 0 (by decide) (by decide)
  have k40 := keepS_o σ (k := 40) 0 (by decide) (by decide)
  have k41 := keepS_o σ (k := 41) 0 (by decide) (by decide)
  have k30 := keepS_o σ (k := 30) 0 (by decide) (by decide)
  have hgk := OKG_FX (FX_keep σ) h.1.1
  have hb0 : 0 ≤ (σ 7 0) 82 := hcell.2.1.1.2.2.2.2.1
  obtain ⟨m, hm⟩ : ∃ m : Nat, (m : Int) = n := ⟨n.toNat, by omega⟩
  have hb1 : (σ 7 0) 82 + m < 2147483000 := by
    have := hcell.2.2
    clear hcell on oi e78
    omega
  have idk : putC (keepS σ) 0 (σ 7 0, σ 6 0) = keepS σ := by
    have := putC_id (keepS σ) 0
    rw [k6, k7] at this
    exact this
  have r := fun (y : XP) (k k' : Nat) (h6 : k ≠ 6) (h7 : k ≠ 7) => putC_o (keepS σ) 0 y (k := k) k' h6 h7
  have p30 := fun y => (r y 30 0 (by decide) (by decide)).trans k30
  have p40 := fun y => (r y 40 0 (by decide) (by decide)).trans k40
  have p41 := fun y => (r y 41 0 (by decide) (by decide)).trans k41
  have fx1 := fun y => FX_trans (FX_keep σ) (FX_put (keepS σ) 0 y)
  -- the model's store behind REMEMBERS does not depend on the class's loop but by the rows of the class's machine
  have lp := fun (y : XP) => w_loop (N := N) (σ0 := keepS σ) hgk n q.2 m 0 0 (σ 7 0, σ 6 0) (remS (putC (keepS σ) 0 y)) vX (by rw [Int.cast_ofNat_Int, Int.zero_add]; exact hm) (Nat.le_refl 0) (by rw [remS_o _ 0 (by decide) (by decide), p40]; exact hcell.2.1) hcell.1 (EnvM_FX (FX_trans (fx1 y) (FX_rem _)) (FX_keep σ) h.1.2.1) hb1 hb0
  obtain ⟨y, υ0, ans, a1, -, -, -, c1, -⟩ := lp (σ 7 0, σ 6 0)
  obtain ⟨y2, υ, ans2, b1, b2, b3, b4, b5, b6⟩ := lp y
  rw [a1] at b1
  have b1 := Option.some.inj b1
  have ea : ans = ans2 := Sum.inl.inj (Option.some.inj (congrArg Prod.fst b1))
  have es : putC (keepS σ) 0 y = putC (keepS σ) 0 y2 := congrArg (fun z : Option MV × MS => z.2.2.2) b1
  have ey : y.1 = y2.1 := by
    have := congrFun (congrFun es 7) 0
    rw [putC_7, putC_7] at this
    exact this
  have rm := a_rem (N := N) h (τ := putC (keepS σ) 0 y) (by rw [p30])
  have pb := past_both h (τ := putC (keepS σ) 0 y) (p41 y) (p40 y) (by rw [p30]) (r y 9 0 (by decide) (by decide)) (r y 10 0 (by decide) (by decide))
  have tr := fun (k : Nat) (hk : k ≠ 30 ∧ k ≠ 40 ∧ k ≠ 43 ∧ k ≠ 44 ∧ k ≠ 45) => KM_r b3 k hk 0
  have t7 : υ 7 0 = y2.1 := by
    rw [tr 7 (by decide), remS_o _ 0 (by decide) (by decide), ← ey]
    exact putC_7 _ _ _
  have le : y2.1 82 ≤ L + 300 := by
    have l1 : y2.1 82 ≤ σ 7 0 82 + m := b6
    have l2 := hcell.2.2
    clear hcell on oi e78 lp a1 b2 rm pb
    omega
  refine ⟨ans2, putC (keepS σ) 0 y, υ, ?_, ?_, BASE_FX (FX_trans (FX_trans (fx1 y) (FX_rem _)) (FX_KM b3)) h.1, ?_, ?_⟩
  · rw [Int.cast_ofNat_Int, idk] at a1
    rw [iX8_waits, eX8_waits_0, if_neg q1, if_neg q2, on, bnd_s, push_s, eX8_waits_9, if_neg o, if_neg (by decide), a_keep h, bnd_s, push_n, eX8_waits_15, iX2_passTicks, eX2_passTicks_0, a1, bnd_s, push_s, eX8_waits_19, ea]
  · rw [Int.cast_ofNat_Int] at b2
    rw [iX9_waits, eX9_waits_0, oi, if_pos q, bnd_s, push_s, eX9_waits_5, if_neg (by decide), s9_isOff, bnd_s, push_s, eX9_waits_8, p40, if_neg (fun z => o (e78.trans z)), if_pos rfl, rm, bnd_s, push_n, eX9_waits_13, b2]
  · rw [t7]
    exact ⟨b5, b4, le⟩
  · rw [tr 10 (by decide), tr 9 (by decide), tr 41 (by decide), b3.2 21 (by decide) (by decide) (by decide)]
    exact PAST_le pb (by omega)
end ACT
end
section
/-! THE FACTORY -/
section ACT
variable {N : Nat} {σ : Sto} {L : Int}
theorem s2_putImage (i s im : Nat) (hs : s < 4) (him : im < 6) : inv N mX2_putImage [vR 6 i, vI (s : Int), vI (im : Int)] (P σ) = some (none, P (row σ 7 i (cpyV (σ 5 1) (σ 7 i) (14 * im) (14 * s) 14))) := by
  have e1 : w32 ((im : Int) * 14) = ((14 * im : Nat) : Int) := by rw [w32i (by omega) (by omega)]; omega
  have e2 : w32 ((s : Int) * 14) = ((14 * s : Nat) : Int) := by rw [w32i (by omega) (by omega)]; omega
  have w1 : w32 (84 - 14) = 70 := rfl
  have w2 : w32 (107 - 14) = 93 := rfl
  rw [iX2_putImage, eX2_putImage_0, iX6_copy_k5_k7, eX6_copy_0_k5_k7, e1, e2, w1, w2]
  rw [if_neg (by omega), if_neg (by omega), if_neg (by omega), if_neg (by omega), if_neg (by omega), if_neg (by omega), if_neg (by omega), if_neg (by omega), if_neg (by omega), if_neg (by omega), bnd_s, push_n, eX2_putImage_13, cpy_row, Int.toNat_natCast, Int.toNat_natCast]
  rfl
/-- both copies out of an image -/
def imgV (w n : Vec) (a k : Nat) : Vec := cpyV w (cpyV w n a 28 k) a 42 k
theorem imgV_s (w n : Vec) (a k : Nat) (hk : k < 14) : set (set (imgV w n a k) (28 + k) (w (a + k))) (42 + k) (w (a + k)) = imgV w n a (k + 1) := by
  have e : set (cpyV w (cpyV w n a 28 k) a 42 k) (28 + k) (w (a + k)) = cpyV w (set (cpyV w n a 28 k) (28 + k) (w (a + k))) a 42 k := by
    funext j
    unfold set cpyV
    by_cases h : j = 28 + k
    · rw [if_pos h, if_neg (by omega)]
      exact (if_pos h).symm
    · rw [if_neg h]
      by_cases h2 : 42 ≤ j ∧ j < 42 + k
      · rw [if_pos h2, if_pos h2]
      · rw [if_neg h2, if_neg h2]
        exact (if_neg h).symm
  unfold imgV
  rw [e, cpyV_s, cpyV_s]
theorem s9_fac_loop (im : Nat) (him : im < 6) : ∀ (m k : Nat), k + m = 14 → ev N mX9_factory 22 [vR 30 0, vI (im : Int), vI (k : Int)] [] (P (row σ 40 0 (imgV (σ 36 0) (σ 40 0) (14 * im) k))) = some (some (vI 1), P (row σ 40 0 (imgV (σ 36 0) (σ 40 0) (14 * im) 14))) := by
  intro m
  induction m with
  | zero =>
    intro k hk
    have e : k = 14 := by omega
    subst e
    rw [eX9_factory_22, if_neg (by omega)]
  | succ m ih =>
    intro k hk
    have e1 : w32 (w32 (14 * (im : Int)) + (k : Int)) = ((14 * im + k : Nat) : Int) := by rw [w32i (x := 14 * (im : Int)) (by omega) (by omega), w32i (by omega) (by omega)]; omega
    have e2 : w32 (28 + (k : Int)) = ((28 + k : Nat) : Int) := by rw [w32i (by omega) (by omega)]; omega
    have e3 : w32 (42 + (k : Int)) = ((42 + k : Nat) : Int) := by rw [w32i (by omega) (by omega)]; omega
    have e4 : w32 ((k : Int) + 1) = ((k + 1 : Nat) : Int) := by rw [w32i (by omega) (by omega)]; omega
    have r36 : ∀ g, row σ 40 0 g 36 0 = σ 36 0 := fun g => by rw [row_at, if_neg (by omega)]
    rw [eX9_factory_22, if_pos (by omega), e1, e2, e3, e4, if_neg (by omega), if_pos (by omega), if_neg (by omega), if_pos (by omega), if_neg (by omega), if_pos (by omega), if_neg (by omega), if_pos (by omega)]
    simp only [Int.toNat_natCast, sup_row, row_same, row_row, r36]
    rw [imgV_s _ _ _ _ (by omega)]
    exact ih (k + 1) (by omega)
theorem CELL_img {c n w w2 : Vec} {a : Nat} (h : CELL L c n) (hw : ∀ j, j < 14 → w2 (a + j) = w (a + j)) (hr : ∀ j, j < 14 → 0 ≤ w (a + j) ∧ w (a + j) < 2147483648) : CELL L (imgV w c a 14) (imgV w2 n a 14) := by
  have v : ∀ (f g : Vec) (j : Nat), imgV f g a 14 j = if 28 ≤ j ∧ j < 42 then f (a + (j - 28)) else if 42 ≤ j ∧ j < 56 then f (a + (j - 42)) else g j := by
    intro f g j
    unfold imgV cpyV
    by_cases h1 : 28 ≤ j ∧ j < 42
    · rw [if_neg (show ¬ (42 ≤ j ∧ j < 42 + 14) by omega), if_pos (show 28 ≤ j ∧ j < 28 + 14 by omega)]
      exact (if_pos h1).symm
    · by_cases h2 : 42 ≤ j ∧ j < 56
      · rw [if_pos (show 42 ≤ j ∧ j < 42 + 14 by omega)]
        exact ((if_neg h1).trans (if_pos h2)).symm
      · rw [if_neg (show ¬ (42 ≤ j ∧ j < 42 + 14) by omega), if_neg (show ¬ (28 ≤ j ∧ j < 28 + 14) by omega)]
        exact ((if_neg h1).trans (if_neg h2)).symm
  have o : ∀ (f g : Vec) (j : Nat), 56 ≤ j → imgV f g a 14 j = g j := by
    intro f g j hj
    rw [v, if_neg (by omega), if_neg (by omega)]
  obtain ⟨⟨c1, c2, c3, c4, c5⟩, ⟨⟨b1, b2, b3, b4, b5⟩, d⟩, e⟩ := h
  refine ⟨⟨fun j hj => ?_, fun j hj hj2 => ?_, ?_, ?_, ?_⟩, ⟨⟨fun j hj => ?_, ?_, ?_, ?_, RS_congr b5 (fun j hj => o _ _ j (by omega)) (fun j hj => o _ _ j (by omega))⟩, ?_⟩, ?_⟩
  · rw [v]
    split
    · exact hr _ (by omega)
    · split
      · exact hr _ (by omega)
      · exact c1 j hj
  · rw [o _ _ j hj]
    exact c2 j hj hj2
  · rw [o _ _ 76 (by omega)]
    exact c3
  · rw [o _ _ 77 (by omega)]
    exact c4
  · rw [o _ _ 78 (by omega)]
    exact c5
  · rw [v, v]
    by_cases h1 : 28 ≤ j ∧ j < 42
    · rw [if_pos h1, if_pos h1, hw _ (by omega)]
    · rw [if_neg h1, if_neg h1]
      by_cases h2 : 42 ≤ j ∧ j < 56
      · rw [if_pos h2, if_pos h2, hw _ (by omega)]
      · rw [if_neg h2, if_neg h2, b1 j hj]
  · rw [o _ _ 79 (by omega), o _ _ 80 (by omega), b2]
  · rw [o _ _ 80 (by omega), o _ _ 79 (by omega), b3]
  · rw [o _ _ 81 (by omega), o _ _ 81 (by omega), b4]
  · rw [o _ _ 78 (by omega), o _ _ 78 (by omega), d]
  · rw [o _ _ 82 (by omega)]
    exact e
end ACT
end
section
/-! THE FACTORY, whole -/
section ACT
variable {N : Nat} {σ : Sto} {L : Int}
theorem pair_factory (b : Int) : PAIR N mX8_factory mX9_factory [vI b] := by
  intro L σ h hL
  have he := h.1.2.1
  have hg := h.1.1
  have im := he.2.2.2.1
  have i0 := hg.2.2.1
  have i6 := hg.2.2.2.1
  have wd := he.2.2.2.2.2.2.2.1
  have e78 := h.2.1.2.1.2
  have on := s2_isOn (N := N) (σ := σ) (i := 0)
  have hr := s0_hasRec (N := N) (σ := σ) (j := 1) hg b
  have mi := fun (τ : Sto) (e : τ 30 0 = σ 30 0) => s9_isImage (N := N) (σ := τ) (by rw [e, im]; exact i0) (by rw [e, im]; exact i6) b
  have cr := hg.2.2.2.2.2.2.2.2.2.2.2.2
  have eqw : 0 ≤ b → b < σ 2 1 1 → σ 36 0 (14 * b.toNat + 1) = σ 5 1 (14 * b.toNat + 1) := fun z1 z2 => wd _ (by clear on hr mi cr wd he hg im h; omega)
  have ew : 0 ≤ b → b < 6 → w32 (w32 (14 * b) + 1) = ((14 * b.toNat + 1 : Nat) : Int) := fun z1 z2 => by
    clear on hr mi cr wd he hg im h eqw
    rw [w32i (x := 14 * b) (by omega) (by omega), w32i (by omega) (by omega)]
    omega
  have nn : b < 6 → 0 ≤ b → ¬ (((14 * b.toNat + 1 : Nat) : Int) < 0) ∧ ((14 * b.toNat + 1 : Nat) : Int) < 84 := fun z1 z2 => by
    clear on hr mi cr wd he hg im h eqw ew
    omega
  by_cases o : σ 7 0 78 = -1
  case neg =>
    refine ⟨0, σ, σ, ?_, ?_, up300 h (by omega)⟩
    · rw [iX8_factory, eX8_factory_0, on, bnd_s, push_s, eX8_factory_3, if_neg o, if_neg (by decide)]
    · rw [iX9_factory, eX9_factory_0, s9_isOff, bnd_s, push_s, eX9_factory_2, if_neg (fun z => o (e78.trans z)), if_pos rfl]
  have o9 : σ 40 0 78 = -1 := e78.symm.trans o
  by_cases q : 0 ≤ b ∧ b < σ 2 1 1 ∧ σ 5 1 (14 * b.toNat + 1) = 0
  case neg =>
    refine ⟨0, σ, σ, ?_, ?_, up300 h (by omega)⟩
    · rw [iX8_factory, eX8_factory_0, on, bnd_s, push_s, eX8_factory_3, if_pos o, if_pos rfl, hr, if_neg q, bnd_s, push_s, eX8_factory_8, if_pos rfl]
    · rw [iX9_factory, eX9_factory_0, s9_isOff, bnd_s, push_s, eX9_factory_2, if_pos o9, if_neg (by decide), mi σ rfl, im, bnd_s, push_s, eX9_factory_6]
      by_cases q1 : 0 ≤ b ∧ b < σ 2 1 1
      · have b6 : b < 6 := Int.lt_of_lt_of_le q1.2 i6
        have n := nn b6 q1.1
        rw [if_pos q1, if_neg (by decide), ew q1.1 b6, if_neg n.1, if_pos n.2, Int.toNat_natCast, eqw q1.1 q1.2, if_neg (fun z => q ⟨q1.1, q1.2, z⟩)]
      · rw [if_neg q1, if_pos rfl]
  have b6 : b < 6 := Int.lt_of_lt_of_le q.2.1 i6
  have n := nn b6 q.1
  have ewb := ew q.1 b6
  have eqb := eqw q.1 q.2.1
  have bn : ((b.toNat : Nat) : Int) = b := Int.toNat_of_nonneg q.1
  have bn6 : b.toNat < 6 := Int.ofNat_lt.mp (by rw [bn]; exact b6)
  have wj : ∀ j, j < 14 → σ 36 0 (14 * b.toNat + j) = σ 5 1 (14 * b.toNat + j) := fun j hj => env_words he (by rw [bn]; exact q.2.1) j hj
  have rj : ∀ j, j < 14 → 0 ≤ σ 5 1 (14 * b.toNat + j) ∧ σ 5 1 (14 * b.toNat + j) < 2147483648 := fun j hj => wrd_r hg (14 * b.toNat) (n84 bn6) j hj
  have ci := CELL_img (a := 14 * b.toNat) h.2.1 wj rj
  have k7 := keepS_o σ (k := 7) 0 (by decide) (by decide)
  have k5 := keepS_o σ (k := 5) 1 (by decide) (by decide)
  have p2 := s2_putImage (N := N) (σ := keepS σ) 0 2 b.toNat (by decide) bn6
  rw [k7, k5] at p2
  have p3 := s2_putImage (N := N) (σ := row (keepS σ) 7 0 (cpyV (σ 5 1) (σ 7 0) (14 * b.toNat) (14 * 2) 14)) 0 3 b.toNat (by decide) bn6
  rw [row_same, row_row, row_at, if_neg (by decide), k5] at p3
  rw [bn] at p2 p3
  have c3 : cpyV (σ 5 1) (cpyV (σ 5 1) (σ 7 0) (14 * b.toNat) (14 * 2) 14) (14 * b.toNat) (14 * 3) 14 = imgV (σ 5 1) (σ 7 0) (14 * b.toNat) 14 := rfl
  rw [c3] at p3
  generalize hc : imgV (σ 5 1) (σ 7 0) (14 * b.toNat) 14 = c at p3 ci
  have ox := fun (k : Nat) (hk : k ≠ 7) => (row_at (keepS σ) 7 0 c k 0).trans (if_neg (fun z => hk z.1))
  have p40 := (ox 40 (by decide)).trans (keepS_o σ (k := 40) 0 (by decide) (by decide))
  have p30 := (ox 30 (by decide)).trans (keepS_o σ (k := 30) 0 (by decide) (by decide))
  have p36 := (ox 36 (by decide)).trans (keepS_o σ (k := 36) 0 (by decide) (by decide))
  have rm := a_rem (N := N) h (τ := row (keepS σ) 7 0 c) (by rw [p30])
  have s40 : remS (row (keepS σ) 7 0 c) 40 0 = σ 40 0 := (remS_o _ 0 (by decide) (by decide)).trans p40
  have s36 : remS (row (keepS σ) 7 0 c) 36 0 = σ 36 0 := (remS_o _ 0 (by decide) (by decide)).trans p36
  have lp := s9_fac_loop (N := N) (σ := remS (row (keepS σ) 7 0 c)) b.toNat bn6 14 0 rfl
  rw [s40, s36, bn, Int.cast_ofNat_Int] at lp
  have z0 : row (remS (row (keepS σ) 7 0 c)) 40 0 (imgV (σ 36 0) (σ 40 0) (14 * b.toNat) 0) = remS (row (keepS σ) 7 0 c) := by
    unfold imgV
    rw [cpyV_0, cpyV_0, ← s40, row_id]
  rw [z0] at lp
  have w28 : ((2 : Nat) : Int) = 2 := rfl
  refine ⟨1, row (keepS σ) 7 0 c, row (remS (row (keepS σ) 7 0 c)) 40 0 (imgV (σ 36 0) (σ 40 0) (14 * b.toNat) 14), ?_, ?_, up300 (a_cells h ci) (by omega)⟩
  · simp only [Int.cast_ofNat_Int] at p2 p3
    rw [iX8_factory, eX8_factory_0, on, bnd_s, push_s, eX8_factory_3, if_pos o, if_pos rfl, hr, if_pos q, bnd_s, push_s, eX8_factory_8, if_neg (by decide), a_keep h, bnd_s, push_n, eX8_factory_14, p2, bnd_s, push_n, eX8_factory_19, p3, bnd_s, push_n, eX8_factory_24]
  · rw [iX9_factory, eX9_factory_0, s9_isOff, bnd_s, push_s, eX9_factory_2, p40, if_pos o9, if_neg (by decide), mi _ p30, p30, im, bnd_s, push_s, eX9_factory_6, if_pos (show 0 ≤ b ∧ b < σ 2 1 1 from ⟨q.1, q.2.1⟩), if_neg (by decide), ewb, if_neg n.1, if_pos n.2, Int.toNat_natCast, p36, eqb, if_pos q.2.2, rm, bnd_s, push_n, eX9_factory_20]
    exact lp
end ACT
end
section
/-! FEED -/
def cb (a : Int) (s : Int) : Int := bAnd (shr32 a s) 255
def mb (a : Int) (s : Int) : Int := w8 (w8 (shr32 a s))
def fdV (f : Int → Int → Int) (r : Vec) (t : Nat) (a : Int) : Vec := set (set (set (set r t (f a 24)) (t + 1) (f a 16)) (t + 2) (f a 8)) (t + 3) (f a 0)
def TP (r m : Vec) : Prop := ∀ j, j < 300 → 0 ≤ r j ∧ r j < 256 ∧ -128 ≤ m j ∧ m j < 128 ∧ m j % 256 = r j
theorem w8_r (x : Int) : -128 ≤ w8 x ∧ w8 x < 128 ∧ w8 x % 256 = x % 256 := by
  unfold w8
  omega
theorem TP_set {r m : Vec} (h : TP r m) (t : Nat) (a s : Int) : TP (set r t (cb a s)) (set m t (mb a s)) := by
  intro j hj
  by_cases q : j = t
  · subst q
    rw [set_same, set_same]
    unfold cb mb
    rw [bAnd_255]
    have h1 := w8_r (w8 (shr32 a s))
    have h2 := w8_r (shr32 a s)
    generalize w8 (w8 (shr32 a s)) = y at h1
    generalize w8 (shr32 a s) = z at h1 h2
    generalize shr32 a s = x at h2
    omega
  · rw [set_ne _ _ q, set_ne _ _ q]
    exact h j hj
theorem TP_fd {r m : Vec} (h : TP r m) (t : Nat) (a : Int) : TP (fdV cb r t a) (fdV mb m t a) := TP_set (TP_set (TP_set (TP_set h _ _ _) _ _ _) _ _ _) _ _ _
section ASK
variable {N : Nat} {σ : Sto} {L : Int}
theorem m_puts (t : Nat) (ht : t + 4 ≤ 300) (h : σ 30 0 1 = (t : Int)) (a : Int) : inv N mX9_puts [vR 30 0, vI a] (P σ) = some (none, P (row (row σ 31 0 (fdV mb (σ 31 0) t a)) 30 0 (set (σ 30 0) 1 ((t + 4 : Nat) : Int)))) := by
  have st : ∀ (s : Int) (t : Nat) (τ : Sto), 0 ≤ s → s ≤ 24 → t < 300 → τ 30 0 1 = (t : Int) → ev N mX9_puts 2 [vR 30 0, vI a, vI s] [] (P τ) = ev N mX9_puts 2 [vR 30 0, vI a, vI (s - 8)] [] (P (row (row τ 31 0 (set (τ 31 0) t (mb a s))) 30 0 (set (τ 30 0) 1 ((t + 1 : Nat) : Int)))) := by
    intro s t τ s0 s1 h300 ht
    have e1 : w32 ((t : Int) + 1) = ((t + 1 : Nat) : Int) := by rw [w32i (by omega) (by omega)]; omega
    have e2 : w32 (s + -8) = s - 8 := by rw [w32i (by omega) (by omega)]; omega
    have r30 : ∀ g, row τ 31 0 g 30 0 = τ 30 0 := fun g => by rw [row_at, if_neg (by omega)]
    rw [eX9_puts_2, if_neg (by omega), ht, if_neg (by omega), if_pos (by omega), sup_row, sup_row, r30, ht, e1, e2, Int.toNat_natCast]
    rfl
  have r31 : ∀ (g f : Vec), row (row σ 31 0 g) 30 0 f 31 0 = g := fun g f => by rw [row_at, if_neg (by omega), row_same]
  have cm : ∀ (g f g2 f2 : Vec), row (row (row (row σ 31 0 g) 30 0 f) 31 0 g2) 30 0 f2 = row (row σ 31 0 g2) 30 0 f2 := by
    intro g f g2 f2
    rw [row_comm (row σ 31 0 g) 30 0 31 0 f g2 (by omega), row_row, row_row]
  rw [iX9_puts, eX9_puts_0, st 24 t σ (by omega) (by omega) (by omega) h, st _ (t + 1) _ (by omega) (by omega) (by omega) (by rw [row_same, set_same]), cm, row_same, r31, st _ (t + 1 + 1) _ (by omega) (by omega) (by omega) (by rw [row_same, set_same]), cm, row_same, r31, st _ (t + 1 + 1 + 1) _ (by omega) (by omega) (by omega) (by rw [row_same, set_same]), cm, row_same, r31, eX9_puts_2, if_pos (by omega)]
  simp only [set_set]
  rfl
end ASK
end
section
/-! FEED, whole -/
section ASK
variable {N : Nat} {σ : Sto} {L : Int}
theorem c_feedN (t : Nat) (ht : t + 4 ≤ 300) (h : σ 0 0 1 = (t : Int)) (a : Int) : inv N mX8_feedNumber [vR 0 0, vI a] (P σ) = some (none, P (row (row σ 1 0 (fdV cb (σ 1 0) t a)) 0 0 (set (σ 0 0) 1 ((t + 4 : Nat) : Int)))) := by
  have st : ∀ (s : Int) (t : Nat) (τ : Sto), 0 ≤ s → s ≤ 24 → t < 300 → τ 0 0 1 = (t : Int) → ev N mX8_feedNumber 2 [vR 0 0, vI a, vI s] [] (P τ) = ev N mX8_feedNumber 2 [vR 0 0, vI a, vI (s - 8)] [] (P (row (row τ 1 0 (set (τ 1 0) t (cb a s))) 0 0 (set (τ 0 0) 1 ((t + 1 : Nat) : Int)))) := by
    intro s t τ s0 s1 h300 ht
    have e1 : w32 ((t : Int) + 1) = ((t + 1 : Nat) : Int) := by rw [w32i (by omega) (by omega)]; omega
    have e2 : w32 (s + -8) = s - 8 := by rw [w32i (by omega) (by omega)]; omega
    have r00 : ∀ g, row τ 1 0 g 0 0 = τ 0 0 := fun g => by rw [row_at, if_neg (by omega)]
    have n0 : 0 ≤ (t : Int) := by omega
    have n1 : (t : Int) < 300 := by omega
    rw [eX8_feedNumber_2, if_neg (by omega), ht, s6_put1 _ _ n0 n1, bnd_s, push_n, eX8_feedNumber_14, sup_row, r00, ht, e1, e2, Int.toNat_natCast]
    rfl
  have r31 : ∀ (g f : Vec), row (row σ 1 0 g) 0 0 f 1 0 = g := fun g f => by rw [row_at, if_neg (by omega), row_same]
  have cm : ∀ (g f g2 f2 : Vec), row (row (row (row σ 1 0 g) 0 0 f) 1 0 g2) 0 0 f2 = row (row σ 1 0 g2) 0 0 f2 := by
    intro g f g2 f2
    rw [row_comm (row σ 1 0 g) 0 0 1 0 f g2 (by omega), row_row, row_row]
  rw [iX8_feedNumber, eX8_feedNumber_0, st 24 t σ (by omega) (by omega) (by omega) h, st _ (t + 1) _ (by omega) (by omega) (by omega) (by rw [row_same, set_same]), cm, row_same, r31, st _ (t + 1 + 1) _ (by omega) (by omega) (by omega) (by rw [row_same, set_same]), cm, row_same, r31, st _ (t + 1 + 1 + 1) _ (by omega) (by omega) (by omega) (by rw [row_same, set_same]), cm, row_same, r31, eX8_feedNumber_2, if_pos (by omega)]
  simp only [set_set]
  rfl
/-- five numbers -/
def fd5 (f : Int → Int → Int) (r : Vec) (t : Nat) (a b c d e : Int) : Vec := fdV f (fdV f (fdV f (fdV f (fdV f r t a) (t + 4) b) (t + 4 + 4) c) (t + 4 + 4 + 4) d) (t + 4 + 4 + 4 + 4) e
theorem c_feed (t : Nat) (ht : t ≤ 280) (h : σ 0 0 1 = (t : Int)) (a b c d e : Int) : inv N mX8_feed [vR 0 0, vI a, vI b, vI c, vI d, vI e] (P σ) = some (some (vI ((t + 20 : Nat) : Int)), P (row (row σ 1 0 (fd5 cb (σ 1 0) t a b c d e)) 0 0 (set (σ 0 0) 1 ((t + 20 : Nat) : Int)))) := by
  have r1 : ∀ (g f : Vec), row (row σ 1 0 g) 0 0 f 1 0 = g := fun g f => by rw [row_at, if_neg (by omega), row_same]
  have cm : ∀ (g f g2 f2 : Vec), row (row (row (row σ 1 0 g) 0 0 f) 1 0 g2) 0 0 f2 = row (row σ 1 0 g2) 0 0 f2 := by
    intro g f g2 f2
    rw [row_comm (row σ 1 0 g) 0 0 1 0 f g2 (by omega), row_row, row_row]
  rw [iX8_feed, eX8_feed_0, h, if_neg (by omega), c_feedN t (by omega) h, bnd_s, push_n, eX8_feed_9, c_feedN (t + 4) (by omega) (by rw [row_same, set_same]), cm, row_same, r1, bnd_s, push_n, eX8_feed_12, c_feedN (t + 4 + 4) (by omega) (by rw [row_same, set_same]), cm, row_same, r1, bnd_s, push_n, eX8_feed_15, c_feedN (t + 4 + 4 + 4) (by omega) (by rw [row_same, set_same]), cm, row_same, r1, bnd_s, push_n, eX8_feed_18, c_feedN (t + 4 + 4 + 4 + 4) (by omega) (by rw [row_same, set_same]), cm, row_same, r1, bnd_s, push_n, eX8_feed_21, row_same, set_same]
  simp only [set_set]
  rfl
theorem m_feed (t : Nat) (ht : t ≤ 280) (h : σ 30 0 1 = (t : Int)) (a b c d e : Int) : inv N mX9_feed [vR 30 0, vI a, vI b, vI c, vI d, vI e] (P σ) = some (some (vI ((t + 20 : Nat) : Int)), P (row (row σ 31 0 (fd5 mb (σ 31 0) t a b c d e)) 30 0 (set (σ 30 0) 1 ((t + 20 : Nat) : Int)))) := by
  have r1 : ∀ (g f : Vec), row (row σ 31 0 g) 30 0 f 31 0 = g := fun g f => by rw [row_at, if_neg (by omega), row_same]
  have cm : ∀ (g f g2 f2 : Vec), row (row (row (row σ 31 0 g) 30 0 f) 31 0 g2) 30 0 f2 = row (row σ 31 0 g2) 30 0 f2 := by
    intro g f g2 f2
    rw [row_comm (row σ 31 0 g) 30 0 31 0 f g2 (by omega), row_row, row_row]
  have w : w32 ((t : Int) + 20) = (t : Int) + 20 := w32i (by omega) (by omega)
  rw [iX9_feed, eX9_feed_0, h, w, if_neg (by omega), m_puts t (by omega) h, bnd_s, push_n, eX9_feed_11, m_puts (t + 4) (by omega) (by rw [row_same, set_same]), cm, row_same, r1, bnd_s, push_n, eX9_feed_14, m_puts (t + 4 + 4) (by omega) (by rw [row_same, set_same]), cm, row_same, r1, bnd_s, push_n, eX9_feed_17, m_puts (t + 4 + 4 + 4) (by omega) (by rw [row_same, set_same]), cm, row_same, r1, bnd_s, push_n, eX9_feed_20, m_puts (t + 4 + 4 + 4 + 4) (by omega) (by rw [row_same, set_same]), cm, row_same, r1, bnd_s, push_n, eX9_feed_23, row_same, set_same]
  simp only [set_set]
  rfl
end ASK
end
section
/-! FEED: the pair -/
section ASK
variable {N : Nat} {σ : Sto} {L : Int}
theorem INV_new2 (h : INV L σ) {τ : Sto} (o : ∀ k k', k ≠ 0 → k ≠ 1 → k ≠ 30 → k ≠ 31 → τ k k' = σ k k') (e5 : τ 30 0 5 = σ 30 0 5) (e6 : τ 30 0 6 = σ 30 0 6) (e21 : τ 30 0 21 = σ 30 0 21) (ht : TAPE τ) (hd : DRAWN τ) : INV L τ := by
  obtain ⟨⟨b1, b2, b3, b4, b5⟩, c, p⟩ := h
  have o := fun (k k' : Nat) (hk : k ≠ 0 ∧ k ≠ 1 ∧ k ≠ 30 ∧ k ≠ 31) => o k k' hk.1 hk.2.1 hk.2.2.1 hk.2.2.2
  refine ⟨⟨?_, ?_, ht, hd, ?_⟩, ?_, ?_⟩
  · unfold OKG at b1 ⊢
    rw [o 2 1 (by decide), o 3 1 (by decide), o 4 1 (by decide), o 5 1 (by decide)]
    exact b1
  · unfold EnvM OKM whyM whyS at b2 ⊢
    rw [o 32 0 (by decide), o 33 0 (by decide), o 36 0 (by decide), o 38 0 (by decide), e5, e6, o 2 1 (by decide), o 3 1 (by decide), o 4 1 (by decide), o 5 1 (by decide)]
    exact b2
  · unfold DRAFT at b5 ⊢
    rw [o 3 0 (by decide), o 5 0 (by decide)]
    exact b5
  · rw [o 7 0 (by decide), o 40 0 (by decide)]
    exact c
  · rw [o 10 0 (by decide), o 9 0 (by decide), o 41 0 (by decide), e21]
    exact p
theorem pair_feed (a b c d e : Int) : PAIR N mX8_feed mX9_feed [vI a, vI b, vI c, vI d, vI e] := by
  intro L σ h hL
  obtain ⟨t0, t1, t2, t3⟩ := h.1.2.2.1
  have hd := h.1.2.2.2.1
  obtain ⟨t, et⟩ : ∃ t : Nat, σ 0 0 1 = (t : Int) := ⟨(σ 0 0 1).toNat, by omega⟩
  have et2 : σ 30 0 1 = (t : Int) := t2.trans et
  by_cases q : t ≤ 280
  case neg =>
    refine ⟨-1, σ, σ, ?_, ?_, up300 h (by omega)⟩
    · rw [iX8_feed, eX8_feed_0, et, if_pos (by omega)]
    · rw [iX9_feed, eX9_feed_0, et2, w32i (by omega) (by omega), if_pos (by omega)]
  have cf := c_feed (N := N) t q et a b c d e
  generalize hs : row (row σ 1 0 (fd5 cb (σ 1 0) t a b c d e)) 0 0 (set (σ 0 0) 1 ((t + 20 : Nat) : Int)) = τ at cf
  have s30 : τ 30 0 = σ 30 0 := by rw [← hs, row_at, if_neg (by decide), row_at, if_neg (by decide)]
  have s31 : τ 31 0 = σ 31 0 := by rw [← hs, row_at, if_neg (by decide), row_at, if_neg (by decide)]
  have s1 : τ 1 0 = fd5 cb (σ 1 0) t a b c d e := by rw [← hs, row_at, if_neg (by decide), row_same]
  have s0 : τ 0 0 = set (σ 0 0) 1 ((t + 20 : Nat) : Int) := by rw [← hs, row_same]
  have so : ∀ k k', k ≠ 0 → k ≠ 1 → τ k k' = σ k k' := fun k k' h0 h1 => by rw [← hs, row_at, if_neg (fun z => h0 z.1), row_at, if_neg (fun z => h1 z.1)]
  have mf := m_feed (N := N) (σ := τ) t q (by rw [s30]; exact et2) a b c d e
  rw [s30, s31] at mf
  generalize hs2 : row (row τ 31 0 (fd5 mb (σ 31 0) t a b c d e)) 30 0 (set (σ 30 0) 1 ((t + 20 : Nat) : Int)) = υ at mf
  have u30 : υ 30 0 = set (σ 30 0) 1 ((t + 20 : Nat) : Int) := by rw [← hs2, row_same]
  have u31 : υ 31 0 = fd5 mb (σ 31 0) t a b c d e := by rw [← hs2, row_at, if_neg (by decide), row_same]
  have uo : ∀ k k', k ≠ 30 → k ≠ 31 → υ k k' = τ k k' := fun k k' h0 h1 => by rw [← hs2, row_at, if_neg (fun z => h0 z.1), row_at, if_neg (fun z => h1 z.1)]
  have tp : TP (fd5 cb (σ 1 0) t a b c d e) (fd5 mb (σ 31 0) t a b c d e) := TP_fd (TP_fd (TP_fd (TP_fd (TP_fd t3 _ _) _ _) _ _) _ _) _ _
  refine ⟨_, τ, υ, cf, mf, up300 (INV_new2 h (fun k k' h0 h1 h3 h4 => (uo k k' h3 h4).trans (so k k' h0 h1)) ?_ ?_ ?_ ?_ ?_) (by omega)⟩
  · rw [u30, set_ne _ _ (by decide)]
  · rw [u30, set_ne _ _ (by decide)]
  · rw [u30, set_ne _ _ (by decide)]
  · unfold TAPE
    rw [u30, u31, uo 0 0 (by decide) (by decide), uo 1 0 (by decide) (by decide), s0, s1, set_same, set_same]
    exact ⟨by omega, by omega, rfl, tp⟩
  · unfold DRAWN at hd ⊢
    rw [u30, uo 0 0 (by decide) (by decide), s0, set_ne _ _ (by decide), set_ne _ _ (by decide)]
    exact hd
end ASK
end
section
/-! TRIALS: what both try -/
section TRY
variable {N : Nat} {σ σ0 : Sto} {L : Int}
theorem c_take (i j : Nat) : inv N mX2_takeFrom [vR 6 i, vR 6 j] (P σ) = some (none, P (row σ 7 i (cpyV (σ 7 j) (σ 7 i) 0 0 107))) := by
  have w : w32 (107 - 107) = 0 := rfl
  rw [iX2_takeFrom, eX2_takeFrom_0, iX6_copy_k7_k7, eX6_copy_0_k7_k7, w]
  rw [if_neg (by omega), if_neg (by omega), if_neg (by omega), if_neg (by omega), if_neg (by omega), if_neg (by omega), if_neg (by omega), if_neg (by omega), if_neg (by omega), if_neg (by omega), bnd_s, push_n, eX2_takeFrom_8, cpy_row]
  rfl
theorem cpy_all (f g : Vec) {j : Nat} (hj : j < 107) : cpyV f g 0 0 107 j = f j := by
  have := cpyV_in f g 0 0 107 j hj
  rw [Nat.zero_add] at this
  exact this
theorem m_thinks (a : Nat) (ha : a < 3) : inv N mX9_thinks [vR 30 0, vI (a : Int)] (P σ) = some (none, P (row σ 42 0 (cpyV (σ 40 0) (σ 42 0) 0 (107 * a) 107))) := by
  have e : w32 (107 * (a : Int)) = ((107 * a : Nat) : Int) := by rw [w32i (by omega) (by omega)]; omega
  rw [iX9_thinks, eX9_thinks_0, e, s9_keep42 _ (by omega), bnd_s, push_n, eX9_thinks_7]
theorem m_putsBack (a : Nat) (ha : a < 3) : inv N mX9_putsBack [vR 30 0, vI (a : Int)] (P σ) = some (none, P (row σ 40 0 (cpyV (σ 42 0) (σ 40 0) (107 * a) 0 107))) := by
  have e : w32 (107 * (a : Int)) = ((107 * a : Nat) : Int) := by rw [w32i (by omega) (by omega)]; omega
  rw [iX9_putsBack, eX9_putsBack_0, e, s9_lays42 _ (by omega), bnd_s, push_n, eX9_putsBack_7]
end TRY
end
section
/-! TRIALS: what a boot would start -/
section TRY
variable {N : Nat} {σ σ0 : Sto} {L : Int}
/-- what the model's thinking leaves: all but fields 22 to 24, the rows of flags, of what is put by from a place on -/
def WM (b : Nat) (σ τ : Sto) : Prop := (∀ k k', ¬ (k' = 0 ∧ (k = 30 ∨ k = 40 ∨ k = 42 ∨ k = 43 ∨ k = 44 ∨ k = 45)) → τ k k' = σ k k') ∧ (∀ j, j ≠ 22 → j ≠ 23 → j ≠ 24 → τ 30 0 j = σ 30 0 j) ∧ (∀ j, j < 107 → τ 40 0 j = σ 40 0 j) ∧ (∀ j, j < b → τ 42 0 j = σ 42 0 j)
theorem EnvM_o {τ : Sto} (h : EnvM σ0 σ) (o : ∀ k k', ¬ (k' = 0 ∧ (k = 30 ∨ k = 40 ∨ k = 42 ∨ k = 43 ∨ k = 44 ∨ k = 45)) → τ k k' = σ k k') (f : ∀ j, j ≠ 22 → j ≠ 23 → j ≠ 24 → τ 30 0 j = σ 30 0 j) : EnvM σ0 τ := by
  unfold EnvM OKM whyM at h ⊢
  rw [o 32 0 (by decide), o 33 0 (by decide), o 36 0 (by decide), o 38 0 (by decide), f 5 (by decide) (by decide) (by decide), f 6 (by decide) (by decide) (by decide)]
  exact h
theorem m_would (hg : OKG σ0 1) {c g : Vec} (hz : RZ c (σ 40 0)) (hc : OKC c) (he : EnvM σ0 σ) (hb : c 82 < 2147483000) (b : Int) (hb01 : b = 0 ∨ b = 1) :
    ∃ υ, inv N mX9_wouldStart [vR 30 0, vI b] (P σ) = some (some (vI (performC σ0 0 b 0 (-1) (set c 78 (-1), g)).1), P υ) ∧ WM 214 σ υ := by
  have th := m_thinks (N := N) (σ := σ) 2 (by decide)
  rw [Int.cast_ofNat_Int] at th
  have e78 : (78 : Int).toNat = 78 := rfl
  have tr := fun τ => s9_truth (N := N) (σ := τ) b
  have eb : (if b = 0 then (0 : Int) else 1) = b := by
    rcases hb01 with rfl | rfl
    · rfl
    · rfl
  rw [eb] at tr
  have r40 : row σ 42 0 (cpyV (σ 40 0) (σ 42 0) 0 (107 * 2) 107) 40 0 = σ 40 0 := by rw [row_at, if_neg (by decide)]
  have hz1 := RZ_78 hz
  have a1 : ableF (σ0 2 1 1) (σ0 5 1) (set c 78 (-1)) 0 b 0 = 1 := by
    unfold ableF
    rw [if_pos rfl, if_pos ⟨set_same _ _ _, hb01, rfl⟩]
  generalize hs : row (row σ 42 0 (cpyV (σ 40 0) (σ 42 0) 0 (107 * 2) 107)) 40 0 (set (σ 40 0) 78 (-1)) = τ
  have t40 : τ 40 0 = set (σ 40 0) 78 (-1) := by rw [← hs, row_same]
  have t42 : τ 42 0 = cpyV (σ 40 0) (σ 42 0) 0 (107 * 2) 107 := by rw [← hs, row_at, if_neg (by decide), row_same]
  have to : ∀ k k', ¬ (k' = 0 ∧ (k = 40 ∨ k = 42)) → τ k k' = σ k k' := fun k k' hk => by rw [← hs, row_at, if_neg (fun z => hk ⟨z.2, Or.inl z.1⟩), row_at, if_neg (fun z => hk ⟨z.2, Or.inr z.1⟩)]
  have he1 : EnvM σ0 τ := EnvM_o he (fun k k' hk => to k k' (fun z => hk ⟨z.1, by rcases z.2 with y | y <;> simp [y]⟩)) (fun j _ _ _ => by rw [to 30 0 (by decide)])
  obtain ⟨υ, u1, u2, u3, -⟩ := m_does (N := N) (σ := τ) (x := (set c 78 (-1), g)) hg (by rw [t40]; exact hz1) (OKC_78 hc) he1 (show set c 78 (-1) 82 < 2147483000 by rw [set_ne _ _ (by decide)]; exact hb) 0 b 0 (-1) a1 (by decide) (by decide)
  have v42 : υ 42 0 = τ 42 0 := KM_r u2 42 (by decide) 0
  have pb := m_putsBack (N := N) (σ := υ) 2 (by decide)
  rw [Int.cast_ofNat_Int] at pb
  refine ⟨row υ 40 0 (cpyV (υ 42 0) (υ 40 0) (107 * 2) 0 107), ?_, ?_, ?_, ?_, ?_⟩
  · rw [iX9_wouldStart, eX9_wouldStart_0, th, bnd_s, push_n, eX9_wouldStart_3, sup_row, e78, r40, hs, tr, bnd_s, push_s, eX9_wouldStart_12, u1, bnd_s, push_s, eX9_wouldStart_15, pb, bnd_s, push_n, eX9_wouldStart_19]
  · intro k k' hk
    rw [row_at, if_neg (fun z => hk ⟨z.2, Or.inr (Or.inl z.1)⟩), u2.1 k k' (fun z => hk ⟨z.1, by rcases z.2 with y | y | y | y | y <;> simp [y]⟩), to k k' (fun z => hk ⟨z.1, by rcases z.2 with y | y <;> simp [y]⟩)]
  · intro j h1 h2 h3
    rw [row_at, if_neg (by decide), u2.2 j h1 h2 h3, to 30 0 (by decide)]
  · intro j hj
    rw [row_same]
    have := cpyV_in (υ 42 0) (υ 40 0) (107 * 2) 0 107 j hj
    rw [Nat.zero_add] at this
    rw [this, v42, t42, cpyV_in _ _ _ _ _ _ hj, Nat.zero_add]
  · intro j hj
    rw [row_at, if_neg (by decide), v42, t42, cpyV_out _ _ _ _ _ _ (Or.inl (Nat.lt_of_lt_of_le hj (by decide)))]
end TRY
end
section
/-! NEXT -/
section TRY
variable {N : Nat} {σ σ0 : Sto} {L : Int}
theorem QX_put (σ : Sto) (i : Nat) (hi : i ≠ 0) (x : XP) : QX σ (putC σ i x) := by
  refine ⟨FX_put σ i x, putC_i σ i x (Ne.symm hi), fun j _ => by rw [putC_o σ i x 0 (by decide) (by decide)], putC_o σ i x 0 (by decide) (by decide), putC_o σ i x 0 (by decide) (by decide), putC_o σ i x 0 (by decide) (by decide), by rw [putC_o σ i x 0 (by decide) (by decide)]⟩
theorem QX_WM {b : Nat} {τ : Sto} (h : WM b σ τ) : QX σ τ := by
  obtain ⟨o, f, c, -⟩ := h
  refine ⟨⟨fun k k' hk => o k k' (by omega), f 1 (by decide) (by decide) (by decide), f 5 (by decide) (by decide) (by decide), f 6 (by decide) (by decide) (by decide), f 35 (by decide) (by decide) (by decide)⟩, o 7 0 (by decide), c, o 9 0 (by decide), o 10 0 (by decide), o 41 0 (by decide), f 21 (by decide) (by decide) (by decide)⟩
theorem row_as_put (σ : Sto) (i : Nat) (c : Vec) : row σ 7 i c = putC σ i (c, σ 6 i) := by
  have h := row_putC7 σ i (σ 7 i, σ 6 i) c
  rw [putC_id] at h
  exact h
theorem pair_next (b : Int) (hb : b = 0 ∨ b = 1) : PAIR N mX8_next mX9_next [vI b] := by
  intro L σ h hL
  have hc : CELL L (cpyV (σ 7 0) (σ 7 1) 0 0 107) (σ 40 0) := CELL_107 h.2.1 (fun j hj => cpy_all _ _ hj) (fun _ _ => rfl)
  have ct := c_take (N := N) (σ := σ) 1 0
  generalize cpyV (σ 7 0) (σ 7 1) 0 0 107 = c at hc ct
  have h82 : c 82 < 2147483000 := Int.lt_of_le_of_lt hc.2.2 (by omega)
  have b0 : 0 ≤ c 82 := hc.2.1.1.2.2.2.2.1
  have of := s2_turnOff (N := N) (σ := row σ 7 1 c) (i := 1)
  rw [row_same, row_row, row_as_put σ 1 (set c 78 (-1))] at of
  have e82 : set c 78 (-1) 82 = c 82 := set_ne _ _ (by decide)
  have a1 : ableF (σ 2 1 1) (σ 5 1) (set c 78 (-1)) 0 b 0 = 1 := by
    unfold ableF
    rw [if_pos rfl, if_pos ⟨set_same _ _ _, hb, rfl⟩]
  have pf := p2_perform (N := N) (i := 1) (σ := σ) (x := (set c 78 (-1), σ 6 1)) h.1.1 (OKC_78 hc.1) (show 0 ≤ set c 78 (-1) 82 by rw [e82]; exact b0) (show set c 78 (-1) 82 < 2147483647 by rw [e82]; exact Int.lt_trans h82 (by decide)) 0 b 0 (-1) a1
  have q1 := QX_put σ 1 (by decide) (performC σ 0 b 0 (-1) (set c 78 (-1), σ 6 1)).2
  generalize hs : putC σ 1 (performC σ 0 b 0 (-1) (set c 78 (-1), σ 6 1)).2 = τ at pf q1
  have t40 : τ 40 0 = σ 40 0 := by rw [← hs, putC_o _ _ _ _ (by decide) (by decide)]
  obtain ⟨υ, w1, w2⟩ := m_would (N := N) (σ0 := σ) (σ := τ) (c := c) (g := σ 6 1) h.1.1 (by rw [t40]; exact hc.2.1) hc.1 (EnvM_FX q1.1 (FX_refl σ) h.1.2.1) h82 b hb
  refine ⟨(performC σ 0 b 0 (-1) (set c 78 (-1), σ 6 1)).1, τ, υ, ?_, ?_, up300 (INV_QX (QX_trans q1 (QX_WM w2)) h) (by omega)⟩
  · rw [iX8_next, eX8_next_0, iX7_nextStart, eX7_nextStart_0, ct, bnd_s, push_n, eX7_nextStart_5, of, bnd_s, push_n, eX7_nextStart_8]
    rcases hb with rfl | rfl
    · rw [if_pos rfl, pf, bnd_s, push_s, eX7_nextStart_19, bnd_s, push_s, eX8_next_4]
    · rw [if_neg (by decide), pf, bnd_s, push_s, eX7_nextStart_19, bnd_s, push_s, eX8_next_4]
  · rw [iX9_next, eX9_next_0, w1, bnd_s, push_s, eX9_next_3]
end TRY
end
section
/-! SLACK -/
section TRY
variable {N : Nat} {σ σ0 : Sto} {L : Int}
theorem xor_ok {c : Vec} (hc : OKC c) (k b : Nat) (hk : k < 56) (hb : b < 31) : OKC (set c k (bXor (c k) (shl32 1 (b : Int)))) ∧ set (set c k (bXor (c k) (shl32 1 (b : Int)))) k (bXor (bXor (c k) (shl32 1 (b : Int))) (shl32 1 (b : Int))) = c := by
  have w := hc.1 k hk
  have p : 2 ^ b < 2 ^ 31 := Nat.pow_lt_pow_right (by omega) hb
  have hp : 0 < 2 ^ b := Nat.pow_pos (by omega)
  rw [shl1 b hb]
  have r := bXor_lt (x := c k) (m := ((2 ^ b : Nat) : Int)) (n := 31) (by omega) w.1 (by have := w.2; omega) (by omega) (by omega)
  refine ⟨?_, ?_⟩
  · rw [← fill_1]
    exact okc_word hc (by omega) ⟨r.1, by have := r.2; omega⟩
  · rw [bXor_back w.1 w.2 (by omega) (by omega), set_set, set_id]
theorem sl_nums {s k b : Nat} (hs : s < 4) (hk : k < 14) (hb : b < 31) : w32 (w32 (14 * (s : Int)) + (k : Int)) = ((14 * s + k : Nat) : Int) ∧ ¬ (((14 * s + k : Nat) : Int) < 0) ∧ ((14 * s + k : Nat) : Int) < 107 ∧ w32 ((b : Int) + 1) = ((b + 1 : Nat) : Int) ∧ (b : Int) < 31 ∧ 14 * s + k < 56 ∧ 0 ≤ ((14 * s + k : Nat) : Int) := by
  refine ⟨?_, by omega, by omega, ?_, by omega, by omega, by omega⟩
  · rw [w32i (x := 14 * (s : Int)) (by omega) (by omega), w32i (by omega) (by omega)]; omega
  · rw [w32i (by omega) (by omega)]; omega
theorem cnt_w {v : Int} (h0 : 0 ≤ v) (h1 : v < 100000) : w32 (v + 1) = v + 1 ∧ w32 (v + 0) = v := by
  refine ⟨w32i (by omega) (by omega), ?_⟩
  rw [w32i (by omega) (by omega)]
  omega
theorem sl_inner (hg : OKG σ0 1) {c : Vec} {τ : Sto} (hS : σ0 7 1 = c) (hc : OKC c) (eq : ∀ j, j < 78 → c j = τ 40 0 j) (h78 : -1 ≤ τ 40 0 78 ∧ τ 40 0 78 ≤ 2) (he : EnvM σ0 τ) (s k : Nat) (hs : s < 4) (hk : k < 14) : ∀ (m b : Nat) (v : Int), b + m = 31 → 0 ≤ v → v + m < 100000 → ∃ r, ev N mX7_slackBits 20 [vR 11 0, vI (s : Int), vI v, vI ((14 * s + k : Nat) : Int), vI (b : Int)] [] (P σ0) = ev N mX7_slackBits 20 [vR 11 0, vI (s : Int), vI r, vI ((14 * s + k : Nat) : Int), vI 31] [] (P σ0) ∧ ev N mX9_slack 17 [vR 30 0, vI (s : Int), vI v, vI (k : Int), vI (b : Int)] [] (P τ) = ev N mX9_slack 17 [vR 30 0, vI (s : Int), vI r, vI (k : Int), vI 31] [] (P τ) ∧ 0 ≤ r ∧ r ≤ v + m := by
  intro m
  induction m with
  | zero =>
    intro b v hb v0 v1
    have e : b = 31 := by omega
    subst e
    exact ⟨v, rfl, rfl, v0, by omega⟩
  | succ m ih =>
    intro b v hb v0 v1
    have hb31 : b < 31 := by omega
    have hbm : b + 1 + m = 31 := by omega
    obtain ⟨n1, n2, n3, n4, n5, n6, n7⟩ := sl_nums (b := b) hs hk hb31
    have cw := cnt_w v0 (by omega)
    have x := xor_ok hc (14 * s + k) b n6 hb31
    have ek : τ 40 0 (14 * s + k) = c (14 * s + k) := (eq _ (by omega)).symm
    have step := fun (w : Int) (h0 : 0 ≤ w) (h1 : w ≤ v + 1) => ih (b + 1) w hbm h0 (by omega)
    have le1 : ∀ r : Int, r ≤ v + 1 + m → r ≤ v + ((m + 1 : Nat) : Int) := fun r h => by omega
    have le0 : ∀ r : Int, r ≤ v + m → r ≤ v + ((m + 1 : Nat) : Int) := fun r h => by omega
    have vv : v ≤ v + 1 := by omega
    have vp : 0 ≤ v + 1 := by omega
    clear ih hb v1 hbm
    have t1 := s2_turnBit (N := N) (σ := σ0) (i := 1) ((14 * s + k : Nat) : Int) (b : Int) n7 n3
    rw [Int.toNat_natCast, hS] at t1
    have t2 := s2_turnBit (N := N) (σ := row σ0 7 1 (set c (14 * s + k) (bXor (c (14 * s + k)) (shl32 1 (b : Int))))) (i := 1) ((14 * s + k : Nat) : Int) (b : Int) n7 n3
    rw [Int.toNat_natCast, row_same, row_row, set_same, x.2, ← hS, row_id] at t2
    rw [hS] at t2
    have why := s2_reason (N := N) (i := 1) (σ := row σ0 7 1 (set c (14 * s + k) (bXor (c (14 * s + k)) (shl32 1 (b : Int))))) s hs (OKG_FX (FX_row σ0 7 1 _ (by decide) (by decide) (by decide)) hg) (by rw [row_same]; exact x.1)
    rw [row_same, row_at, if_neg (by decide), row_at, if_neg (by decide), row_at, if_neg (by decide)] at why
    have q1 : ∀ f, row τ 40 0 f 40 0 = f := fun f => row_same _ _ _ _
    have eqx : ∀ j, j < 78 → set c (14 * s + k) (bXor (c (14 * s + k)) (shl32 1 (b : Int))) j = set (τ 40 0) (14 * s + k) (bXor (c (14 * s + k)) (shl32 1 (b : Int))) j := by
      intro j hj
      unfold set
      rw [eq j hj]
    have hm : OKC (set (τ 40 0) (14 * s + k) (bXor (c (14 * s + k)) (shl32 1 (b : Int)))) := OKC_R x.1 eqx (by rw [set_ne _ _ (show 78 ≠ 14 * s + k by omega)]; exact h78)
    have he2 : EnvM σ0 (row τ 40 0 (set (τ 40 0) (14 * s + k) (bXor (c (14 * s + k)) (shl32 1 (b : Int))))) := EnvM_KM he (KM_row _ _ _ (Or.inl rfl))
    have mw := s9_why (N := N) (σ := row τ 40 0 (set (τ 40 0) (14 * s + k) (bXor (c (14 * s + k)) (shl32 1 (b : Int))))) s hs he2.1 (by rw [q1]; exact hm)
    rw [q1, show whyM (row τ 40 0 (set (τ 40 0) (14 * s + k) (bXor (c (14 * s + k)) (shl32 1 (b : Int))))) (set (τ 40 0) (14 * s + k) (bXor (c (14 * s + k)) (shl32 1 (b : Int)))) s = whyF (σ0 2 1 0) (σ0 3 1) (σ0 4 1) (set c (14 * s + k) (bXor (c (14 * s + k)) (shl32 1 (b : Int)))) s from (he2.2.1 _ _).trans (whyF_cells eqx _ _ _ s hs).symm] at mw
    have back : row (row τ 40 0 (set (τ 40 0) (14 * s + k) (bXor (c (14 * s + k)) (shl32 1 (b : Int))))) 40 0 (set (set (τ 40 0) (14 * s + k) (bXor (c (14 * s + k)) (shl32 1 (b : Int)))) (14 * s + k) (bXor (bXor (c (14 * s + k)) (shl32 1 (b : Int))) (shl32 1 (b : Int)))) = τ := by
      have z := congrFun x.2 (14 * s + k)
      rw [set_same] at z
      rw [row_row, set_set, z, ← ek, set_id, row_id]
    rw [eX7_slackBits_20, if_pos n5, t1, bnd_s, push_s, eX7_slackBits_28, why, bnd_s, push_s, eX7_slackBits_34, t2, eX9_slack_17, if_pos n5, n1, if_neg n2, if_pos n3, if_neg n2, if_pos n3, sup_row, Int.toNat_natCast, ek, mw]
    simp only [bnd_s, push_s, eX7_slackBits_45, eX9_slack_38, s9_truth]
    by_cases y : whyF (σ0 2 1 0) (σ0 3 1) (σ0 4 1) (set c (14 * s + k) (bXor (c (14 * s + k)) (shl32 1 (b : Int)))) s = 0
    · obtain ⟨r, r1, r2, r3, r4⟩ := step (v + 1) vp (Int.le_refl _)
      refine ⟨r, ?_, ?_, r3, le1 r r4⟩
      · rw [if_pos y, cw.1, n4]
        exact r1
      · rw [if_pos y, eX9_slack_43, n1, if_neg n2, if_pos n3, if_neg n2, if_pos n3, sup_row, Int.toNat_natCast, q1, set_same, back, if_neg (by decide), cw.1, n4]
        exact r2
    · obtain ⟨r, r1, r2, r3, r4⟩ := step v v0 vv
      refine ⟨r, ?_, ?_, r3, le0 r r4⟩
      · rw [if_neg y, cw.2, n4]
        exact r1
      · rw [if_neg y, eX9_slack_43, n1, if_neg n2, if_pos n3, if_neg n2, if_pos n3, sup_row, Int.toNat_natCast, q1, set_same, back, if_pos trivial, cw.2, n4]
        exact r2
end TRY
end
section
/-! SLACK, whole -/
section TRY
variable {N : Nat} {σ σ0 : Sto} {L : Int}
theorem so_nums {s k : Nat} (hs : s < 4) : w32 (w32 ((s : Int) + 1) * 14) = ((14 * s + 14 : Nat) : Int) ∧ w32 (((14 * s + k : Nat) : Int) + 1) = w32 (((14 * s + k : Nat) : Int) + 1) := by
  refine ⟨?_, rfl⟩
  rw [w32i (x := (s : Int) + 1) (by omega) (by omega), w32i (by omega) (by omega)]
  omega
theorem sl_outer (hg : OKG σ0 1) {c : Vec} {τ : Sto} (hS : σ0 7 1 = c) (hc : OKC c) (eq : ∀ j, j < 78 → c j = τ 40 0 j) (h78 : -1 ≤ τ 40 0 78 ∧ τ 40 0 78 ≤ 2) (he : EnvM σ0 τ) (s : Nat) (hs : s < 4) : ∀ (m k : Nat) (v : Int) (x4 y4 : MV), k + m = 14 → 0 ≤ v → v + 31 * m < 90000 → ∃ r, ev N mX7_slackBits 11 [vR 11 0, vI (s : Int), vI v, vI ((14 * s + k : Nat) : Int), x4] [] (P σ0) = some (some (vI r), P σ0) ∧ ev N mX9_slack 12 [vR 30 0, vI (s : Int), vI v, vI (k : Int), y4] [] (P τ) = some (some (vI r), P τ) := by
  intro m
  induction m with
  | zero =>
    intro k v x4 y4 hk v0 v1
    have e : k = 14 := by omega
    subst e
    refine ⟨v, ?_, ?_⟩
    · rw [eX7_slackBits_11, (so_nums (k := 14) hs).1, if_neg (by omega)]
    · rw [eX9_slack_12, if_neg (by decide)]
  | succ m ih =>
    intro k v x4 y4 hk v0 v1
    have k14 : k < 14 := by omega
    have p1 : ((14 * s + k : Nat) : Int) < ((14 * s + 14 : Nat) : Int) := by omega
    have p2 : (k : Int) < 14 := by omega
    have e1 : w32 (((14 * s + k : Nat) : Int) + 1) = ((14 * s + (k + 1) : Nat) : Int) := by rw [w32i (by omega) (by omega)]; omega
    have e2 : w32 ((k : Int) + 1) = ((k + 1 : Nat) : Int) := by rw [w32i (by omega) (by omega)]; omega
    obtain ⟨r, r1, r2, r3, r4⟩ := sl_inner (N := N) hg hS hc eq h78 he s k hs k14 31 0 v rfl v0 (by omega)
    have v2 : r + 31 * m < 90000 := by
      clear r1 r2 e1 e2
      omega
    obtain ⟨z, z1, z2⟩ := ih (k + 1) r (vI 31) (vI 31) (by omega) r3 v2
    simp only [Int.cast_ofNat_Int] at r1 r2
    refine ⟨z, ?_, ?_⟩
    · rw [eX7_slackBits_11, (so_nums (k := k) hs).1, if_pos p1, r1, eX7_slackBits_20, if_neg (by decide), e1]
      exact z1
    · rw [eX9_slack_12, if_pos p2, r2, eX9_slack_17, if_neg (by decide), e2]
      exact z2
theorem pair_slack (s : Int) : PAIR N mX8_slack mX9_slack [vI s] := by
  intro L σ h hL
  have oi := fun τ v lo hi => s9_in (N := N) (σ := τ) v lo hi
  by_cases q : 0 ≤ s ∧ s < 4
  case neg =>
    refine ⟨-1, σ, σ, ?_, ?_, up300 h (by omega)⟩
    · rw [iX8_slack, eX8_slack_0, s8_isStore, if_neg q, bnd_s, push_s, eX8_slack_2, if_pos rfl]
    · rw [iX9_slack, eX9_slack_0, oi, if_neg (fun z => q ⟨z.1, Int.lt_of_le_of_lt z.2 (by decide)⟩), bnd_s, push_s, eX9_slack_5, if_pos rfl]
  obtain ⟨s, rfl⟩ := Int.eq_ofNat_of_zero_le q.1
  have hs : s < 4 := Int.ofNat_lt.mp q.2
  have q3 : 0 ≤ (s : Int) ∧ (s : Int) ≤ 3 := ⟨q.1, Int.le_of_lt_add_one q.2⟩
  have hc : CELL L (cpyV (σ 7 0) (σ 7 1) 0 0 107) (σ 40 0) := CELL_107 h.2.1 (fun j hj => cpy_all _ _ hj) (fun _ _ => rfl)
  have ct := c_take (N := N) (σ := σ) 1 0
  generalize cpyV (σ 7 0) (σ 7 1) 0 0 107 = c at hc ct
  rw [row_as_put] at ct
  have q1 := QX_put σ 1 (by decide) (c, σ 6 1)
  have hS : putC σ 1 (c, σ 6 1) 7 1 = c := putC_7 _ _ _
  generalize putC σ 1 (c, σ 6 1) = τ at ct q1 hS
  have hI := INV_QX q1 h
  have hm := INV_okm hI
  have t40 : ∀ j, j < 78 → c j = τ 40 0 j := fun j hj => (hc.2.1.1.1 j hj).trans (q1.2.2.1 j (by omega)).symm
  have hw : w32 ((s : Int) * 14) = ((14 * s + 0 : Nat) : Int) := by rw [w32i (by omega) (by omega)]; omega
  obtain ⟨r, r1, r2⟩ := sl_outer (N := N) (σ0 := τ) (τ := τ) hI.1.1 hS hc.1 t40 hm.2.2.2.2 hI.1.2.1 s hs 14 0 0 vX vX rfl (by decide) (by decide)
  rw [Int.cast_ofNat_Int] at r2
  refine ⟨r, τ, τ, ?_, ?_, up300 hI (by omega)⟩
  · rw [iX8_slack, eX8_slack_0, s8_isStore, if_pos q, bnd_s, push_s, eX8_slack_2, if_neg (by decide), iX7_slackBits, eX7_slackBits_0, ct, bnd_s, push_n, eX7_slackBits_5, hw, r1, bnd_s, push_s, eX8_slack_7]
  · rw [iX9_slack, eX9_slack_0, oi, if_pos q3, bnd_s, push_s, eX9_slack_5, if_neg (by decide)]
    exact r2
end TRY
end
section
/-! LASTS -/
theorem startL_ans (W : Vec → Nat → Int) : ∀ (m : Nat) (x : XP), (startL W m x).1 = -1 ∨ (startL W m x).1 = 0 ∨ (startL W m x).1 = 1
  | 0, _ => Or.inl rfl
  | m + 1, x => by
    unfold startL
    by_cases c : chosenC x.2 = -1
    · rw [if_pos c]
      exact Or.inl rfl
    · obtain ⟨s, hs, e⟩ := chosen_s c
      rw [if_neg c]
      split
      · show chosenC x.2 = -1 ∨ chosenC x.2 = 0 ∨ chosenC x.2 = 1
        rw [e]
        rcases (show s = 0 ∨ s = 1 by omega) with rfl | rfl
        · exact Or.inr (Or.inl rfl)
        · exact Or.inr (Or.inr rfl)
      · exact startL_ans W m _
theorem endC_ans (a : Int) (x : XP) : (endC a x).1 = a ∨ (endC a x).1 = -2 := by
  unfold endC
  split
  · exact Or.inl rfl
  · exact Or.inr rfl
theorem boot_ans (σ : Sto) (a cut : Int) (x : XP) : (bootC σ a cut x).1 < 2 ∨ (bootC σ a cut x).1 = 2 ∨ (bootC σ a cut x).1 = 3 := by
  unfold bootC
  generalize (if a = 1 then (1 : Int) else 0) = bt
  have hs : (startSlotC (whyS σ) (σ 2 1 2) bt (beginC cut x)).1 = -1 ∨ (startSlotC (whyS σ) (σ 2 1 2) bt (beginC cut x)).1 = 0 ∨ (startSlotC (whyS σ) (σ 2 1 2) bt (beginC cut x)).1 = 1 := by
    unfold startSlotC
    split
    · exact startL_ans _ _ _
    · exact Or.inl rfl
  generalize startSlotC (whyS σ) (σ 2 1 2) bt (beginC cut x) = p at hs
  have lt : ∀ v : Int, v = -2 → v < 2 ∨ v = 2 ∨ v = 3 := fun v h => by omega
  by_cases q : p.1 = -1
  · rw [if_pos q]
    have hr : (startRecoveryC (copyF (σ 2 1 0) (σ 3 1) (σ 4 1) p.2.1) p.2).1 = 2 ∨ (startRecoveryC (copyF (σ 2 1 0) (σ 3 1) (σ 4 1) p.2.1) p.2).1 = 3 := by
      unfold startRecoveryC
      split
      · exact Or.inr rfl
      · exact Or.inl rfl
    generalize startRecoveryC (copyF (σ 2 1 0) (σ 3 1) (σ 4 1) p.2.1) p.2 = r at hr
    rcases endC_ans r.1 r.2 with h | h
    · rw [h]
      exact Or.inr hr
    · exact lt _ h
  · rw [if_neg q]
    rcases endC_ans p.1 p.2 with h | h
    · rw [h]
      rcases hs with z | z | z <;> rw [z] <;> exact Or.inl (by decide)
    · exact lt _ h
section TRY
variable {N : Nat} {σ σ0 : Sto} {L : Int}
theorem la_loop (hg : OKG σ0 1) (w : Int) (hw : w = 0 ∨ w = 1) : ∀ (m k : Nat) (x : XP) (τ : Sto) (x3 : MV) (is : Int), k + m = 60 → ¬ is = 2 → ¬ is = 3 → RZ x.1 (τ 40 0) → OKC x.1 → EnvM σ0 τ → x.1 82 + m < 2147483000 → 0 ≤ x.1 82 →
    ∃ (y : XP) (υ : Sto) (ans n2 is2 : Int), ev N mX7_bootsWithoutHealth 14 [vR 11 0, vI w, vI ((k + 1 : Nat) : Int), x3] [] (P (putC σ0 1 x)) = some (some (vI ans), P (putC σ0 1 y)) ∧ ev N mX9_lasts 15 [vR 30 0, vI w, vI (k : Int), vI is] [] (P τ) = bnd (inv N mX9_putsBack [vR 30 0, vI 0] (P υ)) (fun r S2 => ev N mX9_lasts 41 [vR 30 0, vI w, vI n2, vI is2] (push r []) S2) ∧ KM τ υ ∧ (∀ ρ, ev N mX9_lasts 41 [vR 30 0, vI w, vI n2, vI is2] [] (P ρ) = some (some (vI ans), P ρ)) := by
  intro m
  induction m with
  | zero =>
    intro k x τ x3 is hk i2 i3 hz hc he hb h0
    have e : k = 60 := by omega
    subst e
    refine ⟨x, τ, -2, 60, is, ?_, ?_, KM_refl τ, fun ρ => ?_⟩
    · rw [eX7_bootsWithoutHealth_14, if_pos (by decide)]
    · rw [eX9_lasts_15, if_neg (by decide)]
      rfl
    · rw [eX9_lasts_41, if_neg i2, if_neg i3]
  | succ m ih =>
    intro k x τ x3 is hk i2 i3 hz hc he hb h0
    have k1 : ¬ 60 < ((k + 1 : Nat) : Int) := by omega
    have k2 : (k : Int) < 60 := by omega
    have k3 : k + 1 + m = 60 := by omega
    have e1 : w32 (((k + 1 : Nat) : Int) + 1) = ((k + 1 + 1 : Nat) : Int) := by rw [w32i (by omega) (by omega)]; omega
    have e2 : w32 ((k : Int) + 1) = ((k + 1 : Nat) : Int) := by rw [w32i (by omega) (by omega)]; omega
    have hb1 : x.1 82 + 1 + m < 2147483000 := by omega
    have hb2 : x.1 82 < 2147483000 := by omega
    have e82 : set x.1 78 (-1) 82 = x.1 82 := set_ne _ _ (by decide)
    have tof := s2_turnOff (N := N) (σ := putC σ0 1 x) (i := 1)
    rw [putC_7, row_putC7] at tof
    have a1 : ableF (σ0 2 1 1) (σ0 5 1) (set x.1 78 (-1)) 0 0 0 = 1 := by
      unfold ableF
      rw [if_pos rfl, if_pos ⟨set_same _ _ _, Or.inl rfl, rfl⟩]
    have pf := p2_perform (N := N) (i := 1) (σ := σ0) (x := (set x.1 78 (-1), x.2)) hg (OKC_78 hc) (show 0 ≤ set x.1 78 (-1) 82 by rw [e82]; exact h0) (show set x.1 78 (-1) 82 < 2147483647 by rw [e82]; exact Int.lt_trans hb2 (by decide)) 0 0 0 (-1) a1
    have ok := performC_ok (σ := σ0) (x := (set x.1 78 (-1), x.2)) hg (OKC_78 hc) 0 0 0 (-1) a1
    have l1 : set x.1 78 (-1) 82 ≤ _ := ok.2.1
    have l2 : _ ≤ set x.1 78 (-1) 82 + 1 := ok.2.2
    rw [e82] at l1 l2
    have km := KM_row τ 40 (set (τ 40 0) 78 (-1)) (Or.inl rfl)
    obtain ⟨υ, u1, u2, u3, -⟩ := m_does (N := N) (σ := row τ 40 0 (set (τ 40 0) 78 (-1))) (x := (set x.1 78 (-1), x.2)) hg (by rw [row_same]; exact RZ_78 hz) (OKC_78 hc) (EnvM_KM he km) (show set x.1 78 (-1) 82 < 2147483000 by rw [e82]; exact hb2) 0 0 0 (-1) a1 (by decide) (by decide)
    have an : (performC σ0 0 0 0 (-1) (set x.1 78 (-1), x.2)).1 < 2 ∨ (performC σ0 0 0 0 (-1) (set x.1 78 (-1), x.2)).1 = 2 ∨ (performC σ0 0 0 0 (-1) (set x.1 78 (-1), x.2)).1 = 3 := by
      unfold performC
      rw [if_pos rfl]
      exact boot_ans _ _ _ _
    generalize performC σ0 0 0 0 (-1) (set x.1 78 (-1), x.2) = p at pf ok l1 l2 u1 u3 an
    have cl : ev N mX7_bootsWithoutHealth 14 [vR 11 0, vI w, vI ((k + 1 : Nat) : Int), x3] [] (P (putC σ0 1 x)) = ev N mX7_bootsWithoutHealth 27 [vR 11 0, vI w, vI ((k + 1 : Nat) : Int), x3] [vI p.1] (P (putC σ0 1 p.2)) := by
      rw [eX7_bootsWithoutHealth_14, if_neg k1, tof, bnd_s, push_n, eX7_bootsWithoutHealth_20]
      show bnd (inv N mX2_perform [vR 6 1, vI 0, vI 0, vI 0, vI (-1)] (P (putC σ0 1 (set x.1 78 (-1), x.2)))) _ = _
      rw [pf, bnd_s, push_s]
    have ml : ev N mX9_lasts 15 [vR 30 0, vI w, vI (k : Int), vI is] [] (P τ) = ev N mX9_lasts 15 [vR 30 0, vI w, vI ((k + 1 : Nat) : Int), vI p.1] [] (P υ) := by
      rw [eX9_lasts_15, if_pos k2, if_neg i2, if_neg i3, sup_row, show (78 : Int).toNat = 78 from rfl, u1, bnd_s, push_s, eX9_lasts_35, e2]
    rw [cl, ml, eX7_bootsWithoutHealth_27]
    by_cases lt : p.1 < 2
    · have n2 : ¬ p.1 = 2 := fun z => absurd lt (by rw [z]; decide)
      have n3 : ¬ p.1 = 3 := fun z => absurd lt (by rw [z]; decide)
      obtain ⟨y, ρ, ans, a, b, y1, y2, y3, y4⟩ := ih (k + 1) p.2 υ (vI p.1) p.1 k3 n2 n3 u3 ok.1.1 (EnvM_KM (EnvM_KM he km) u2) (Int.lt_of_le_of_lt (Int.add_le_add_right l2 m) hb1) (Int.le_trans h0 l1)
      exact ⟨y, ρ, ans, a, b, by rw [if_pos lt, e1]; exact y1, y2, KM_trans km (KM_trans u2 y3), y4⟩
    · rw [if_neg lt]
      have st : p.1 = 2 ∨ p.1 = 3 := by
        rcases an with z | z
        · exact absurd z lt
        · exact z
      refine ⟨p.2, υ, if w = 0 then ((k + 1 : Nat) : Int) else p.1, ((k + 1 : Nat) : Int), p.1, ?_, ?_, KM_trans km u2, fun ρ => ?_⟩
      · split <;> rfl
      · rw [eX9_lasts_15]
        rcases st with z | z
        · rw [z, if_pos rfl]
          split <;> rfl
        · rw [z, if_neg (show ¬ (3 : Int) = 2 by decide), if_pos rfl]
          split <;> rfl
      · rw [eX9_lasts_41]
        rcases st with z | z
        · rw [z, if_pos rfl]
          split <;> rfl
        · rw [z, if_neg (show ¬ (3 : Int) = 2 by decide), if_pos rfl]
          split <;> rfl
end TRY
end
section
/-! LASTS, whole -/
section TRY
variable {N : Nat} {σ σ0 : Sto} {L : Int}
/-- what is put by, tried and put back leaves all as it was -/
theorem QX_think (a : Nat) (ha : a < 3) {τ υ : Sto} (km : KM (row τ 42 0 (cpyV (τ 40 0) (τ 42 0) 0 (107 * a) 107)) υ) : QX τ (row υ 40 0 (cpyV (υ 42 0) (υ 40 0) (107 * a) 0 107)) := by
  have o : ∀ k k', ¬ (k' = 0 ∧ (k = 30 ∨ k = 40 ∨ k = 42 ∨ k = 43 ∨ k = 44 ∨ k = 45)) → row υ 40 0 (cpyV (υ 42 0) (υ 40 0) (107 * a) 0 107) k k' = τ k k' := by
    intro k k' hk
    rw [row_at, if_neg (by omega), km.1 k k' (by omega), row_at, if_neg (by omega)]
  have f : ∀ j, j ≠ 22 → j ≠ 23 → j ≠ 24 → row υ 40 0 (cpyV (υ 42 0) (υ 40 0) (107 * a) 0 107) 30 0 j = τ 30 0 j := by
    intro j h1 h2 h3
    rw [row_at, if_neg (by omega), km.2 j h1 h2 h3, row_at, if_neg (by omega)]
  have v42 : υ 42 0 = cpyV (τ 40 0) (τ 42 0) 0 (107 * a) 107 := by
    rw [km.1 42 0 (by omega), row_same]
  refine QX_WM (b := 0) ⟨o, f, fun j hj => ?_, fun j hj => absurd hj (Nat.not_lt_zero j)⟩
  rw [row_same]
  have := cpyV_in (υ 42 0) (υ 40 0) (107 * a) 0 107 j hj
  rw [Nat.zero_add] at this
  rw [this, v42, cpyV_in _ _ _ _ _ _ hj, Nat.zero_add]
theorem pair_lasts (w : Int) : PAIR N mX8_lasts mX9_lasts [vI w] := by
  intro L σ h hL
  have oi := fun τ v lo hi => s9_in (N := N) (σ := τ) v lo hi
  by_cases q : w = 0 ∨ w = 1
  case neg =>
    refine ⟨-1, σ, σ, ?_, ?_, up300 h (by omega)⟩
    · rw [iX8_lasts, eX8_lasts_0, iX7_bootsWithoutHealth, eX7_bootsWithoutHealth_0, if_neg (fun z => q (Or.inl z)), if_neg (fun z => q (Or.inr z)), bnd_s, push_s, eX8_lasts_4]
    · rw [iX9_lasts, eX9_lasts_0, oi, if_neg (show ¬ (0 ≤ w ∧ w ≤ 1) by omega), bnd_s, push_s, eX9_lasts_5, if_pos rfl]
  have qi : 0 ≤ w ∧ w ≤ 1 := by omega
  have hc : CELL L (cpyV (σ 7 0) (σ 7 1) 0 0 107) (σ 40 0) := CELL_107 h.2.1 (fun j hj => cpy_all _ _ hj) (fun _ _ => rfl)
  have ct := c_take (N := N) (σ := σ) 1 0
  generalize cpyV (σ 7 0) (σ 7 1) 0 0 107 = c at hc ct
  rw [row_as_put] at ct
  have h82 : c 82 + (60 : Nat) < 2147483000 := Int.lt_of_le_of_lt (Int.add_le_add_right hc.2.2 _) (by omega)
  have b0 : 0 ≤ c 82 := hc.2.1.1.2.2.2.2.1
  have th := fun τ : Sto => m_thinks (N := N) (σ := τ) 0 (by decide)
  have pb := fun τ : Sto => m_putsBack (N := N) (σ := τ) 0 (by decide)
  simp only [Int.cast_ofNat_Int] at th pb
  have lp := fun τ hz he => la_loop (N := N) (σ0 := σ) h.1.1 w q 60 0 (c, σ 6 1) τ vX (-1) rfl (by decide) (by decide) hz hc.1 he h82 b0
  -- the class's end does not depend on the model's store
  obtain ⟨y0, -, a0, -, -, c1, -⟩ := lp σ hc.2.1 h.1.2.1
  have q1 := QX_put σ 1 (by decide) y0
  have t40 : putC σ 1 y0 40 0 = σ 40 0 := putC_o _ _ _ _ (by decide) (by decide)
  generalize hs : putC σ 1 y0 = τ at c1 q1 t40
  have r40 : row τ 42 0 (cpyV (τ 40 0) (τ 42 0) 0 (107 * 0) 107) 40 0 = σ 40 0 := by rw [row_at, if_neg (by decide), t40]
  obtain ⟨y, υ, ans, n2, is2, d1, d2, d3, d4⟩ := lp (row τ 42 0 (cpyV (τ 40 0) (τ 42 0) 0 (107 * 0) 107)) (by rw [r40]; exact hc.2.1) (EnvM_FX (FX_trans q1.1 (FX_row _ 42 0 _ (by decide) (by decide) (by decide))) (FX_refl σ) h.1.2.1)
  have ea : a0 = ans := Sum.inl.inj (Option.some.inj (congrArg Prod.fst (Option.some.inj (c1.symm.trans d1))))
  simp only [Int.cast_ofNat_Int, Nat.zero_add] at c1 d2
  refine ⟨ans, τ, row υ 40 0 (cpyV (υ 42 0) (υ 40 0) (107 * 0) 0 107), ?_, ?_, up300 (INV_QX (QX_trans q1 (QX_think 0 (by decide) d3)) h) (by omega)⟩
  · rw [iX8_lasts, eX8_lasts_0, iX7_bootsWithoutHealth, eX7_bootsWithoutHealth_0]
    rcases q with rfl | rfl
    · rw [if_pos rfl, ct, bnd_s, push_n, eX7_bootsWithoutHealth_12, c1, bnd_s, push_s, eX8_lasts_4, ea]
    · rw [if_neg (by decide), if_pos rfl, ct, bnd_s, push_n, eX7_bootsWithoutHealth_12, c1, bnd_s, push_s, eX8_lasts_4, ea]
  · rw [iX9_lasts, eX9_lasts_0, oi, if_pos qi, bnd_s, push_s, eX9_lasts_5, if_neg (by decide), th, bnd_s, push_n, eX9_lasts_11, d2, pb, bnd_s, push_n, d4]
end TRY
end
