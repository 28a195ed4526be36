/-! FLAG, COUNT -/
section ASK
variable {N : Nat} {σ : Sto} {L : Int}
theorem QX_row (σ : Sto) (k i : Nat) (f : Vec) (h1 : 5 < k) (h2 : k < 31 ∨ 39 < k) (h3 : k ≠ 30 ∧ k ≠ 7 ∧ k ≠ 9 ∧ k ≠ 10 ∧ k ≠ 40 ∧ k ≠ 41) : QX σ (row σ k i f) := by
  have o := fun (j : Nat) (hj : j ≠ k) => (row_at σ k i f j 0).trans (if_neg (fun z => hj z.1))
  refine ⟨FX_row σ k i f h1 h2 h3.1, o 7 (by omega), fun j _ => by rw [o 40 (by omega)], o 9 (by omega), o 10 (by omega), o 41 (by omega), by rw [o 30 (by omega)]⟩
theorem pair_q {mc mm : Nat} {args : List MV} (h : ∀ (L : Int) (σ : Sto), INV L σ → ∃ ans σ1 σ2, inv N mc (vR 0 0 :: args) (P σ) = some (some (vI ans), P σ1) ∧ inv N mm (vR 30 0 :: args) (P σ1) = some (some (vI ans), P σ2) ∧ QX σ σ2) : PAIR N mc mm args := by
  intro L σ hI hL
  obtain ⟨ans, σ1, σ2, h1, h2, h3⟩ := h L σ hI
  exact ⟨ans, σ1, σ2, h1, h2, up300 (INV_QX h3 hI) (by omega)⟩
/-- the class's fields behind a reading of flags -/
def rdV (c g : Vec) : Vec := set (set (set (set (set g 6 (newestF c)) 2 (flagF c 0)) 3 (flagF c 1)) 4 (flagF c 2)) 5 (flagF c 3)
theorem rdV_v (c g : Vec) : rdV c g 6 = newestF c ∧ rdV c g 2 = flagF c 0 ∧ rdV c g 3 = flagF c 1 ∧ rdV c g 4 = flagF c 2 ∧ rdV c g 5 = flagF c 3 := by
  unfold rdV
  refine ⟨?_, ?_, ?_, ?_, ?_⟩
  · rw [set_ne _ _ (by decide), set_ne _ _ (by decide), set_ne _ _ (by decide), set_ne _ _ (by decide), set_same]
  · rw [set_ne _ _ (by decide), set_ne _ _ (by decide), set_ne _ _ (by decide), set_same]
  · rw [set_ne _ _ (by decide), set_ne _ _ (by decide), set_same]
  · rw [set_ne _ _ (by decide), set_same]
  · rw [set_same]
/-- flags read by both -/
theorem flags_both (h : INV L σ) : FR (rdV (σ 7 0) (σ 6 0)) (flV (σ 43 0) (σ 40 0)) := by
  have v := rdV_v (σ 7 0) (σ 6 0)
  have f := FR_read h.2.1.1.2.1 (rdV (σ 7 0) (σ 6 0)) (σ 43 0) v.2.1 v.2.2.1 v.2.2.2.1 v.2.2.2.2
  rw [flV_congr (fun j a b => INV_eq h j (by omega))] at f
  exact f
theorem byte_p {p t g : Int} (hp : 0 ≤ p ∧ p < 16) (ht : 0 ≤ t ∧ t < 8) (hg : 0 ≤ g ∧ g < 2) : (16 * p + 2 * t + g) / 16 = p ∧ (16 * p + 2 * t + g) / 2 % 8 = t ∧ (16 * p + 2 * t + g) % 2 = g ∧ 0 ≤ 16 * p + 2 * t + g ∧ 16 * p + 2 * t + g < 256 := by omega
theorem flag_w {w : Int} (s : Nat) (hs : s < 2) (hw : w = 0 ∨ w = 1 ∨ w = 2) : w32 (w32 (2 * w) + (s : Int)) = ((2 * w.toNat + s : Nat) : Int) ∧ 2 * w.toNat + s < 8 := by
  refine ⟨?_, by omega⟩
  rw [w32i (x := 2 * w) (by omega) (by omega), w32i (by omega) (by omega)]
  omega
theorem pair_flag (s w : Int) : PAIR N mX8_flag mX9_flag [vI s, vI w] := pair_q (fun L σ h => by
  have fr := flags_both h
  have hm := INV_okm h
  have rf := s2_readFlags (N := N) (σ := σ) (i := 0) h.2.1.1.2.1
  have r6 : row σ 6 0 (rdV (σ 7 0) (σ 6 0)) 6 0 = rdV (σ 7 0) (σ 6 0) := row_same _ _ _ _
  have r40 : row σ 6 0 (rdV (σ 7 0) (σ 6 0)) 40 0 = σ 40 0 := by rw [row_at, if_neg (by decide)]
  have r43 : row σ 6 0 (rdV (σ 7 0) (σ 6 0)) 43 0 = σ 43 0 := by rw [row_at, if_neg (by decide)]
  have mf := s9_readsFlags (N := N) (σ := row σ 6 0 (rdV (σ 7 0) (σ 6 0))) (by rw [r40]; exact hm.2.1)
  have q6 := QX_row σ 6 0 (rdV (σ 7 0) (σ 6 0)) (by decide) (by decide) (by decide)
  have q43 : QX σ (rfM (row σ 6 0 (rdV (σ 7 0) (σ 6 0)))) := QX_trans q6 (QX_row _ 43 0 _ (by decide) (by decide) (by decide))
  have m43 : rfM (row σ 6 0 (rdV (σ 7 0) (σ 6 0))) 43 0 = flV (σ 43 0) (σ 40 0) := by
    unfold rfM
    rw [row_same, r40, r43]
  have oi := fun τ v lo hi => s9_in (N := N) (σ := τ) v lo hi
  clear h hm
  have no : ¬ ((s = 0 ∨ s = 1) ∧ (w = 0 ∨ w = 1 ∨ w = 2)) → ∀ τ, inv N mX9_flag [vR 30 0, vI s, vI w] (P τ) = some (some (vI (-1)), P τ) := by
    intro q τ
    rw [iX9_flag, eX9_flag_0, oi, bnd_s, push_s, eX9_flag_5]
    clear fr rf r6 r40 r43 mf q6 q43 m43
    by_cases q1 : 0 ≤ s ∧ s ≤ 1
    · rw [if_pos q1, if_neg (by decide), oi, bnd_s, push_s, eX9_flag_11, if_neg (show ¬ (0 ≤ w ∧ w ≤ 2) by omega), if_pos rfl]
    · rw [if_neg q1, if_pos rfl]
  by_cases q1 : s = 0 ∨ s = 1
  · have cl : inv N mX8_flag [vR 0 0, vI s, vI w] (P σ) = ev N mX8_flag 12 [vR 0 0, vI s, vI w, vX] [vI (if s = 0 then rdV (σ 7 0) (σ 6 0) 2 else rdV (σ 7 0) (σ 6 0) 3)] (P (row σ 6 0 (rdV (σ 7 0) (σ 6 0)))) := by
      have sf := s2_slotFlags (N := N) (σ := row σ 6 0 (rdV (σ 7 0) (σ 6 0))) (i := 0) s
      rw [r6] at sf
      rw [iX8_flag, eX8_flag_0, s8_isSlot, if_pos q1, bnd_s, push_s, eX8_flag_2, if_neg (by decide), rf, bnd_s, push_n]
      show ev N mX8_flag 8 _ _ (P (row σ 6 0 (rdV (σ 7 0) (σ 6 0)))) = _
      rw [eX8_flag_8, sf, bnd_s, push_s]
    obtain ⟨s, hs, rfl⟩ := slot_s q1
    obtain ⟨g2, g3, -, -, f0, f1, f2, f3, f4, f5, -⟩ := fr
    have qi : 0 ≤ (s : Int) ∧ (s : Int) ≤ 1 := by
      clear rf mf m43 q6 q43 r6 r40 r43 no cl g2 g3 f0 f1 f2 f3 f4 f5
      omega
    by_cases q2 : w = 0 ∨ w = 1 ∨ w = 2
    · have fw := flag_w s hs q2
      have qw : 0 ≤ w ∧ w ≤ 2 := by
        clear rf mf m43 q6 q43 r6 r40 r43 no cl g2 g3 f0 f1 f2 f3 f4 f5 fw
        omega
      have ml : inv N mX9_flag [vR 30 0, vI (s : Int), vI w] (P (row σ 6 0 (rdV (σ 7 0) (σ 6 0)))) = some (some (vI (flV (σ 43 0) (σ 40 0) (2 * w.toNat + s))), P (rfM (row σ 6 0 (rdV (σ 7 0) (σ 6 0))))) := by
        have n0 : ¬ (((2 * w.toNat + s : Nat) : Int) < 0) := Int.not_lt.mpr (Int.natCast_nonneg _)
        have n8 : ((2 * w.toNat + s : Nat) : Int) < 8 := Int.ofNat_lt.mpr fw.2
        rw [iX9_flag, eX9_flag_0, oi, if_pos qi, bnd_s, push_s, eX9_flag_5, if_neg (by decide), oi, if_pos qw, bnd_s, push_s, eX9_flag_11, if_neg (by decide), mf, bnd_s, push_n, eX9_flag_16, fw.1, if_neg n0, if_pos n8, Int.toNat_natCast, m43]
      refine ⟨_, _, _, ?_, ml, q43⟩
      rw [cl]
      generalize flV (σ 43 0) (σ 40 0) = f at g2 g3 f0 f1 f2 f3 f4 f5 ⊢
      have B0 := byte_p f0 f2 f4
      have B1 := byte_p f1 f3 f5
      rw [← g2] at B0
      rw [← g3] at B1
      generalize rdV (σ 7 0) (σ 6 0) 2 = b0 at B0 ⊢
      generalize rdV (σ 7 0) (σ 6 0) 3 = b1 at B1 ⊢
      clear rf mf m43 q6 q43 r6 r40 r43 no cl g2 g3 f0 f1 f2 f3 f4 f5 ml fw qw qi
      rw [eX8_flag_12]
      have s40 := shr4 B0.2.2.2.1 B0.2.2.2.2
      have s41 := shr4 B1.2.2.2.1 B1.2.2.2.2
      have s10 := shr1 B0.2.2.2.1 B0.2.2.2.2
      have s11 := shr1 B1.2.2.2.1 B1.2.2.2.2
      rcases (show s = 0 ∨ s = 1 by omega) with rfl | rfl
      · rcases q2 with rfl | rfl | rfl
        · rw [if_pos rfl, if_pos (show ((0 : Nat) : Int) = 0 from rfl), s40, B0.1]
          rfl
        · rw [if_neg (by decide), if_pos rfl, if_pos (show ((0 : Nat) : Int) = 0 from rfl), s10, bAnd_7, B0.2.1]
          rfl
        · rw [if_neg (by decide), if_neg (by decide), if_pos rfl, if_pos (show ((0 : Nat) : Int) = 0 from rfl), bAnd_1, B0.2.2.1]
          rfl
      · rcases q2 with rfl | rfl | rfl
        · rw [if_pos rfl, if_neg (by decide), s41, B1.1]
          rfl
        · rw [if_neg (by decide), if_pos rfl, if_neg (by decide), s11, bAnd_7, B1.2.1]
          rfl
        · rw [if_neg (by decide), if_neg (by decide), if_pos rfl, if_neg (by decide), bAnd_1, B1.2.2.1]
          rfl
    · refine ⟨-1, row σ 6 0 (rdV (σ 7 0) (σ 6 0)), row σ 6 0 (rdV (σ 7 0) (σ 6 0)), ?_, no (fun z => q2 z.2) _, q6⟩
      rw [cl, eX8_flag_12, if_neg (fun z => q2 (Or.inl z)), if_neg (fun z => q2 (Or.inr (Or.inl z))), if_neg (fun z => q2 (Or.inr (Or.inr z)))]
  · refine ⟨-1, σ, σ, ?_, no (fun z => q1 z.1) _, QX_refl σ⟩
    rw [iX8_flag, eX8_flag_0, s8_isSlot, if_neg q1, bnd_s, push_s, eX8_flag_2, if_pos rfl])
end ASK
