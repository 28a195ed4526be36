/-! QUESTIONS: image -/
section ASK
variable {N : Nat} {σ : Sto} {L : Int}
theorem pair_image (s w : Int) : PAIR N mX8_image mX9_image [vI s, vI w] := pair_of (fun L σ h => by
  have he := h.1.2.1
  have hg := h.1.1
  have im := he.2.2.2.1
  have i0 := hg.2.2.1
  have i6 := hg.2.2.2.1
  have wd := he.2.2.2.2.2.2.2.1
  have hi := s0_hasImage (N := N) (σ := σ) (i := 1) s
  have mi := s9_isImage (N := N) (σ := σ) (by rw [im]; exact i0) (by rw [im]; exact i6) s
  have oi := fun v lo hi => s9_in (N := N) (σ := σ) v lo hi
  have at5 := fun k h0 h1 => s6_at5 (N := N) (σ := σ) (i := 1) k h0 h1
  rw [im] at mi
  clear h he hg
  by_cases q : (0 ≤ s ∧ s < σ 2 1 1) ∧ (0 ≤ w ∧ w < 14)
  · have e1 : w32 (w32 (s * 14) + w) = 14 * s + w := by rw [w32i (x := s * 14) (by omega) (by omega), w32i (by omega) (by omega)]; omega
    have e2 : w32 (w32 (14 * s) + w) = 14 * s + w := by rw [w32i (x := 14 * s) (by omega) (by omega), w32i (by omega) (by omega)]
    have same := wd (14 * s + w).toNat (by omega)
    refine ⟨σ 5 1 (14 * s + w).toNat, ?_, ?_⟩
    · rw [iX8_image, eX8_image_0, hi, if_pos q.1, bnd_s, push_s, eX8_image_4, if_neg (by decide), if_neg (by omega), if_pos (by omega), e1, at5 _ (by omega) (by omega), bnd_s, push_s, eX8_image_21]
    · rw [iX9_image, eX9_image_0, mi, if_pos q.1, bnd_s, push_s, eX9_image_3, if_neg (by decide), oi, if_pos (by omega), bnd_s, push_s, eX9_image_9, if_neg (by decide), e2, if_neg (by omega), if_pos (by omega), same]
  · refine ⟨-1, ?_, ?_⟩
    · rw [iX8_image, eX8_image_0, hi, bnd_s, push_s, eX8_image_4]
      by_cases q1 : 0 ≤ s ∧ s < σ 2 1 1
      · rw [if_pos q1, if_neg (by decide)]
        by_cases z1 : w < 0
        · rw [if_pos z1]
        · rw [if_neg z1, if_neg (by omega)]
      · rw [if_neg q1, if_pos rfl]
    · rw [iX9_image, eX9_image_0, mi, bnd_s, push_s, eX9_image_3]
      by_cases q1 : 0 ≤ s ∧ s < σ 2 1 1
      · rw [if_pos q1, if_neg (by decide), oi, bnd_s, push_s, eX9_image_9, if_neg (show ¬ (0 ≤ w ∧ w ≤ 13) by omega), if_pos rfl]
      · rw [if_neg q1, if_pos rfl])
end ASK
