/-! QUESTIONS about what is held -/
section ASK
variable {N : Nat} {σ : Sto} {L : Int}
theorem pair_of {mc mm : Nat} {args : List MV} (h : ∀ (L : Int) (σ : Sto), INV L σ → ∃ ans, inv N mc (vR 0 0 :: args) (P σ) = some (some (vI ans), P σ) ∧ inv N mm (vR 30 0 :: args) (P σ) = some (some (vI ans), P σ)) : PAIR N mc mm args := by
  intro L σ hI hL
  obtain ⟨ans, h1, h2⟩ := h L σ hI
  exact ⟨ans, σ, σ, h1, h2, up300 hI (by omega)⟩
theorem INV_eq (h : INV L σ) : ∀ j, j < 78 → σ 7 0 j = σ 40 0 j := h.2.1.2.1.1.1
theorem INV_okm (h : INV L σ) : OKC (σ 40 0) := OKC_R h.2.1.1 (INV_eq h) (by rw [← h.2.1.2.1.2]; exact h.2.1.1.2.2.2.2)
theorem pair_word (s w : Int) : PAIR N mX8_word mX9_word [vI s, vI w] := pair_of (fun L σ h => by
  have eq := INV_eq h
  have ci := fun k h0 h1 => s2_cell (N := N) (σ := σ) (i := 0) k h0 h1
  have oi := fun v lo hi => s9_in (N := N) (σ := σ) v lo hi
  clear h
  by_cases q : (0 ≤ s ∧ s < 4) ∧ (0 ≤ w ∧ w < 14)
  · have e1 : w32 (w32 (s * 14) + w) = 14 * s + w := by rw [w32i (x := s * 14) (by omega) (by omega), w32i (by omega) (by omega)]; omega
    have e2 : w32 (w32 (14 * s) + w) = 14 * s + w := by rw [w32i (x := 14 * s) (by omega) (by omega), w32i (by omega) (by omega)]
    refine ⟨σ 7 0 (14 * s + w).toNat, ?_, ?_⟩
    · rw [iX8_word, eX8_word_0, s8_isStore, if_pos q.1, bnd_s, push_s, eX8_word_2, if_neg (by decide), if_neg (by omega), if_pos (by omega), e1, ci _ (by omega) (by omega), bnd_s, push_s, eX8_word_18]
    · rw [iX9_word, eX9_word_0, oi, if_pos (by omega), bnd_s, push_s, eX9_word_5, if_neg (by decide), oi, if_pos (by omega), bnd_s, push_s, eX9_word_11, if_neg (by decide), e2, if_neg (by omega), if_pos (by omega), eq _ (by omega)]
  · refine ⟨-1, ?_, ?_⟩
    · rw [iX8_word, eX8_word_0, s8_isStore, bnd_s, push_s, eX8_word_2]
      by_cases q1 : 0 ≤ s ∧ s < 4
      · rw [if_pos q1, if_neg (by decide)]
        by_cases z1 : w < 0
        · rw [if_pos z1]
        · rw [if_neg z1, if_neg (by omega)]
      · rw [if_neg q1, if_pos rfl]
    · rw [iX9_word, eX9_word_0, oi, bnd_s, push_s, eX9_word_5]
      by_cases q1 : 0 ≤ s ∧ s ≤ 3
      · rw [if_pos q1, if_neg (by decide), oi, bnd_s, push_s, eX9_word_11, if_neg (show ¬ (0 ≤ w ∧ w ≤ 13) by omega), if_pos rfl]
      · rw [if_neg q1, if_pos rfl])
theorem pair_octet (s w : Int) : PAIR N mX8_octet mX9_octet [vI s, vI w] := pair_of (fun L σ h => by
  have eq := INV_eq h
  have ci := fun k h0 h1 => s2_cell (N := N) (σ := σ) (i := 0) k h0 h1
  have oi := fun v lo hi => s9_in (N := N) (σ := σ) v lo hi
  have pa := fun h0 h1 => s9_pageAt (N := N) (σ := σ) s h0 h1
  clear h
  by_cases q : (s = 0 ∨ s = 1) ∧ (0 ≤ w ∧ w < 8)
  · have e1 : w32 (w32 (56 + w32 (s * 8)) + w) = 56 + 8 * s + w := by rw [w32i (x := s * 8) (by omega) (by omega), w32i (x := 56 + s * 8) (by omega) (by omega), w32i (by omega) (by omega)]; omega
    have e2 : w32 (56 + 8 * s + w) = 56 + 8 * s + w := w32i (by omega) (by omega)
    refine ⟨σ 7 0 (56 + 8 * s + w).toNat, ?_, ?_⟩
    · rw [iX8_octet, eX8_octet_0, s8_isPage, if_pos q.1, bnd_s, push_s, eX8_octet_2, if_neg (by decide), if_neg (by omega), if_pos (by omega), e1, ci _ (by omega) (by omega), bnd_s, push_s, eX8_octet_20]
    · rw [iX9_octet, eX9_octet_0, oi, if_pos (by omega), bnd_s, push_s, eX9_octet_5, if_neg (by decide), oi, if_pos (by omega), bnd_s, push_s, eX9_octet_11, if_neg (by decide), pa (by omega) (by omega), bnd_s, push_s, eX9_octet_16, e2, if_neg (by omega), if_pos (by omega), eq _ (by omega)]
  · refine ⟨-1, ?_, ?_⟩
    · rw [iX8_octet, eX8_octet_0, s8_isPage, bnd_s, push_s, eX8_octet_2]
      by_cases q1 : s = 0 ∨ s = 1
      · rw [if_pos q1, if_neg (by decide)]
        by_cases z1 : w < 0
        · rw [if_pos z1]
        · rw [if_neg z1, if_neg (by omega)]
      · rw [if_neg q1, if_pos rfl]
    · rw [iX9_octet, eX9_octet_0, oi, bnd_s, push_s, eX9_octet_5]
      by_cases q1 : 0 ≤ s ∧ s ≤ 1
      · rw [if_pos q1, if_neg (by decide), oi, bnd_s, push_s, eX9_octet_11, if_neg (show ¬ (0 ≤ w ∧ w ≤ 7) by omega), if_pos rfl]
      · rw [if_neg q1, if_pos rfl])
theorem pair_journal (s : Int) : PAIR N mX8_journal mX9_journal [vI s] := pair_of (fun L σ h => by
  have eq := INV_eq h
  have ci := fun k h0 h1 => s2_cell (N := N) (σ := σ) (i := 0) k h0 h1
  have oi := fun v lo hi => s9_in (N := N) (σ := σ) v lo hi
  clear h
  by_cases q : 0 ≤ s ∧ s ≤ 3
  · have e1 : w32 (72 + s) = 72 + s := w32i (by omega) (by omega)
    refine ⟨σ 7 0 (72 + s).toNat, ?_, ?_⟩
    · rw [iX8_journal, eX8_journal_0, if_neg (by omega), if_neg (by omega), e1, ci _ (by omega) (by omega), bnd_s, push_s, eX8_journal_13]
    · rw [iX9_journal, eX9_journal_0, oi, if_pos q, bnd_s, push_s, eX9_journal_5, if_neg (by decide), e1, if_neg (by omega), if_pos (by omega), eq _ (by omega)]
  · refine ⟨-1, ?_, ?_⟩
    · rw [iX8_journal, eX8_journal_0]
      by_cases z1 : s < 0
      · rw [if_pos z1]
      · rw [if_neg z1, if_pos (by omega)]
    · rw [iX9_journal, eX9_journal_0, oi, if_neg q, bnd_s, push_s, eX9_journal_5, if_pos rfl])
theorem pair_whole (s : Int) : PAIR N mX8_whole mX9_whole [vI s] := pair_of (fun L σ h => by
  have eq := INV_eq h
  have hm := INV_okm h
  have hc := h.2.1.1
  have c0 := s2_isWhole0 (N := N) (σ := σ) (i := 0) hc.2.1
  have c1 := s2_isWhole1 (N := N) (σ := σ) (i := 0) hc.2.1
  have m0 := s9_isWhole0 (N := N) (σ := σ) hm.2.1
  have m1 := s9_isWhole1 (N := N) (σ := σ) hm.2.1
  have g0 : whole1 (σ 40 0) 56 = whole1 (σ 7 0) 56 := (whole1_congr (fun j a b => eq j (by omega))).symm
  have g1 : whole1 (σ 40 0) 64 = whole1 (σ 7 0) 64 := (whole1_congr (fun j a b => eq j (by omega))).symm
  have oi := fun v lo hi => s9_in (N := N) (σ := σ) v lo hi
  have tr := fun v => s9_truth (N := N) (σ := σ) v
  rw [g0] at m0
  rw [g1] at m1
  by_cases q0 : s = 0
  · subst q0
    refine ⟨if whole1 (σ 7 0) 56 = 0 then 0 else 1, ?_, ?_⟩
    · rw [iX8_whole, eX8_whole_0, s8_isPage, if_pos (Or.inl rfl), bnd_s, push_s, eX8_whole_2, if_neg (by decide), c0, bnd_s, push_s, eX8_whole_9]
      split <;> rfl
    · rw [iX9_whole, eX9_whole_0, oi, if_pos (by decide), bnd_s, push_s, eX9_whole_5, if_neg (by decide), m0, bnd_s, push_s, eX9_whole_9, tr, bnd_s, push_s, eX9_whole_10]
  by_cases q1 : s = 1
  · subst q1
    refine ⟨if whole1 (σ 7 0) 64 = 0 then 0 else 1, ?_, ?_⟩
    · rw [iX8_whole, eX8_whole_0, s8_isPage, if_pos (Or.inr rfl), bnd_s, push_s, eX8_whole_2, if_neg (by decide), c1, bnd_s, push_s, eX8_whole_9]
      split <;> rfl
    · rw [iX9_whole, eX9_whole_0, oi, if_pos (by decide), bnd_s, push_s, eX9_whole_5, if_neg (by decide), m1, bnd_s, push_s, eX9_whole_9, tr, bnd_s, push_s, eX9_whole_10]
  refine ⟨-1, ?_, ?_⟩
  · rw [iX8_whole, eX8_whole_0, s8_isPage, if_neg (fun z => by rcases z with z | z <;> contradiction), bnd_s, push_s, eX8_whole_2, if_pos rfl]
  · rw [iX9_whole, eX9_whole_0, oi, if_neg (fun z => by have := z.1; have := z.2; clear c0 c1 m0 m1 g0 g1; omega), bnd_s, push_s, eX9_whole_5, if_pos rfl])
theorem pair_why (s : Int) : PAIR N mX8_why mX9_why [vI s] := pair_of (fun L σ h => by
  have eq := INV_eq h
  have hm := INV_okm h
  have hc := h.2.1.1
  have he := h.1.2.1
  have hg := h.1.1
  have oi := fun v lo hi => s9_in (N := N) (σ := σ) v lo hi
  by_cases q : 0 ≤ s ∧ s < 4
  · obtain ⟨s, rfl⟩ := Int.eq_ofNat_of_zero_le q.1
    have hs : s < 4 := Int.ofNat_lt.mp q.2
    have q3 : 0 ≤ (s : Int) ∧ (s : Int) ≤ 3 := by omega
    have m := s9_why (N := N) s hs he.1 hm
    have c := s2_reason (N := N) (i := 0) s hs hg hc
    rw [show whyM σ (σ 40 0) s = whyF (σ 2 1 0) (σ 3 1) (σ 4 1) (σ 7 0) s from (he.2.1 _ _).trans (whyF_cells eq _ _ _ s hs).symm] at m
    exact ⟨_, by rw [iX8_why, eX8_why_0, s8_isStore, if_pos q, bnd_s, push_s, eX8_why_2, if_neg (by decide), c, bnd_s, push_s, eX8_why_7], by rw [iX9_why, eX9_why_0, oi, if_pos q3, bnd_s, push_s, eX9_why_5, if_neg (by decide), m, bnd_s, push_s, eX9_why_9]⟩
  · refine ⟨-1, ?_, ?_⟩
    · rw [iX8_why, eX8_why_0, s8_isStore, if_neg q, bnd_s, push_s, eX8_why_2, if_pos rfl]
    · rw [iX9_why, eX9_why_0, oi, if_neg (fun z => q ⟨z.1, Int.lt_of_le_of_lt z.2 (by decide)⟩), bnd_s, push_s, eX9_why_5, if_pos rfl])
theorem pair_revoked (k : Int) : PAIR N mX8_revoked mX9_revoked [vI k] := pair_of (fun L σ h => by
  have e77 := INV_eq h 77 (by decide)
  have hm := INV_okm h
  have hc := h.2.1.1
  have he := h.1.2.1
  have hg := h.1.1
  have oi := fun v lo hi => s9_in (N := N) (σ := σ) v lo hi
  have tr := fun v => s9_truth (N := N) (σ := σ) v
  have hk := s0_hasKey (N := N) (σ := σ) (i := 1) k
  have ks := he.2.2.1
  have k6 := hg.2.1
  have k0 := hg.1
  have ew : w32 (σ 30 0 5 - 1) = σ 30 0 5 - 1 := w32i (by rw [ks]; omega) (by rw [ks]; omega)
  by_cases q : 0 ≤ k ∧ k < σ 2 1 0
  · have c := s2_isRevoked (N := N) (i := 0) hc.2.2.2.1 hg.2.2.2.2.2.2.2.2.2.2.2.1 k q.1 q.2
    have m := s9_isRevoked (N := N) hm.2.2.2.1 he.1.2.2.2.2.2.2.2.2.2.2.2.1 k q.1 (by rw [ks]; exact q.2)
    have rr : revN (σ 33 0) (σ 40 0 77) 6 k = revN (σ 4 1) (σ 7 0 77) 6 k := by
      rw [e77]
      exact revN_congr (σ 2 1 0) hg.2.2.2.2.2.2.2.2.2.2.2.1 he.2.2.2.2.2.2.2.2 6 k q.2
    rw [rr] at m
    refine ⟨if revN (σ 4 1) (σ 7 0 77) 6 k = 0 then 0 else 1, ?_, ?_⟩
    · rw [iX8_revoked, eX8_revoked_0, hk, if_pos q, bnd_s, push_s, eX8_revoked_4, if_neg (by decide), c, bnd_s, push_s, eX8_revoked_11]
      split <;> rfl
    · rw [iX9_revoked, eX9_revoked_0, ew, oi, if_pos ⟨q.1, by rw [ks]; exact Int.le_sub_one_of_lt q.2⟩, bnd_s, push_s, eX9_revoked_9, if_neg (by decide), m, bnd_s, push_s, eX9_revoked_13, tr, bnd_s, push_s, eX9_revoked_14]
  · refine ⟨-1, ?_, ?_⟩
    · rw [iX8_revoked, eX8_revoked_0, hk, if_neg q, bnd_s, push_s, eX8_revoked_4, if_pos rfl]
    · rw [iX9_revoked, eX9_revoked_0, ew, oi, if_neg (fun z => q ⟨z.1, by rw [← ks]; exact Int.lt_of_le_sub_one z.2⟩), bnd_s, push_s, eX9_revoked_9, if_pos rfl])
end ASK
