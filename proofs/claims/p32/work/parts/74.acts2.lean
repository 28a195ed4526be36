/-! ACTS of the program -/
/-- a call of both: the same answer, and all holds behind it -/
def PAIR (N mc mm : Nat) (args : List MV) : Prop := ∀ (L : Int) (σ : Sto), INV L σ → L < 2147480000 → ∃ ans σ1 σ2, inv N mc (vR 0 0 :: args) (P σ) = some (some (vI ans), P σ1) ∧ inv N mm (vR 30 0 :: args) (P σ1) = some (some (vI ans), P σ2) ∧ INV (L + 300) σ2
section ACT
variable {N : Nat} {σ : Sto} {L : Int}
theorem up300 {L M : Int} {σ : Sto} (h : INV L σ) (hl : L ≤ M + 300) : INV (M + 300) σ := INV_le h hl
theorem pair_boot (b c : Int) (hb : b = 0 ∨ b = 1) (hc : c < 2147483648) : PAIR N mX8_boot mX9_boot [vI b, vI c] := by
  intro L σ h hL
  obtain ⟨ans, σ1, σ2, h1, h2, h3⟩ := a_act (N := N) h hL 0 b 0 c hc
  refine ⟨ans, σ1, σ2, ?_, ?_, up300 h3 (by omega)⟩
  · rw [iX8_boot, eX8_boot_0]
    rcases hb with rfl | rfl
    · rw [if_pos rfl, h1, bnd_s, push_s, eX8_boot_10]
    · rw [if_neg (by decide), h1, bnd_s, push_s, eX8_boot_10]
  · rw [iX9_boot, eX9_boot_0, s9_truth, bnd_s, push_s, eX9_boot_4]
    rcases hb with rfl | rfl
    · rw [if_pos rfl, h2, bnd_s, push_s, eX9_boot_7]
    · rw [if_neg (by decide), h2, bnd_s, push_s, eX9_boot_7]
theorem pair_health (c : Int) (hc : c < 2147483648) : PAIR N mX8_health mX9_health [vI c] := by
  intro L σ h hL
  obtain ⟨ans, σ1, σ2, h1, h2, h3⟩ := a_act (N := N) h hL 1 0 0 c hc
  refine ⟨ans, σ1, σ2, ?_, ?_, up300 h3 (by omega)⟩
  · rw [iX8_health, eX8_health_0, h1, bnd_s, push_s, eX8_health_6]
  · rw [iX9_health, eX9_health_0, h2, bnd_s, push_s, eX9_health_6]
theorem pair_install (s b c : Int) (hc : c < 2147483648) : PAIR N mX8_install mX9_install [vI s, vI b, vI c] := by
  intro L σ h hL
  obtain ⟨ans, σ1, σ2, h1, h2, h3⟩ := a_act (N := N) h hL 2 s b c hc
  refine ⟨ans, σ1, σ2, ?_, ?_, up300 h3 (by omega)⟩
  · rw [iX8_install, eX8_install_0, h1, bnd_s, push_s, eX8_install_6]
  · rw [iX9_install, eX9_install_0, h2, bnd_s, push_s, eX9_install_6]
theorem pair_refresh (b c : Int) (hc : c < 2147483648) : PAIR N mX8_refresh mX9_refresh [vI b, vI c] := by
  intro L σ h hL
  obtain ⟨ans, σ1, σ2, h1, h2, h3⟩ := a_act (N := N) h hL 3 0 b c hc
  refine ⟨ans, σ1, σ2, ?_, ?_, up300 h3 (by omega)⟩
  · rw [iX8_refresh, eX8_refresh_0, h1, bnd_s, push_s, eX8_refresh_6]
  · rw [iX9_refresh, eX9_refresh_0, h2, bnd_s, push_s, eX9_refresh_6]
theorem pair_prefer (s c : Int) (hc : c < 2147483648) : PAIR N mX8_prefer mX9_prefer [vI s, vI c] := by
  intro L σ h hL
  obtain ⟨ans, σ1, σ2, h1, h2, h3⟩ := a_act (N := N) h hL 4 s 0 c hc
  refine ⟨ans, σ1, σ2, ?_, ?_, up300 h3 (by omega)⟩
  · rw [iX8_prefer, eX8_prefer_0, h1, bnd_s, push_s, eX8_prefer_6]
  · rw [iX9_prefer, eX9_prefer_0, h2, bnd_s, push_s, eX9_prefer_6]
theorem pair_mend (c : Int) (hc : c < 2147483648) : PAIR N mX8_mend mX9_mend [vI c] := by
  intro L σ h hL
  obtain ⟨ans, σ1, σ2, h1, h2, h3⟩ := a_act (N := N) h hL 5 0 0 c hc
  refine ⟨ans, σ1, σ2, ?_, ?_, up300 h3 (by omega)⟩
  · rw [iX8_mend, eX8_mend_0, h1, bnd_s, push_s, eX8_mend_6]
  · rw [iX9_mend, eX9_mend_0, h2, bnd_s, push_s, eX9_mend_6]
theorem pair_resume (c : Int) (hc : c < 2147483648) : PAIR N mX8_resume mX9_resume [vI c] := by
  intro L σ h hL
  obtain ⟨ans, σ1, σ2, h1, h2, h3⟩ := a_act (N := N) h hL 6 0 0 c hc
  refine ⟨ans, σ1, σ2, ?_, ?_, up300 h3 (by omega)⟩
  · rw [iX8_resume, eX8_resume_0, h1, bnd_s, push_s, eX8_resume_6]
  · rw [iX9_resume, eX9_resume_0, h2, bnd_s, push_s, eX9_resume_6]
/-- an act that sets cells in one go -/
theorem a_cells (h : INV L σ) {c n : Vec} (hc : CELL L c n) : INV L (row (remS (row (keepS σ) 7 0 c)) 40 0 n) := by
  have fx1 : FX σ (row (keepS σ) 7 0 c) := FX_trans (FX_keep σ) (FX_row _ 7 0 c (by omega) (by omega) (by omega))
  have fx2 := FX_trans fx1 (FX_rem (row (keepS σ) 7 0 c))
  have fx3 := FX_trans fx2 (FX_row (remS (row (keepS σ) 7 0 c)) 40 0 n (by omega) (by omega) (by omega))
  have o := fun (k : Nat) (hk : k ≠ 7) => (row_at (keepS σ) 7 0 c k 0).trans (if_neg (fun z => hk z.1))
  have p41 : row (keepS σ) 7 0 c 41 0 = σ 41 0 := (o 41 (by decide)).trans (keepS_o σ 0 (by decide) (by decide))
  have p40 : row (keepS σ) 7 0 c 40 0 = σ 40 0 := (o 40 (by decide)).trans (keepS_o σ 0 (by decide) (by decide))
  have p30 : row (keepS σ) 7 0 c 30 0 = σ 30 0 := (o 30 (by decide)).trans (keepS_o σ 0 (by decide) (by decide))
  have pb := past_both h (τ := row (keepS σ) 7 0 c) p41 p40 (by rw [p30]) (o 9 (by decide)) (o 10 (by decide))
  have r := fun (k : Nat) (hk : k ≠ 40) => (row_at (remS (row (keepS σ) 7 0 c)) 40 0 n k 0).trans (if_neg (fun z => hk z.1))
  refine ⟨BASE_FX fx3 h.1, ?_, ?_⟩
  · rw [row_same, r 7 (by decide), remS_o _ 0 (by decide) (by decide), row_same]
    exact hc
  · rw [r 10 (by decide), r 9 (by decide), r 41 (by decide), r 30 (by decide)]
    exact pb
theorem CELL_78 {c n : Vec} (h : CELL L c n) : CELL L (set c 78 (-1)) (set n 78 (-1)) := by
  obtain ⟨a, ⟨⟨b1, b2, b3, b4, b5⟩, d⟩, e, t8⟩ := h
  refine ⟨okc_set a (by decide) (fun z => absurd z (by decide)) (fun z => absurd z (by decide)) (fun _ => by omega), ⟨⟨fun j hj => ?_, ?_, ?_, ?_, RS_congr b5 (fun j hj => set_ne _ _ (by omega)) (fun j hj => set_ne _ _ (by omega))⟩, ?_⟩, ?_, T8_eq t8 (set_ne _ _ (by decide))⟩
  · rw [set_ne _ _ (by omega), set_ne _ _ (by omega), b1 j hj]
  · rw [set_ne _ _ (by decide), set_ne _ _ (by decide), b2]
  · rw [set_ne _ _ (by decide), set_ne _ _ (by decide), b3]
  · rw [set_ne _ _ (by decide), set_ne _ _ (by decide), b4]
  · rw [set_same, set_same]
  · rw [set_ne _ _ (by decide)]
    exact e
theorem CELL_low {c n : Vec} (h : CELL L c n) (k : Nat) (v : Int) (hk : k < 72) (h1 : k < 56 → 0 ≤ v ∧ v < 2147483648) (h2 : 56 ≤ k → 0 ≤ v ∧ v < 256) : CELL L (set c k v) (set n k v) := by
  obtain ⟨a, ⟨⟨b1, b2, b3, b4, b5⟩, d⟩, e, t8⟩ := h
  have ok : OKC (set c k v) := by
    rw [← fill_1]
    by_cases q : k < 56
    · exact okc_word a (by omega) (h1 q)
    · exact okc_page a (by omega) (by omega) (h2 (by omega))
  refine ⟨ok, ⟨⟨fun j hj => ?_, ?_, ?_, ?_, RS_congr b5 (fun j hj => set_ne _ _ (by omega)) (fun j hj => set_ne _ _ (by omega))⟩, ?_⟩, ?_, T8_eq t8 (set_ne _ _ (by omega))⟩
  · unfold set
    rw [b1 j hj]
  · rw [set_ne _ _ (by omega), set_ne _ _ (by omega), b2]
  · rw [set_ne _ _ (by omega), set_ne _ _ (by omega), b3]
  · rw [set_ne _ _ (by omega), set_ne _ _ (by omega), b4]
  · rw [set_ne _ _ (by omega), set_ne _ _ (by omega), d]
  · rw [set_ne _ _ (by omega)]
    exact e
theorem pair_off : PAIR N mX8_off mX9_off [] := by
  intro L σ h hL
  have e78 := h.2.1.2.1.2
  have on := s2_isOn (N := N) (σ := σ) (i := 0)
  by_cases q : σ 7 0 78 = -1
  · refine ⟨0, σ, σ, ?_, ?_, up300 h (by omega)⟩
    · rw [iX8_off, eX8_off_0, on, bnd_s, push_s, eX8_off_3, if_pos q, if_pos rfl]
    · rw [iX9_off, eX9_off_0, s9_isOff, bnd_s, push_s, eX9_off_2, if_pos (e78.symm.trans q), if_neg (by decide)]
  · have k7 := keepS_o σ (k := 7) 0 (by decide) (by decide)
    have o := fun (k : Nat) (hk : k ≠ 7) => (row_at (keepS σ) 7 0 (set (σ 7 0) 78 (-1)) k 0).trans (if_neg (fun z => hk z.1))
    have p40 : row (keepS σ) 7 0 (set (σ 7 0) 78 (-1)) 40 0 = σ 40 0 := (o 40 (by decide)).trans (keepS_o σ 0 (by decide) (by decide))
    have p30 : row (keepS σ) 7 0 (set (σ 7 0) 78 (-1)) 30 0 = σ 30 0 := (o 30 (by decide)).trans (keepS_o σ 0 (by decide) (by decide))
    have rm := a_rem (N := N) h (τ := row (keepS σ) 7 0 (set (σ 7 0) 78 (-1))) (by rw [p30])
    have s40 : remS (row (keepS σ) 7 0 (set (σ 7 0) 78 (-1))) 40 0 = σ 40 0 := (remS_o _ 0 (by decide) (by decide)).trans p40
    have of := s2_turnOff (N := N) (σ := keepS σ) (i := 0)
    rw [k7] at of
    refine ⟨1, row (keepS σ) 7 0 (set (σ 7 0) 78 (-1)), row (remS (row (keepS σ) 7 0 (set (σ 7 0) 78 (-1)))) 40 0 (set (σ 40 0) 78 (-1)), ?_, ?_, up300 (a_cells h (CELL_78 h.2.1)) (by omega)⟩
    · rw [iX8_off, eX8_off_0, on, bnd_s, push_s, eX8_off_3, if_neg q, if_neg (by decide), a_keep h, bnd_s, push_n, eX8_off_9, of, bnd_s, push_n, eX8_off_12]
    · rw [iX9_off, eX9_off_0, s9_isOff, bnd_s, push_s, eX9_off_2, p40, if_neg (fun z => q (e78.trans z)), if_pos rfl, rm, bnd_s, push_n, eX9_off_7, sup_row, s40]
      rfl
theorem pair_undo : PAIR N mX8_undo mX9_undo [] := by
  intro L σ h hL
  obtain ⟨t, d, e, -⟩ := h.2.2
  by_cases q : σ 9 0 3 = 0
  · refine ⟨-1, σ, σ, ?_, ?_, up300 h (by omega)⟩
    · rw [iX8_undo, eX8_undo_0, c_back0 q, bnd_s, push_s, eX8_undo_3]
    · exact m_undo0 (e.trans q)
  · have cb := c_back (N := N) t.1 t.2 (by omega) d.2
    have r30 : row (row σ 9 0 (set (set (σ 9 0) 2 ((σ 9 0 2 + 11) % 12)) 3 (σ 9 0 3 - 1))) 7 0 (cpyV (σ 10 0) (σ 7 0) (107 * ((σ 9 0 2 + 11) % 12).toNat) 0 107) 30 0 = σ 30 0 := by rw [row_at, if_neg (by decide), row_at, if_neg (by decide)]
    have r40 : row (row σ 9 0 (set (set (σ 9 0) 2 ((σ 9 0 2 + 11) % 12)) 3 (σ 9 0 3 - 1))) 7 0 (cpyV (σ 10 0) (σ 7 0) (107 * ((σ 9 0 2 + 11) % 12).toNat) 0 107) 40 0 = σ 40 0 := by rw [row_at, if_neg (by decide), row_at, if_neg (by decide)]
    have r41 : row (row σ 9 0 (set (set (σ 9 0) 2 ((σ 9 0 2 + 11) % 12)) 3 (σ 9 0 3 - 1))) 7 0 (cpyV (σ 10 0) (σ 7 0) (107 * ((σ 9 0 2 + 11) % 12).toNat) 0 107) 41 0 = σ 41 0 := by rw [row_at, if_neg (by decide), row_at, if_neg (by decide)]
    have mu := m_undo (N := N) (σ := row (row σ 9 0 (set (set (σ 9 0) 2 ((σ 9 0 2 + 11) % 12)) 3 (σ 9 0 3 - 1))) 7 0 (cpyV (σ 10 0) (σ 7 0) (107 * ((σ 9 0 2 + 11) % 12).toNat) 0 107)) (by rw [r30, e]; omega) (by rw [r30, e]; exact d.2)
    have pb := PAST_back h.2.2 q (σ 7 0) (σ 40 0)
    rw [r30, r40, r41] at mu
    refine ⟨σ 9 0 3 - 1, _, _, ?_, by rw [e] at mu; exact mu, ?_⟩
    · rw [iX8_undo, eX8_undo_0, cb, bnd_s, push_s, eX8_undo_3]
    · rw [← e]
      generalize hc : cpyV (σ 10 0) (σ 7 0) (107 * ((σ 9 0 2 + 11) % 12).toNat) 0 107 = c at pb
      generalize hn : cpyV (σ 41 0) (σ 40 0) (107 * (σ 30 0 21 - 1).toNat) 0 107 = n at pb
      generalize hs : row (row σ 9 0 (set (set (σ 9 0) 2 ((σ 9 0 2 + 11) % 12)) 3 (σ 30 0 21 - 1))) 7 0 c = τ
      have fx1 : FX σ τ := by
        rw [← hs]
        exact FX_trans (FX_row σ 9 0 _ (by omega) (by omega) (by omega)) (FX_row _ 7 0 c (by omega) (by omega) (by omega))
      have t30 : τ 30 0 = σ 30 0 := by rw [← hs, row_at, if_neg (by decide), row_at, if_neg (by decide)]
      have t7 : τ 7 0 = c := by rw [← hs, row_same]
      have t9 : τ 9 0 = set (set (σ 9 0) 2 ((σ 9 0 2 + 11) % 12)) 3 (σ 9 0 3 - 1) := by rw [← hs, row_at, if_neg (by decide), row_same, e]
      have t10 : τ 10 0 = σ 10 0 := by rw [← hs, row_at, if_neg (by decide), row_at, if_neg (by decide)]
      have t41 : τ 41 0 = σ 41 0 := by rw [← hs, row_at, if_neg (by decide), row_at, if_neg (by decide)]
      have fx2 : FX τ (row τ 30 0 (set (σ 30 0) 21 (σ 30 0 21 - 1))) := FX_30 τ _ (by rw [set_ne _ _ (by decide), t30]) (by rw [set_ne _ _ (by decide), t30]) (by rw [set_ne _ _ (by decide), t30]) (by rw [set_ne _ _ (by decide), t30])
      have fx3 := FX_trans fx1 (FX_trans fx2 (FX_row _ 40 0 n (by omega) (by omega) (by omega)))
      have o := fun (k : Nat) (h1 : k ≠ 40) (h2 : k ≠ 30) => ((row_at (row τ 30 0 (set (σ 30 0) 21 (σ 30 0 21 - 1))) 40 0 n k 0).trans (if_neg (fun z => h1 z.1))).trans ((row_at τ 30 0 _ k 0).trans (if_neg (fun z => h2 z.1)))
      refine up300 (L := L) ⟨BASE_FX fx3 h.1, ?_, ?_⟩ (by omega)
      · rw [row_same, o 7 (by decide) (by decide), t7]
        exact pb.2
      · rw [o 10 (by decide) (by decide), o 9 (by decide) (by decide), o 41 (by decide) (by decide), t10, t9, t41, row_at, if_neg (by decide), row_same, set_same, set_same, set_ne _ _ (show 2 ≠ 3 by decide), set_same]
        exact pb.1
end ACT
