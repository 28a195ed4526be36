/-! THE TWO MACHINES: the boot -/
def cntF (g : Vec) : Nat := (if standF (g 2) = 0 then 0 else 1) + (if standF (g 3) = 0 then 0 else 1)
theorem cnt_0 {g : Vec} (h : cntF g = 0) : chosenC g = -1 := by
  unfold cntF at h
  unfold chosenC
  by_cases a : standF (g 2) = 0
  · by_cases b : standF (g 3) = 0
    · rw [if_pos ⟨a, b⟩]
    · rw [if_pos a, if_neg b] at h
      cases h
  · rw [if_neg a] at h
    omega
theorem cnt_2 (g : Vec) : cntF g ≤ 2 := by
  unfold cntF
  split <;> split <;> omega
theorem cnt_set {g : Vec} {s : Nat} (hs : s < 2) (h : ¬ standF (g (2 + s)) = 0) : cntF (set g (2 + s) 0) + 1 = cntF g := by
  have z : standF 0 = 0 := rfl
  unfold cntF
  rcases (show s = 0 ∨ s = 1 by omega) with rfl | rfl
  · rw [show (2 + 0 : Nat) = 2 from rfl] at h ⊢
    rw [set_same, set_ne _ _ (by omega), z, if_pos rfl, if_neg h]
    omega
  · rw [show (2 + 1 : Nat) = 3 from rfl] at h ⊢
    rw [set_same, set_ne _ _ (by omega), z, if_pos rfl, if_neg h]
/-- all that a boot does behind a choice -/
def brC (σ0 : Sto) (m : Nat) (x : XP) : Int × XP :=
  if (startL (whyS σ0) m x).1 = -1 then startRecoveryC (copyF (σ0 2 1 0) (σ0 3 1) (σ0 4 1) (startL (whyS σ0) m x).2.1) (startL (whyS σ0) m x).2 else startL (whyS σ0) m x
theorem DD_br {σ0 : Sto} (m : Nat) {x : XP} (d : Dead x) : DD x (brC σ0 m x).2 := by
  have h := DD_startL (whyS σ0) m x d
  unfold brC
  split
  · exact DD_trans h (DD_rec (DD_dead h d) _)
  · exact h
section MOD
variable {N : Nat} {σ σ0 : Sto} {x : XP}
theorem RF_g {j : Nat} (h : RF x σ) (v : Int) (f : Vec) (h6 : j ≠ 6) (h7 : j ≠ 7) (h8 : j ≠ 8) (h9 : j ≠ 9) (hf : FR (set x.2 j v) f) (ho : OKF (set x.2 j v)) : RF (x.1, set x.2 j v) (row σ 43 0 f) := by
  obtain ⟨a, b, c, d, e⟩ := h
  have r30 : row σ 43 0 f 30 0 = σ 30 0 := by rw [row_at, if_neg (by omega)]
  refine ⟨R_44 (R_g a v h7 h8 h9) 43 f (by omega), by rw [r30]; exact b, by rw [row_same]; exact hf, ?_, ⟨e.1, ho⟩⟩
  unfold NR at d ⊢
  show set x.2 j v 6 = newestF x.1
  rw [set_ne _ _ (Ne.symm h6)]
  exact d
/-- flags are written by both -/
theorem m_wf (h : RF x σ) : inv N mX9_writesFlags [vR 30 0] (P σ) = some (none, P (wfM σ)) ∧ KM σ (wfM σ) ∧ R (writeFlagsC x) (wfM σ) ∧ OKX (writeFlagsC x) ∧ wfM σ 43 0 = σ 43 0 ∧ (wfM σ 30 0 24 = 0 → RF (writeFlagsC x) (wfM σ)) := by
  obtain ⟨a, b, c, d, e⟩ := h
  have hm := R_okc a e.1
  have hr := R_wf a d c
  have ho := writeFlagsC_ok e
  have h43 : wfM σ 43 0 = σ 43 0 := wfM_o σ (Or.inl rfl)
  refine ⟨s9_writesFlags hm.2.1 c.2.2.2.2, KM_wf σ, hr, ho, h43, fun h0 => ⟨hr, h0, ?_, NR_wf e.1.2.1 d (R_live hr h0).2.1, ho⟩⟩
  rw [h43]
  unfold FR at c ⊢
  rw [writeFlagsC_o x (by omega) (by omega) (by omega), writeFlagsC_o x (by omega) (by omega) (by omega), writeFlagsC_o x (by omega) (by omega) (by omega), writeFlagsC_o x (by omega) (by omega) (by omega)]
  exact c
/-- a start behind a writing of flags -/
theorem m_starts (h : R x σ) (hx : OKX x) (what : Int) (s : Nat) (hs : s < 4) (hb : x.1 82 < 2147483000) : ∃ τ, inv N mX9_starts [vR 30 0, vI what, vI (s : Int)] (P σ) = some (none, P τ) ∧ KM σ τ ∧ R (noteStartC what (x.1 (14 * s) - 1) x) τ ∧ τ 30 0 24 = σ 30 0 24 := by
  by_cases h0 : σ 30 0 24 = 0
  · have hm := R_okc h hx.1
    have r30 : ∀ g, row σ 40 0 g 30 0 = σ 30 0 := fun g => by rw [row_at, if_neg (by omega)]
    refine ⟨_, s9_starts what s hs hm.1 h0, KM_row _ _ _ (Or.inl rfl), ?_, by rw [r30]⟩
    rw [h.1.1 (14 * s) (by omega)]
    exact R_start h h0 what _ hb
  · have d := R_dead h h0
    exact ⟨σ, s9_starts_cut what _ h0, KM_refl σ, R_dd h (DD_note d _ _) d, rfl⟩
theorem m_rec (h : RF x σ) (he : EnvM σ0 σ) (hb : x.1 82 < 2147483000) (x1 : Int) : ∃ τ, ev N mX9_boots 18 [vR 30 0, vI x1, vI (-1), vX] [] (P σ) = some (some (vI (if τ 30 0 24 = 0 then (startRecoveryC (copyF (σ0 2 1 0) (σ0 3 1) (σ0 4 1) x.1) x).1 else -2)), P τ) ∧ KM σ τ ∧ R (startRecoveryC (copyF (σ0 2 1 0) (σ0 3 1) (σ0 4 1) x.1) x).2 τ := by
  have hm := R_okc h.1 h.2.2.2.2.1
  have ec : copyF (σ 30 0 5) (σ 32 0) (σ 33 0) (σ 40 0) = copyF (σ0 2 1 0) (σ0 3 1) (σ0 4 1) x.1 := by rw [EnvM_copy he, copyF_cells h.1.1.1]
  have cv := copyF_c (σ0 2 1 0) (σ0 3 1) (σ0 4 1) x.1
  rw [eX9_boots_18, if_pos rfl, if_pos h.2.1, if_pos rfl, s9_copyNow he.1 hm, bnd_s, push_s, eX9_boots_99, ec]
  generalize copyF (σ0 2 1 0) (σ0 3 1) (σ0 4 1) x.1 = cp at cv
  by_cases h1 : cp = -1
  · rw [if_pos h1]
    unfold startRecoveryC
    rw [if_pos h1]
    exact ⟨σ, by rw [if_pos h.2.1], KM_refl σ, h.1⟩
  · obtain ⟨s, hs, rfl⟩ : ∃ s : Nat, s < 4 ∧ cp = (s : Int) := by
      rcases cv with z | z | z
      · exact absurd z h1
      · exact ⟨2, by omega, z⟩
      · exact ⟨3, by omega, z⟩
    rw [if_neg h1, sup_row, show (7 : Int).toNat = 7 from rfl]
    have hf2 : FR (set x.2 5 2) (set (σ 43 0) 7 2) := by
      obtain ⟨h2, h3, h4, h5, f0, f1, f2, f3, f4, f5, f6, f7⟩ := h.2.2.1
      unfold FR OKFl
      simp only [set_at, Nat.reduceEqDiff, ↓reduceIte, true_and]
      omega
    have g := RF_g h 2 (set (σ 43 0) 7 2) (j := 5) (by omega) (by omega) (by omega) (by omega) hf2 (okf_set h.2.2.2.2.2 (fun _ => by omega) (by omega))
    obtain ⟨w1, w2, w3, w4, w5, w6⟩ := m_wf (N := N) g
    have e82 : (writeFlagsC (x.1, set x.2 5 2)).1 82 = x.1 82 := writeFlagsC_at _ (Or.inr (by omega))
    obtain ⟨τ, t1, t2, t3, t4⟩ := m_starts (N := N) w3 w4 2 s hs (by rw [e82]; exact hb)
    refine ⟨τ, ?_, KM_trans (KM_row _ _ _ (Or.inr (Or.inl rfl))) (KM_trans w2 t2), ?_⟩
    · rw [w1, bnd_s, push_n, eX9_boots_112, t1, bnd_s, push_n, eX9_boots_116]
      unfold startRecoveryC
      rw [if_neg h1]
      split <;> rfl
    · unfold startRecoveryC
      rw [if_neg h1, Int.toNat_natCast]
      exact t3
end MOD
