/-! THE TWO MACHINES: mend -/
theorem lay_rdS (f b : Nat) (hd : f + 14 ≤ b ∨ b + 14 ≤ f) (y : XP) : layC b (rdS f) y = layK b (fun j => y.1 (f + j)) 14 (wrC b 1 0 y) := by
  refine lay_const b (rdS f) (fun j => y.1 (f + j)) (fun z => ∀ t, f ≤ t → t < f + 14 → z.1 t = y.1 t) ?_ ?_ 14 _ (by omega) ?_
  · intro z k w hk hz t t1 t2
    rw [wrC_at _ _ _ _ (by omega)]
    exact hz t t1 t2
  · intro z k hk hz
    exact hz (f + k) (by omega) (by omega)
  · intro t t1 t2
    exact wrC_at _ _ _ _ (by omega)
section MOD
variable {N : Nat} {σ σ0 : Sto} {x : XP}
theorem s9_copy_loop (x1 x2 x3 : Int) (s : Nat) (hs : s < 4) : ∀ (m k : Nat) (τ : Sto), k + m = 14 → (∀ j, j < k → τ 45 0 j = τ 40 0 (14 * s + j)) → ∃ g : Vec, ev N mX9_mends 48 [vR 30 0, vI x1, vI x2, vI x3, vI (s : Int), vI (k : Int)] [] (P τ) = ev N mX9_mends 48 [vR 30 0, vI x1, vI x2, vI x3, vI (s : Int), vI 14] [] (P (row τ 45 0 g)) ∧ ∀ j, j < 14 → g j = τ 40 0 (14 * s + j) := by
  intro m
  induction m with
  | zero =>
    intro k τ hk h
    have e : k = 14 := by omega
    subst e
    exact ⟨τ 45 0, by rw [row_id]; rfl, h⟩
  | succ m ih =>
    intro k τ hk h
    have e1 : w32 (14 * (s : Int)) = ((14 * s : Nat) : Int) := by rw [w32i (by omega) (by omega)]; omega
    have e2 : w32 (((14 * s : Nat) : Int) + (k : Int)) = ((14 * s + k : Nat) : Int) := by rw [w32i (by omega) (by omega)]; omega
    have e3 : w32 ((k : Int) + 1) = ((k + 1 : Nat) : Int) := by rw [w32i (by omega) (by omega)]; omega
    have r40 : ∀ g, row τ 45 0 g 40 0 = τ 40 0 := fun g => by rw [row_at, if_neg (by omega)]
    obtain ⟨g, g1, g2⟩ := ih (k + 1) (row τ 45 0 (set (τ 45 0) k (τ 40 0 (14 * s + k)))) (by omega) (fun j hj => by
      rw [row_same, r40]
      by_cases q : j = k
      · subst q
        exact set_same _ _ _
      · rw [set_ne _ _ q]
        exact h j (by omega))
    rw [row_row] at g1
    rw [r40] at g2
    refine ⟨g, ?_, g2⟩
    rw [eX9_mends_48, if_pos (by omega), e1, e2, e3, if_neg (by omega), if_pos (by omega), if_neg (by omega), if_pos (by omega), sup_row, Int.toNat_natCast, Int.toNat_natCast]
    exact g1
/-- words of one copy are laid into the other one -/
theorem m_mend_lay (h : R x σ) (x1 x2 x3 : Int) (hx1 : x1 = 0 ∨ x1 = 1) (s : Nat) (hs : s = 2 ∨ s = 3) : ∃ τ, ev N mX9_mends 48 [vR 30 0, vI x1, vI x2, vI x3, vI (s : Int), vI 0] [] (P σ) = some (some (vI (if τ 30 0 24 = 0 then x1 + 2 else -2)), P τ) ∧ KM σ τ ∧ R (layC (14 * (5 - s)) (rdS (14 * s)) x) τ := by
  have hs4 : s < 4 := by omega
  obtain ⟨g, g1, g2⟩ := s9_copy_loop (N := N) x1 x2 x3 s hs4 14 0 σ rfl (fun j hj => absurd hj (Nat.not_lt_zero j))
  rw [Int.cast_ofNat_Int] at g1
  have e5 : w32 (5 - (s : Int)) = ((5 - s : Nat) : Int) := by rw [w32i (by omega) (by omega)]; omega
  have ew : w32 (x1 + 2) = x1 + 2 := w32i (by omega) (by omega)
  have l := s9_lay45 (N := N) (σ := row σ 45 0 g) (5 - s) (by omega) (fun j => σ 40 0 (14 * s + j)) (fun j hj => by rw [row_same]; exact g2 j hj)
  have hv : (fun j => x.1 (14 * s + j)) = fun j => x.1 (14 * s + j) := rfl
  rw [g1, eX9_mends_48, if_neg (by omega), e5, l, bnd_s, push_n, eX9_mends_73, ew, lay_rdS _ _ (by omega)]
  have km : KM σ (layM (14 * (5 - s)) (fun j => σ 40 0 (14 * s + j)) 14 (wrM (14 * (5 - s)) 1 0 (row σ 45 0 g))) := KM_trans (KM_row _ 45 _ (by omega)) (KM_trans (KM_wr _ _ _ _) (KM_lay _ _ _ _))
  have r : R (layK (14 * (5 - s)) (fun j => σ 40 0 (14 * s + j)) 14 (wrC (14 * (5 - s)) 1 0 x)) (layM (14 * (5 - s)) (fun j => σ 40 0 (14 * s + j)) 14 (wrM (14 * (5 - s)) 1 0 (row σ 45 0 g))) := R_lay _ (by omega) _ 14 _ _ (by omega) (R_wr (R_44 h 45 g (by omega)) _ _ (by omega) _)
  refine ⟨_, ?_, km, ?_⟩
  · split <;> rfl
  · have hcell := h.1.1
    have cong : ∀ (k : Nat) (y : XP), k ≤ 14 → layK (14 * (5 - s)) (fun j => x.1 (14 * s + j)) k y = layK (14 * (5 - s)) (fun j => σ 40 0 (14 * s + j)) k y := by
      intro k
      induction k with
      | zero => exact fun _ _ => rfl
      | succ k ih =>
        intro y hk
        unfold layK
        rw [show x.1 (14 * s + k) = σ 40 0 (14 * s + k) from hcell _ (by omega)]
        exact ih _ (by omega)
    rw [cong 14 _ (by omega)]
    exact r
theorem m_mend_tail (h : R x σ) (hl : σ 30 0 24 = 0) (ho : OKX x) (he : EnvM σ0 σ) (d : Int) (hd : d = 0 ∨ d = 1) : ∃ τ, bnd (inv N mX9_whyOf [vR 30 0, vI 2] (P σ)) (fun r S2 => ev N mX9_mends 21 [vR 30 0, vI d, vX, vX, vX, vX] (push r []) S2) = some (some (vI (if τ 30 0 24 = 0 then (mendL σ0 d x).1 else -2)), P τ) ∧ KM σ τ ∧ R (mendL σ0 d x).2 τ := by
  have hm := okx_R h ho
  have y2 := s9_why (N := N) 2 (by decide) he.1 hm
  have y3 := s9_why (N := N) 3 (by decide) he.1 hm
  rw [show whyM σ (σ 40 0) 2 = whyS σ0 x.1 2 from by rw [he.2.1]; exact (whyF_cells h.1.1 _ _ _ 2 (by decide)).symm] at y2
  rw [show whyM σ (σ 40 0) 3 = whyS σ0 x.1 3 from by rw [he.2.1]; exact (whyF_cells h.1.1 _ _ _ 3 (by decide)).symm] at y3
  simp only [Int.cast_ofNat_Int] at y2 y3
  obtain ⟨τa, a1, a2, a3⟩ := m_mend_lay (N := N) h d 1 0 hd 2 (Or.inl rfl)
  obtain ⟨τb, b1, b2, b3⟩ := m_mend_lay (N := N) h d 0 1 hd 3 (Or.inr rfl)
  simp only [Int.cast_ofNat_Int] at a1 b1
  rw [y2, bnd_s, push_s, eX9_mends_21, if_pos hl, if_pos hl, y3, bnd_s, bnd_s, push_s, eX9_mends_32, eX9_mends_32]
  unfold mendL
  by_cases q2 : whyS σ0 x.1 2 = 0 <;> by_cases q3 : whyS σ0 x.1 3 = 0
  · rw [if_pos q2, if_pos q2, if_pos q3, if_pos q3, if_pos rfl, if_pos hl]
    exact ⟨σ, by rw [if_pos hl], KM_refl σ, h⟩
  · rw [if_pos q2, if_pos q2, if_neg q3, if_neg q3, if_neg (show ¬ (1 : Int) = 0 by decide), if_neg (show ¬ (1 : Int) = 0 by decide)]
    exact ⟨τa, a1, a2, a3⟩
  · rw [if_neg q2, if_neg q2, if_pos q3, if_pos q3, if_neg (show ¬ (0 : Int) = 1 by decide), if_pos rfl]
    exact ⟨τb, b1, b2, b3⟩
  · rw [if_neg q2, if_neg q2, if_neg q3, if_neg q3, if_pos rfl, if_pos hl]
    exact ⟨σ, by rw [if_pos hl], KM_refl σ, h⟩
theorem DD_mendL (d : Int) (hd : Dead x) : DD x (mendL σ0 d x).2 := by
  have d1 := DD_wr hd 42 1 0
  have d2 := DD_wr hd 28 1 0
  unfold mendL
  split
  · split
    · exact DD_refl x
    · show DD x (layC 42 (rdS 28) x)
      rw [lay_rdS 28 42 (by omega)]
      exact DD_trans d1 (DD_layK _ _ _ _ (DD_dead d1 hd))
  · split
    · show DD x (layC 28 (rdS 42) x)
      rw [lay_rdS 42 28 (by omega)]
      exact DD_trans d2 (DD_layK _ _ _ _ (DD_dead d2 hd))
    · exact DD_refl x
theorem m_mends (h : RP x σ) (he : EnvM σ0 σ) : ∃ τ, inv N mX9_mends [vR 30 0] (P σ) = some (some (vI (if τ 30 0 24 = 0 then (mendC σ0 x).1 else -2)), P τ) ∧ KM σ τ ∧ R (mendC σ0 x).2 τ := by
  have hm := okx_R h.1 h.2.2.2
  have cg : ∀ j, 56 ≤ j → j < 72 → x.1 j = σ 40 0 j := fun j a b => h.1.1.1 j (by omega)
  have c0 : whole1 (σ 40 0) 56 = whole1 x.1 56 := (whole1_congr (fun j a b => cg j (by omega) (by omega))).symm
  have c1 : whole1 (σ 40 0) 64 = whole1 x.1 64 := (whole1_congr (fun j a b => cg j (by omega) (by omega))).symm
  rw [iX9_mends, eX9_mends_0, s9_isWhole0 hm.2.1, bnd_s, push_s, eX9_mends_5, s9_isWhole1 hm.2.1, bnd_s, push_s, eX9_mends_8, c0, c1]
  unfold mendC mendF mendD
  by_cases q : whole1 x.1 64 = whole1 x.1 56
  · rw [if_pos q, if_pos q, if_pos q.symm, if_pos h.2.1]
    exact m_mend_tail h.1 h.2.1 h.2.2.2 he 0 (Or.inl rfl)
  · obtain ⟨r1, r2, r3⟩ := m_read (N := N) h
    obtain ⟨w1, w2, w3, w4, w5, w6⟩ := m_wf (N := N) r3
    have km := KM_trans r2 w2
    rw [if_neg q, if_neg q, if_neg (fun z => q z.symm), r1, bnd_s, push_n, eX9_mends_11, w1, bnd_s, push_n, eX9_mends_13]
    by_cases hl : wfM (rfM σ) 30 0 24 = 0
    · rw [if_pos hl]
      obtain ⟨τ, t1, t2, t3⟩ := m_mend_tail (N := N) w3 hl w4 (EnvM_KM he km) 1 (Or.inr rfl)
      exact ⟨τ, t1, KM_trans km t2, t3⟩
    · have d := R_dead w3 hl
      rw [if_neg hl, if_neg hl, if_neg hl]
      exact ⟨_, by rw [if_neg hl], km, R_dd w3 (DD_mendL 1 d) d⟩
end MOD
