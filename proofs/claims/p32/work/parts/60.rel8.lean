/-! THE TWO MACHINES: the boot, whole -/
section MOD
variable {N : Nat} {σ σ0 : Sto} {x : XP}
theorem FR_stand {g f : Vec} (h : FR g f) : 0 ≤ standF (g 2) ∧ 0 ≤ standF (g 3) := by
  obtain ⟨h2, h3, h4, h5, f0, f1, f2, f3, f4, f5, f6, f7⟩ := h
  exact ⟨(standF_0 (by omega)).1, (standF_0 (by omega)).1⟩
theorem startL_none (W : Vec → Nat → Int) (m : Nat) (h : chosenC x.2 = -1) : startL W m x = (-1, x) := by
  cases m with
  | zero => rfl
  | succ m =>
    unfold startL
    rw [if_pos h]
theorem zero_b : 0 ≤ (0 : Int) ∧ (0 : Int) < 256 := by omega
theorem six_ne {s : Nat} (hs : s < 2) (f : Vec) (v : Int) : set f (2 + s) v 6 = f 6 := set_ne _ _ (by omega)
theorem m6_w {v : Int} (h : 0 ≤ v ∧ v < 256) : w32 (v + 1) = v + 1 ∧ w32 (v - 0) = v - 0 ∧ w32 (v - 1) = v - 1 := ⟨w32i (by omega) (by omega), w32i (by omega) (by omega), w32i (by omega) (by omega)⟩
theorem R_lt {a : Int} (h : 0 ≤ a ∧ a < 8) : 0 ≤ a ∧ a < 256 := by omega
theorem countTry_6 (x : XP) {s : Nat} (hs : s < 2) : (countTryC s x).2 6 = x.2 6 := by
  unfold countTryC
  show set (set (if x.2 (2 + s) % 2 = 0 then set x.2 (2 + s) (x.2 (2 + s) - 2) else x.2) 4 (min (x.2 4 + 1) 255)) 5 (s : Int) 6 = x.2 6
  rw [set_ne _ _ (show 6 ≠ 5 by decide), set_ne _ _ (show 6 ≠ 4 by decide)]
  split
  · rw [set_ne _ _ (by omega)]
  · rfl
theorem s_facts {s : Nat} (hs : s < 2) : (¬ (s : Int) = -1) ∧ (¬ ((2 + s : Nat) : Int) < 0) ∧ (((2 + s : Nat) : Int) < 8) ∧ (¬ ((4 + s : Nat) : Int) < 0) ∧ (((4 + s : Nat) : Int) < 8) ∧ w32 (2 + (s : Int)) = ((2 + s : Nat) : Int) ∧ w32 (4 + (s : Int)) = ((4 + s : Nat) : Int) ∧ 2 + s ≠ 6 ∧ 2 + s ≠ 7 ∧ 2 + s ≠ 8 ∧ 2 + s ≠ 9 ∧ s < 4 ∧ 6 ≠ 2 + s ∧ (s = 0 ∨ s = 1) := by
  refine ⟨by omega, by omega, by omega, by omega, by omega, ?_, ?_, by omega, by omega, by omega, by omega, by omega, by omega, by omega⟩
  · rw [w32i (by omega) (by omega)]; omega
  · rw [w32i (by omega) (by omega)]; omega
theorem m_boot_loop (hg : OKG σ0 1) (x1 : Int) : ∀ (m : Nat) (x : XP) (σ : Sto), cntF x.2 ≤ m → RF x σ → EnvM σ0 σ → x.1 82 < 2147483000 →
    ∃ τ, ev N mX9_boots 18 [vR 30 0, vI x1, vI (chosenC x.2), vX] [] (P σ) = some (some (vI (if τ 30 0 24 = 0 then (brC σ0 m x).1 else -2)), P τ) ∧ KM σ τ ∧ R (brC σ0 m x).2 τ := by
  intro m
  induction m with
  | zero =>
    intro x σ hc h he hb
    have c := cnt_0 (by omega : cntF x.2 = 0)
    have q := m_rec (N := N) h he hb x1
    unfold brC
    rw [startL_none _ _ c, c, if_pos rfl]
    exact q
  | succ m ih =>
    intro x σ hc h he hb
    by_cases c : chosenC x.2 = -1
    · have q := m_rec (N := N) h he hb x1
      unfold brC
      rw [startL_none _ _ c, c, if_pos rfl]
      exact q
    obtain ⟨s, hs, cs⟩ := chosen_s c
    obtain ⟨nn, p20, p28, p40, p48, k2, k4, j6, j7, j8, j9, hs4, r6, hs01⟩ := s_facts hs
    obtain ⟨-, st⟩ := chosen_st (FR_stand h.2.2.1).1 (FR_stand h.2.2.1).2 cs
    have hm := R_okc h.1 h.2.2.2.2.1
    have ew : whyM σ (σ 40 0) s = whyS σ0 x.1 s := by
      rw [he.2.1]
      exact (whyF_cells h.1.1.1 _ _ _ s hs4).symm
    rw [cs, eX9_boots_18, if_neg nn, s9_why s hs4 he.1 hm, bnd_s, push_s, eX9_boots_24, ew]
    by_cases h2 : whyS σ0 x.1 s = 0
    · have ebr : brC σ0 (m + 1) x = ((s : Int), noteStartC (s : Int) ((writeFlagsC (countTryC s x)).1 (14 * s) - 1) (writeFlagsC (countTryC s x))) := by
        unfold brC startL
        rw [if_neg c, cs, Int.toNat_natCast, if_pos h2, if_neg nn]
      have hf2 := FR_count h.2.2.1 x.1 s hs st
      have ho : OKX (countTryC s x) := by
        rcases chosenC_c h.2.2.2.2.2 with z | ⟨z, z2⟩ | ⟨z, z2⟩
        · exact absurd z c
        · exact countTryC_ok s hs h.2.2.2.2 (by rw [show s = 0 from Int.ofNat.inj (cs.symm.trans z)]; exact z2)
        · exact countTryC_ok s hs h.2.2.2.2 (by rw [show s = 1 from Int.ofNat.inj (cs.symm.trans z)]; exact z2)
      generalize hff : set (set (set (σ 43 0) (2 + s) (σ 43 0 (2 + s) - (if σ 43 0 (4 + s) = 1 then 0 else 1))) 6 (min 255 (σ 43 0 6 + 1))) 7 (s : Int) = ff at hf2
      have g : RF (countTryC s x) (row σ 43 0 ff) := by
        obtain ⟨a, b, cc, d, e⟩ := h
        have r30 : row σ 43 0 ff 30 0 = σ 30 0 := by rw [row_at, if_neg (by decide)]
        have a2 : R (countTryC s x) σ := by
          have dd := DD_count (x := x) hs
          obtain ⟨e1, e2, e3, e4⟩ := dd
          unfold R RL RD at a ⊢
          rw [e1, e2, e3, e4]
          exact a
        refine ⟨R_44 a2 43 ff (Or.inl rfl), by rw [r30]; exact b, by rw [row_same]; exact hf2, ?_, ho⟩
        unfold NR at d ⊢
        show (countTryC s x).2 6 = newestF x.1
        rw [← d]
        exact countTry_6 x hs
      obtain ⟨w1, w2, w3, w4, w5, w6⟩ := m_wf (N := N) g
      have e82 : (writeFlagsC (countTryC s x)).1 82 = x.1 82 := writeFlagsC_at _ (Or.inr (by decide))
      obtain ⟨τ, t1, t2, t3, t4⟩ := m_starts (N := N) w3 w4 (s : Int) s hs4 (by rw [e82]; exact hb)
      rw [ebr]
      refine ⟨τ, ?_, KM_trans (KM_row _ _ _ (Or.inr (Or.inl rfl))) (KM_trans w2 t2), t3⟩
      have f6 := h.2.2.1.2.2.2.2.2.2.2.2.2.2.1
      have f2 : 0 ≤ σ 43 0 (2 + s) ∧ σ 43 0 (2 + s) < 8 := by
        have q := h.2.2.1.2.2.2.2
        rcases hs01 with rfl | rfl
        · exact q.2.2.1
        · exact q.2.2.2.1
      have fin : bnd (inv N mX9_writesFlags [vR 30 0] (P (row σ 43 0 ff))) (fun r S2 => ev N mX9_boots 86 [vR 30 0, vI x1, vI (s : Int), vX] (push r []) S2) = some (some (vI (if τ 30 0 24 = 0 then (s : Int) else -2)), P τ) := by
        rw [w1, bnd_s, push_n, eX9_boots_86, t1, bnd_s, push_n, eX9_boots_90]
        split <;> rfl
      rw [if_pos h2, if_pos h.2.1, if_neg nn, k2, k4, if_neg p20, if_pos p28, if_neg p40, if_pos p48, ← fin, ← hff]
      simp only [Int.toNat_natCast, Int.reduceToNat, sup_row, row_same, row_row]
      have n6 : ∀ v, set (σ 43 0) (2 + s) v 6 = σ 43 0 6 := fun v => six_ne hs _ v
      have m6 := (m6_w f6).1
      have d0 := (m6_w (R_lt f2)).2.1
      have d1 := (m6_w (R_lt f2)).2.2
      rw [n6, n6, m6, d0, d1]
      by_cases q : σ 43 0 (4 + s) = 1
      · rw [if_pos q, if_pos q, if_neg p20, if_pos p28]
      · rw [if_neg q, if_neg q, if_neg p20, if_pos p28]
    · have ebr : brC σ0 (m + 1) x = brC σ0 m (writeFlagsC (x.1, set x.2 (2 + s) 0)) := by
        unfold brC
        rw [show startL (whyS σ0) (m + 1) x = startL (whyS σ0) m (writeFlagsC (x.1, set x.2 (2 + s) 0)) from by
          conv => lhs; unfold startL
          rw [if_neg c, cs, Int.toNat_natCast, if_neg h2]]
      have g := RF_g h 0 (fgV s (σ 43 0)) (j := 2 + s) j6 j7 j8 j9 (FR_forget h.2.2.1 s hs) (okf_set h.2.2.2.2.2 (fun _ => zero_b) j6)
      obtain ⟨w1, w2, w3, w4, w5, w6⟩ := m_wf (N := N) g
      have e82 : (writeFlagsC (x.1, set x.2 (2 + s) 0)).1 82 = x.1 82 := writeFlagsC_at _ (Or.inr (by decide))
      rw [if_neg h2, s9_forgets s hs, bnd_s, push_n, eX9_boots_28, w1, bnd_s, push_n, eX9_boots_30, ebr]
      have km : KM σ (wfM (row σ 43 0 (fgV s (σ 43 0)))) := KM_trans (KM_row _ _ _ (Or.inr (Or.inl rfl))) w2
      generalize hτ : wfM (row σ 43 0 (fgV s (σ 43 0))) = τ at w1 w2 w3 w5 w6 km
      by_cases h3 : τ 30 0 24 = 0
      · have rf := w6 h3
        have hcn : cntF (writeFlagsC (x.1, set x.2 (2 + s) 0)).2 ≤ m := by
          have q := cnt_set hs st
          have : cntF (writeFlagsC (x.1, set x.2 (2 + s) 0)).2 = cntF (set x.2 (2 + s) 0) := by
            unfold cntF
            rw [writeFlagsC_o _ (by decide) (by decide) (by decide), writeFlagsC_o _ (by decide) (by decide) (by decide)]
          rw [this]
          exact Nat.le_of_succ_le_succ (by show cntF (set x.2 (2 + s) 0) + 1 ≤ m + 1; rw [q]; exact hc)
        obtain ⟨υ, u1, u2, u3⟩ := ih _ τ hcn rf (EnvM_KM he km) (by rw [e82]; exact hb)
        refine ⟨υ, ?_, KM_trans km u2, u3⟩
        rw [if_pos h3, s9_slotChosen rf.2.2.1, bnd_s, push_s, eX9_boots_37, u1]
      · have d := R_dead w3 h3
        refine ⟨τ, ?_, km, R_dd w3 (DD_br m d) d⟩
        rw [if_neg h3, eX9_boots_37, eX9_boots_18, if_pos rfl, if_neg h3, if_neg h3]
end MOD
