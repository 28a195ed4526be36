/-! THE TWO MACHINES: health, whole; every deed -/
theorem FR_six {g f : Vec} (h : FR g f) : FR (set g 4 0) (set f 6 0) := by
  obtain ⟨h2, h3, h4, h5, f0, f1, f2, f3, f4, f5, f6, f7⟩ := h
  unfold FR OKFl
  simp only [set_at, Nat.reduceEqDiff, ↓reduceIte, true_and]
  omega
theorem FR_good {g f : Vec} (h : FR g f) (s : Nat) (hs : s < 2) (t : Int) (ht : 1 ≤ t ∧ t ≤ 7) : FR (set g (2 + s) (g (2 + s) - g (2 + s) % 16 + 2 * t + 1)) (set (set f (4 + s) 1) (2 + s) t) := by
  obtain ⟨h2, h3, h4, h5, f0, f1, f2, f3, f4, f5, f6, f7⟩ := h
  unfold FR OKFl
  rcases (show s = 0 ∨ s = 1 by omega) with rfl | rfl
  · simp only [set_at, Nat.reduceEqDiff, Nat.reduceAdd, ↓reduceIte]
    omega
  · simp only [set_at, Nat.reduceEqDiff, Nat.reduceAdd, ↓reduceIte]
    omega
section MOD
variable {N : Nat} {σ σ0 : Sto} {x : XP}
theorem set4_16 (g : Vec) (s : Nat) (hs : s < 2) : set g 4 0 (2 + s) = g (2 + s) := set_ne _ _ (by omega)
theorem good_b {v t : Int} (hv : 0 ≤ v ∧ v < 256) (ht : 1 ≤ t ∧ t ≤ 7) : 0 ≤ v - v % 16 + 2 * t + 1 ∧ v - v % 16 + 2 * t + 1 < 256 := by omega
theorem blow_m {v b : Int} (hb : 0 ≤ b ∧ b ≤ 31) : b + ((min (v - 1) 31 - b).toNat : Nat) ≤ 31 := by omega
theorem slot_s {v : Int} (h : v = 0 ∨ v = 1) : ∃ s : Nat, s < 2 ∧ v = (s : Int) := by
  rcases h with h | h
  · exact ⟨0, by omega, h⟩
  · exact ⟨1, by omega, h⟩
theorem OKF_slot {g : Vec} (h : OKF g) {s : Nat} (hs : s < 2) : 0 ≤ g (2 + s) ∧ g (2 + s) < 256 := by
  obtain ⟨f2, f3, -⟩ := h
  rcases (show s = 0 ∨ s = 1 by omega) with rfl | rfl
  · exact f2
  · exact f3
theorem m_heals (hg : OKG σ0 1) (h : RP x σ) (he : EnvM σ0 σ) (hr : ¬ x.1 78 = -1) : ∃ τ, inv N mX9_heals [vR 30 0] (P σ) = some (some (vI (if τ 30 0 24 = 0 then (healthC (σ0 2 1 3) x).1 76 else -2)), P τ) ∧ KM σ τ ∧ R (healthC (σ0 2 1 3) x) τ := by
  have tr1 := hg.2.2.2.2.2.2.1
  have tr2 := hg.2.2.2.2.2.2.2.1
  have c78 := h.2.2.2.1.2.2.2.2
  have n78 := (R_live h.1 h.2.1).2.2.1
  obtain ⟨r1, r2, r3⟩ := m_read (N := N) h
  have e38 : ∀ g : Vec, row (rfM σ) 43 0 g 38 0 = rfM σ 38 0 := fun g => by rw [row_at, if_neg (by decide)]
  have e30 : ∀ g : Vec, row (rfM σ) 43 0 g 30 0 = rfM σ 30 0 := fun g => by rw [row_at, if_neg (by decide)]
  have t38 := (EnvM_KM he r2).2.2.2.2.2.1
  have g6 := RF_g r3 0 (set (rfM σ 43 0) 6 0) (j := 4) (by decide) (by decide) (by decide) (by decide) (FR_six r3.2.2.1) (okf_set r3.2.2.2.2.2 (fun _ => zero_b) (by decide))
  have k43 : ∀ f : Vec, KM σ (row (rfM σ) 43 0 f) := fun f => KM_trans r2 (KM_row _ _ _ (Or.inr (Or.inl rfl)))
  rw [iX9_heals, eX9_heals_0, r1, bnd_s, push_n, show (78 : Int).toNat = 78 from rfl, ← n78, eX9_heals_7, sup_row, show (6 : Int).toNat = 6 from rfl]
  by_cases h2 : x.1 78 = 2
  · obtain ⟨w1, w2, w3, w4, w5, w6⟩ := m_wf (N := N) g6
    have ef : healthFlC (σ0 2 1 3) x = (x.1, set x.2 4 0) := by
      unfold healthFlC
      rw [if_neg (by rw [h2]; decide)]
    have eh : healthC (σ0 2 1 3) x = toldC (writeFlagsC (x.1, set x.2 4 0)) := by
      unfold healthC healthFuC
      rw [ef, if_neg (by rw [h2]; decide)]
    obtain ⟨τ, t1, t2, t3⟩ := m_told w3
    refine ⟨τ, ?_, KM_trans (k43 _) (KM_trans w2 t2), ?_⟩
    · rw [if_pos h2, w1, bnd_s, push_n, eX9_heals_34, if_pos h2, t1, eh]
    · rw [eh]
      exact t3
  · have hsl : x.1 78 = 0 ∨ x.1 78 = 1 := by
      generalize x.1 78 = v at c78 hr h2
      clear n78
      omega
    obtain ⟨s, hs, es⟩ := slot_s hsl
    obtain ⟨nn, p20, p28, p40, p48, k2, k4, j6, j7, j8, j9, hs4, r6, hs01⟩ := s_facts hs
    have fr := FR_good g6.2.2.1 s hs (σ0 2 1 3) ⟨tr1, tr2⟩
    rw [row_same] at fr
    have fr : FR (set (set x.2 4 0) (2 + s) (set x.2 4 0 (2 + s) - set x.2 4 0 (2 + s) % 16 + 2 * σ0 2 1 3 + 1)) _ := fr
    rw [set4_16 _ s hs] at fr
    have g := RF_g g6 (x.2 (2 + s) - x.2 (2 + s) % 16 + 2 * σ0 2 1 3 + 1) _ (j := 2 + s) j6 j7 j8 j9 fr (okf_set g6.2.2.2.2.2 (fun _ => good_b (OKF_slot h.2.2.2.2 hs) ⟨tr1, tr2⟩) j6)
    rw [row_row] at g
    have ef : healthFlC (σ0 2 1 3) x = (x.1, set (set x.2 4 0) (2 + s) (x.2 (2 + s) - x.2 (2 + s) % 16 + 2 * σ0 2 1 3 + 1)) := by
      unfold healthFlC
      rw [if_pos hsl, es, Int.toNat_natCast]
    obtain ⟨w1, w2, w3, w4, w5, w6⟩ := m_wf (N := N) g
    rw [← ef] at w3 w4
    have e78 : (writeFlagsC (healthFlC (σ0 2 1 3) x)).1 78 = x.1 78 := by rw [writeFlagsC_at _ (Or.inr (by decide))]; rfl
    have c76 := w4.1.2.2.1
    have eh : healthC (σ0 2 1 3) x = toldC (blowKC ((writeFlagsC (healthFlC (σ0 2 1 3) x)).1 (14 * s + 2)) 6 0 (blowVC (min ((writeFlagsC (healthFlC (σ0 2 1 3) x)).1 (14 * s) - 1) 31 - (writeFlagsC (healthFlC (σ0 2 1 3) x)).1 76).toNat ((writeFlagsC (healthFlC (σ0 2 1 3) x)).1 76) (writeFlagsC (healthFlC (σ0 2 1 3) x)))) := by
      unfold healthC healthFuC
      rw [if_pos hsl, es, Int.toNat_natCast]
    have bm := blow_m (v := (writeFlagsC (healthFlC (σ0 2 1 3) x)).1 (14 * s)) c76
    obtain ⟨τ1, a1, a2, a3⟩ := m_blowV (N := N) s hs _ _ _ _ w3 w4.1 (fun _ => ⟨rfl, rfl⟩) c76.1 bm w4
    have ok1 := blowVC_ok _ _ _ c76.1 bm w4
    obtain ⟨τ2, b1, b2, b3⟩ := m_blowK (N := N) s hs ((writeFlagsC (healthFlC (σ0 2 1 3) x)).1 (14 * s + 2)) 6 0 _ _ rfl a3 ok1 (blowVC_at _ _ _ (Nat.ne_of_lt (Nat.lt_of_lt_of_le (Nat.add_lt_add_right (Nat.mul_lt_mul_of_pos_left hs (by decide)) 2) (by decide))))
    obtain ⟨τ, t1, t2, t3⟩ := m_told b3
    rw [Int.cast_ofNat_Int] at b1
    refine ⟨τ, ?_, KM_trans (k43 _) (KM_trans w2 (KM_trans a2 (KM_trans b2 t2))), ?_⟩
    · rw [if_neg h2, es, k4, k2, if_neg p40, if_pos p48, if_neg p20, if_pos p28]
      simp only [Int.toNat_natCast, sup_row, row_same, row_row, e38, show (3 : Int).toNat = 3 from rfl]
      rw [t38, w1, bnd_s, push_n, eX9_heals_34, if_neg (by rw [← es]; exact h2), a1, b1, eX9_heals_66, if_neg (show ¬ (6 : Int) < 6 by decide), t1, eh]
    · rw [eh]
      exact t3
end MOD
