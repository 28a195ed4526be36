/-! THE TWO MACHINES: an install ends -/
theorem layK_at (b : Nat) (v : Nat → Int) : ∀ (k : Nat) (x : XP) {j : Nat}, k ≤ 14 → (j < b ∨ b + 14 ≤ j) → (layK b v k x).1 j = x.1 j
  | 0, _, _, _, _ => rfl
  | k + 1, x, j, hk, h => (layK_at b v k _ (by omega) h).trans (wrC_at _ _ _ _ (by omega))
theorem layK_o (b : Nat) (v : Nat → Int) {j : Nat} (h8 : j ≠ 8) (h9 : j ≠ 9) : ∀ (k : Nat) (x : XP), (layK b v k x).2 j = x.2 j
  | 0, _ => rfl
  | k + 1, x => (layK_o b v h8 h9 k _).trans (wrC_o _ _ _ _ h8 h9)
theorem DD_layK (b : Nat) (v : Nat → Int) : ∀ (k : Nat) (x : XP), Dead x → DD x (layK b v k x)
  | 0, x, _ => DD_refl x
  | k + 1, x, d => by
    have h := DD_wr d (b + k) 1 (v k)
    exact DD_trans h (DD_layK b v k _ (DD_dead h d))
theorem RF_keep {x y : XP} {σ τ : Sto} (h : RF x σ) (hr : R y τ) (h0 : τ 30 0 24 = 0) (hp : ∀ j, 56 ≤ j → j < 72 → y.1 j = x.1 j) (h2 : y.2 2 = x.2 2) (h3 : y.2 3 = x.2 3) (h4 : y.2 4 = x.2 4) (h5 : y.2 5 = x.2 5) (h6 : y.2 6 = x.2 6) (hf : τ 43 0 = σ 43 0) (ho : OKX y) : RF y τ := by
  obtain ⟨a, b, c, d, e⟩ := h
  refine ⟨hr, h0, ?_, ?_, ho⟩
  · unfold FR at c ⊢
    rw [h2, h3, h4, h5, hf]
    exact c
  · unfold NR at d ⊢
    rw [h6, newestF_congr hp, d]
theorem FR_favour {c g f : Vec} (h : FR g f) (s : Nat) (hs : s < 2) : FR (favourC s (c, g)).2 (pfV s f) := by
  obtain ⟨h2, h3, h4, h5, f0, f1, f2, f3, f4, f5, f6, f7⟩ := h
  unfold favourC pfV
  rcases (show s = 0 ∨ s = 1 by omega) with rfl | rfl
  · by_cases q : g 3 < 240
    · rw [if_pos (show set g (2 + 0) (240 + g (2 + 0) % 16) (3 - 0) < 240 from by rw [set_ne _ _ (by omega)]; exact q)]
      unfold FR OKFl
      simp only [set_at, Nat.reduceEqDiff, Nat.reduceAdd, Nat.reduceSub, ↓reduceIte, true_and]
      omega
    · rw [if_neg (show ¬ set g (2 + 0) (240 + g (2 + 0) % 16) (3 - 0) < 240 from by rw [set_ne _ _ (by omega)]; exact q)]
      unfold FR OKFl
      simp only [set_at, Nat.reduceEqDiff, Nat.reduceAdd, Nat.reduceSub, ↓reduceIte, true_and]
      omega
  · by_cases q : g 2 < 240
    · rw [if_pos (show set g (2 + 1) (240 + g (2 + 1) % 16) (3 - 1) < 240 from by rw [set_ne _ _ (by omega)]; exact q)]
      unfold FR OKFl
      simp only [set_at, Nat.reduceEqDiff, Nat.reduceAdd, Nat.reduceSub, ↓reduceIte, true_and]
      omega
    · rw [if_neg (show ¬ set g (2 + 1) (240 + g (2 + 1) % 16) (3 - 1) < 240 from by rw [set_ne _ _ (by omega)]; exact q)]
      unfold FR OKFl
      simp only [set_at, Nat.reduceEqDiff, Nat.reduceAdd, Nat.reduceSub, ↓reduceIte, true_and]
      omega
theorem FR_try {g f : Vec} (h : FR g f) (s : Nat) (hs : s < 2) (h0 : f s = 0) (h4 : f (4 + s) = 0) (t : Int) (ht : 1 ≤ t ∧ t ≤ 7) : FR (set g (2 + s) (2 * t)) (set f (2 + s) t) := by
  obtain ⟨e2, e3, e4, e5, f0, f1, f2, f3, f4, f5, f6, f7⟩ := h
  unfold FR OKFl
  rcases (show s = 0 ∨ s = 1 by omega) with rfl | rfl
  · simp only [Nat.reduceAdd] at h4
    simp only [set_at, Nat.reduceEqDiff, Nat.reduceAdd, ↓reduceIte]
    omega
  · simp only [Nat.reduceAdd] at h4
    simp only [set_at, Nat.reduceEqDiff, Nat.reduceAdd, ↓reduceIte]
    omega
theorem pf_try (s : Nat) (hs : s < 2) (f : Vec) (t : Int) : set (pfV s f) (2 + s) t = pfV s (set f (2 + s) t) := by
  unfold pfV
  rw [set_ne f t (show 1 - s ≠ 2 + s by omega), set_comm _ _ _ _ _ (show 1 - s ≠ 2 + s by omega), set_comm _ _ _ _ _ (show s ≠ 2 + s by omega)]
theorem DD_favour (s : Nat) (hs : s < 2) (x : XP) : DD x (favourC s x) := by
  unfold favourC
  have d1 := DD_g x (2 + s) (240 + x.2 (2 + s) % 16) (by omega) (by omega) (by omega)
  split
  · exact d1
  · exact DD_trans d1 (DD_g (x.1, set x.2 (2 + s) (240 + x.2 (2 + s) % 16)) (3 - s) _ (by omega) (by omega) (by omega))
theorem favour_at (s : Nat) (x : XP) : (favourC s x).1 = x.1 := rfl
theorem favour_6 (s : Nat) (hs : s < 2) (x : XP) : (favourC s x).2 6 = x.2 6 := by
  show (if (set x.2 (2 + s) (240 + x.2 (2 + s) % 16)) (3 - s) < 240 then set x.2 (2 + s) (240 + x.2 (2 + s) % 16) else set (set x.2 (2 + s) (240 + x.2 (2 + s) % 16)) (3 - s) ((set x.2 (2 + s) (240 + x.2 (2 + s) % 16)) (3 - s) - 16)) 6 = x.2 6
  split
  · exact set_ne _ _ (by omega)
  · rw [set_ne _ _ (show 6 ≠ 3 - s by omega), set_ne _ _ (show 6 ≠ 2 + s by omega)]
theorem fgV_s (s : Nat) (hs : s < 2) (f : Vec) : fgV s f s = 0 ∧ fgV s f (4 + s) = 0 := by
  unfold fgV
  refine ⟨?_, set_same _ _ _⟩
  rw [set_ne _ _ (show s ≠ 4 + s by omega), set_ne _ _ (show s ≠ 2 + s by omega), set_same]
section MOD
variable {N : Nat} {σ σ0 : Sto} {x : XP}
/-- the end: flags anew, the journal is closed -/
theorem m_fin_tail (s : Nat) (hs : s < 2) (x2 : Int) (h : R x σ) (ho : OKX x) (tr : Int) (ht : 1 ≤ tr ∧ tr ≤ 7) (e3 : σ 38 0 3 = tr) (h0 : σ 43 0 s = 0) (h4 : σ 43 0 (4 + s) = 0) (hf : σ 30 0 24 = 0 → RF x σ) :
    ∃ τ, ev N mX9_resumes 29 [vR 30 0, vI (s : Int), vI x2] [] (P σ) = some (none, P τ) ∧ KM σ τ ∧ R (wrC 74 1 0 (writeFlagsC (favourC s (setFl s (2 * tr) x)))) τ := by
  obtain ⟨nn, p20, p28, p40, p48, k2, k4, j6, j7, j8, j9, hs4, r6, hs01⟩ := s_facts hs
  have e30 : ∀ g : Vec, row σ 43 0 g 30 0 = σ 30 0 := fun g => by rw [row_at, if_neg (by decide)]
  have e38 : ∀ g : Vec, row σ 43 0 g 38 0 = σ 38 0 := fun g => by rw [row_at, if_neg (by decide)]
  have dfl : DD x (favourC s (setFl s (2 * tr) x)) := DD_trans (DD_g x (2 + s) (2 * tr) j7 j8 j9) (DD_favour s hs _)
  rw [eX9_resumes_29, s9_prefers s hs, bnd_s, push_n, eX9_resumes_32, k2, if_neg p20, if_pos p28, sup_row, row_same, row_row, e38, show (3 : Int).toNat = 3 from rfl, e3, Int.toNat_natCast, e30]
  have km0 := KM_row σ 43 (set (pfV s (σ 43 0)) (2 + s) tr) (Or.inr (Or.inl rfl))
  have w74 := fun τ => s9_writes (N := N) (σ := τ) 74 (by decide) 0
  by_cases hl : σ 30 0 24 = 0
  · have rf := hf hl
    have f1 := FR_favour (c := x.1) (FR_try rf.2.2.1 s hs h0 h4 tr ht) s hs
    rw [← pf_try s hs] at f1
    have g : RF (favourC s (setFl s (2 * tr) x)) (row σ 43 0 (set (pfV s (σ 43 0)) (2 + s) tr)) := by
      refine ⟨R_44 ?_ 43 _ (Or.inl rfl), by rw [e30]; exact hl, by rw [row_same]; exact f1, ?_, favourC_ok hs (setFl_ok ho (by omega) hs)⟩
      · have hr := h
        obtain ⟨d1, d2, d3, d4⟩ := dfl
        unfold R RL RD at hr ⊢
        rw [d1, d2, d3, d4]
        exact hr
      · unfold NR
        rw [favour_6 s hs]
        show set x.2 (2 + s) (2 * tr) 6 = newestF x.1
        rw [set_ne _ _ r6]
        exact rf.2.2.2.1
    obtain ⟨w1, w2, w3, w4, w5, w6⟩ := m_wf (N := N) g
    rw [if_pos hl, w1, bnd_s, push_n, eX9_resumes_47]
    exact ⟨_, by rw [show (74 : Int) = ((74 : Nat) : Int) from rfl, w74, bnd_s, push_n, eX9_resumes_51], KM_trans km0 (KM_trans w2 (KM_wr _ _ _ _)), R_wr w3 74 1 (by decide) 0⟩
  · have d := R_dead h hl
    have dw : DD x (writeFlagsC (favourC s (setFl s (2 * tr) x))) := DD_trans dfl (DD_wf (DD_dead dfl d))
    have r := R_44 (R_dd h dw d) 43 (set (pfV s (σ 43 0)) (2 + s) tr) (Or.inl rfl)
    rw [if_neg hl, eX9_resumes_47]
    exact ⟨_, by rw [show (74 : Int) = ((74 : Nat) : Int) from rfl, w74, bnd_s, push_n, eX9_resumes_51], KM_trans km0 (KM_wr _ _ _ _), R_wr r 74 1 (by decide) 0⟩
end MOD
