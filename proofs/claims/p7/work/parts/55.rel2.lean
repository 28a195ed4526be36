/-! THE TWO MACHINES: flags -/
theorem whole1_congr {c n : Vec} {b : Nat} (h : ∀ j, b ≤ j → j < b + 8 → c j = n j) : whole1 c b = whole1 n b := by
  unfold whole1
  rw [h b (by omega) (by omega), h (b + 1) (by omega) (by omega), h (b + 2) (by omega) (by omega), h (b + 3) (by omega) (by omega), h (b + 4) (by omega) (by omega), h (b + 5) (by omega) (by omega), h (b + 6) (by omega) (by omega), h (b + 7) (by omega) (by omega)]
theorem newestF_congr {c n : Vec} (h : ∀ j, 56 ≤ j → j < 72 → c j = n j) : newestF c = newestF n := by
  unfold newestF
  rw [whole1_congr (c := c) (n := n) (b := 56) (fun j a b => h j (by omega) (by omega)), whole1_congr (c := c) (n := n) (b := 64) (fun j a b => h j (by omega) (by omega)), h 57 (by omega) (by omega), h 65 (by omega) (by omega)]
theorem nxC_congr {c n : Vec} (h : ∀ j, 56 ≤ j → j < 72 → c j = n j) (w : Int) : nxC c w = nxC n w := by
  unfold nxC
  rw [h 57 (by omega) (by omega), h 65 (by omega) (by omega)]
theorem R_g {x : XP} {σ : Sto} (h : R x σ) {j : Nat} (v : Int) (h7 : j ≠ 7) (h8 : j ≠ 8) (h9 : j ≠ 9) : R (x.1, set x.2 j v) σ := by
  unfold R RL RD at h ⊢
  show RC x.1 (σ 40 0) ∧ set x.2 j v 8 = _ ∧ ((_ ∧ set x.2 j v 9 = 0 ∧ _ ∧ ((set x.2 j v 7 = -1 ∧ _) ∨ (0 ≤ set x.2 j v 8 ∧ set x.2 j v 8 ≤ set x.2 j v 7 ∧ set x.2 j v 7 < 2147483648 ∧ _ = set x.2 j v 7 - set x.2 j v 8))) ∨ (_ ∧ set x.2 j v 9 = 1 ∧ _ ∧ ¬ set x.2 j v 7 = -1 ∧ ¬ set x.2 j v 8 < set x.2 j v 7))
  rw [set_ne _ _ (Ne.symm h7), set_ne _ _ (Ne.symm h8), set_ne _ _ (Ne.symm h9)]
  exact h
theorem fill1_eq (c : Vec) (a : Nat) (v : Int) : fill c a 1 v a = v := by
  rw [fill_1, set_same]
theorem fill1_ne (c : Vec) {a j : Nat} (v : Int) (h : j ≠ a) : fill c a 1 v j = c j := by
  rw [fill_1, set_ne _ _ h]
theorem fill_ne (c : Vec) {a m j : Nat} (v : Int) (h : j < a ∨ a + m ≤ j) : fill c a m v j = c j := by
  unfold fill
  rw [if_neg (by omega)]
/-- what a page holds behind a whole writing of flags -/
theorem wfC_live {b : Nat} {nx : Int} {x : XP} (h : (wfC b nx x).2 9 = 0) :
    (wfC b nx x).1 b = 165 ∧ (wfC b nx x).1 (b + 1) = nx ∧ (wfC b nx x).1 (b + 2) = x.2 2 ∧ (wfC b nx x).1 (b + 3) = x.2 3 ∧ (wfC b nx x).1 (b + 4) = x.2 4 ∧ (wfC b nx x).1 (b + 5) = x.2 5
    ∧ (wfC b nx x).1 (b + 6) = (165 + 2 * nx + 3 * x.2 2 + 4 * x.2 3 + 5 * x.2 4 + 6 * x.2 5) / 256 ∧ (wfC b nx x).1 (b + 7) = (165 + 2 * nx + 3 * x.2 2 + 4 * x.2 3 + 5 * x.2 4 + 6 * x.2 5) % 256 := by
  unfold wfC at h ⊢
  generalize 165 + 2 * nx + 3 * x.2 2 + 4 * x.2 3 + 5 * x.2 4 + 6 * x.2 5 = sm at h ⊢
  obtain ⟨e7, h⟩ := wrC_live h
  obtain ⟨e6, h⟩ := wrC_live h
  obtain ⟨e5, h⟩ := wrC_live h
  obtain ⟨e4, h⟩ := wrC_live h
  obtain ⟨e3, h⟩ := wrC_live h
  obtain ⟨e2, h⟩ := wrC_live h
  obtain ⟨e1, h⟩ := wrC_live h
  obtain ⟨e0, h⟩ := wrC_live h
  rw [e7, e6, e5, e4, e3, e2, e1, e0]
  generalize (wrC b 8 255 x).1 = c
  refine ⟨?_, ?_, ?_, ?_, ?_, ?_, ?_, ?_⟩ <;> simp (disch := omega) only [fill1_eq, fill1_ne]
theorem whole_wfC {b : Nat} {nx : Int} {x : XP} (h : (wfC b nx x).2 9 = 0) : whole1 (wfC b nx x).1 b = 1 := by
  obtain ⟨e0, e1, e2, e3, e4, e5, e6, e7⟩ := wfC_live h
  unfold whole1
  rw [e0, e1, e2, e3, e4, e5, e6, e7]
  rw [if_pos]
  refine ⟨rfl, ?_⟩
  omega
theorem NR_wf {x : XP} (hb : OKB x.1) (hn : NR x) (h : (writeFlagsC x).2 9 = 0) : NR (writeFlagsC x) := by
  have b57 := hb 57 (by omega) (by omega)
  have b65 := hb 65 (by omega) (by omega)
  have hn2 : x.2 6 = newestF x.1 := hn
  unfold NR
  unfold writeFlagsC at h ⊢
  by_cases h6 : x.2 6 = 0
  · rw [if_pos h6] at h ⊢
    have h9 : (wfC 64 (nxC x.1 0) x).2 9 = 0 := by
      rw [show ((wfC 64 (nxC x.1 0) x).1, set (wfC 64 (nxC x.1 0) x).2 6 1).2 9 = (wfC 64 (nxC x.1 0) x).2 9 from set_ne (wfC 64 (nxC x.1 0) x).2 1 (show 9 ≠ 6 by omega)] at h
      exact h
    have w := whole_wfC h9
    have l := (wfC_live h9).2.1
    have o : whole1 (wfC 64 (nxC x.1 0) x).1 56 = whole1 x.1 56 := whole1_congr (fun j a b => wfC_at _ _ (Or.inl (by omega)))
    have o57 : (wfC 64 (nxC x.1 0) x).1 57 = x.1 57 := wfC_at _ _ (Or.inl (by omega))
    show set (wfC 64 (nxC x.1 0) x).2 6 1 6 = newestF (wfC 64 (nxC x.1 0) x).1
    rw [set_same]
    rw [h6] at hn2
    have w56 : whole1 x.1 56 = 1 := by
      rcases whole1_b x.1 56 with q | q
      · unfold newestF at hn2
        rw [q] at hn2
        simp only [Int.reduceEq, false_and, ↓reduceIte] at hn2
        split at hn2 <;> cases hn2
      · exact q
    have l2 : (wfC 64 (nxC x.1 0) x).1 65 = (x.1 57 + 1) % 256 := by
      rw [l]
      rfl
    unfold newestF
    rw [o, w, w56, o57, l2, if_pos ⟨rfl, rfl⟩, if_pos rfl]
  · rw [if_neg h6] at h ⊢
    have h9 : (wfC 56 (nxC x.1 (x.2 6)) x).2 9 = 0 := by
      rw [show ((wfC 56 (nxC x.1 (x.2 6)) x).1, set (wfC 56 (nxC x.1 (x.2 6)) x).2 6 0).2 9 = (wfC 56 (nxC x.1 (x.2 6)) x).2 9 from set_ne (wfC 56 (nxC x.1 (x.2 6)) x).2 0 (show 9 ≠ 6 by omega)] at h
      exact h
    have w := whole_wfC h9
    have l := (wfC_live h9).2.1
    have o : whole1 (wfC 56 (nxC x.1 (x.2 6)) x).1 64 = whole1 x.1 64 := whole1_congr (fun j a b => wfC_at _ _ (Or.inr (by omega)))
    have o65 : (wfC 56 (nxC x.1 (x.2 6)) x).1 65 = x.1 65 := wfC_at _ _ (Or.inr (by omega))
    show set (wfC 56 (nxC x.1 (x.2 6)) x).2 6 0 6 = newestF (wfC 56 (nxC x.1 (x.2 6)) x).1
    rw [set_same]
    unfold newestF
    rw [o, w, o65]
    rcases whole1_b x.1 64 with q | q
    · rw [q]
      rfl
    · have m1 : newestF x.1 = 1 := by
        rcases newestF_b x.1 with z | z | z
        · unfold newestF at z
          rw [q] at z
          simp only [and_true, ↓reduceIte] at z
          split at z
          · split at z <;> cases z
          · cases z
        · exact absurd (hn2.trans z) h6
        · exact z
      have l2 : (wfC 56 (nxC x.1 (x.2 6)) x).1 57 = (x.1 65 + 1) % 256 := by
        show (wfC 56 (nxC x.1 (x.2 6)) x).1 (56 + 1) = (x.1 65 + 1) % 256
        rw [l, hn2, m1]
        rfl
      rw [l2, q]
      simp only [and_self, ↓reduceIte]
      rw [if_neg (by omega)]
theorem R_wf {x : XP} {σ : Sto} (h : R x σ) (hn : NR x) (hf : FR x.2 (σ 43 0)) : R (writeFlagsC x) (wfM σ) := by
  have hcg : ∀ j, 56 ≤ j → j < 72 → x.1 j = σ 40 0 j := fun j a b => h.1.1 j (by omega)
  have hw := newestF_congr hcg
  have hn2 : x.2 6 = newestF (σ 40 0) := hn.trans hw
  unfold writeFlagsC wfM toF
  rw [← hn2, ← nxC_congr hcg]
  by_cases h6 : x.2 6 = 0
  · rw [if_pos h6, if_pos h6, h6]
    exact R_g (R_wfC h 64 (Or.inr rfl) _ _ hf) _ (by omega) (by omega) (by omega)
  · rw [if_neg h6, if_neg h6]
    exact R_g (R_wfC h 56 (Or.inl rfl) _ _ hf) _ (by omega) (by omega) (by omega)
theorem wrL_o (b : Nat) (o : Vec) {k k' : Nat} (h : k = 43 ∨ k = 45) : ∀ (m j : Nat) (σ : Sto), wrL b o m j σ k k' = σ k k'
  | 0, _, _ => rfl
  | m + 1, j, σ => (wrL_o b o h m (j + 1) _).trans (wrM_o _ _ _ _ (by omega))
theorem wfM_o (σ : Sto) {k k' : Nat} (h : k = 43 ∨ k = 45) : wfM σ k k' = σ k k' := by
  unfold wfM
  rw [wrL_o _ _ h, wrM_o _ _ _ _ (by omega), row_at, if_neg (by omega)]
/-- flags behind a reading: the class's bytes, the model's fields -/
theorem FR_read {c : Vec} (hb : OKB c) (g f : Vec) (h2 : g 2 = flagF c 0) (h3 : g 3 = flagF c 1) (h4 : g 4 = flagF c 2) (h5 : g 5 = flagF c 3) : FR g (flV f c) := by
  have b58 := hb 58 (by omega) (by omega)
  have b59 := hb 59 (by omega) (by omega)
  have b60 := hb 60 (by omega) (by omega)
  have b61 := hb 61 (by omega) (by omega)
  have b66 := hb 66 (by omega) (by omega)
  have b67 := hb 67 (by omega) (by omega)
  have b68 := hb 68 (by omega) (by omega)
  have b69 := hb 69 (by omega) (by omega)
  unfold FR OKFl
  rw [h2, h3, h4, h5]
  unfold flagF flV
  rcases newestF_b c with h | h | h
  · rw [h, if_pos rfl]
    simp only [↓reduceIte, v8, Nat.reduceEqDiff, true_and]
    omega
  · rw [h, if_neg (by omega)]
    simp only [↓reduceIte, v8, Nat.reduceEqDiff, Int.reduceEq, Nat.reduceAdd, true_and]
    omega
  · rw [h, if_neg (by omega)]
    simp only [↓reduceIte, v8, Nat.reduceEqDiff, Int.reduceEq, Nat.reduceAdd, true_and]
    omega
