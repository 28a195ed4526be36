/-! THE CLASS: mend, resume; all deeds; what can be done -/
section CLS
variable {N i j : Nat} {σ : Sto} {x : XP}
theorem p2_isWhole0 (hc : OKC x.1) : inv N mX2_isWhole [vR 6 i, vI 0] (P (putC σ i x)) = some (some (vI (whole1 x.1 56)), P (putC σ i x)) := by
  rw [s2_isWhole0 (by rw [putC_7]; exact hc.2.1), putC_7]
theorem p2_isWhole1 (hc : OKC x.1) : inv N mX2_isWhole [vR 6 i, vI 1] (P (putC σ i x)) = some (some (vI (whole1 x.1 64)), P (putC σ i x)) := by
  rw [s2_isWhole1 (by rw [putC_7]; exact hc.2.1), putC_7]
def mendF (x : XP) : XP := if whole1 x.1 64 = whole1 x.1 56 then x else writeFlagsC x
def mendD (x : XP) : Int := if whole1 x.1 64 = whole1 x.1 56 then 0 else 1
def mendL (σ : Sto) (d : Int) (y : XP) : Int × XP := if whyS σ y.1 2 = 0 then (if whyS σ y.1 3 = 0 then (d, y) else (d + 2, layC 42 (rdS 28) y)) else if whyS σ y.1 3 = 0 then (d + 2, layC 28 (rdS 42) y) else (d, y)
def mendC (σ : Sto) (x : XP) : Int × XP := mendL σ (mendD x) (mendF x)
theorem mendF_ok (hx : OKX x) : OKX (mendF x) := by
  unfold mendF
  split
  · exact hx
  · exact writeFlagsC_ok hx
theorem mendF_at {k : Nat} (hk : 76 ≤ k) : (mendF x).1 k = x.1 k := by
  unfold mendF
  split
  · rfl
  · exact writeFlagsC_at _ (by omega)
theorem mendC_ok (hx : OKX x) : OKX (mendC σ x).2 ∧ ∀ k, 76 ≤ k → (mendC σ x).2.1 k = x.1 k := by
  have h1 := mendF_ok hx
  unfold mendC mendL
  refine ⟨?_, fun k hk => ?_⟩
  · split
    · split
      · exact h1
      · exact layC_ok 42 (by omega) (rdS 28) (rdS_r 28 (by omega)) h1
    · split
      · exact layC_ok 28 (by omega) (rdS 42) (rdS_r 42 (by omega)) h1
      · exact h1
  · split
    · split
      · exact mendF_at hk
      · exact (layC_at _ _ _ (by omega)).trans (mendF_at hk)
    · split
      · exact (layC_at _ _ _ (by omega)).trans (mendF_at hk)
      · exact mendF_at hk
theorem s2_mend_tail (hg : OKG σ 1) (d : Int) (hd : d = 0 ∨ d = 1) (hx : OKX x) : bnd (inv N mX2_reasonAgainst [vR 6 i, vI 2] (P (putC σ i x))) (fun r S2 => ev N mX2_mendBoth 16 [vR 6 i, vI d, vX, vX, vX, vX] (push r []) S2) = some (some (vI (mendL σ d x).1), P (putC σ i (mendL σ d x).2)) := by
  have r2 := p2_reason (N := N) (i := i) (σ := σ) (x := x) 2 (by omega) hg hx.1
  have r3 := p2_reason (N := N) (i := i) (σ := σ) (x := x) 3 (by omega) hg hx.1
  have l3 := p2_lay7 (N := N) (i := i) (σ := σ) (x := x) 3 28 (by omega) (by omega)
  have l2 := p2_lay7 (N := N) (i := i) (σ := σ) (x := x) 2 42 (by omega) (by omega)
  simp only [Int.cast_ofNat_Int, Nat.reduceMul] at r2 r3 l2 l3
  have ed : w32 (d + 2) = d + 2 := w32i (by omega) (by omega)
  have e2 : w32 (2 * 14) = 28 := rfl
  have e3 : w32 (3 * 14) = 42 := rfl
  rw [r2, bnd_s, push_s]
  unfold mendL
  by_cases h2 : whyS σ x.1 2 = 0 <;> by_cases h3 : whyS σ x.1 3 = 0 <;> simp only [h2, h3, ↓reduceIte, Int.reduceEq, eX2_mendBoth_16, r3, bnd_s, push_s, push_n, eX2_mendBoth_24, eX2_mendBoth_52, e2, e3, l2, l3, ed]
theorem p2_mendBoth (hg : OKG σ 1) (hx : OKX x) : inv N mX2_mendBoth [vR 6 i] (P (putC σ i x)) = some (some (vI (mendC σ x).1), P (putC σ i (mendC σ x).2)) := by
  rw [iX2_mendBoth, eX2_mendBoth_0, p2_isWhole0 hx.1, bnd_s, push_s, eX2_mendBoth_5, p2_isWhole1 hx.1, bnd_s, push_s, eX2_mendBoth_8]
  unfold mendC mendD mendF
  by_cases h : whole1 x.1 64 = whole1 x.1 56
  · rw [if_pos h.symm, if_pos h, if_pos h]
    exact s2_mend_tail hg 0 (Or.inl rfl) hx
  · rw [if_neg (fun z => h z.symm), if_neg h, if_neg h, p2_writeFlags hx, bnd_s, push_n, eX2_mendBoth_11]
    exact s2_mend_tail hg 1 (Or.inr rfl) (writeFlagsC_ok hx)
def perfMendC (σ : Sto) (cut : Int) (x : XP) : Int × XP := endC (mendC σ (beginC cut x)).1 (mendC σ (beginC cut x)).2
theorem p2_mend (hg : OKG σ 1) (hc : OKC x.1) (a b cut : Int) : inv N mX2_perform [vR 6 i, vI 5, vI a, vI b, vI cut] (P (putC σ i x)) = some (some (vI (perfMendC σ cut x).1), P (putC σ i (perfMendC σ cut x).2)) := by
  have hx := beginC_ok cut hc
  rw [p2_begin _ _ _ _ hc, eX2_perform_11, if_neg (by omega), if_neg (by omega), if_neg (by omega), if_neg (by omega), if_neg (by omega), if_pos rfl, p2_mendBoth hg hx, bnd_s, push_s, eX2_perform_70, putC_6, p2_setCell _ _ (by omega) (by omega), bnd_s, push_n]
  exact s2_end _ _ _ _ _
def perfResumeC (σ : Sto) (cut : Int) (x : XP) : Int × XP := endC ((finishC σ (x.1 72).toNat (x.1 73).toNat (beginC cut x)).2 8) (finishC σ (x.1 72).toNat (x.1 73).toNat (beginC cut x))
theorem p2_resume (hg : OKG σ 1) (hc : OKC x.1) (h72 : x.1 72 = 0 ∨ x.1 72 = 1) (h73 : x.1 73 < 6) (a b cut : Int) : inv N mX2_perform [vR 6 i, vI 6, vI a, vI b, vI cut] (P (putC σ i x)) = some (some (vI (perfResumeC σ cut x).1), P (putC σ i (perfResumeC σ cut x).2)) := by
  have hx := beginC_ok cut hc
  have b73 := hc.2.1 73 (by omega) (by omega)
  have e72 : ((x.1 72).toNat : Int) = x.1 72 := by omega
  have e73 : ((x.1 73).toNat : Int) = x.1 73 := by omega
  have hf := p2_finish (N := N) (i := i) (σ := σ) (x := beginC cut x) hg (x.1 72).toNat (x.1 73).toNat (by omega) (by omega) hx
  rw [e72, e73] at hf
  rw [p2_begin _ _ _ _ hc, eX2_perform_11, if_neg (by omega), if_neg (by omega), if_neg (by omega), if_neg (by omega), if_neg (by omega), if_neg (by omega), if_pos rfl, p2_cell _ (by omega) (by omega), bnd_s, push_s, eX2_perform_76, p2_cell _ (by omega) (by omega), bnd_s, push_s, eX2_perform_79]
  show bnd (inv N mX2_finishInstall [vR 6 i, vI (x.1 72), vI (x.1 73)] _) _ = _
  rw [hf, bnd_s, push_s, eX2_perform_80, putC_6, p2_setCell _ _ (by omega) (by omega), bnd_s, push_n]
  exact s2_end _ _ _ _ _
/-- whether a deed can be done -/
def ableF (im : Int) (wd c : Vec) (d a b : Int) : Int :=
  if d = 0 then (if c 78 = -1 ∧ (a = 0 ∨ a = 1) ∧ b = 0 then 1 else 0)
  else if c 78 = -1 then 0
  else if d = 1 then (if a = 0 ∧ b = 0 then 1 else 0)
  else if d = 2 then (if (a = 0 ∨ a = 1) ∧ ¬ a = c 78 ∧ 0 ≤ b ∧ b < im then 1 else 0)
  else if d = 3 then (if a = 0 ∧ 0 ≤ b ∧ b < im ∧ wd (14 * b.toNat + 1) = 0 then 1 else 0)
  else if d = 4 then (if (a = 0 ∨ a = 1) ∧ b = 0 then 1 else 0)
  else if d = 5 then (if a = 0 ∧ b = 0 then 1 else 0)
  else if d = 6 then (if a = 0 ∧ b = 0 ∧ openF im c = 1 ∧ ¬ c 72 = c 78 then 1 else 0)
  else 0
theorem openF_b (im : Int) (c : Vec) : openF im c = 0 ∨ openF im c = 1 := by unfold openF; split <;> simp
theorem s0_hasRec (hg : OKG σ j) (b : Int) : inv N mX0_hasRecoveryImage [vR 2 j, vI b] (P σ) = some (some (vI (if 0 ≤ b ∧ b < σ 2 j 1 ∧ σ 5 j (14 * b.toNat + 1) = 0 then 1 else 0)), P σ) := by
  have g3 := hg.2.2.1
  have g4 := hg.2.2.2.1
  rw [iX0_hasRecoveryImage, eX0_hasRecoveryImage_0, s0_hasImage, bnd_s, push_s, eX0_hasRecoveryImage_3]
  by_cases h : 0 ≤ b ∧ b < σ 2 j 1
  · have e : (b * 14 + 1).toNat = 14 * b.toNat + 1 := by omega
    rw [if_pos h, if_neg (show ¬ (1 : Int) = 0 by omega), w32i (x := b * 14) (by omega) (by omega), w32i (by omega) (by omega), s6_at5 _ (by omega) (by omega), bnd_s, push_s, eX0_hasRecoveryImage_12, e]
    by_cases h2 : σ 5 j (14 * b.toNat + 1) = 0
    · rw [if_pos h2, if_pos ⟨h.1, h.2, h2⟩]
    · rw [if_neg h2, if_neg (fun z => h2 z.2.2)]
  · rw [if_neg h, if_pos rfl, if_neg (fun z => h ⟨z.1, z.2.1⟩)]
theorem p2_isAble (hg : OKG σ 1) (hc : OKC x.1) (d a b : Int) : inv N mX2_isAble [vR 6 i, vI d, vI a, vI b] (P (putC σ i x)) = some (some (vI (ableF (σ 2 1 1) (σ 5 1) x.1 d a b)), P (putC σ i x)) := by
  have hrec := s0_hasRec (N := N) (σ := putC σ i x) (j := 1) (OKG_put hg) b
  have himg := s0_hasImage (N := N) (σ := putC σ i x) (i := 1) b
  have hopn := s2_isOpen (N := N) (σ := putC σ i x) (i := i) (by rw [putC_7]; exact hc)
  rw [put2, put5] at hrec
  rw [put2] at himg
  rw [put2, putC_7] at hopn
  rw [iX2_isAble, eX2_isAble_0, p2_cell _ (by omega) (by omega), bnd_s, push_s, eX2_isAble_3, show (78 : Int).toNat = 78 from rfl]
  unfold ableF
  by_cases d0 : d = 0
  · simp only [d0, ↓reduceIte]
    by_cases h1 : x.1 78 = -1
    · simp only [h1, ↓reduceIte, true_and]
      by_cases h2 : a = 0
      · simp only [h2, ↓reduceIte, true_or, true_and]
        split <;> rfl
      · by_cases h3 : a = 1
        · simp only [h3, ↓reduceIte, or_true, true_and, Int.reduceEq]
          split <;> rfl
        · simp only [h2, h3, ↓reduceIte, or_false, false_and]
    · simp only [h1, ↓reduceIte, false_and]
  · simp only [d0, ↓reduceIte]
    by_cases h1 : x.1 78 = -1
    · simp only [h1, ↓reduceIte]
    · simp only [h1, ↓reduceIte]
      by_cases d1 : d = 1
      · simp only [d1, ↓reduceIte]
        by_cases h2 : a = 0
        · simp only [h2, ↓reduceIte, true_and]
          split <;> rfl
        · simp only [h2, ↓reduceIte, false_and]
      · simp only [d1, ↓reduceIte]
        by_cases d2 : d = 2
        · simp only [d2, ↓reduceIte, s8_isSlot, bnd_s, push_s, eX2_isAble_37, himg, eX2_isAble_45]
          by_cases h2 : a = 0 ∨ a = 1
          · simp only [h2, ↓reduceIte, Int.reduceEq, true_and]
            by_cases h3 : a = x.1 78
            · simp only [h3, ↓reduceIte, not_true_eq_false, false_and]
            · simp only [h3, ↓reduceIte, not_false_eq_true, true_and]
              by_cases h4 : 0 ≤ b ∧ b < σ 2 1 1
              · simp only [h4, and_self, ↓reduceIte, Int.reduceEq]
              · simp only [h4, ↓reduceIte]
          · simp only [h2, ↓reduceIte, false_and]
        · simp only [d2, ↓reduceIte]
          by_cases d3 : d = 3
          · simp only [d3, ↓reduceIte]
            by_cases h2 : a = 0
            · simp only [h2, ↓reduceIte, hrec, bnd_s, push_s, eX2_isAble_56, true_and]
              by_cases h3 : 0 ≤ b ∧ b < σ 2 1 1 ∧ σ 5 1 (14 * b.toNat + 1) = 0
              · rw [if_pos h3, if_neg (show ¬ (1 : Int) = 0 by omega)]
              · rw [if_neg h3, if_pos rfl]
            · simp only [h2, ↓reduceIte, false_and]
          · simp only [d3, ↓reduceIte]
            by_cases d4 : d = 4
            · simp only [d4, ↓reduceIte, s8_isSlot, bnd_s, push_s, eX2_isAble_63]
              by_cases h2 : a = 0 ∨ a = 1
              · simp only [h2, ↓reduceIte, Int.reduceEq, true_and]
                split <;> rfl
              · simp only [h2, ↓reduceIte, false_and]
            · simp only [d4, ↓reduceIte]
              by_cases d5 : d = 5
              · simp only [d5, ↓reduceIte]
                by_cases h2 : a = 0
                · simp only [h2, ↓reduceIte, true_and]
                  split <;> rfl
                · simp only [h2, ↓reduceIte, false_and]
              · simp only [d5, ↓reduceIte]
                by_cases d6 : d = 6
                · simp only [d6, ↓reduceIte]
                  by_cases h2 : a = 0
                  · simp only [h2, ↓reduceIte, true_and]
                    by_cases h3 : b = 0
                    · simp only [h3, ↓reduceIte, true_and, hopn, bnd_s, push_s, eX2_isAble_76]
                      rcases openF_b (σ 2 1 1) x.1 with h4 | h4
                      · simp only [h4, ↓reduceIte, Int.reduceEq, false_and]
                      · simp only [h4, ↓reduceIte, Int.reduceEq, true_and, p2_cell 72 (by omega) (by omega), bnd_s, push_s, eX2_isAble_80, Int.reduceToNat]
                        by_cases h5 : x.1 72 = x.1 78
                        · simp only [h5, ↓reduceIte, not_true_eq_false]
                        · simp only [h5, ↓reduceIte, not_false_eq_true]
                    · simp only [h3, ↓reduceIte, false_and]
                  · simp only [h2, ↓reduceIte, false_and]
                · simp only [d6, ↓reduceIte]
/-- a deed -/
def performC (σ : Sto) (d a b cut : Int) (x : XP) : Int × XP :=
  if d = 0 then bootC σ a cut x else if d = 1 then perfHealthC σ cut x else if d = 2 then perfInstallC σ a.toNat b.toNat cut x else if d = 3 then perfRefreshC σ b.toNat cut x else if d = 4 then perfPreferC a.toNat cut x else if d = 5 then perfMendC σ cut x else perfResumeC σ cut x
theorem able_open {im : Int} {c : Vec} (h : openF im c = 1) : (c 72 = 0 ∨ c 72 = 1) ∧ c 73 < im := by
  unfold openF at h
  split at h
  · rename_i h2
    exact h2.2.2
  · cases h
theorem p2_perform (hg : OKG σ 1) (hc : OKC x.1) (s0 : 0 ≤ x.1 82) (s1 : x.1 82 < 2147483647) (d a b cut : Int) (hd : ableF (σ 2 1 1) (σ 5 1) x.1 d a b = 1) : inv N mX2_perform [vR 6 i, vI d, vI a, vI b, vI cut] (P (putC σ i x)) = some (some (vI (performC σ d a b cut x).1), P (putC σ i (performC σ d a b cut x).2)) := by
  have g3 := hg.2.2.1
  have g4 := hg.2.2.2.1
  unfold ableF at hd
  unfold performC
  by_cases d0 : d = 0
  · rw [if_pos d0]; subst d0
    exact p2_boot hg hc s0 s1 a b cut
  rw [if_neg d0] at hd ⊢
  by_cases hr : x.1 78 = -1
  · rw [if_pos hr] at hd; cases hd
  rw [if_neg hr] at hd
  by_cases d1 : d = 1
  · rw [if_pos d1]; subst d1
    exact p2_health hg hc a b cut
  rw [if_neg d1] at hd ⊢
  by_cases d2 : d = 2
  · rw [if_pos d2] at hd ⊢
    subst d2
    split at hd
    · rename_i h
      have h2 := p2_install (N := N) (i := i) hg hc a.toNat b.toNat (by omega) (by omega) cut
      rw [show ((a.toNat : Nat) : Int) = a by omega, show ((b.toNat : Nat) : Int) = b by omega] at h2
      exact h2
    · cases hd
  rw [if_neg d2] at hd ⊢
  by_cases d3 : d = 3
  · rw [if_pos d3] at hd ⊢
    subst d3
    split at hd
    · rename_i h
      have h2 := p2_refresh (N := N) (i := i) hg hc b.toNat (by omega) a cut
      rw [show ((b.toNat : Nat) : Int) = b by omega] at h2
      exact h2
    · cases hd
  rw [if_neg d3] at hd ⊢
  by_cases d4 : d = 4
  · rw [if_pos d4] at hd ⊢
    subst d4
    split at hd
    · rename_i h
      have h2 := p2_prefer (N := N) (i := i) (σ := σ) hc a.toNat (by omega) b cut
      rw [show ((a.toNat : Nat) : Int) = a by omega] at h2
      exact h2
    · cases hd
  rw [if_neg d4] at hd ⊢
  by_cases d5 : d = 5
  · rw [if_pos d5]
    subst d5
    exact p2_mend hg hc a b cut
  rw [if_neg d5] at hd ⊢
  by_cases d6 : d = 6
  · subst d6
    rw [if_pos rfl] at hd
    split at hd
    · rename_i h
      have h2 := able_open h.2.2.1
      exact p2_resume hg hc h2.1 (by omega) a b cut
    · cases hd
  · rw [if_neg d6] at hd; cases hd
/-- what a deed keeps -/
theorem bootC_ok (hc : OKC x.1) (a cut : Int) : OKX (bootC σ a cut x).2 ∧ x.1 82 ≤ (bootC σ a cut x).2.1 82 ∧ (bootC σ a cut x).2.1 82 ≤ x.1 82 + 1 := by
  have hx := beginC_ok cut hc
  have hok := startSlotC_ok (whyS σ) (σ 2 1 2) (if a = 1 then 1 else 0) hx
  have e82 : (beginC cut x).1 82 = x.1 82 := rfl
  unfold bootC
  generalize startSlotC (whyS σ) (σ 2 1 2) (if a = 1 then 1 else 0) (beginC cut x) = r at hok
  generalize beginC cut x = x0 at hok e82
  obtain ⟨h1, h2, h3, h4, h5⟩ := hok
  by_cases h : r.1 = -1
  · rw [if_pos h]
    have hr := startRecoveryC_ok (copyF (σ 2 1 0) (σ 3 1) (σ 4 1) r.2.1) h1
    generalize startRecoveryC (copyF (σ 2 1 0) (σ 3 1) (σ 4 1) r.2.1) r.2 = q at hr
    have he := endC_ok q.1 hr.1
    have := h4 h
    exact ⟨he.1, by omega, by omega⟩
  · rw [if_neg h]
    have he := endC_ok r.1 h1
    exact ⟨he.1, by omega, by omega⟩
theorem performC_ok (hg : OKG σ 1) (hc : OKC x.1) (d a b cut : Int) (hd : ableF (σ 2 1 1) (σ 5 1) x.1 d a b = 1) : OKX (performC σ d a b cut x).2 ∧ x.1 82 ≤ (performC σ d a b cut x).2.1 82 ∧ (performC σ d a b cut x).2.1 82 ≤ x.1 82 + 1 := by
  have g3 := hg.2.2.1
  have g4 := hg.2.2.2.1
  have g7 := hg.2.2.2.2.2.2.1
  have g8 := hg.2.2.2.2.2.2.2.1
  have hx := beginC_ok cut hc
  have e82 : (beginC cut x).1 82 = x.1 82 := rfl
  unfold ableF at hd
  unfold performC
  by_cases d0 : d = 0
  · rw [if_pos d0]
    exact bootC_ok hc a cut
  rw [if_neg d0] at hd ⊢
  by_cases hr : x.1 78 = -1
  · rw [if_pos hr] at hd; cases hd
  rw [if_neg hr] at hd
  by_cases d1 : d = 1
  · rw [if_pos d1]
    have h1 := healthC_ok g7 g8 hx
    have he := endC_ok ((healthC (σ 2 1 3) (beginC cut x)).1 76) h1.1
    refine ⟨he.1, ?_, ?_⟩ <;> (show _ ≤ _; unfold perfHealthC; rw [he.2, h1.2, e82]; omega)
  rw [if_neg d1] at hd ⊢
  by_cases d2 : d = 2
  · rw [if_pos d2] at hd ⊢
    split at hd
    · rename_i h
      have hx2 : OKX (openJC (a.toNat : Int) (b.toNat : Int) (beginC cut x)) := openJC_ok (by omega) (by omega) hx
      have h1 := finishC_ok hg a.toNat b.toNat (by omega) (by omega) hx2
      have h2 : (finishC σ a.toNat b.toNat (openJC (a.toNat : Int) (b.toNat : Int) (beginC cut x))).1 82 = x.1 82 := by
        rw [finishC_at _ _ (by omega) (by omega), openJC_at (by omega), e82]
      have he := endC_ok ((finishC σ a.toNat b.toNat (openJC (a.toNat : Int) (b.toNat : Int) (beginC cut x))).2 8) h1
      refine ⟨he.1, ?_, ?_⟩ <;> (show _ ≤ _; unfold perfInstallC; rw [he.2, h2]; omega)
    · cases hd
  rw [if_neg d2] at hd ⊢
  by_cases d3 : d = 3
  · rw [if_pos d3] at hd ⊢
    split at hd
    · rename_i h
      have hb : 14 * otherF (copyF (σ 2 1 0) (σ 3 1) (σ 4 1) x.1) + 14 ≤ 56 := by unfold otherF; split <;> omega
      have h1 := layC_ok _ hb (rdI σ (14 * b.toNat)) (fun y k _ hk => wrd_r hg (14 * b.toNat) (by omega) k hk) hx
      have h2 : (layC (14 * otherF (copyF (σ 2 1 0) (σ 3 1) (σ 4 1) x.1)) (rdI σ (14 * b.toNat)) (beginC cut x)).1 82 = x.1 82 := by
        rw [layC_at _ _ _ (by omega), e82]
      have he := endC_ok (otherF (copyF (σ 2 1 0) (σ 3 1) (σ 4 1) x.1) : Int) h1
      refine ⟨he.1, ?_, ?_⟩ <;> (show _ ≤ _; unfold perfRefreshC; rw [he.2, h2]; omega)
    · cases hd
  rw [if_neg d3] at hd ⊢
  by_cases d4 : d = 4
  · rw [if_pos d4] at hd ⊢
    split at hd
    · rename_i h
      have h1 := writeFlagsC_ok (favourC_ok (s := a.toNat) (by omega) hx)
      have h2 : (writeFlagsC (favourC a.toNat (beginC cut x))).1 82 = x.1 82 := by
        rw [writeFlagsC_at _ (by omega)]
        rfl
      have he := endC_ok ((writeFlagsC (favourC a.toNat (beginC cut x))).2 (3 - a.toNat) / 16) h1
      refine ⟨he.1, ?_, ?_⟩ <;> (show _ ≤ _; unfold perfPreferC; rw [he.2, h2]; omega)
    · cases hd
  rw [if_neg d4] at hd ⊢
  by_cases d5 : d = 5
  · rw [if_pos d5]
    have h1 := mendC_ok (σ := σ) hx
    have he := endC_ok (mendC σ (beginC cut x)).1 h1.1
    refine ⟨he.1, ?_, ?_⟩ <;> (show _ ≤ _; unfold perfMendC; rw [he.2, h1.2 82 (by omega), e82]; omega)
  rw [if_neg d5] at hd ⊢
  by_cases d6 : d = 6
  · rw [if_pos d6] at hd
    split at hd
    · rename_i h
      have h2 := able_open h.2.2.1
      have h1 := finishC_ok hg (x.1 72).toNat (x.1 73).toNat (by omega) (by omega) hx
      have h3 : (finishC σ (x.1 72).toNat (x.1 73).toNat (beginC cut x)).1 82 = x.1 82 := by
        rw [finishC_at _ _ (by omega) (by omega), e82]
      have he := endC_ok ((finishC σ (x.1 72).toNat (x.1 73).toNat (beginC cut x)).2 8) h1
      refine ⟨he.1, ?_, ?_⟩ <;> (show _ ≤ _; unfold perfResumeC; rw [he.2, h3]; omega)
    · cases hd
  · rw [if_neg d6] at hd; cases hd
end CLS
