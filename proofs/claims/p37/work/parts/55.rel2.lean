section
/-! THE TWO MACHINES: flags -/
theorem whole1_congr {c n : Vec} {b : Nat} (h : ∀ j, b ≤ j → j < b + 8 → c j = n j) : whole1 c b = whole1 n b := by
  unfold whole1
  rw [h b (by omega) (by omega), h (b + 1) (by omega) (by omega), h (b + 2) (by omega) (by omega), h (b + 3) (by omega) (by omega), h (b + 4) (by omega) (by omega), h (b + 5) (by omega) (by omega), h (b + 6) (by omega) (by omega), h (b + 7) (by omega) (by omega)]
theorem newestF_congr {c n : Vec} (h : ∀ j, 56 ≤ j → j < 72 → c j = n j) : newestF c = newestF n := by
  unfold newestF
  rw [whole1_congr (c := c) (n := n) (b := 56) (fun j a b => h j (by omega) (by omega)), whole1_congr (c := c) (n := n) (b := 64) (fun j a b => h j (by omega) (by omega)), h 57 (by omega) (by omega), h 65 (by omega) (by omega)]
theorem nxC_congr {c n : Vec} (h : ∀ j, 56 ≤ j → j < 72 → c j = n j) (w : Int) : nxC c w = nxC n w := by
  unfold nxC
  rw [h 57 (by omega) (by omega), h 65 (by omega) (by omega)]
theorem R_g {x : XP} {σ : Sto} (h : R x σ) {j : Nat} (v : Int) (h7 : j ≠ 7) (h8 : j ≠ 8) (h9 : j ≠ 9) : R (x.1, set x.2 j v) σ := by
  unfold R RL RD at h ⊢
  show RC x.1 (σ 40 0) ∧ set x.2 j v 8 = _ ∧ ((_ ∧ set x.2 j v 9 = 0 ∧ _ ∧ ((set x.2 j v 7 = -1 ∧ _) ∨ (0 ≤ set x.2 j v 8 ∧ set x.2 j v 8 ≤ set x.2 j v 7 ∧ set x.2 j v 7 < 2147483648 ∧ _ = set x.2 j v 7 - set x.2 j v 8))) ∨ (_ ∧ set x.2 j v 9 = 1 ∧ _ ∧ ¬ set x.2 j v 7 = -1 ∧ ¬ set x.2 j v 8 < set x.2 j v 7))
  rw [set_ne _ _ (Ne.symm h7), set_ne _ _ (Ne.symm h8), set_ne _ _ (Ne.symm h9)]
  exact h
theorem fill1_eq (c : Vec) (a : Nat) (v : Int) : fill c a 1 v a = v := by
  rw [fill_1, set_same]
theorem fill1_ne (c : Vec) {a j : Nat} (v : Int) (h : j ≠ a) : fill c a 1 v j = c j := by
  rw [fill_1, set_ne _ _ h]
theorem fill_ne (c : Vec) {a m j : Nat} (v : Int) (h : j < a ∨ a + m ≤ j) : fill c a m v j = c j := by
  unfold fill
  rw [if_neg (by omega)]
/-- what a page holds behind a whole writing of flags -/
theorem wfC_live {b : Nat} {nx : Int} {x : XP} (h : (wfC b nx x).2 9 = 0) :
    (wfC b nx x).1 b = 165 ∧ (wfC b nx x).1 (b + 1) = nx ∧ (wfC b nx x).1 (b + 2) = x.2 2 ∧ (wfC b nx x).1 (b + 3) = x.2 3 ∧ (wfC b nx x).1 (b + 4) = x.2 4 ∧ (wfC b nx x).1 (b + 5) = x.2 5
    ∧ (wfC b nx x).1 (b + 6) = (165 + 2 * nx + 3 * x.2 2 + 4 * x.2 3 + 5 * x.2 4 + 6 * x.2 5) / 256 ∧ (wfC b nx x).1 (b + 7) = (165 + 2 * nx + 3 * x.2 2 + 4 * x.2 3 + 5 * x.2 4 + 6 * x.2 5) % 256 := by
  unfold wfC at h ⊢
  generalize 165 + 2 * nx + 3 * x.2 2 + 4 * x.2 3 + 5 * x.2 4 + 6 * x.2 5 = sm at h ⊢
  obtain ⟨e7, h⟩ := wrC_live h
  obtain ⟨e6, h⟩ := wrC_live h
  obtain ⟨e5, h⟩ := wrC_live h
  obtain ⟨e4, h⟩ := wrC_live h
  obtain ⟨e3, h⟩ := wrC_live h
  obtain ⟨e2, h⟩ := wrC_live h
  obtain ⟨e1, h⟩ := wrC_live h
  obtain ⟨e0, h⟩ := wrC_live h
  rw [e7, e6, e5, e4, e3, e2, e1, e0]
  generalize (wrC b 8 255 x).1 = c
  refine ⟨?_, ?_, ?_, ?_, ?_, ?_, ?_, ?_⟩ <;> simp (disch := omega) only [fill1_eq, fill1_ne]
theorem whole_wfC {b : Nat} {nx : Int} {x : XP} (h : (wfC b nx x).2 9 = 0) : whole1 (wfC b nx x).1 b = 1 := by
  obtain ⟨e0, e1, e2, e3, e4, e5, e6, e7⟩ := wfC_live h
  unfold whole1
  rw [e0, e1, e2, e3, e4, e5, e6, e7]
  rw [if_pos]
  refine ⟨rfl, ?_⟩
  omega
theorem NR_wf {x : XP} (hb : OKB x.1) (hn : NR x) (h : (writeFlagsC x).2 9 = 0) : NR (writeFlagsC x) := by
  have b57 := hb 57 (by omega) (by omega)
  have b65 := hb 65 (by omega) (by omega)
  have hn2 : x.2 6 = newestF x.1 := hn
  unfold NR
  unfold writeFlagsC at h ⊢
  by_cases h6 : x.2 6 = 0
  · rw [if_pos h6] at h ⊢
    have h9 : (wfC 64 (nxC x.1 0) x).2 9 = 0 := by
      rw [show ((wfC 64 (nxC x.1 0) x).1, set (wfC 64 (nxC x.1 0) x).2 6 1).2 9 = (wfC 64 (nxC x.1 0) x).2 9 from set_ne (wfC 64 (nxC x.1 0) x).2 1 (show 9 ≠ 6 by omega)] at h
      exact h
    have w := whole_wfC h9
    have l := (wfC_live h9).2.1
    have o : whole1 (wfC 64 (nxC x.1 0) x).1 56 = whole1 x.1 56 := whole1_congr (fun j a b => wfC_at _ _ (Or.inl (by omega)))
    have o57 : (wfC 64 (nxC x.1 0) x).1 57 = x.1 57 := wfC_at _ _ (Or.inl (by omega))
    show set (wfC 64 (nxC x.1 0) x).2 6 1 6 = newestF (wfC 64 (nxC x.1 0) x).1
    rw [set_same]
    rw [h6] at hn2
    have w56 : whole1 x.1 56 = 1 := by
      rcases whole1_b x.1 56 with q | q
      · unfold newestF at hn2
        rw [q] at hn2
        simp only [Int.reduceEq, false_and, ↓reduceIte] at hn2
        split at hn2 <;> cases hn2
      · exact q
    have l2 : (wfC 64 (nxC x.1 0) x).1 65 = (x.1 57 + 1) % 256 := by
      rw [l]
      rfl
    unfold newestF
    rw [o, w, w56, o57, l2, if_pos ⟨rfl, rfl⟩, if_pos rfl]
  · rw [if_neg h6] at h ⊢
    have h9 : (wfC 56 (nxC x.1 (x.2 6)) x).2 9 = 0 := by
      rw [show ((wfC 56 (nxC x.1 (x.2 6)) x).1, set (wfC 56 (nxC x.1 (x.2 6)) x).2 6 0).2 9 = (wfC 56 (nxC x.1 (x.2 6)) x).2 9 from set_ne (wfC 56 (nxC x.1 (x.2 6)) x).2 0 (show 9 ≠ 6 by omega)] at h
      exact h
    have w := whole_wfC h9
    have l := (wfC_live h9).2.1
    have o : whole1 (wfC 56 (nxC x.1 (x.2 6)) x).1 64 = whole1 x.1 64 := whole1_congr (fun j a b => wfC_at _ _ (Or.inr (by omega)))
    have o65 : (wfC 56 (nxC x.1 (x.2 6)) x).1 65 = x.1 65 := wfC_at _ _ (Or.inr (by omega))
    show set (wfC 56 (nxC x.1 (x.2 6)) x).2 6 0 6 = newestF (wfC 56 (nxC x.1 (x.2 6)) x).1
    rw [set_same]
    unfold newestF
    rw [o, w, o65]
    rcases whole1_b x.1 64 with q | q
    · rw [q]
      rfl
    · have m1 : newestF x.1 = 1 := by
        rcases newestF_b x.1 with z | z | z
        · unfold newestF at z
          rw [q] at z
          simp only [and_true, ↓reduceIte] at z
          split at z
          · split at z <;> cases z
          · cases z
        · exact absurd (hn2.trans z) h6
        · exact z
      have l2 : (wfC 56 (nxC x.1 (x.2 6)) x).1 57 = (x.1 65 + 1) % 256 := by
        show (wfC 56 (nxC x.1 (x.2 6)) x).1 (56 + 1) = (x.1 65 + 1) % 256
        rw [l, hn2, m1]
        rfl
      rw [l2, q]
      simp only [and_self, ↓reduceIte]
      rw [if_neg (by omega)]
theorem R_wf {x : XP} {σ : Sto} (h : R x σ) (hn : NR x) (hf : FR x.2 (σ 43 0)) : R (writeFlagsC x) (wfM σ) := by
  have hcg : ∀ j, 56 ≤ j → j < 72 → x.1 j = σ 40 0 j := fun j a b => h.1.1 j (by omega)
  have hw := newestF_congr hcg
  have hn2 : x.2 6 = newestF (σ 40 0) := hn.trans hw
  unfold writeFlagsC wfM toF
  rw [← hn2, ← nxC_congr hcg]
  by_cases h6 : x.2 6 = 0
  · rw [if_pos h6, if_pos h6, h6]
    exact R_g (R_wfC h 64 (Or.inr rfl) _ _ hf) _ (by omega) (by omega) (by omega)
  · rw [if_neg h6, if_neg h6]
    exact R_g (R_wfC h 56 (Or.inl rfl) _ _ hf) _ (by omega) (by omega) (by omega)
theorem wrL_o (b : Nat) (o : Vec) {k k' : Nat} (h : k = 43 ∨ k = 45) : ∀ (m j : Nat) (σ : Sto), wrL b o m j σ k k' = σ k k'
  | 0, _, _ => rfl
  | m + 1, j, σ => (wrL_o b o h m (j + 1) _).trans (wrM_o _ _ _ _ (by omega))
theorem wfM_o (σ : Sto) {k k' : Nat} (h : k = 43 ∨ k = 45) : wfM σ k k' = σ k k' := by
  unfold wfM
  rw [wrL_o _ _ h, wrM_o _ _ _ _ (by omega), row_at, if_neg (by omega)]
/-- flags behind a reading: the class's bytes, the model's fields -/
theorem FR_read {c : Vec} (hb : OKB c) (g f : Vec) (h2 : g 2 = flagF c 0) (h3 : g 3 = flagF c 1) (h4 : g 4 = flagF c 2) (h5 : g 5 = flagF c 3) : FR g (flV f c) := by
  have b58 := hb 58 (by omega) (by omega)
  have b59 := hb 59 (by omega) (by omega)
  have b60 := hb 60 (by omega) (by omega)
  have b61 := hb 61 (by omega) (by omega)
  have b66 := hb 66 (by omega) (by omega)
  have b67 := hb 67 (by omega) (by omega)
  have b68 := hb 68 (by omega) (by omega)
  have b69 := hb 69 (by omega) (by omega)
  unfold FR OKFl
  rw [h2, h3, h4, h5]
  unfold flagF flV
  rcases newestF_b c with h | h | h
  · rw [h, if_pos rfl]
    simp only [↓reduceIte, v8, Nat.reduceEqDiff, true_and]
    omega
  · rw [h, if_neg (by omega)]
    simp only [↓reduceIte, v8, Nat.reduceEqDiff, Int.reduceEq, Nat.reduceAdd, true_and]
    omega
  · rw [h, if_neg (by omega)]
    simp only [↓reduceIte, v8, Nat.reduceEqDiff, Int.reduceEq, Nat.reduceAdd, true_and]
    omega
end
section
/-! THE TWO MACHINES: boots -/
def Dead (x : XP) : Prop := x.2 9 = 1 ∧ ¬ x.2 7 = -1 ∧ ¬ x.2 8 < x.2 7
def DD (x y : XP) : Prop := y.1 = x.1 ∧ y.2 7 = x.2 7 ∧ y.2 8 = x.2 8 ∧ y.2 9 = x.2 9
theorem DD_refl (x : XP) : DD x x := ⟨rfl, rfl, rfl, rfl⟩
theorem DD_trans {x y z : XP} (h : DD x y) (h2 : DD y z) : DD x z := ⟨h2.1.trans h.1, h2.2.1.trans h.2.1, h2.2.2.1.trans h.2.2.1, h2.2.2.2.trans h.2.2.2⟩
theorem DD_dead {x y : XP} (h : DD x y) (d : Dead x) : Dead y := by
  unfold Dead
  rw [h.2.1, h.2.2.1, h.2.2.2]
  exact d
theorem DD_wr {x : XP} (d : Dead x) (a n : Nat) (v : Int) : DD x (wrC a n v x) := by
  unfold wrC
  rw [if_pos ⟨d.2.1, d.2.2⟩]
  exact ⟨rfl, set_ne x.2 1 (show 7 ≠ 9 by omega), set_ne x.2 1 (show 8 ≠ 9 by omega), (set_same x.2 9 1).trans d.1.symm⟩
theorem DD_g (x : XP) (j : Nat) (v : Int) (h7 : j ≠ 7) (h8 : j ≠ 8) (h9 : j ≠ 9) : DD x (x.1, set x.2 j v) := ⟨rfl, set_ne x.2 v (Ne.symm h7), set_ne x.2 v (Ne.symm h8), set_ne x.2 v (Ne.symm h9)⟩
theorem DD_wrt {x y : XP} (h : DD x y) (d : Dead x) (a n : Nat) (v : Int) : DD x (wrC a n v y) := DD_trans h (DD_wr (DD_dead h d) a n v)
theorem DD_wfC {x : XP} (d : Dead x) (b : Nat) (nx : Int) : DD x (wfC b nx x) := by
  unfold wfC
  exact DD_wrt (DD_wrt (DD_wrt (DD_wrt (DD_wrt (DD_wrt (DD_wrt (DD_wrt (DD_wr d _ _ _) d _ _ _) d _ _ _) d _ _ _) d _ _ _) d _ _ _) d _ _ _) d _ _ _) d _ _ _
theorem DD_wf {x : XP} (d : Dead x) : DD x (writeFlagsC x) := by
  unfold writeFlagsC
  split
  · exact DD_trans (DD_wfC d _ _) (DD_g _ 6 1 (by omega) (by omega) (by omega))
  · exact DD_trans (DD_wfC d _ _) (DD_g _ 6 0 (by omega) (by omega) (by omega))
theorem DD_note {x : XP} (d : Dead x) (w v : Int) : DD x (noteStartC w v x) := by
  unfold noteStartC
  rw [if_neg (by rw [d.1]; omega)]
  exact DD_refl x
theorem DD_count {x : XP} {s : Nat} (hs : s < 2) : DD x (countTryC s x) := by
  unfold countTryC
  refine DD_trans (y := (x.1, if x.2 (2 + s) % 2 = 0 then set x.2 (2 + s) (x.2 (2 + s) - 2) else x.2)) ?_ (DD_trans (DD_g _ 4 _ (by omega) (by omega) (by omega)) (DD_g _ 5 _ (by omega) (by omega) (by omega)))
  split
  · exact DD_g _ _ _ (by omega) (by omega) (by omega)
  · exact DD_refl x
theorem chosen_s {g : Vec} (h : ¬ chosenC g = -1) : ∃ s : Nat, s < 2 ∧ chosenC g = (s : Int) := by
  unfold chosenC at h ⊢
  split
  · rename_i h2
    rw [if_pos h2] at h
    exact absurd rfl h
  · split
    · exact ⟨1, by omega, rfl⟩
    · exact ⟨0, by omega, rfl⟩
theorem DD_startL (W : Vec → Nat → Int) : ∀ (m : Nat) (x : XP), Dead x → DD x (startL W m x).2
  | 0, x, _ => DD_refl x
  | m + 1, x, d => by
    unfold startL
    by_cases h : chosenC x.2 = -1
    · rw [if_pos h]
      exact DD_refl x
    · obtain ⟨s, hs, e⟩ := chosen_s h
      rw [if_neg h, e, Int.toNat_natCast]
      split
      · have d1 := DD_count (x := x) hs
        have d2 := DD_trans d1 (DD_wf (DD_dead d1 d))
        exact DD_trans d2 (DD_note (DD_dead d2 d) _ _)
      · have d1 := DD_g x (2 + s) 0 (by omega) (by omega) (by omega)
        have d2 := DD_trans d1 (DD_wf (DD_dead d1 d))
        exact DD_trans d2 (DD_startL W m _ (DD_dead d2 d))
theorem DD_rec {x : XP} (d : Dead x) (cp : Int) : DD x (startRecoveryC cp x).2 := by
  unfold startRecoveryC
  split
  · exact DD_refl x
  · have d1 := DD_g x 5 2 (by omega) (by omega) (by omega)
    have d2 := DD_trans d1 (DD_wf (DD_dead d1 d))
    exact DD_trans d2 (DD_note (DD_dead d2 d) _ _)
theorem R_dd {x y : XP} {σ : Sto} (h : R x σ) (hd : DD x y) (d : Dead x) : R y σ := by
  obtain ⟨h1, h2, h3⟩ := h
  have hy := DD_dead hd d
  obtain ⟨e1, e2, e3, e4⟩ := hd
  refine ⟨by rw [e1]; exact h1, by rw [e3]; exact h2, Or.inr ?_⟩
  rcases h3 with ⟨_, l2, _⟩ | ⟨q1, q2, q3, q4, q5⟩
  · rw [d.1] at l2
    cases l2
  · exact ⟨q1, hy.1, q3, hy.2.1, hy.2.2⟩
theorem R_dead {x : XP} {σ : Sto} (h : R x σ) (h9 : ¬ σ 30 0 24 = 0) : Dead x := by
  rcases h.2.2 with ⟨q1, _⟩ | ⟨_, q2, _, q4, q5⟩
  · exact absurd q1 h9
  · exact ⟨q2, q4, q5⟩
theorem R_live {x : XP} {σ : Sto} (h : R x σ) (h9 : σ 30 0 24 = 0) : RL x σ := by
  rcases h.2.2 with q | ⟨q1, _⟩
  · exact q
  · exact absurd h9 q1
section MOD
variable {N : Nat} {σ : Sto}
theorem stand_FR {v p t g : Int} (hv : v = 16 * p + 2 * t + g) (hp : 0 ≤ p ∧ p < 16) (ht : 0 ≤ t ∧ t < 8) (hg : 0 ≤ g ∧ g < 2) : standF v = if 0 < p ∧ (g = 1 ∨ 0 < t) then p else 0 := by
  unfold standF
  by_cases h : 0 < p ∧ (g = 1 ∨ 0 < t)
  · rw [if_pos h, if_neg (by omega)]
    omega
  · rw [if_neg h]
    split
    · rfl
    · omega
theorem s9_slotChosen {g : Vec} (hf : FR g (σ 43 0)) : inv N mX9_slotChosen [vR 30 0] (P σ) = some (some (vI (chosenC g)), P σ) := by
  obtain ⟨h2, h3, -, -, f0, f1, f2, f3, f4, f5, -⟩ := hf
  have s0 := stand_FR h2 f0 f2 f4
  have s1 := stand_FR h3 f1 f3 f5
  unfold chosenC
  rw [s0, s1]
  clear s0 s1 h2 h3
  have w00 : w32 (0 + 0) = 0 := rfl
  have w20 : w32 (2 + 0) = 2 := rfl
  have w40 : w32 (4 + 0) = 4 := rfl
  have w01 : w32 (0 + 1) = 1 := rfl
  have w21 : w32 (2 + 1) = 3 := rfl
  have w41 : w32 (4 + 1) = 5 := rfl
  have w11 : w32 (1 + 1) = 2 := rfl
  have fin : ∀ (b : Int) (x3 : MV), ev N mX9_slotChosen 4 [vR 30 0, vI b, vI 2, x3] [] (P σ) = some (some (vI b), P σ) := by
    intro b x3
    rw [eX9_slotChosen_4, if_neg (by omega)]
  have one : ∀ (b : Int) (x3 : MV), (b = -1 ∨ b = 0) → ev N mX9_slotChosen 4 [vR 30 0, vI b, vI 1, x3] [] (P σ) = some (some (vI (if 0 < σ 43 0 1 ∧ (σ 43 0 5 = 1 ∨ 0 < σ 43 0 3) ∧ (b = -1 ∨ σ 43 0 0 < σ 43 0 1) then 1 else b)), P σ) := by
    intro b x3 hb
    rw [eX9_slotChosen_4, if_pos (by omega), w01, w21, w41, w11]
    simp only [Int.reduceToNat, Int.reduceLT, ↓reduceIte, fin]
    by_cases c1 : 0 < σ 43 0 1
    case neg => rw [if_neg c1, if_neg (fun z => c1 z.1)]
    rw [if_pos c1]
    by_cases c5 : σ 43 0 5 = 1
    · rw [if_pos c5]
      rcases hb with rfl | rfl
      · rw [if_pos rfl, if_pos ⟨c1, Or.inl c5, Or.inl rfl⟩]
      · rw [if_neg (by omega), w00, if_neg (by omega), if_pos (by omega)]
        simp only [Int.reduceToNat]
        by_cases c2 : σ 43 0 0 < σ 43 0 1
        · rw [if_pos c2, if_pos ⟨c1, Or.inl c5, Or.inr c2⟩]
        · rw [if_neg c2, if_neg (fun z => by rcases z.2.2 with q | q <;> omega)]
    · rw [if_neg c5]
      by_cases c3 : 0 < σ 43 0 3
      · rw [if_pos c3]
        rcases hb with rfl | rfl
        · rw [if_pos rfl, if_pos ⟨c1, Or.inr c3, Or.inl rfl⟩]
        · rw [if_neg (by omega), w00, if_neg (by omega), if_pos (by omega)]
          simp only [Int.reduceToNat]
          by_cases c2 : σ 43 0 0 < σ 43 0 1
          · rw [if_pos c2, if_pos ⟨c1, Or.inr c3, Or.inr c2⟩]
          · rw [if_neg c2, if_neg (fun z => by rcases z.2.2 with q | q <;> omega)]
      · rw [if_neg c3, if_neg (fun z => by rcases z.2.1 with q | q <;> contradiction)]
  have z0 : ∀ x3 : MV, ev N mX9_slotChosen 4 [vR 30 0, vI (-1), vI 0, x3] [] (P σ) = ev N mX9_slotChosen 4 [vR 30 0, vI (if 0 < σ 43 0 0 ∧ (σ 43 0 4 = 1 ∨ 0 < σ 43 0 2) then 0 else -1), vI 1, vI (if 0 < σ 43 0 0 ∧ (σ 43 0 4 = 1 ∨ 0 < σ 43 0 2) then 1 else 0)] [] (P σ) := by
    intro x3
    rw [eX9_slotChosen_4, if_pos (by omega), w00, w20, w40, w01]
    simp only [Int.reduceToNat, Int.reduceLT, ↓reduceIte]
    by_cases c1 : 0 < σ 43 0 0
    case neg => rw [if_neg c1, if_neg (fun z => c1 z.1), if_neg (fun z => c1 z.1)]
    rw [if_pos c1]
    by_cases c5 : σ 43 0 4 = 1
    · rw [if_pos c5, if_pos ⟨c1, Or.inl c5⟩, if_pos ⟨c1, Or.inl c5⟩]
    · rw [if_neg c5]
      by_cases c3 : 0 < σ 43 0 2
      · rw [if_pos c3, if_pos ⟨c1, Or.inr c3⟩, if_pos ⟨c1, Or.inr c3⟩]
      · rw [if_neg c3, if_neg (fun z => by rcases z.2 with q | q <;> contradiction), if_neg (fun z => by rcases z.2 with q | q <;> contradiction)]
  rw [iX9_slotChosen, eX9_slotChosen_0, z0, one _ _ (by split <;> simp)]
  clear z0 one fin w00 w20 w40 w01 w21 w41 w11
  refine congrArg (fun v => some (some (vI v), P σ)) ?_
  by_cases a : 0 < σ 43 0 0 ∧ (σ 43 0 4 = 1 ∨ 0 < σ 43 0 2) <;> by_cases b : 0 < σ 43 0 1 ∧ (σ 43 0 5 = 1 ∨ 0 < σ 43 0 3)
  · rw [if_pos a, if_pos a, if_pos b, if_neg (show ¬ (σ 43 0 0 = 0 ∧ σ 43 0 1 = 0) by omega)]
    by_cases q : σ 43 0 0 < σ 43 0 1
    · rw [if_pos q, if_pos ⟨b.1, b.2, Or.inr q⟩]
    · rw [if_neg q, if_neg (fun z => by rcases z.2.2 with y | y <;> omega)]
  · rw [if_pos a, if_pos a, if_neg b, if_neg (show ¬ (σ 43 0 0 = 0 ∧ (0 : Int) = 0) by omega), if_neg (show ¬ σ 43 0 0 < 0 by omega), if_neg (fun z => b ⟨z.1, z.2.1⟩)]
  · rw [if_neg a, if_neg a, if_pos b, if_neg (show ¬ ((0 : Int) = 0 ∧ σ 43 0 1 = 0) by omega), if_pos b.1, if_pos ⟨b.1, b.2, Or.inl rfl⟩]
  · rw [if_neg a, if_neg a, if_neg b, if_neg (fun z => b ⟨z.1, z.2.1⟩), if_pos ⟨rfl, rfl⟩]
/-- slot s is forgotten -/
def fgV (s : Nat) (f : Vec) : Vec := set (set (set f s 0) (2 + s) 0) (4 + s) 0
theorem s9_forgets (s : Nat) (hs : s < 2) : inv N mX9_forgets [vR 30 0, vI (s : Int)] (P σ) = some (none, P (row σ 43 0 (fgV s (σ 43 0)))) := by
  have e0 : w32 (0 + (s : Int)) = ((s : Nat) : Int) := by rw [w32i (by omega) (by omega)]; omega
  have e2 : w32 (2 + (s : Int)) = ((2 + s : Nat) : Int) := by rw [w32i (by omega) (by omega)]; omega
  have e4 : w32 (4 + (s : Int)) = ((4 + s : Nat) : Int) := by rw [w32i (by omega) (by omega)]; omega
  rw [iX9_forgets, eX9_forgets_0, e0, e2, e4, if_neg (by omega), if_pos (by omega), if_neg (by omega), if_pos (by omega), if_neg (by omega), if_pos (by omega)]
  simp only [Int.toNat_natCast, sup_row, row_same, row_row]
  rfl
theorem FR_forget {g f : Vec} (h : FR g f) (s : Nat) (hs : s < 2) : FR (set g (2 + s) 0) (fgV s f) := by
  obtain ⟨h2, h3, h4, h5, f0, f1, f2, f3, f4, f5, f6, f7⟩ := h
  unfold FR OKFl fgV
  rcases (show s = 0 ∨ s = 1 by omega) with rfl | rfl
  · simp only [set_at, Nat.reduceEqDiff, Nat.reduceAdd, ↓reduceIte]
    omega
  · simp only [set_at, Nat.reduceEqDiff, Nat.reduceAdd, ↓reduceIte]
    omega
end MOD
end
section
/-! THE TWO MACHINES: starts -/
/-- the row of starts, shifted down to a place -/
def shA (n : Vec) (k : Nat) : Vec := fun j => if 83 + k < j ∧ j < 107 then n (j - 2) else n j
theorem shA_23 (n : Vec) : shA n 23 = n := by
  funext j
  unfold shA
  rw [if_neg (by omega)]
theorem shA_s (n : Vec) (k : Nat) (h1 : 1 < k) (h2 : k ≤ 23) : set (shA n k) (83 + k) (shA n k (83 + k - 2)) = shA n (k - 1) := by
  funext j
  unfold set shA
  by_cases h : j = 83 + k
  · subst h
    rw [if_pos rfl, if_neg (by omega), if_pos (by omega)]
  · rw [if_neg h]
    by_cases h3 : 83 + k < j ∧ j < 107
    · rw [if_pos h3, if_pos (by omega)]
    · rw [if_neg h3, if_neg (by omega)]
def startV (n : Vec) (what ver : Int) : Vec := set (set (set (shA (set (set (set n 78 what) 79 0) 80 0) 1) 83 what) 84 ver) 82 (min 12 (w32 (n 82 + 1)))
section MOD
variable {N : Nat} {σ : Sto}
theorem s9_st_loop (x1 x2 : Int) : ∀ (m k : Nat) (n : Vec) (τ : Sto), k = m + 1 → k ≤ 23 → τ 40 0 = shA n k → ev N mX9_starts 21 [vR 30 0, vI x1, vI x2, vI (k : Int)] [] (P τ) = ev N mX9_starts 21 [vR 30 0, vI x1, vI x2, vI 1] [] (P (row τ 40 0 (shA n 1))) := by
  intro m
  induction m with
  | zero =>
    intro k n τ hk hk2 ht
    subst hk
    rw [Nat.zero_add] at ht ⊢
    rw [← ht, row_id]
    rfl
  | succ m ih =>
    intro k n τ hk hk2 ht
    have e1 : w32 (83 + (k : Int)) = ((83 + k : Nat) : Int) := by rw [w32i (by omega) (by omega)]; omega
    have e2 : w32 (((83 + k : Nat) : Int) - 2) = ((83 + k - 2 : Nat) : Int) := by rw [w32i (by omega) (by omega)]; omega
    have e3 : w32 ((k : Int) + -1) = ((k - 1 : Nat) : Int) := by rw [w32i (by omega) (by omega)]; omega
    rw [eX9_starts_21, if_pos (by omega), e1, e2, e3, if_neg (by omega), if_pos (by omega), if_neg (by omega), if_pos (by omega), sup_row, Int.toNat_natCast, Int.toNat_natCast, ht, shA_s n k (by omega) hk2, ih (k - 1) n _ (by omega) (by omega) (by rw [row_same]), row_row]
theorem s9_starts (what : Int) (s : Nat) (hs : s < 4) (hw : OKW (σ 40 0)) (h0 : σ 30 0 24 = 0) : inv N mX9_starts [vR 30 0, vI what, vI (s : Int)] (P σ) = some (none, P (row σ 40 0 (startV (σ 40 0) what (σ 40 0 (14 * s) - 1)))) := by
  have lp := s9_st_loop (N := N) what (s : Int) 22 23 (set (set (set (σ 40 0) 78 what) 79 0) 80 0) (row σ 40 0 (set (set (set (σ 40 0) 78 what) 79 0) 80 0)) rfl (by omega) (by rw [row_same, shA_23])
  simp only [Int.cast_ofNat_Int, row_row] at lp
  rw [iX9_starts, eX9_starts_0, if_pos h0]
  simp only [Int.reduceToNat, sup_row, row_same, row_row]
  rw [lp, eX9_starts_21, if_neg (by omega)]
  simp only [Int.reduceToNat, sup_row, row_same, row_row]
  generalize hn : set (shA (set (set (set (σ 40 0) 78 what) 79 0) 80 0) 1) 83 what = n
  have a : ∀ j, j < 56 → n j = σ 40 0 j := by
    intro j hj
    rw [← hn, set_ne _ _ (by omega)]
    unfold shA
    rw [if_neg (by omega), set_ne _ _ (by omega), set_ne _ _ (by omega), set_ne _ _ (by omega)]
  have a82 : n 82 = σ 40 0 82 := by
    rw [← hn, set_ne _ _ (by omega)]
    unfold shA
    rw [if_neg (by omega), set_ne _ _ (by omega), set_ne _ _ (by omega), set_ne _ _ (by omega)]
  have v := s9_versionOf (N := N) (σ := row σ 40 0 n) s hs (by rw [row_same]; intro j hj; rw [a j hj]; exact hw j hj)
  rw [row_same, a (14 * s) (by omega)] at v
  rw [v, bnd_s, push_s, eX9_starts_51, if_neg (by omega), if_pos (by omega)]
  simp only [Int.reduceToNat, sup_row, row_same, row_row]
  unfold startV
  rw [hn, set_ne _ _ (show 82 ≠ 84 by omega), a82]
theorem s9_starts_cut (what s : Int) (h0 : ¬ σ 30 0 24 = 0) : inv N mX9_starts [vR 30 0, vI what, vI s] (P σ) = some (none, P σ) := by
  rw [iX9_starts, eX9_starts_0, if_neg h0]
end MOD
/-- the class's cells behind a start -/
def ringV (c : Vec) (what ver : Int) : Vec := set (set (set (set (set (set c (83 + 2 * (c 82 % 12).toNat) what) (83 + 2 * (c 82 % 12).toNat + 1) ver) 82 (c 82 + 1)) 78 what) 79 0) 80 0
theorem RC_start {c n : Vec} (h : RC c n) (what ver : Int) (hb : c 82 < 2147483000) : RC (ringV c what ver) (startV n what ver) ∧ ringV c what ver 78 = startV n what ver 78 := by
  obtain ⟨h1, h2, h3, h4, h0, h5, h6⟩ := h
  have m0 : 0 ≤ c 82 % 12 ∧ c 82 % 12 < 12 := by omega
  have ec : ∀ j, j < 78 ∨ j = 81 → ringV c what ver j = c j := by
    intro j hj
    unfold ringV
    rw [set_ne _ _ (by omega), set_ne _ _ (by omega), set_ne _ _ (by omega), set_ne _ _ (by omega), set_ne _ _ (by omega), set_ne _ _ (by omega)]
  have en : ∀ j, j < 78 ∨ j = 81 → startV n what ver j = n j := by
    intro j hj
    unfold startV
    rw [set_ne _ _ (by omega), set_ne _ _ (by omega), set_ne _ _ (by omega)]
    unfold shA
    rw [if_neg (by omega), set_ne _ _ (by omega), set_ne _ _ (by omega), set_ne _ _ (by omega)]
  have n78 : startV n what ver 78 = what ∧ startV n what ver 79 = 0 ∧ startV n what ver 80 = 0 := by
    unfold startV
    refine ⟨?_, ?_, ?_⟩
    · rw [set_ne _ _ (by omega), set_ne _ _ (by omega), set_ne _ _ (by omega)]
      unfold shA
      rw [if_neg (by omega), set_ne _ _ (by omega), set_ne _ _ (by omega), set_same]
    · rw [set_ne _ _ (by omega), set_ne _ _ (by omega), set_ne _ _ (by omega)]
      unfold shA
      rw [if_neg (by omega), set_ne _ _ (by omega), set_same]
    · rw [set_ne _ _ (by omega), set_ne _ _ (by omega), set_ne _ _ (by omega)]
      unfold shA
      rw [if_neg (by omega), set_same]
  have c78 : ringV c what ver 78 = what ∧ ringV c what ver 79 = 0 ∧ ringV c what ver 80 = 0 := by
    unfold ringV
    refine ⟨?_, ?_, ?_⟩
    · rw [set_ne _ _ (by omega), set_ne _ _ (by omega), set_same]
    · rw [set_ne _ _ (by omega), set_same]
    · rw [set_same]
  refine ⟨⟨fun j hj => ?_, ?_, ?_, ?_, ?_⟩, ?_⟩
  · rw [ec j (Or.inl hj), en j (Or.inl hj), h1 j hj]
  · rw [c78.2.1, n78.2.2]
  · rw [c78.2.2, n78.2.1]
  · rw [ec 81 (Or.inr rfl), en 81 (Or.inr rfl), h4]
  · have c82 : ringV c what ver 82 = c 82 + 1 := by
      unfold ringV
      rw [set_ne _ _ (by omega), set_ne _ _ (by omega), set_ne _ _ (by omega), set_same]
    have n82 : startV n what ver 82 = min 12 (w32 (n 82 + 1)) := by
      unfold startV
      rw [set_same]
    unfold RS
    rw [c82, n82, h5]
    refine ⟨by omega, ?_, fun k hk hk2 => ?_⟩
    · rw [w32i (by omega) (by omega)]
      omega
    · have er : ∀ t : Nat, t < 12 → (¬ t = (c 82 % 12).toNat → ringV c what ver (83 + 2 * t) = c (83 + 2 * t) ∧ ringV c what ver (84 + 2 * t) = c (84 + 2 * t)) ∧ (t = (c 82 % 12).toNat → ringV c what ver (83 + 2 * t) = what ∧ ringV c what ver (84 + 2 * t) = ver) := by
        intro t ht
        generalize hq : (c 82 % 12).toNat = q at *
        refine ⟨fun hne => ?_, fun heq => ?_⟩
        · unfold ringV
          rw [hq]
          refine ⟨?_, ?_⟩
          · rw [set_ne _ _ (by omega), set_ne _ _ (by omega), set_ne _ _ (by omega), set_ne _ _ (by omega), set_ne _ _ (by omega), set_ne _ _ (by omega)]
          · rw [set_ne _ _ (by omega), set_ne _ _ (by omega), set_ne _ _ (by omega), set_ne _ _ (by omega), set_ne _ _ (by omega), set_ne _ _ (by omega)]
        · unfold ringV
          rw [hq, heq]
          refine ⟨?_, ?_⟩
          · rw [set_ne _ _ (by omega), set_ne _ _ (by omega), set_ne _ _ (by omega), set_ne _ _ (by omega), set_ne _ _ (by omega), set_same]
          · rw [set_ne _ _ (by omega), set_ne _ _ (by omega), set_ne _ _ (by omega), set_ne _ _ (by omega), show 84 + 2 * q = 83 + 2 * q + 1 by omega, set_same]
      by_cases hk0 : k = 0
      · subst hk0
        have e := (er ((c 82 + 1 - 1 - ((0 : Nat) : Int)) % 12).toNat (by omega)).2 (by omega)
        rw [e.1, e.2]
        unfold startV
        refine ⟨?_, ?_⟩
        · rw [set_ne _ _ (by omega), set_ne _ _ (by omega), set_same]
        · rw [set_ne _ _ (by omega), set_same]
      · have e := (er ((c 82 + 1 - 1 - (k : Int)) % 12).toNat (by omega)).1 (by omega)
        have o := h6 (k - 1) (by omega) (by omega)
        rw [show (c 82 + 1 - 1 - (k : Int)) % 12 = (c 82 - 1 - ((k - 1 : Nat) : Int)) % 12 by omega] at e ⊢
        rw [e.1, e.2, ← o.1, ← o.2]
        unfold startV
        refine ⟨?_, ?_⟩
        · rw [set_ne _ _ (by omega), set_ne _ _ (by omega), set_ne _ _ (by omega)]
          unfold shA
          rw [if_pos (by omega), show 83 + 2 * k - 2 = 83 + 2 * (k - 1) by omega, set_ne _ _ (by omega), set_ne _ _ (by omega), set_ne _ _ (by omega)]
        · rw [set_ne _ _ (by omega), set_ne _ _ (by omega), set_ne _ _ (by omega)]
          unfold shA
          rw [if_pos (by omega), show 84 + 2 * k - 2 = 84 + 2 * (k - 1) by omega, set_ne _ _ (by omega), set_ne _ _ (by omega), set_ne _ _ (by omega)]
  · rw [c78.1, n78.1]
end
section
/-! THE TWO MACHINES: the bundle, the start -/
theorem revN_congr {u u2 : Vec} {fz : Int} (ks : Int) (hu : OKU ks u) (h : ∀ k : Nat, (k : Int) < ks → u2 k = u k) : ∀ (n : Nat) (k : Int), k < ks → revN u2 fz n k = revN u fz n k
  | 0, _, _ => rfl
  | n + 1, k, hk => by
    unfold revN
    by_cases h0 : k < 0
    · rw [if_pos h0, if_pos h0]
    · have e := h k.toNat (by omega)
      have q := hu.2 k.toNat (by omega)
      rw [if_neg h0, if_neg h0, e, revN_congr ks hu h n _ (by omega)]
theorem whyF_bundle {ks : Int} {sec sec2 u u2 : Vec} (hu : OKU ks u) (h1 : ∀ k : Nat, (k : Int) < ks → sec2 k = sec k) (h : ∀ k : Nat, (k : Int) < ks → u2 k = u k) (c : Vec) (s : Nat) : whyF ks sec2 u2 c s = whyF ks sec u c s := by
  unfold whyF
  by_cases g : c (14 * s) - 1 < 0 ∨ 30 < c (14 * s) - 1 ∨ ¬ (0 ≤ c (14 * s + 1) ∧ c (14 * s + 1) < ks) ∨ c (14 * s + 3) < 1 ∨ 4 < c (14 * s + 3)
  · rw [if_pos g, if_pos g]
  · have e : signF sec2 c (14 * s) = signF sec c (14 * s) := by
      unfold signF
      rw [h1 _ (by omega)]
    rw [if_neg g, if_neg g, e, revN_congr ks hu h 6 _ (by omega)]
theorem soundL_congr {c n : Vec} (b : Nat) (h : ∀ j, b ≤ j → j < b + 14 → c j = n j) : ∀ (m k : Nat) (d : Int), k + m ≤ 4 → soundL c b m k d = soundL n b m k d
  | 0, _, _, _ => rfl
  | m + 1, k, d, hk => by
    unfold soundL
    rw [h (b + 6 + 2 * k) (by omega) (by omega), h (b + 7 + 2 * k) (by omega) (by omega), soundL_congr b h m (k + 1) _ (by omega)]
theorem whyF_cells {c n : Vec} (h : ∀ j, j < 78 → c j = n j) (ks : Int) (sec u : Vec) (s : Nat) (hs : s < 4) : whyF ks sec u c s = whyF ks sec u n s := by
  unfold whyF signF soundF
  rw [h (14 * s) (by omega), h (14 * s + 1) (by omega), h (14 * s + 2) (by omega), h (14 * s + 3) (by omega), h (14 * s + 4) (by omega), h (14 * s + 5) (by omega), h 76 (by omega), h 77 (by omega)]
  by_cases g : n (14 * s) - 1 < 0 ∨ 30 < n (14 * s) - 1 ∨ ¬ (0 ≤ n (14 * s + 1) ∧ n (14 * s + 1) < ks) ∨ n (14 * s + 3) < 1 ∨ 4 < n (14 * s + 3)
  · rw [if_pos g, if_pos g]
  · rw [if_neg g, if_neg g, soundL_congr (14 * s) (fun j a b => h j (by omega)) _ 0 _ (by omega)]
theorem copyF_cells {c n : Vec} (h : ∀ j, j < 78 → c j = n j) (ks : Int) (sec u : Vec) : copyF ks sec u c = copyF ks sec u n := by
  unfold copyF
  rw [whyF_cells h ks sec u 2 (by omega), whyF_cells h ks sec u 3 (by omega), h 28 (by omega), h 42 (by omega)]
/-- the model knows the bundle that machines know -/
def EnvM (σ0 τ : Sto) : Prop := OKM τ ∧ (∀ c s, whyM τ c s = whyS σ0 c s) ∧ τ 30 0 5 = σ0 2 1 0 ∧ τ 30 0 6 = σ0 2 1 1 ∧ τ 38 0 2 = σ0 2 1 2 ∧ τ 38 0 3 = σ0 2 1 3 ∧ τ 38 0 4 = σ0 2 1 4 ∧ (∀ j : Nat, (j : Int) < 14 * σ0 2 1 1 → τ 36 0 j = σ0 5 1 j) ∧ (∀ k : Nat, (k : Int) < σ0 2 1 0 → τ 33 0 k = σ0 4 1 k)
theorem KM_r {σ τ : Sto} (h : KM σ τ) (k : Nat) (hk : k ≠ 30 ∧ k ≠ 40 ∧ k ≠ 43 ∧ k ≠ 44 ∧ k ≠ 45) (k' : Nat) : τ k k' = σ k k' := h.1 k k' (by omega)
theorem EnvM_KM {σ0 τ υ : Sto} (h : EnvM σ0 τ) (k : KM τ υ) : EnvM σ0 υ := by
  have e32 := KM_r k 32 (by omega) 0
  have e33 := KM_r k 33 (by omega) 0
  have e36 := KM_r k 36 (by omega) 0
  have e38 := KM_r k 38 (by omega) 0
  have e5 := k.2 5 (by omega) (by omega) (by omega)
  have e6 := k.2 6 (by omega) (by omega) (by omega)
  unfold EnvM OKM whyM at h ⊢
  rw [e32, e33, e36, e38, e5, e6]
  exact h
theorem EnvM_copy {σ0 τ : Sto} (h : EnvM σ0 τ) (c : Vec) : copyF (τ 30 0 5) (τ 32 0) (τ 33 0) c = copyF (σ0 2 1 0) (σ0 3 1) (σ0 4 1) c := by
  have w := h.2.1
  have w2 : whyF (τ 30 0 5) (τ 32 0) (τ 33 0) c 2 = whyF (σ0 2 1 0) (σ0 3 1) (σ0 4 1) c 2 := w c 2
  have w3 : whyF (τ 30 0 5) (τ 32 0) (τ 33 0) c 3 = whyF (σ0 2 1 0) (σ0 3 1) (σ0 4 1) c 3 := w c 3
  unfold copyF
  rw [w2, w3]
theorem OKC_R {c n : Vec} (h : OKC c) (h1 : ∀ j, j < 78 → c j = n j) (h2 : -1 ≤ n 78 ∧ n 78 ≤ 2) : OKC n := by
  obtain ⟨a, b, d, e, f⟩ := h
  refine ⟨fun j hj => ?_, fun j hj hj2 => ?_, ?_, ?_, h2⟩
  · rw [← h1 j (by omega)]
    exact a j hj
  · rw [← h1 j (by omega)]
    exact b j hj hj2
  · rw [← h1 76 (by omega)]
    exact d
  · rw [← h1 77 (by omega)]
    exact e
theorem R_okc {x : XP} {σ : Sto} (h : R x σ) (hx : OKC x.1) : OKC (σ 40 0) := by
  refine OKC_R hx h.1.1 ?_
  rcases h.2.2 with ⟨_, _, q, _⟩ | ⟨_, _, q, _⟩
  · rw [← q]
    exact hx.2.2.2.2
  · omega
theorem R_start {x : XP} {σ : Sto} (h : R x σ) (h0 : σ 30 0 24 = 0) (what ver : Int) (hb : x.1 82 < 2147483000) : R (noteStartC what ver x) (row σ 40 0 (startV (σ 40 0) what ver)) := by
  obtain ⟨l1, l2, l3, l4⟩ := R_live h h0
  have hs := RC_start h.1 what ver hb
  have r30 : ∀ g, row σ 40 0 g 30 0 = σ 30 0 := fun g => by rw [row_at, if_neg (by omega)]
  unfold noteStartC
  rw [if_pos l2]
  refine ⟨?_, ?_, Or.inl ⟨?_, l2, ?_, ?_⟩⟩
  · rw [row_same]
    exact hs.1
  · rw [r30]
    exact h.2.1
  · rw [r30]
    exact l1
  · rw [row_same]
    exact hs.2
  · rw [r30]
    exact l4
/-- a live machine with flags that the model knows, too -/
def RF (x : XP) (σ : Sto) : Prop := R x σ ∧ σ 30 0 24 = 0 ∧ FR x.2 (σ 43 0) ∧ NR x ∧ OKX x
theorem FR_count {g f : Vec} (h : FR g f) (c : Vec) (s : Nat) (hs : s < 2) (hst : ¬ standF (g (2 + s)) = 0) : FR (countTryC s (c, g)).2 (set (set (set f (2 + s) (f (2 + s) - (if f (4 + s) = 1 then 0 else 1))) 6 (min 255 (f 6 + 1))) 7 (s : Int)) := by
  obtain ⟨h2, h3, h4, h5, f0, f1, f2, f3, f4, f5, f6, f7⟩ := h
  unfold countTryC
  rcases (show s = 0 ∨ s = 1 by omega) with rfl | rfl
  · have st := stand_FR h2 f0 f2 f4
    rw [st] at hst
    clear st
    unfold FR OKFl
    by_cases q : f 4 = 1
    · rw [if_neg (show ¬ g (2 + 0) % 2 = 0 by show ¬ g 2 % 2 = 0; omega)]
      simp only [set_at, Nat.reduceEqDiff, Nat.reduceAdd, ↓reduceIte, q, true_and, and_true, Int.cast_ofNat_Int]
      clear hst
      omega
    · have hp : 0 < f 2 := by
        by_cases z : 0 < f 0 ∧ (f 4 = 1 ∨ 0 < f 2)
        · omega
        · rw [if_neg z] at hst
          exact absurd rfl hst
      rw [if_pos (show g (2 + 0) % 2 = 0 by show g 2 % 2 = 0; omega)]
      simp only [set_at, Nat.reduceEqDiff, Nat.reduceAdd, ↓reduceIte, q, true_and, and_true, Int.cast_ofNat_Int]
      clear hst
      omega
  · have st := stand_FR h3 f1 f3 f5
    rw [st] at hst
    clear st
    unfold FR OKFl
    by_cases q : f 5 = 1
    · rw [if_neg (show ¬ g (2 + 1) % 2 = 0 by show ¬ g 3 % 2 = 0; omega)]
      simp only [set_at, Nat.reduceEqDiff, Nat.reduceAdd, ↓reduceIte, q, true_and, and_true, Int.cast_ofNat_Int]
      clear hst
      omega
    · have hp : 0 < f 3 := by
        by_cases z : 0 < f 1 ∧ (f 5 = 1 ∨ 0 < f 3)
        · omega
        · rw [if_neg z] at hst
          exact absurd rfl hst
      rw [if_pos (show g (2 + 1) % 2 = 0 by show g 3 % 2 = 0; omega)]
      simp only [set_at, Nat.reduceEqDiff, Nat.reduceAdd, ↓reduceIte, q, true_and, and_true, Int.cast_ofNat_Int]
      clear hst
      omega
theorem chosen_st {g : Vec} {s : Nat} (h2 : 0 ≤ standF (g 2)) (h3 : 0 ≤ standF (g 3)) (h : chosenC g = (s : Int)) : s < 2 ∧ ¬ standF (g (2 + s)) = 0 := by
  unfold chosenC at h
  by_cases q : standF (g 2) = 0 ∧ standF (g 3) = 0
  · rw [if_pos q] at h
    omega
  · rw [if_neg q] at h
    by_cases r : standF (g 2) < standF (g 3)
    · rw [if_pos r] at h
      have e : s = 1 := by omega
      subst e
      exact ⟨by omega, show ¬ standF (g 3) = 0 by omega⟩
    · rw [if_neg r] at h
      have e : s = 0 := by omega
      subst e
      exact ⟨by omega, show ¬ standF (g 2) = 0 by omega⟩
end
section
/-! THE TWO MACHINES: the boot -/
def cntF (g : Vec) : Nat := (if standF (g 2) = 0 then 0 else 1) + (if standF (g 3) = 0 then 0 else 1)
theorem cnt_0 {g : Vec} (h : cntF g = 0) : chosenC g = -1 := by
  unfold cntF at h
  unfold chosenC
  by_cases a : standF (g 2) = 0
  · by_cases b : standF (g 3) = 0
    · rw [if_pos ⟨a, b⟩]
    · rw [if_pos a, if_neg b] at h
      cases h
  · rw [if_neg a] at h
    omega
theorem cnt_2 (g : Vec) : cntF g ≤ 2 := by
  unfold cntF
  split <;> split <;> omega
theorem cnt_set {g : Vec} {s : Nat} (hs : s < 2) (h : ¬ standF (g (2 + s)) = 0) : cntF (set g (2 + s) 0) + 1 = cntF g := by
  have z : standF 0 = 0 := rfl
  unfold cntF
  rcases (show s = 0 ∨ s = 1 by omega) with rfl | rfl
  · rw [show (2 + 0 : Nat) = 2 from rfl] at h ⊢
    rw [set_same, set_ne _ _ (by omega), z, if_pos rfl, if_neg h]
    omega
  · rw [show (2 + 1 : Nat) = 3 from rfl] at h ⊢
    rw [set_same, set_ne _ _ (by omega), z, if_pos rfl, if_neg h]
/-- all that a boot does behind a choice -/
def brC (σ0 : Sto) (m : Nat) (x : XP) : Int × XP :=
  if (startL (whyS σ0) m x).1 = -1 then startRecoveryC (copyF (σ0 2 1 0) (σ0 3 1) (σ0 4 1) (startL (whyS σ0) m x).2.1) (startL (whyS σ0) m x).2 else startL (whyS σ0) m x
theorem DD_br {σ0 : Sto} (m : Nat) {x : XP} (d : Dead x) : DD x (brC σ0 m x).2 := by
  have h := DD_startL (whyS σ0) m x d
  unfold brC
  split
  · exact DD_trans h (DD_rec (DD_dead h d) _)
  · exact h
section MOD
variable {N : Nat} {σ σ0 : Sto} {x : XP}
theorem RF_g {j : Nat} (h : RF x σ) (v : Int) (f : Vec) (h6 : j ≠ 6) (h7 : j ≠ 7) (h8 : j ≠ 8) (h9 : j ≠ 9) (hf : FR (set x.2 j v) f) (ho : OKF (set x.2 j v)) : RF (x.1, set x.2 j v) (row σ 43 0 f) := by
  obtain ⟨a, b, c, d, e⟩ := h
  have r30 : row σ 43 0 f 30 0 = σ 30 0 := by rw [row_at, if_neg (by omega)]
  refine ⟨R_44 (R_g a v h7 h8 h9) 43 f (by omega), by rw [r30]; exact b, by rw [row_same]; exact hf, ?_, ⟨e.1, ho⟩⟩
  unfold NR at d ⊢
  show set x.2 j v 6 = newestF x.1
  rw [set_ne _ _ (Ne.symm h6)]
  exact d
/-- flags are written by both -/
theorem m_wf (h : RF x σ) : inv N mX9_writesFlags [vR 30 0] (P σ) = some (none, P (wfM σ)) ∧ KM σ (wfM σ) ∧ R (writeFlagsC x) (wfM σ) ∧ OKX (writeFlagsC x) ∧ wfM σ 43 0 = σ 43 0 ∧ (wfM σ 30 0 24 = 0 → RF (writeFlagsC x) (wfM σ)) := by
  obtain ⟨a, b, c, d, e⟩ := h
  have hm := R_okc a e.1
  have hr := R_wf a d c
  have ho := writeFlagsC_ok e
  have h43 : wfM σ 43 0 = σ 43 0 := wfM_o σ (Or.inl rfl)
  refine ⟨s9_writesFlags hm.2.1 c.2.2.2.2, KM_wf σ, hr, ho, h43, fun h0 => ⟨hr, h0, ?_, NR_wf e.1.2.1 d (R_live hr h0).2.1, ho⟩⟩
  rw [h43]
  unfold FR at c ⊢
  rw [writeFlagsC_o x (by omega) (by omega) (by omega), writeFlagsC_o x (by omega) (by omega) (by omega), writeFlagsC_o x (by omega) (by omega) (by omega), writeFlagsC_o x (by omega) (by omega) (by omega)]
  exact c
/-- a start behind a writing of flags -/
theorem m_starts (h : R x σ) (hx : OKX x) (what : Int) (s : Nat) (hs : s < 4) (hb : x.1 82 < 2147483000) : ∃ τ, inv N mX9_starts [vR 30 0, vI what, vI (s : Int)] (P σ) = some (none, P τ) ∧ KM σ τ ∧ R (noteStartC what (x.1 (14 * s) - 1) x) τ ∧ τ 30 0 24 = σ 30 0 24 := by
  by_cases h0 : σ 30 0 24 = 0
  · have hm := R_okc h hx.1
    have r30 : ∀ g, row σ 40 0 g 30 0 = σ 30 0 := fun g => by rw [row_at, if_neg (by omega)]
    refine ⟨_, s9_starts what s hs hm.1 h0, KM_row _ _ _ (Or.inl rfl), ?_, by rw [r30]⟩
    rw [h.1.1 (14 * s) (by omega)]
    exact R_start h h0 what _ hb
  · have d := R_dead h h0
    exact ⟨σ, s9_starts_cut what _ h0, KM_refl σ, R_dd h (DD_note d _ _) d, rfl⟩
theorem m_rec (h : RF x σ) (he : EnvM σ0 σ) (hb : x.1 82 < 2147483000) (x1 : Int) : ∃ τ, ev N mX9_boots 18 [vR 30 0, vI x1, vI (-1), vX] [] (P σ) = some (some (vI (if τ 30 0 24 = 0 then (startRecoveryC (copyF (σ0 2 1 0) (σ0 3 1) (σ0 4 1) x.1) x).1 else -2)), P τ) ∧ KM σ τ ∧ R (startRecoveryC (copyF (σ0 2 1 0) (σ0 3 1) (σ0 4 1) x.1) x).2 τ := by
  have hm := R_okc h.1 h.2.2.2.2.1
  have ec : copyF (σ 30 0 5) (σ 32 0) (σ 33 0) (σ 40 0) = copyF (σ0 2 1 0) (σ0 3 1) (σ0 4 1) x.1 := by rw [EnvM_copy he, copyF_cells h.1.1.1]
  have cv := copyF_c (σ0 2 1 0) (σ0 3 1) (σ0 4 1) x.1
  rw [eX9_boots_18, if_pos rfl, if_pos h.2.1, if_pos rfl, s9_copyNow he.1 hm, bnd_s, push_s, eX9_boots_99, ec]
  generalize copyF (σ0 2 1 0) (σ0 3 1) (σ0 4 1) x.1 = cp at cv
  by_cases h1 : cp = -1
  · rw [if_pos h1]
    unfold startRecoveryC
    rw [if_pos h1]
    exact ⟨σ, by rw [if_pos h.2.1], KM_refl σ, h.1⟩
  · obtain ⟨s, hs, rfl⟩ : ∃ s : Nat, s < 4 ∧ cp = (s : Int) := by
      rcases cv with z | z | z
      · exact absurd z h1
      · exact ⟨2, by omega, z⟩
      · exact ⟨3, by omega, z⟩
    rw [if_neg h1, sup_row, show (7 : Int).toNat = 7 from rfl]
    have hf2 : FR (set x.2 5 2) (set (σ 43 0) 7 2) := by
      obtain ⟨h2, h3, h4, h5, f0, f1, f2, f3, f4, f5, f6, f7⟩ := h.2.2.1
      unfold FR OKFl
      simp only [set_at, Nat.reduceEqDiff, ↓reduceIte, true_and]
      omega
    have g := RF_g h 2 (set (σ 43 0) 7 2) (j := 5) (by omega) (by omega) (by omega) (by omega) hf2 (okf_set h.2.2.2.2.2 (fun _ => by omega) (by omega))
    obtain ⟨w1, w2, w3, w4, w5, w6⟩ := m_wf (N := N) g
    have e82 : (writeFlagsC (x.1, set x.2 5 2)).1 82 = x.1 82 := writeFlagsC_at _ (Or.inr (by omega))
    obtain ⟨τ, t1, t2, t3, t4⟩ := m_starts (N := N) w3 w4 2 s hs (by rw [e82]; exact hb)
    refine ⟨τ, ?_, KM_trans (KM_row _ _ _ (Or.inr (Or.inl rfl))) (KM_trans w2 t2), ?_⟩
    · rw [w1, bnd_s, push_n, eX9_boots_112, t1, bnd_s, push_n, eX9_boots_116]
      unfold startRecoveryC
      rw [if_neg h1]
      split <;> rfl
    · unfold startRecoveryC
      rw [if_neg h1, Int.toNat_natCast]
      exact t3
end MOD
end
section
/-! THE TWO MACHINES: the boot, whole -/
section MOD
variable {N : Nat} {σ σ0 : Sto} {x : XP}
theorem FR_stand {g f : Vec} (h : FR g f) : 0 ≤ standF (g 2) ∧ 0 ≤ standF (g 3) := by
  obtain ⟨h2, h3, h4, h5, f0, f1, f2, f3, f4, f5, f6, f7⟩ := h
  exact ⟨(standF_0 (by omega)).1, (standF_0 (by omega)).1⟩
theorem startL_none (W : Vec → Nat → Int) (m : Nat) (h : chosenC x.2 = -1) : startL W m x = (-1, x) := by
  cases m with
  | zero => rfl
  | succ m =>
    unfold startL
    rw [if_pos h]
theorem zero_b : 0 ≤ (0 : Int) ∧ (0 : Int) < 256 := by omega
theorem six_ne {s : Nat} (hs : s < 2) (f : Vec) (v : Int) : set f (2 + s) v 6 = f 6 := set_ne _ _ (by omega)
theorem m6_w {v : Int} (h : 0 ≤ v ∧ v < 256) : w32 (v + 1) = v + 1 ∧ w32 (v - 0) = v - 0 ∧ w32 (v - 1) = v - 1 := ⟨w32i (by omega) (by omega), w32i (by omega) (by omega), w32i (by omega) (by omega)⟩
theorem R_lt {a : Int} (h : 0 ≤ a ∧ a < 8) : 0 ≤ a ∧ a < 256 := by omega
theorem countTry_6 (x : XP) {s : Nat} (hs : s < 2) : (countTryC s x).2 6 = x.2 6 := by
  unfold countTryC
  show set (set (if x.2 (2 + s) % 2 = 0 then set x.2 (2 + s) (x.2 (2 + s) - 2) else x.2) 4 (min (x.2 4 + 1) 255)) 5 (s : Int) 6 = x.2 6
  rw [set_ne _ _ (show 6 ≠ 5 by decide), set_ne _ _ (show 6 ≠ 4 by decide)]
  split
  · rw [set_ne _ _ (by omega)]
  · rfl
theorem s_facts {s : Nat} (hs : s < 2) : (¬ (s : Int) = -1) ∧ (¬ ((2 + s : Nat) : Int) < 0) ∧ (((2 + s : Nat) : Int) < 8) ∧ (¬ ((4 + s : Nat) : Int) < 0) ∧ (((4 + s : Nat) : Int) < 8) ∧ w32 (2 + (s : Int)) = ((2 + s : Nat) : Int) ∧ w32 (4 + (s : Int)) = ((4 + s : Nat) : Int) ∧ 2 + s ≠ 6 ∧ 2 + s ≠ 7 ∧ 2 + s ≠ 8 ∧ 2 + s ≠ 9 ∧ s < 4 ∧ 6 ≠ 2 + s ∧ (s = 0 ∨ s = 1) := by
  refine ⟨by omega, by omega, by omega, by omega, by omega, ?_, ?_, by omega, by omega, by omega, by omega, by omega, by omega, by omega⟩
  · rw [w32i (by omega) (by omega)]; omega
  · rw [w32i (by omega) (by omega)]; omega
theorem m_boot_loop (hg : OKG σ0 1) (x1 : Int) : ∀ (m : Nat) (x : XP) (σ : Sto), cntF x.2 ≤ m → RF x σ → EnvM σ0 σ → x.1 82 < 2147483000 →
    ∃ τ, ev N mX9_boots 18 [vR 30 0, vI x1, vI (chosenC x.2), vX] [] (P σ) = some (some (vI (if τ 30 0 24 = 0 then (brC σ0 m x).1 else -2)), P τ) ∧ KM σ τ ∧ R (brC σ0 m x).2 τ := by
  intro m
  induction m with
  | zero =>
    intro x σ hc h he hb
    have c := cnt_0 (by omega : cntF x.2 = 0)
    have q := m_rec (N := N) h he hb x1
    unfold brC
    rw [startL_none _ _ c, c, if_pos rfl]
    exact q
  | succ m ih =>
    intro x σ hc h he hb
    by_cases c : chosenC x.2 = -1
    · have q := m_rec (N := N) h he hb x1
      unfold brC
      rw [startL_none _ _ c, c, if_pos rfl]
      exact q
    obtain ⟨s, hs, cs⟩ := chosen_s c
    obtain ⟨nn, p20, p28, p40, p48, k2, k4, j6, j7, j8, j9, hs4, r6, hs01⟩ := s_facts hs
    obtain ⟨-, st⟩ := chosen_st (FR_stand h.2.2.1).1 (FR_stand h.2.2.1).2 cs
    have hm := R_okc h.1 h.2.2.2.2.1
    have ew : whyM σ (σ 40 0) s = whyS σ0 x.1 s := by
      rw [he.2.1]
      exact (whyF_cells h.1.1.1 _ _ _ s hs4).symm
    rw [cs, eX9_boots_18, if_neg nn, s9_why s hs4 he.1 hm, bnd_s, push_s, eX9_boots_24, ew]
    by_cases h2 : whyS σ0 x.1 s = 0
    · have ebr : brC σ0 (m + 1) x = ((s : Int), noteStartC (s : Int) ((writeFlagsC (countTryC s x)).1 (14 * s) - 1) (writeFlagsC (countTryC s x))) := by
        unfold brC startL
        rw [if_neg c, cs, Int.toNat_natCast, if_pos h2, if_neg nn]
      have hf2 := FR_count h.2.2.1 x.1 s hs st
      have ho : OKX (countTryC s x) := by
        rcases chosenC_c h.2.2.2.2.2 with z | ⟨z, z2⟩ | ⟨z, z2⟩
        · exact absurd z c
        · exact countTryC_ok s hs h.2.2.2.2 (by rw [show s = 0 from Int.ofNat.inj (cs.symm.trans z)]; exact z2)
        · exact countTryC_ok s hs h.2.2.2.2 (by rw [show s = 1 from Int.ofNat.inj (cs.symm.trans z)]; exact z2)
      generalize hff : set (set (set (σ 43 0) (2 + s) (σ 43 0 (2 + s) - (if σ 43 0 (4 + s) = 1 then 0 else 1))) 6 (min 255 (σ 43 0 6 + 1))) 7 (s : Int) = ff at hf2
      have g : RF (countTryC s x) (row σ 43 0 ff) := by
        obtain ⟨a, b, cc, d, e⟩ := h
        have r30 : row σ 43 0 ff 30 0 = σ 30 0 := by rw [row_at, if_neg (by decide)]
        have a2 : R (countTryC s x) σ := by
          have dd := DD_count (x := x) hs
          obtain ⟨e1, e2, e3, e4⟩ := dd
          unfold R RL RD at a ⊢
          rw [e1, e2, e3, e4]
          exact a
        refine ⟨R_44 a2 43 ff (Or.inl rfl), by rw [r30]; exact b, by rw [row_same]; exact hf2, ?_, ho⟩
        unfold NR at d ⊢
        show (countTryC s x).2 6 = newestF x.1
        rw [← d]
        exact countTry_6 x hs
      obtain ⟨w1, w2, w3, w4, w5, w6⟩ := m_wf (N := N) g
      have e82 : (writeFlagsC (countTryC s x)).1 82 = x.1 82 := writeFlagsC_at _ (Or.inr (by decide))
      obtain ⟨τ, t1, t2, t3, t4⟩ := m_starts (N := N) w3 w4 (s : Int) s hs4 (by rw [e82]; exact hb)
      rw [ebr]
      refine ⟨τ, ?_, KM_trans (KM_row _ _ _ (Or.inr (Or.inl rfl))) (KM_trans w2 t2), t3⟩
      have f6 := h.2.2.1.2.2.2.2.2.2.2.2.2.2.1
      have f2 : 0 ≤ σ 43 0 (2 + s) ∧ σ 43 0 (2 + s) < 8 := by
        have q := h.2.2.1.2.2.2.2
        rcases hs01 with rfl | rfl
        · exact q.2.2.1
        · exact q.2.2.2.1
      have fin : bnd (inv N mX9_writesFlags [vR 30 0] (P (row σ 43 0 ff))) (fun r S2 => ev N mX9_boots 86 [vR 30 0, vI x1, vI (s : Int), vX] (push r []) S2) = some (some (vI (if τ 30 0 24 = 0 then (s : Int) else -2)), P τ) := by
        rw [w1, bnd_s, push_n, eX9_boots_86, t1, bnd_s, push_n, eX9_boots_90]
        split <;> rfl
      rw [if_pos h2, if_pos h.2.1, if_neg nn, k2, k4, if_neg p20, if_pos p28, if_neg p40, if_pos p48, ← fin, ← hff]
      simp only [Int.toNat_natCast, Int.reduceToNat, sup_row, row_same, row_row]
      have n6 : ∀ v, set (σ 43 0) (2 + s) v 6 = σ 43 0 6 := fun v => six_ne hs _ v
      have m6 := (m6_w f6).1
      have d0 := (m6_w (R_lt f2)).2.1
      have d1 := (m6_w (R_lt f2)).2.2
      rw [n6, n6, m6, d0, d1]
      by_cases q : σ 43 0 (4 + s) = 1
      · rw [if_pos q, if_pos q, if_neg p20, if_pos p28]
      · rw [if_neg q, if_neg q, if_neg p20, if_pos p28]
    · have ebr : brC σ0 (m + 1) x = brC σ0 m (writeFlagsC (x.1, set x.2 (2 + s) 0)) := by
        unfold brC
        rw [show startL (whyS σ0) (m + 1) x = startL (whyS σ0) m (writeFlagsC (x.1, set x.2 (2 + s) 0)) from by
          conv => lhs; unfold startL
          rw [if_neg c, cs, Int.toNat_natCast, if_neg h2]]
      have g := RF_g h 0 (fgV s (σ 43 0)) (j := 2 + s) j6 j7 j8 j9 (FR_forget h.2.2.1 s hs) (okf_set h.2.2.2.2.2 (fun _ => zero_b) j6)
      obtain ⟨w1, w2, w3, w4, w5, w6⟩ := m_wf (N := N) g
      have e82 : (writeFlagsC (x.1, set x.2 (2 + s) 0)).1 82 = x.1 82 := writeFlagsC_at _ (Or.inr (by decide))
      rw [if_neg h2, s9_forgets s hs, bnd_s, push_n, eX9_boots_28, w1, bnd_s, push_n, eX9_boots_30, ebr]
      have km : KM σ (wfM (row σ 43 0 (fgV s (σ 43 0)))) := KM_trans (KM_row _ _ _ (Or.inr (Or.inl rfl))) w2
      generalize hτ : wfM (row σ 43 0 (fgV s (σ 43 0))) = τ at w1 w2 w3 w5 w6 km
      by_cases h3 : τ 30 0 24 = 0
      · have rf := w6 h3
        have hcn : cntF (writeFlagsC (x.1, set x.2 (2 + s) 0)).2 ≤ m := by
          have q := cnt_set hs st
          have : cntF (writeFlagsC (x.1, set x.2 (2 + s) 0)).2 = cntF (set x.2 (2 + s) 0) := by
            unfold cntF
            rw [writeFlagsC_o _ (by decide) (by decide) (by decide), writeFlagsC_o _ (by decide) (by decide) (by decide)]
          rw [this]
          exact Nat.le_of_succ_le_succ (by show cntF (set x.2 (2 + s) 0) + 1 ≤ m + 1; rw [q]; exact hc)
        obtain ⟨υ, u1, u2, u3⟩ := ih _ τ hcn rf (EnvM_KM he km) (by rw [e82]; exact hb)
        refine ⟨υ, ?_, KM_trans km u2, u3⟩
        rw [if_pos h3, s9_slotChosen rf.2.2.1, bnd_s, push_s, eX9_boots_37, u1]
      · have d := R_dead w3 h3
        refine ⟨τ, ?_, km, R_dd w3 (DD_br m d) d⟩
        rw [if_neg h3, eX9_boots_37, eX9_boots_18, if_pos rfl, if_neg h3, if_neg h3]
end MOD
end
section
/-! THE TWO MACHINES: the other deeds -/
/-- the machine's flags are those of its pages -/
def PF (x : XP) : Prop := x.2 6 = newestF x.1 ∧ x.2 2 = flagF x.1 0 ∧ x.2 3 = flagF x.1 1 ∧ x.2 4 = flagF x.1 2 ∧ x.2 5 = flagF x.1 3
/-- live, with flags of its pages -/
def RP (x : XP) (σ : Sto) : Prop := R x σ ∧ σ 30 0 24 = 0 ∧ PF x ∧ OKX x
theorem flagF_congr {c n : Vec} (h : ∀ j, 56 ≤ j → j < 72 → c j = n j) {k : Nat} (hk : k < 4) : flagF c k = flagF n k := by
  unfold flagF
  rw [newestF_congr h, h (58 + k) (by omega) (by omega), h (66 + k) (by omega) (by omega)]
theorem flV_congr {c n : Vec} (h : ∀ j, 56 ≤ j → j < 72 → c j = n j) (f : Vec) : flV f c = flV f n := by
  unfold flV
  rw [newestF_congr h, h 58 (by omega) (by omega), h 59 (by omega) (by omega), h 60 (by omega) (by omega), h 61 (by omega) (by omega), h 66 (by omega) (by omega), h 67 (by omega) (by omega), h 68 (by omega) (by omega), h 69 (by omega) (by omega)]
theorem PF_wr {x : XP} (h : PF x) (a n : Nat) (v : Int) (ha : 72 ≤ a ∨ a + n ≤ 56) : PF (wrC a n v x) := by
  have e : ∀ j, 56 ≤ j → j < 72 → (wrC a n v x).1 j = x.1 j := fun j h1 h2 => wrC_at _ _ _ _ (by omega)
  obtain ⟨h6, h2, h3, h4, h5⟩ := h
  unfold PF
  rw [newestF_congr e, flagF_congr e (by omega : 0 < 4), flagF_congr e (by omega : 1 < 4), flagF_congr e (by omega : 2 < 4), flagF_congr e (by omega : 3 < 4)]
  rw [wrC_o _ _ _ _ (by omega) (by omega), wrC_o _ _ _ _ (by omega) (by omega), wrC_o _ _ _ _ (by omega) (by omega), wrC_o _ _ _ _ (by omega) (by omega), wrC_o _ _ _ _ (by omega) (by omega)]
  exact ⟨h6, h2, h3, h4, h5⟩
theorem okx_R {x : XP} {σ : Sto} (h : R x σ) (hx : OKX x) : OKC (σ 40 0) := R_okc h hx.1
section MOD
variable {N : Nat} {σ σ0 : Sto} {x : XP}
theorem m_read (h : RP x σ) : inv N mX9_readsFlags [vR 30 0] (P σ) = some (none, P (rfM σ)) ∧ KM σ (rfM σ) ∧ RF x (rfM σ) := by
  obtain ⟨a, b, c, d⟩ := h
  have hm := okx_R a d
  have r30 : rfM σ 30 0 = σ 30 0 := by
    unfold rfM
    rw [row_at, if_neg (by decide)]
  have cg : ∀ j, 56 ≤ j → j < 72 → σ 40 0 j = x.1 j := fun j h1 h2 => (a.1.1 j (by omega)).symm
  refine ⟨s9_readsFlags hm.2.1, KM_rf σ, R_44 a 43 _ (Or.inl rfl), by rw [r30]; exact b, ?_, c.1, d⟩
  have f := FR_read d.1.2.1 x.2 (σ 43 0) c.2.1 c.2.2.1 c.2.2.2.1 c.2.2.2.2
  show FR x.2 (row σ 43 0 (flV (σ 43 0) (σ 40 0)) 43 0)
  rw [row_same, flV_congr cg]
  exact f
/-- words are laid down: the class -/
def layK (b : Nat) (v : Nat → Int) : Nat → XP → XP
  | 0, x => x
  | k + 1, x => layK b v k (wrC (b + k) 1 (v k) x)
theorem lay_const (b : Nat) (rd : XP → Nat → Int) (v : Nat → Int) (I : XP → Prop) (hI : ∀ y k w, k < 14 → I y → I (wrC (b + k) 1 w y)) (hv : ∀ y k, k < 14 → I y → rd y k = v k) : ∀ (k : Nat) (x : XP), k ≤ 14 → I x → layL b rd k x = layK b v k x
  | 0, _, _, _ => rfl
  | k + 1, x, hk, h => by
    unfold layL layK
    rw [hv x k (by omega) h]
    exact lay_const b rd v I hI hv k _ (by omega) (hI x k _ (by omega) h)
/-- the model -/
def layM (b : Nat) (v : Nat → Int) : Nat → Sto → Sto
  | 0, σ => σ
  | k + 1, σ => layM b v k (wrM (b + k) 1 (v k) σ)
theorem R_lay (b : Nat) (hb : b + 14 ≤ 56) (v : Nat → Int) : ∀ (k : Nat) (x : XP) (σ : Sto), k ≤ 14 → R x σ → R (layK b v k x) (layM b v k σ)
  | 0, _, _, _, h => h
  | k + 1, x, σ, hk, h => R_lay b hb v k _ _ (by omega) (R_wr h (b + k) 1 (by omega) (v k))
theorem KM_lay (b : Nat) (v : Nat → Int) : ∀ (k : Nat) (σ : Sto), KM σ (layM b v k σ)
  | 0, σ => KM_refl σ
  | k + 1, σ => KM_trans (KM_wr _ _ _ _) (KM_lay b v k _)
theorem layM_o (b : Nat) (v : Nat → Int) {k0 k' : Nat} (h : k0 = 43 ∨ k0 = 44 ∨ k0 = 45) : ∀ (k : Nat) (σ : Sto), layM b v k σ k0 k' = σ k0 k'
  | 0, _ => rfl
  | k + 1, σ => (layM_o b v h k _).trans (wrM_o _ _ _ _ h)
theorem KM_36 {σ τ : Sto} (h : KM σ τ) : τ 36 0 = σ 36 0 := KM_r h 36 (by omega) 0
theorem s9_lay36_loop (s f : Nat) (hs : s < 4) (hf : f + 14 ≤ 84) (v : Nat → Int) : ∀ (k : Nat) (τ : Sto), k ≤ 13 → (∀ j, j < 14 → τ 36 0 (f + j) = v j) → ev N mX9_laysWords 10 [vR 30 0, vI (s : Int), vR 36 0, vI (f : Int), vI ((14 * s : Nat) : Int), vI (k : Int)] [] (P τ) = some (none, P (layM (14 * s) v (k + 1) τ)) := by
  intro k
  induction k with
  | zero =>
    intro τ hk hv
    have h0 := hv 0 (by omega)
    rw [Nat.add_zero] at h0
    have w := s9_writes (N := N) (σ := τ) (14 * s) (by omega) (v 0)
    rw [eX9_laysWords_10_k36, if_neg (by omega), if_neg (by omega), if_pos (by omega), Int.toNat_natCast, h0, w, bnd_s, push_n, eX9_laysWords_30_k36]
    rfl
  | succ k ih =>
    intro τ hk hv
    have h0 := hv (k + 1) (by omega)
    have w := s9_writes (N := N) (σ := τ) (14 * s + (k + 1)) (by omega) (v (k + 1))
    have e1 : w32 ((f : Int) + ((k + 1 : Nat) : Int)) = ((f + (k + 1) : Nat) : Int) := by rw [w32i (by omega) (by omega)]; omega
    have e2 : w32 (((14 * s : Nat) : Int) + ((k + 1 : Nat) : Int)) = ((14 * s + (k + 1) : Nat) : Int) := by rw [w32i (by omega) (by omega)]; omega
    have e3 : w32 (((k + 1 : Nat) : Int) + -1) = (k : Int) := by rw [w32i (by omega) (by omega)]; omega
    rw [eX9_laysWords_10_k36, if_pos (by omega), e1, e2, if_neg (by omega), if_pos (by omega), Int.toNat_natCast, h0, w, bnd_s, push_n, eX9_laysWords_22_k36, e3]
    exact ih _ (by omega) (fun j hj => by rw [KM_36 (KM_wr _ _ _ _)]; exact hv j hj)
theorem s9_lay36 (s f : Nat) (hs : s < 4) (hf : f + 14 ≤ 84) (v : Nat → Int) (hv : ∀ j, j < 14 → σ 36 0 (f + j) = v j) : inv N mX9_laysWords [vR 30 0, vI (s : Int), vR 36 0, vI (f : Int)] (P σ) = some (none, P (layM (14 * s) v 14 (wrM (14 * s) 1 0 σ))) := by
  have e : w32 (14 * (s : Int)) = ((14 * s : Nat) : Int) := by rw [w32i (by omega) (by omega)]; omega
  have lp := s9_lay36_loop (N := N) s f hs hf v 13 (wrM (14 * s) 1 0 σ) (by omega) (fun j hj => by rw [KM_36 (KM_wr _ _ _ _)]; exact hv j hj)
  rw [iX9_laysWords_k36, eX9_laysWords_0_k36, e, s9_writes _ (by omega), bnd_s, push_n, eX9_laysWords_8_k36]
  exact lp
theorem s9_lay45_loop (s : Nat) (hs : s < 4) (v : Nat → Int) : ∀ (k : Nat) (τ : Sto), k ≤ 13 → (∀ j, j < 14 → τ 45 0 j = v j) → ev N mX9_laysWords 10 [vR 30 0, vI (s : Int), vR 45 0, vI 0, vI ((14 * s : Nat) : Int), vI (k : Int)] [] (P τ) = some (none, P (layM (14 * s) v (k + 1) τ)) := by
  intro k
  induction k with
  | zero =>
    intro τ hk hv
    have h0 := hv 0 (by omega)
    have w := s9_writes (N := N) (σ := τ) (14 * s) (by omega) (v 0)
    rw [eX9_laysWords_10_k45, if_neg (by omega), if_neg (by omega), if_pos (by omega), show (0 : Int).toNat = 0 from rfl, h0, w, bnd_s, push_n, eX9_laysWords_30_k45]
    rfl
  | succ k ih =>
    intro τ hk hv
    have h0 := hv (k + 1) (by omega)
    have w := s9_writes (N := N) (σ := τ) (14 * s + (k + 1)) (by omega) (v (k + 1))
    have e1 : w32 (0 + ((k + 1 : Nat) : Int)) = ((k + 1 : Nat) : Int) := by rw [w32i (by omega) (by omega)]; omega
    have e2 : w32 (((14 * s : Nat) : Int) + ((k + 1 : Nat) : Int)) = ((14 * s + (k + 1) : Nat) : Int) := by rw [w32i (by omega) (by omega)]; omega
    have e3 : w32 (((k + 1 : Nat) : Int) + -1) = (k : Int) := by rw [w32i (by omega) (by omega)]; omega
    rw [eX9_laysWords_10_k45, if_pos (by omega), e1, e2, if_neg (by omega), if_pos (by omega), Int.toNat_natCast, h0, w, bnd_s, push_n, eX9_laysWords_22_k45, e3]
    exact ih _ (by omega) (fun j hj => by rw [wrM_o _ _ _ _ (by omega)]; exact hv j hj)
theorem s9_lay45 (s : Nat) (hs : s < 4) (v : Nat → Int) (hv : ∀ j, j < 14 → σ 45 0 j = v j) : inv N mX9_laysWords [vR 30 0, vI (s : Int), vR 45 0, vI 0] (P σ) = some (none, P (layM (14 * s) v 14 (wrM (14 * s) 1 0 σ))) := by
  have e : w32 (14 * (s : Int)) = ((14 * s : Nat) : Int) := by rw [w32i (by omega) (by omega)]; omega
  have lp := s9_lay45_loop (N := N) s hs v 13 (wrM (14 * s) 1 0 σ) (by omega) (fun j hj => by rw [wrM_o _ _ _ _ (by omega)]; exact hv j hj)
  rw [iX9_laysWords_k45, eX9_laysWords_0_k45, e, s9_writes _ (by omega), bnd_s, push_n, eX9_laysWords_8_k45]
  exact lp
/-- slot s is preferred -/
def pfV (s : Nat) (f : Vec) : Vec := set (set f s 15) (1 - s) (min 14 (f (1 - s)))
theorem s9_prefers (s : Nat) (hs : s < 2) : inv N mX9_prefers [vR 30 0, vI (s : Int)] (P σ) = some (none, P (row σ 43 0 (pfV s (σ 43 0)))) := by
  have e0 : w32 (0 + (s : Int)) = ((s : Nat) : Int) := by rw [w32i (by omega) (by omega)]; omega
  have e1 : w32 (1 - (s : Int)) = ((1 - s : Nat) : Int) := by rw [w32i (by omega) (by omega)]; omega
  rw [iX9_prefers, eX9_prefers_0, e0, e1, if_neg (by omega), if_pos (by omega), if_neg (by omega), if_pos (by omega), if_neg (by omega), if_pos (by omega)]
  simp only [Int.toNat_natCast, sup_row, row_same, row_row]
  unfold pfV
  rw [set_ne _ _ (show 1 - s ≠ s by omega)]
end MOD
end
section
/-! THE TWO MACHINES: an install ends -/
theorem layK_at (b : Nat) (v : Nat → Int) : ∀ (k : Nat) (x : XP) {j : Nat}, k ≤ 14 → (j < b ∨ b + 14 ≤ j) → (layK b v k x).1 j = x.1 j
  | 0, _, _, _, _ => rfl
  | k + 1, x, j, hk, h => (layK_at b v k _ (by omega) h).trans (wrC_at _ _ _ _ (by omega))
theorem layK_o (b : Nat) (v : Nat → Int) {j : Nat} (h8 : j ≠ 8) (h9 : j ≠ 9) : ∀ (k : Nat) (x : XP), (layK b v k x).2 j = x.2 j
  | 0, _ => rfl
  | k + 1, x => (layK_o b v h8 h9 k _).trans (wrC_o _ _ _ _ h8 h9)
theorem DD_layK (b : Nat) (v : Nat → Int) : ∀ (k : Nat) (x : XP), Dead x → DD x (layK b v k x)
  | 0, x, _ => DD_refl x
  | k + 1, x, d => by
    have h := DD_wr d (b + k) 1 (v k)
    exact DD_trans h (DD_layK b v k _ (DD_dead h d))
theorem RF_keep {x y : XP} {σ τ : Sto} (h : RF x σ) (hr : R y τ) (h0 : τ 30 0 24 = 0) (hp : ∀ j, 56 ≤ j → j < 72 → y.1 j = x.1 j) (h2 : y.2 2 = x.2 2) (h3 : y.2 3 = x.2 3) (h4 : y.2 4 = x.2 4) (h5 : y.2 5 = x.2 5) (h6 : y.2 6 = x.2 6) (hf : τ 43 0 = σ 43 0) (ho : OKX y) : RF y τ := by
  obtain ⟨a, b, c, d, e⟩ := h
  refine ⟨hr, h0, ?_, ?_, ho⟩
  · unfold FR at c ⊢
    rw [h2, h3, h4, h5, hf]
    exact c
  · unfold NR at d ⊢
    rw [h6, newestF_congr hp, d]
theorem FR_favour {c g f : Vec} (h : FR g f) (s : Nat) (hs : s < 2) : FR (favourC s (c, g)).2 (pfV s f) := by
  obtain ⟨h2, h3, h4, h5, f0, f1, f2, f3, f4, f5, f6, f7⟩ := h
  unfold favourC pfV
  rcases (show s = 0 ∨ s = 1 by omega) with rfl | rfl
  · by_cases q : g 3 < 240
    · rw [if_pos (show set g (2 + 0) (240 + g (2 + 0) % 16) (3 - 0) < 240 from by rw [set_ne _ _ (by omega)]; exact q)]
      unfold FR OKFl
      simp only [set_at, Nat.reduceEqDiff, Nat.reduceAdd, Nat.reduceSub, ↓reduceIte, true_and]
      omega
    · rw [if_neg (show ¬ set g (2 + 0) (240 + g (2 + 0) % 16) (3 - 0) < 240 from by rw [set_ne _ _ (by omega)]; exact q)]
      unfold FR OKFl
      simp only [set_at, Nat.reduceEqDiff, Nat.reduceAdd, Nat.reduceSub, ↓reduceIte, true_and]
      omega
  · by_cases q : g 2 < 240
    · rw [if_pos (show set g (2 + 1) (240 + g (2 + 1) % 16) (3 - 1) < 240 from by rw [set_ne _ _ (by omega)]; exact q)]
      unfold FR OKFl
      simp only [set_at, Nat.reduceEqDiff, Nat.reduceAdd, Nat.reduceSub, ↓reduceIte, true_and]
      omega
    · rw [if_neg (show ¬ set g (2 + 1) (240 + g (2 + 1) % 16) (3 - 1) < 240 from by rw [set_ne _ _ (by omega)]; exact q)]
      unfold FR OKFl
      simp only [set_at, Nat.reduceEqDiff, Nat.reduceAdd, Nat.reduceSub, ↓reduceIte, true_and]
      omega
theorem FR_try {g f : Vec} (h : FR g f) (s : Nat) (hs : s < 2) (h0 : f s = 0) (h4 : f (4 + s) = 0) (t : Int) (ht : 1 ≤ t ∧ t ≤ 7) : FR (set g (2 + s) (2 * t)) (set f (2 + s) t) := by
  obtain ⟨e2, e3, e4, e5, f0, f1, f2, f3, f4, f5, f6, f7⟩ := h
  unfold FR OKFl
  rcases (show s = 0 ∨ s = 1 by omega) with rfl | rfl
  · simp only [Nat.reduceAdd] at h4
    simp only [set_at, Nat.reduceEqDiff, Nat.reduceAdd, ↓reduceIte]
    omega
  · simp only [Nat.reduceAdd] at h4
    simp only [set_at, Nat.reduceEqDiff, Nat.reduceAdd, ↓reduceIte]
    omega
theorem pf_try (s : Nat) (hs : s < 2) (f : Vec) (t : Int) : set (pfV s f) (2 + s) t = pfV s (set f (2 + s) t) := by
  unfold pfV
  rw [set_ne f t (show 1 - s ≠ 2 + s by omega), set_comm _ _ _ _ _ (show 1 - s ≠ 2 + s by omega), set_comm _ _ _ _ _ (show s ≠ 2 + s by omega)]
theorem DD_favour (s : Nat) (hs : s < 2) (x : XP) : DD x (favourC s x) := by
  unfold favourC
  have d1 := DD_g x (2 + s) (240 + x.2 (2 + s) % 16) (by omega) (by omega) (by omega)
  split
  · exact d1
  · exact DD_trans d1 (DD_g (x.1, set x.2 (2 + s) (240 + x.2 (2 + s) % 16)) (3 - s) _ (by omega) (by omega) (by omega))
theorem favour_at (s : Nat) (x : XP) : (favourC s x).1 = x.1 := rfl
theorem favour_6 (s : Nat) (hs : s < 2) (x : XP) : (favourC s x).2 6 = x.2 6 := by
  show (if (set x.2 (2 + s) (240 + x.2 (2 + s) % 16)) (3 - s) < 240 then set x.2 (2 + s) (240 + x.2 (2 + s) % 16) else set (set x.2 (2 + s) (240 + x.2 (2 + s) % 16)) (3 - s) ((set x.2 (2 + s) (240 + x.2 (2 + s) % 16)) (3 - s) - 16)) 6 = x.2 6
  split
  · exact set_ne _ _ (by omega)
  · rw [set_ne _ _ (show 6 ≠ 3 - s by omega), set_ne _ _ (show 6 ≠ 2 + s by omega)]
theorem fgV_s (s : Nat) (hs : s < 2) (f : Vec) : fgV s f s = 0 ∧ fgV s f (4 + s) = 0 := by
  unfold fgV
  refine ⟨?_, set_same _ _ _⟩
  rw [set_ne _ _ (show s ≠ 4 + s by omega), set_ne _ _ (show s ≠ 2 + s by omega), set_same]
section MOD
variable {N : Nat} {σ σ0 : Sto} {x : XP}
/-- the end: flags anew, the journal is closed -/
theorem m_fin_tail (s : Nat) (hs : s < 2) (x2 : Int) (h : R x σ) (ho : OKX x) (tr : Int) (ht : 1 ≤ tr ∧ tr ≤ 7) (e3 : σ 38 0 3 = tr) (h0 : σ 43 0 s = 0) (h4 : σ 43 0 (4 + s) = 0) (hf : σ 30 0 24 = 0 → RF x σ) :
    ∃ τ, ev N mX9_resumes 29 [vR 30 0, vI (s : Int), vI x2] [] (P σ) = some (none, P τ) ∧ KM σ τ ∧ R (wrC 74 1 0 (writeFlagsC (favourC s (setFl s (2 * tr) x)))) τ := by
  obtain ⟨nn, p20, p28, p40, p48, k2, k4, j6, j7, j8, j9, hs4, r6, hs01⟩ := s_facts hs
  have e30 : ∀ g : Vec, row σ 43 0 g 30 0 = σ 30 0 := fun g => by rw [row_at, if_neg (by decide)]
  have e38 : ∀ g : Vec, row σ 43 0 g 38 0 = σ 38 0 := fun g => by rw [row_at, if_neg (by decide)]
  have dfl : DD x (favourC s (setFl s (2 * tr) x)) := DD_trans (DD_g x (2 + s) (2 * tr) j7 j8 j9) (DD_favour s hs _)
  rw [eX9_resumes_29, s9_prefers s hs, bnd_s, push_n, eX9_resumes_32, k2, if_neg p20, if_pos p28, sup_row, row_same, row_row, e38, show (3 : Int).toNat = 3 from rfl, e3, Int.toNat_natCast, e30]
  have km0 := KM_row σ 43 (set (pfV s (σ 43 0)) (2 + s) tr) (Or.inr (Or.inl rfl))
  have w74 := fun τ => s9_writes (N := N) (σ := τ) 74 (by decide) 0
  by_cases hl : σ 30 0 24 = 0
  · have rf := hf hl
    have f1 := FR_favour (c := x.1) (FR_try rf.2.2.1 s hs h0 h4 tr ht) s hs
    rw [← pf_try s hs] at f1
    have g : RF (favourC s (setFl s (2 * tr) x)) (row σ 43 0 (set (pfV s (σ 43 0)) (2 + s) tr)) := by
      refine ⟨R_44 ?_ 43 _ (Or.inl rfl), by rw [e30]; exact hl, by rw [row_same]; exact f1, ?_, favourC_ok hs (setFl_ok ho (by omega) hs)⟩
      · have hr := h
        obtain ⟨d1, d2, d3, d4⟩ := dfl
        unfold R RL RD at hr ⊢
        rw [d1, d2, d3, d4]
        exact hr
      · unfold NR
        rw [favour_6 s hs]
        show set x.2 (2 + s) (2 * tr) 6 = newestF x.1
        rw [set_ne _ _ r6]
        exact rf.2.2.2.1
    obtain ⟨w1, w2, w3, w4, w5, w6⟩ := m_wf (N := N) g
    rw [if_pos hl, w1, bnd_s, push_n, eX9_resumes_47]
    exact ⟨_, by rw [show (74 : Int) = ((74 : Nat) : Int) from rfl, w74, bnd_s, push_n, eX9_resumes_51], KM_trans km0 (KM_trans w2 (KM_wr _ _ _ _)), R_wr w3 74 1 (by decide) 0⟩
  · have d := R_dead h hl
    have dw : DD x (writeFlagsC (favourC s (setFl s (2 * tr) x))) := DD_trans dfl (DD_wf (DD_dead dfl d))
    have r := R_44 (R_dd h dw d) 43 (set (pfV s (σ 43 0)) (2 + s) tr) (Or.inl rfl)
    rw [if_neg hl, eX9_resumes_47]
    exact ⟨_, by rw [show (74 : Int) = ((74 : Nat) : Int) from rfl, w74, bnd_s, push_n, eX9_resumes_51], KM_trans km0 (KM_wr _ _ _ _), R_wr r 74 1 (by decide) 0⟩
end MOD
end
section
/-! THE TWO MACHINES: install, resume, refresh, prefer -/
theorem n14 {s : Nat} (hs : s < 2) : 14 * s + 14 ≤ 56 := by omega
theorem n84 {im : Nat} (h : im < 6) : 14 * im + 14 ≤ 84 := by omega
theorem n_im {im : Nat} (h : im < 6) : 0 ≤ (im : Int) ∧ (im : Int) < 6 := by omega
theorem n_s {s : Nat} (h : s < 2) : 0 ≤ (s : Int) ∧ (s : Int) < 2 := by omega
theorem n_t {s im : Nat} (hs : s < 2) (him : im < 6) : Int.tmod (w32 (w32 ((s : Int) + (im : Int)) + 90)) 256 = ((s : Int) + (im : Int) + 90) % 256 := by
  have a1 : 0 ≤ (s : Int) + (im : Int) + 90 := by omega
  rw [w32i (x := (s : Int) + (im : Int)) (by omega) (by omega), w32i (by omega) (by omega)]
  exact tmod256 a1
theorem n_1s {s : Nat} (hs : s < 2) : w32 (1 - (s : Int)) = ((1 - s : Nat) : Int) ∧ ¬ (((1 - s : Nat) : Int) < 0) ∧ ((1 - s : Nat) : Int) < 8 := by
  refine ⟨?_, by omega, by omega⟩
  rw [w32i (by omega) (by omega)]
  omega
theorem n_3s {s : Nat} (hs : s < 2) : 3 - s ≠ 6 ∧ 3 - s ≠ 8 ∧ 3 - s ≠ 9 := by omega
theorem lay_rdI {σ0 : Sto} (f b : Nat) (x : XP) : layC b (rdI σ0 f) x = layK b (fun j => σ0 5 1 (f + j)) 14 (wrC b 1 0 x) :=
  lay_const b (rdI σ0 f) (fun j => σ0 5 1 (f + j)) (fun _ => True) (fun _ _ _ _ _ => trivial) (fun _ _ _ _ => rfl) 14 _ (by omega) trivial
section MOD
variable {N : Nat} {σ σ0 : Sto} {x : XP}
theorem env_words (he : EnvM σ0 σ) {im : Nat} (hi : (im : Int) < σ0 2 1 1) : ∀ j, j < 14 → σ 36 0 (14 * im + j) = σ0 5 1 (14 * im + j) := by
  intro j hj
  exact he.2.2.2.2.2.2.2.1 _ (by omega)
theorem m_lay (he : EnvM σ0 σ) (s im : Nat) (hs : s < 4) (him : im < 6) (hi : (im : Int) < σ0 2 1 1) (h : R x σ) : ∃ τ, inv N mX9_laysWords [vR 30 0, vI (s : Int), vR 36 0, vI (w32 (14 * (im : Int)))] (P σ) = some (none, P τ) ∧ KM σ τ ∧ R (layC (14 * s) (rdI σ0 (14 * im)) x) τ ∧ τ 43 0 = σ 43 0 := by
  have e : w32 (14 * (im : Int)) = ((14 * im : Nat) : Int) := by rw [w32i (by omega) (by omega)]; omega
  have w := env_words he hi
  rw [e, s9_lay36 s (14 * im) hs (by omega) (fun j => σ0 5 1 (14 * im + j)) w, lay_rdI]
  exact ⟨_, rfl, KM_trans (KM_wr _ _ _ _) (KM_lay _ _ _ _), R_lay (14 * s) (by omega) _ 14 _ _ (by omega) (R_wr h _ _ (by omega) _), (layM_o _ _ (Or.inl rfl) _ _).trans (wrM_o _ _ _ _ (Or.inl rfl))⟩
theorem layC_o (b f : Nat) {j : Nat} (h8 : j ≠ 8) (h9 : j ≠ 9) (y : XP) : (layC b (rdI σ0 f) y).2 j = y.2 j := by
  rw [lay_rdI, layK_o _ _ h8 h9, wrC_o _ _ _ _ h8 h9]
theorem m_resumes (hg : OKG σ0 1) (s im : Nat) (hs : s < 2) (him : im < 6) (hi : (im : Int) < σ0 2 1 1) (h : RP x σ) (he : EnvM σ0 σ) (h72 : σ 40 0 72 = (s : Int)) (h73 : σ 40 0 73 = (im : Int)) : ∃ τ, inv N mX9_resumes [vR 30 0] (P σ) = some (none, P τ) ∧ KM σ τ ∧ R (finishC σ0 s im x) τ := by
  obtain ⟨nn, p20, p28, p40, p48, k2, k4, j6, j7, j8, j9, hs4, r6, hs01⟩ := s_facts hs
  obtain ⟨r1, r2, r3⟩ := m_read (N := N) h
  have g := RF_g r3 0 (fgV s (rfM σ 43 0)) (j := 2 + s) j6 j7 j8 j9 (FR_forget r3.2.2.1 s hs) (okf_set r3.2.2.2.2.2 (fun _ => zero_b) j6)
  obtain ⟨w1, w2, w3, w4, w5, w6⟩ := m_wf (N := N) g
  have km3 : KM σ (wfM (row (rfM σ) 43 0 (fgV s (rfM σ 43 0)))) := KM_trans r2 (KM_trans (KM_row _ _ _ (Or.inr (Or.inl rfl))) w2)
  rw [row_same] at w5
  obtain ⟨τ, t1, t2, t3, t4⟩ := m_lay (N := N) (EnvM_KM he km3) s im hs4 him hi w3
  have hb : 14 * s + 14 ≤ 56 := n14 hs
  have hf84 : 14 * im + 14 ≤ 84 := n84 him
  have ok4 : OKX (layC (14 * s) (rdI σ0 (14 * im)) (writeFlagsC (x.1, set x.2 (2 + s) 0))) := layC_ok _ hb _ (fun y k _ hk => wrd_r hg (14 * im) hf84 k hk) w4
  have km4 := KM_trans km3 t2
  have e38 := (EnvM_KM he km4).2.2.2.2.2.1
  have tr1 := hg.2.2.2.2.2.2.1
  have tr2 := hg.2.2.2.2.2.2.2.1
  have f43 : τ 43 0 = fgV s (rfM σ 43 0) := t4.trans w5
  have lv : τ 30 0 24 = 0 → RF (layC (14 * s) (rdI σ0 (14 * im)) (writeFlagsC (x.1, set x.2 (2 + s) 0))) τ := by
    intro hl
    by_cases hl3 : wfM (row (rfM σ) 43 0 (fgV s (rfM σ 43 0))) 30 0 24 = 0
    · exact RF_keep (w6 hl3) t3 hl (fun j a b => layC_at _ _ _ (Or.inr (Nat.le_trans hb a))) (layC_o _ _ (by decide) (by decide) _) (layC_o _ _ (by decide) (by decide) _) (layC_o _ _ (by decide) (by decide) _) (layC_o _ _ (by decide) (by decide) _) (layC_o _ _ (by decide) (by decide) _) t4 ok4
    · have d := R_dead w3 hl3
      have d1 : Dead (layC (14 * s) (rdI σ0 (14 * im)) (writeFlagsC (x.1, set x.2 (2 + s) 0))) := by
        rw [lay_rdI]
        have d2 := DD_wr d (14 * s) 1 0
        exact DD_dead (DD_layK _ _ _ _ (DD_dead d2 d)) (DD_dead d2 d)
      have l := (R_live t3 hl).2.1
      rw [d1.1] at l
      cases l
  obtain ⟨υ, u1, u2, u3⟩ := m_fin_tail (N := N) s hs (im : Int) t3 ok4 (σ0 2 1 3) ⟨tr1, tr2⟩ e38 (by rw [f43]; exact (fgV_s s hs _).1) (by rw [f43]; exact (fgV_s s hs _).2) lv
  refine ⟨υ, ?_, KM_trans km4 u2, u3⟩
  rw [iX9_resumes, eX9_resumes_0, if_pos h.2.1, r1, bnd_s, push_n, show (72 : Int).toNat = 72 from rfl, show (73 : Int).toNat = 73 from rfl, h72, h73, eX9_resumes_16, s9_forgets s hs, bnd_s, push_n, eX9_resumes_19, w1, bnd_s, push_n, eX9_resumes_21, t1, bnd_s, push_n, u1]
theorem m_resumes_cut (hl : ¬ σ 30 0 24 = 0) : inv N mX9_resumes [vR 30 0] (P σ) = some (none, P σ) := by
  rw [iX9_resumes, eX9_resumes_0, if_neg hl]
theorem DD_finish (s im : Nat) (hs : s < 2) (d : Dead x) : DD x (finishC σ0 s im x) := by
  unfold finishC
  have d1 : DD x (setFl s 0 x) := DD_g x (2 + s) 0 (by omega) (by omega) (by omega)
  have d2 := DD_trans d1 (DD_wf (DD_dead d1 d))
  have d3 := DD_trans d2 (DD_wr (DD_dead d2 d) (14 * s) 1 0)
  have d4 : DD x (layC (14 * s) (rdI σ0 (14 * im)) (writeFlagsC (setFl s 0 x))) := by
    rw [lay_rdI]
    exact DD_trans d3 (DD_layK _ _ _ _ (DD_dead d3 d))
  have d5 := DD_trans d4 (DD_g _ (2 + s) (2 * σ0 2 1 3) (by omega) (by omega) (by omega))
  have d6 := DD_trans d5 (DD_favour s hs _)
  have d7 := DD_trans d6 (DD_wf (DD_dead d6 d))
  exact DD_trans d7 (DD_wr (DD_dead d7 d) 74 1 0)
/-- the journal is opened: live behind it, it holds slot and image -/
theorem openJ_live {s im : Int} (h : (openJC s im x).2 9 = 0) : (openJC s im x).1 72 = s ∧ (openJC s im x).1 73 = im := by
  unfold openJC at h ⊢
  obtain ⟨e5, h⟩ := wrC_live h
  obtain ⟨e4, h⟩ := wrC_live h
  obtain ⟨e3, h⟩ := wrC_live h
  obtain ⟨e2, h⟩ := wrC_live h
  rw [e5, e4, e3, e2]
  generalize (wrC 74 1 0 x).1 = c
  refine ⟨?_, ?_⟩ <;> simp (disch := decide) only [fill1_eq, fill1_ne]
theorem PF_open (h : PF x) (s im : Int) : PF (openJC s im x) := by
  unfold openJC
  exact PF_wr (PF_wr (PF_wr (PF_wr (PF_wr h 74 1 0 (by omega)) 72 1 s (by omega)) 73 1 im (by omega)) 75 1 _ (by omega)) 74 1 90 (by omega)
theorem m_installs (hg : OKG σ0 1) (s im : Nat) (hs : s < 2) (him : im < 6) (hi : (im : Int) < σ0 2 1 1) (h : RP x σ) (he : EnvM σ0 σ) : ∃ τ, inv N mX9_installs [vR 30 0, vI (s : Int), vI (im : Int)] (P σ) = some (some (vI (if τ 30 0 24 = 0 then (finishC σ0 s im (openJC s im x)).2 8 else -2)), P τ) ∧ KM σ τ ∧ R (finishC σ0 s im (openJC s im x)) τ := by
  have q := fun (a : Nat) (ha : a < 107) (v : Int) (τ : Sto) => s9_writes (N := N) (σ := τ) a ha v
  have q72 := q 72 (by decide)
  have q73 := q 73 (by decide)
  have q74 := q 74 (by decide)
  have q75 := q 75 (by decide)
  simp only [Int.cast_ofNat_Int] at q72 q73 q74 q75
  have t := n_t hs him
  have r5 : R (openJC s im x) (wrM 74 1 90 (wrM 75 1 (((s : Int) + (im : Int) + 90) % 256) (wrM 73 1 im (wrM 72 1 s (wrM 74 1 0 σ))))) := by
    unfold openJC
    exact R_wr (R_wr (R_wr (R_wr (R_wr h.1 74 1 (by decide) 0) 72 1 (by decide) s) 73 1 (by decide) im) 75 1 (by decide) _) 74 1 (by decide) 90
  have km : KM σ (wrM 74 1 90 (wrM 75 1 (((s : Int) + (im : Int) + 90) % 256) (wrM 73 1 im (wrM 72 1 s (wrM 74 1 0 σ))))) := KM_trans (KM_wr _ _ _ _) (KM_trans (KM_wr _ _ _ _) (KM_trans (KM_wr _ _ _ _) (KM_trans (KM_wr _ _ _ _) (KM_wr _ _ _ _))))
  have ok5 : OKX (openJC (s : Int) (im : Int) x) := openJC_ok (n_s hs) (n_im him) h.2.2.2
  rw [iX9_installs, eX9_installs_0, q74, bnd_s, push_n, eX9_installs_4, q72, bnd_s, push_n, eX9_installs_8, q73, bnd_s, push_n, eX9_installs_12, t, q75, bnd_s, push_n, eX9_installs_22, q74, bnd_s, push_n, eX9_installs_26]
  generalize wrM 74 1 90 (wrM 75 1 (((s : Int) + (im : Int) + 90) % 256) (wrM 73 1 im (wrM 72 1 s (wrM 74 1 0 σ)))) = τ at r5 km
  by_cases hl : τ 30 0 24 = 0
  · have oj := openJ_live (R_live r5 hl).2.1
    have rp : RP (openJC s im x) τ := ⟨r5, hl, PF_open h.2.2.1 s im, ok5⟩
    obtain ⟨υ, u1, u2, u3⟩ := m_resumes (N := N) hg s im hs him hi rp (EnvM_KM he km) ((r5.1.1 72 (by decide)).symm.trans oj.1) ((r5.1.1 73 (by decide)).symm.trans oj.2)
    refine ⟨υ, ?_, KM_trans km u2, u3⟩
    rw [u1, bnd_s, push_n, eX9_installs_28, u3.2.1]
    split <;> rfl
  · have d := R_dead r5 hl
    refine ⟨τ, ?_, km, R_dd r5 (DD_finish s im hs d) d⟩
    rw [m_resumes_cut hl, bnd_s, push_n, eX9_installs_28, if_neg hl, if_neg hl]
theorem m_refreshes (hg : OKG σ0 1) (im : Nat) (him : im < 6) (hi : (im : Int) < σ0 2 1 1) (h : R x σ) (hx : OKX x) (he : EnvM σ0 σ) : ∃ τ, inv N mX9_refreshes [vR 30 0, vI (im : Int)] (P σ) = some (some (vI (if τ 30 0 24 = 0 then (otherF (copyF (σ0 2 1 0) (σ0 3 1) (σ0 4 1) x.1) : Int) else -2)), P τ) ∧ KM σ τ ∧ R (layC (14 * otherF (copyF (σ0 2 1 0) (σ0 3 1) (σ0 4 1) x.1)) (rdI σ0 (14 * im)) x) τ := by
  have hm := okx_R h hx
  have ec : copyF (σ 30 0 5) (σ 32 0) (σ 33 0) (σ 40 0) = copyF (σ0 2 1 0) (σ0 3 1) (σ0 4 1) x.1 := by rw [EnvM_copy he, copyF_cells h.1.1]
  rw [iX9_refreshes, eX9_refreshes_0, s9_copyNow he.1 hm, bnd_s, push_s, eX9_refreshes_2, ec]
  generalize copyF (σ0 2 1 0) (σ0 3 1) (σ0 4 1) x.1 = cp
  obtain ⟨τ3, a1, a2, a3, -⟩ := m_lay (N := N) he 3 im (by decide) him hi h
  obtain ⟨τ2, b1, b2, b3, -⟩ := m_lay (N := N) he 2 im (by decide) him hi h
  simp only [Int.cast_ofNat_Int] at a1 b1
  unfold otherF
  by_cases hc : cp = 2
  · rw [if_pos hc, if_pos hc, a1, bnd_s, push_n, eX9_refreshes_16]
    refine ⟨τ3, ?_, a2, a3⟩
    split <;> rfl
  · rw [if_neg hc, if_neg hc, b1, bnd_s, push_n, eX9_refreshes_16]
    refine ⟨τ2, ?_, b2, b3⟩
    split <;> rfl
theorem m_prefersNow (s : Nat) (hs : s < 2) (h : RP x σ) : ∃ τ, inv N mX9_prefersNow [vR 30 0, vI (s : Int)] (P σ) = some (some (vI (if τ 30 0 24 = 0 then (writeFlagsC (favourC s x)).2 (3 - s) / 16 else -2)), P τ) ∧ KM σ τ ∧ R (writeFlagsC (favourC s x)) τ := by
  obtain ⟨r1, r2, r3⟩ := m_read (N := N) h
  have e30 : ∀ g : Vec, row (rfM σ) 43 0 g 30 0 = rfM σ 30 0 := fun g => by rw [row_at, if_neg (by decide)]
  have fr := FR_favour (c := x.1) r3.2.2.1 s hs
  have g : RF (favourC s x) (row (rfM σ) 43 0 (pfV s (rfM σ 43 0))) := by
    refine ⟨R_44 ?_ 43 _ (Or.inl rfl), by rw [e30]; exact r3.2.1, by rw [row_same]; exact fr, ?_, favourC_ok hs r3.2.2.2.2⟩
    · have hr := r3.1
      obtain ⟨d1, d2, d3, d4⟩ := DD_favour s hs x
      unfold R RL RD at hr ⊢
      rw [d1, d2, d3, d4]
      exact hr
    · unfold NR
      rw [favour_6 s hs]
      exact r3.2.2.2.1
  obtain ⟨w1, w2, w3, w4, w5, w6⟩ := m_wf (N := N) g
  obtain ⟨e1, p1⟩ := n_1s hs
  have oth : (writeFlagsC (favourC s x)).2 (3 - s) / 16 = pfV s (rfM σ 43 0) (1 - s) := by
    have n6 := n_3s hs
    rw [writeFlagsC_o _ n6.1 n6.2.1 n6.2.2]
    clear w1 w2 w3 w4 w5 w6 g e30 r1 r2
    obtain ⟨c2, c3, c4, c5, f0, f1, f2, f3, f4, f5, f6, f7⟩ := fr
    have c2 : (favourC s x).2 2 = _ := c2
    have c3 : (favourC s x).2 3 = _ := c3
    generalize pfV s (rfM σ 43 0) = f at c2 c3 f0 f1 f2 f3 f4 f5 ⊢
    generalize (favourC s x).2 = g2 at c2 c3 ⊢
    clear h r3
    rcases (show s = 0 ∨ s = 1 by omega) with rfl | rfl
    · show g2 3 / 16 = f 1
      omega
    · show g2 2 / 16 = f 0
      omega
  refine ⟨_, ?_, KM_trans r2 (KM_trans (KM_row _ _ _ (Or.inr (Or.inl rfl))) w2), w3⟩
  rw [iX9_prefersNow, eX9_prefersNow_0, r1, bnd_s, push_n, eX9_prefersNow_2, s9_prefers s hs, bnd_s, push_n, eX9_prefersNow_5, e1, if_neg p1.1, if_pos p1.2, w1, bnd_s, push_n, eX9_prefersNow_14, Int.toNat_natCast, row_same, oth]
  split <;> rfl
end MOD
end
section
/-! THE TWO MACHINES: mend -/
theorem lay_rdS (f b : Nat) (hd : f + 14 ≤ b ∨ b + 14 ≤ f) (y : XP) : layC b (rdS f) y = layK b (fun j => y.1 (f + j)) 14 (wrC b 1 0 y) := by
  refine lay_const b (rdS f) (fun j => y.1 (f + j)) (fun z => ∀ t, f ≤ t → t < f + 14 → z.1 t = y.1 t) ?_ ?_ 14 _ (by omega) ?_
  · intro z k w hk hz t t1 t2
    rw [wrC_at _ _ _ _ (by omega)]
    exact hz t t1 t2
  · intro z k hk hz
    exact hz (f + k) (by omega) (by omega)
  · intro t t1 t2
    exact wrC_at _ _ _ _ (by omega)
section MOD
variable {N : Nat} {σ σ0 : Sto} {x : XP}
theorem s9_copy_loop (x1 x2 x3 : Int) (s : Nat) (hs : s < 4) : ∀ (m k : Nat) (τ : Sto), k + m = 14 → (∀ j, j < k → τ 45 0 j = τ 40 0 (14 * s + j)) → ∃ g : Vec, ev N mX9_mends 48 [vR 30 0, vI x1, vI x2, vI x3, vI (s : Int), vI (k : Int)] [] (P τ) = ev N mX9_mends 48 [vR 30 0, vI x1, vI x2, vI x3, vI (s : Int), vI 14] [] (P (row τ 45 0 g)) ∧ ∀ j, j < 14 → g j = τ 40 0 (14 * s + j) := by
  intro m
  induction m with
  | zero =>
    intro k τ hk h
    have e : k = 14 := by omega
    subst e
    exact ⟨τ 45 0, by rw [row_id]; rfl, h⟩
  | succ m ih =>
    intro k τ hk h
    have e1 : w32 (14 * (s : Int)) = ((14 * s : Nat) : Int) := by rw [w32i (by omega) (by omega)]; omega
    have e2 : w32 (((14 * s : Nat) : Int) + (k : Int)) = ((14 * s + k : Nat) : Int) := by rw [w32i (by omega) (by omega)]; omega
    have e3 : w32 ((k : Int) + 1) = ((k + 1 : Nat) : Int) := by rw [w32i (by omega) (by omega)]; omega
    have r40 : ∀ g, row τ 45 0 g 40 0 = τ 40 0 := fun g => by rw [row_at, if_neg (by omega)]
    obtain ⟨g, g1, g2⟩ := ih (k + 1) (row τ 45 0 (set (τ 45 0) k (τ 40 0 (14 * s + k)))) (by omega) (fun j hj => by
      rw [row_same, r40]
      by_cases q : j = k
      · subst q
        exact set_same _ _ _
      · rw [set_ne _ _ q]
        exact h j (by omega))
    rw [row_row] at g1
    rw [r40] at g2
    refine ⟨g, ?_, g2⟩
    rw [eX9_mends_48, if_pos (by omega), e1, e2, e3, if_neg (by omega), if_pos (by omega), if_neg (by omega), if_pos (by omega), sup_row, Int.toNat_natCast, Int.toNat_natCast]
    exact g1
/-- words of one copy are laid into the other one -/
theorem m_mend_lay (h : R x σ) (x1 x2 x3 : Int) (hx1 : x1 = 0 ∨ x1 = 1) (s : Nat) (hs : s = 2 ∨ s = 3) : ∃ τ, ev N mX9_mends 48 [vR 30 0, vI x1, vI x2, vI x3, vI (s : Int), vI 0] [] (P σ) = some (some (vI (if τ 30 0 24 = 0 then x1 + 2 else -2)), P τ) ∧ KM σ τ ∧ R (layC (14 * (5 - s)) (rdS (14 * s)) x) τ := by
  have hs4 : s < 4 := by omega
  obtain ⟨g, g1, g2⟩ := s9_copy_loop (N := N) x1 x2 x3 s hs4 14 0 σ rfl (fun j hj => absurd hj (Nat.not_lt_zero j))
  rw [Int.cast_ofNat_Int] at g1
  have e5 : w32 (5 - (s : Int)) = ((5 - s : Nat) : Int) := by rw [w32i (by omega) (by omega)]; omega
  have ew : w32 (x1 + 2) = x1 + 2 := w32i (by omega) (by omega)
  have l := s9_lay45 (N := N) (σ := row σ 45 0 g) (5 - s) (by omega) (fun j => σ 40 0 (14 * s + j)) (fun j hj => by rw [row_same]; exact g2 j hj)
  have hv : (fun j => x.1 (14 * s + j)) = fun j => x.1 (14 * s + j) := rfl
  rw [g1, eX9_mends_48, if_neg (by omega), e5, l, bnd_s, push_n, eX9_mends_73, ew, lay_rdS _ _ (by omega)]
  have km : KM σ (layM (14 * (5 - s)) (fun j => σ 40 0 (14 * s + j)) 14 (wrM (14 * (5 - s)) 1 0 (row σ 45 0 g))) := KM_trans (KM_row _ 45 _ (by omega)) (KM_trans (KM_wr _ _ _ _) (KM_lay _ _ _ _))
  have r : R (layK (14 * (5 - s)) (fun j => σ 40 0 (14 * s + j)) 14 (wrC (14 * (5 - s)) 1 0 x)) (layM (14 * (5 - s)) (fun j => σ 40 0 (14 * s + j)) 14 (wrM (14 * (5 - s)) 1 0 (row σ 45 0 g))) := R_lay _ (by omega) _ 14 _ _ (by omega) (R_wr (R_44 h 45 g (by omega)) _ _ (by omega) _)
  refine ⟨_, ?_, km, ?_⟩
  · split <;> rfl
  · have hcell := h.1.1
    have cong : ∀ (k : Nat) (y : XP), k ≤ 14 → layK (14 * (5 - s)) (fun j => x.1 (14 * s + j)) k y = layK (14 * (5 - s)) (fun j => σ 40 0 (14 * s + j)) k y := by
      intro k
      induction k with
      | zero => exact fun _ _ => rfl
      | succ k ih =>
        intro y hk
        unfold layK
        rw [show x.1 (14 * s + k) = σ 40 0 (14 * s + k) from hcell _ (by omega)]
        exact ih _ (by omega)
    rw [cong 14 _ (by omega)]
    exact r
theorem m_mend_tail (h : R x σ) (hl : σ 30 0 24 = 0) (ho : OKX x) (he : EnvM σ0 σ) (d : Int) (hd : d = 0 ∨ d = 1) : ∃ τ, bnd (inv N mX9_whyOf [vR 30 0, vI 2] (P σ)) (fun r S2 => ev N mX9_mends 21 [vR 30 0, vI d, vX, vX, vX, vX] (push r []) S2) = some (some (vI (if τ 30 0 24 = 0 then (mendL σ0 d x).1 else -2)), P τ) ∧ KM σ τ ∧ R (mendL σ0 d x).2 τ := by
  have hm := okx_R h ho
  have y2 := s9_why (N := N) 2 (by decide) he.1 hm
  have y3 := s9_why (N := N) 3 (by decide) he.1 hm
  rw [show whyM σ (σ 40 0) 2 = whyS σ0 x.1 2 from by rw [he.2.1]; exact (whyF_cells h.1.1 _ _ _ 2 (by decide)).symm] at y2
  rw [show whyM σ (σ 40 0) 3 = whyS σ0 x.1 3 from by rw [he.2.1]; exact (whyF_cells h.1.1 _ _ _ 3 (by decide)).symm] at y3
  simp only [Int.cast_ofNat_Int] at y2 y3
  obtain ⟨τa, a1, a2, a3⟩ := m_mend_lay (N := N) h d 1 0 hd 2 (Or.inl rfl)
  obtain ⟨τb, b1, b2, b3⟩ := m_mend_lay (N := N) h d 0 1 hd 3 (Or.inr rfl)
  simp only [Int.cast_ofNat_Int] at a1 b1
  rw [y2, bnd_s, push_s, eX9_mends_21, if_pos hl, if_pos hl, y3, bnd_s, bnd_s, push_s, eX9_mends_32, eX9_mends_32]
  unfold mendL
  by_cases q2 : whyS σ0 x.1 2 = 0 <;> by_cases q3 : whyS σ0 x.1 3 = 0
  · rw [if_pos q2, if_pos q2, if_pos q3, if_pos q3, if_pos rfl, if_pos hl]
    exact ⟨σ, by rw [if_pos hl], KM_refl σ, h⟩
  · rw [if_pos q2, if_pos q2, if_neg q3, if_neg q3, if_neg (show ¬ (1 : Int) = 0 by decide), if_neg (show ¬ (1 : Int) = 0 by decide)]
    exact ⟨τa, a1, a2, a3⟩
  · rw [if_neg q2, if_neg q2, if_pos q3, if_pos q3, if_neg (show ¬ (0 : Int) = 1 by decide), if_pos rfl]
    exact ⟨τb, b1, b2, b3⟩
  · rw [if_neg q2, if_neg q2, if_neg q3, if_neg q3, if_pos rfl, if_pos hl]
    exact ⟨σ, by rw [if_pos hl], KM_refl σ, h⟩
theorem DD_mendL (d : Int) (hd : Dead x) : DD x (mendL σ0 d x).2 := by
  have d1 := DD_wr hd 42 1 0
  have d2 := DD_wr hd 28 1 0
  unfold mendL
  split
  · split
    · exact DD_refl x
    · show DD x (layC 42 (rdS 28) x)
      rw [lay_rdS 28 42 (by omega)]
      exact DD_trans d1 (DD_layK _ _ _ _ (DD_dead d1 hd))
  · split
    · show DD x (layC 28 (rdS 42) x)
      rw [lay_rdS 42 28 (by omega)]
      exact DD_trans d2 (DD_layK _ _ _ _ (DD_dead d2 hd))
    · exact DD_refl x
theorem m_mends (h : RP x σ) (he : EnvM σ0 σ) : ∃ τ, inv N mX9_mends [vR 30 0] (P σ) = some (some (vI (if τ 30 0 24 = 0 then (mendC σ0 x).1 else -2)), P τ) ∧ KM σ τ ∧ R (mendC σ0 x).2 τ := by
  have hm := okx_R h.1 h.2.2.2
  have cg : ∀ j, 56 ≤ j → j < 72 → x.1 j = σ 40 0 j := fun j a b => h.1.1.1 j (by omega)
  have c0 : whole1 (σ 40 0) 56 = whole1 x.1 56 := (whole1_congr (fun j a b => cg j (by omega) (by omega))).symm
  have c1 : whole1 (σ 40 0) 64 = whole1 x.1 64 := (whole1_congr (fun j a b => cg j (by omega) (by omega))).symm
  rw [iX9_mends, eX9_mends_0, s9_isWhole0 hm.2.1, bnd_s, push_s, eX9_mends_5, s9_isWhole1 hm.2.1, bnd_s, push_s, eX9_mends_8, c0, c1]
  unfold mendC mendF mendD
  by_cases q : whole1 x.1 64 = whole1 x.1 56
  · rw [if_pos q, if_pos q, if_pos q.symm, if_pos h.2.1]
    exact m_mend_tail h.1 h.2.1 h.2.2.2 he 0 (Or.inl rfl)
  · obtain ⟨r1, r2, r3⟩ := m_read (N := N) h
    obtain ⟨w1, w2, w3, w4, w5, w6⟩ := m_wf (N := N) r3
    have km := KM_trans r2 w2
    rw [if_neg q, if_neg q, if_neg (fun z => q z.symm), r1, bnd_s, push_n, eX9_mends_11, w1, bnd_s, push_n, eX9_mends_13]
    by_cases hl : wfM (rfM σ) 30 0 24 = 0
    · rw [if_pos hl]
      obtain ⟨τ, t1, t2, t3⟩ := m_mend_tail (N := N) w3 hl w4 (EnvM_KM he km) 1 (Or.inr rfl)
      exact ⟨τ, t1, KM_trans km t2, t3⟩
    · have d := R_dead w3 hl
      rw [if_neg hl, if_neg hl, if_neg hl]
      exact ⟨_, by rw [if_neg hl], km, R_dd w3 (DD_mendL 1 d) d⟩
end MOD
end
section
/-! THE TWO MACHINES: health -/
theorem DD_blowV : ∀ (m : Nat) (b : Int) (x : XP), Dead x → DD x (blowVC m b x)
  | 0, _, x, _ => DD_refl x
  | m + 1, b, x, d => by
    have h := DD_wr d 76 1 (b + 1)
    exact DD_trans h (DD_blowV m (b + 1) _ (DD_dead h d))
theorem R_blowK1 {x : XP} {σ : Sto} (h : R x σ) (rv : Int) (k : Nat) : (rv / ((2 ^ k : Nat) : Int) % 2 = 1 ∧ x.1 77 / ((2 ^ k : Nat) : Int) % 2 = 0 → R (blowKC1 rv k x) (wrM 77 1 (bOr (σ 40 0 77) (shl32 1 (k : Int))) σ)) ∧ (¬ (rv / ((2 ^ k : Nat) : Int) % 2 = 1 ∧ x.1 77 / ((2 ^ k : Nat) : Int) % 2 = 0) → R (blowKC1 rv k x) σ) := by
  unfold blowKC1
  refine ⟨fun q => ?_, fun q => ?_⟩
  · rw [if_pos q, h.1.1 77 (by omega)]
    exact R_wr h 77 1 (by omega) _
  · rw [if_neg q]
    exact h
section MOD
variable {N : Nat} {σ σ0 : Sto} {x : XP}
theorem m_blowV (s : Nat) (hs : s < 2) : ∀ (m : Nat) (b : Int) (y : XP) (τ : Sto), R y τ → OKC y.1 → (τ 30 0 24 = 0 → y.1 76 = b ∧ m = (min (y.1 (14 * s) - 1) 31 - b).toNat) → 0 ≤ b → b + m ≤ 31 → OKX y → ∃ υ, ev N mX9_heals 37 [vR 30 0, vI (s : Int), vX] [] (P τ) = ev N mX9_heals 66 [vR 30 0, vI (s : Int), vI 0] [] (P υ) ∧ KM τ υ ∧ R (blowVC m b y) υ := by
  intro m
  induction m with
  | zero =>
    intro b y τ h hc hb b0 b1 ho
    by_cases hl : τ 30 0 24 = 0
    · obtain ⟨e1, e2⟩ := hb hl
      have n76 := h.1.1 76 (by decide)
      have nv := h.1.1 (14 * s) (by omega)
      rw [eX9_heals_37, if_pos hl, s9_versionOf s (by omega) (R_okc h hc).1, bnd_s, push_s, eX9_heals_47, show (76 : Int).toNat = 76 from rfl, ← n76, ← nv]
      generalize y.1 76 = a at e1
      generalize y.1 (14 * s) = v at e2
      subst e1
      by_cases q : a < v - 1
      · rw [if_pos q, if_neg (by omega)]
        exact ⟨τ, rfl, KM_refl τ, h⟩
      · rw [if_neg q]
        exact ⟨τ, rfl, KM_refl τ, h⟩
    · rw [eX9_heals_37, if_neg hl]
      exact ⟨τ, rfl, KM_refl τ, h⟩
  | succ m ih =>
    intro b y τ h hc hb b0 b1 ho
    by_cases hl : τ 30 0 24 = 0
    · obtain ⟨e1, e2⟩ := hb hl
      have n76 := h.1.1 76 (by decide)
      have nv := h.1.1 (14 * s) (by omega)
      have r1 := R_wr h 76 1 (by decide) (b + 1)
      have ho1 : OKX (wrC 76 1 (b + 1) y) := ⟨wrC_76 ho.1 (by omega), wrC_F ho.2⟩
      have q1 : b < y.1 (14 * s) - 1 := by omega
      have q2 : b < 31 := by omega
      obtain ⟨υ, u1, u2, u3⟩ := ih (b + 1) _ _ r1 ho1.1 (fun hl2 => by
        have l := (wrC_live (R_live r1 hl2).2.1).1
        refine ⟨by rw [l, fill1_eq], ?_⟩
        rw [l, fill1_ne _ _ (by omega)]
        omega) (by omega) (by omega) ho1
      refine ⟨υ, ?_, KM_trans (KM_wr _ _ _ _) u2, u3⟩
      have w := s9_writes (N := N) (σ := τ) 76 (by decide) (b + 1)
      rw [Int.cast_ofNat_Int] at w
      have ew : w32 (b + 1) = b + 1 := w32i (by omega) (by omega)
      rw [eX9_heals_37, if_pos hl, s9_versionOf s (by omega) (R_okc h hc).1, bnd_s, push_s, eX9_heals_47, show (76 : Int).toNat = 76 from rfl, ← n76, ← nv, e1, if_pos q1, if_pos q2, ew, w, bnd_s, push_n, eX9_heals_63]
      exact u1
    · have d := R_dead h hl
      rw [eX9_heals_37, if_neg hl]
      exact ⟨τ, rfl, KM_refl τ, R_dd h (DD_blowV _ _ _ d) d⟩
theorem m_blowK (s : Nat) (hs : s < 2) (rv : Int) : ∀ (m k : Nat) (y : XP) (τ : Sto), k + m = 6 → R y τ → OKX y → y.1 (14 * s + 2) = rv → ∃ υ, ev N mX9_heals 66 [vR 30 0, vI (s : Int), vI (k : Int)] [] (P τ) = ev N mX9_heals 66 [vR 30 0, vI (s : Int), vI 6] [] (P υ) ∧ KM τ υ ∧ R (blowKC rv m k y) υ := by
  intro m
  induction m with
  | zero =>
    intro k y τ hk h ho hv
    have e : k = 6 := by omega
    subst e
    exact ⟨τ, rfl, KM_refl τ, h⟩
  | succ m ih =>
    intro k y τ hk h ho hv
    have e1 : w32 (w32 (14 * (s : Int)) + 2) = ((14 * s + 2 : Nat) : Int) := by rw [w32i (x := 14 * (s : Int)) (by omega) (by omega), w32i (by omega) (by omega)]; omega
    have e2 : w32 ((k : Int) + 1) = ((k + 1 : Nat) : Int) := by rw [w32i (by omega) (by omega)]; omega
    have p1 : ¬ (((14 * s + 2 : Nat) : Int) < 0) ∧ ((14 * s + 2 : Nat) : Int) < 107 := by omega
    have nrv := h.1.1 (14 * s + 2) (by omega)
    have n77 := h.1.1 77 (by decide)
    have rvr := ho.1.1 (14 * s + 2) (by omega)
    have f77 := ho.1.2.2.2.1
    have fb1 := fuse_bit (f := rv) (k := (k : Int)) (by omega) (by omega) (by omega) (by omega)
    have fb2 := fuse_bit (f := y.1 77) (k := (k : Int)) f77.1 (by omega) (by omega) (by omega)
    rw [Int.toNat_natCast] at fb1 fb2
    have ok1 := blowKC1_ok rv k (by omega) ho
    have hv1 : (blowKC1 rv k y).1 (14 * s + 2) = rv := by rw [blowKC1_at _ _ _ (by omega), hv]
    have w := s9_writes (N := N) (σ := τ) 77 (by decide) (bOr (τ 40 0 77) (shl32 1 (k : Int)))
    rw [Int.cast_ofNat_Int] at w
    have kl : (k : Int) < 6 := by omega
    have kn : k + 1 + m = 6 := by omega
    clear hk hs rvr f77
    rw [eX9_heals_66, if_pos kl, e1, if_neg p1.1, if_pos p1.2, Int.toNat_natCast, ← nrv, hv, fb1, show (77 : Int).toNat = 77 from rfl]
    by_cases q : rv / ((2 ^ k : Nat) : Int) % 2 = 1 ∧ y.1 77 / ((2 ^ k : Nat) : Int) % 2 = 0
    · have r := (R_blowK1 h rv k).1 q
      obtain ⟨υ, u1, u2, u3⟩ := ih (k + 1) _ _ kn r ok1 hv1
      refine ⟨υ, ?_, KM_trans (KM_wr _ _ _ _) u2, u3⟩
      rw [if_pos q.1, ← n77, fb2, if_pos q.2, n77, w, bnd_s, push_n, eX9_heals_103, e2]
      exact u1
    · have r := (R_blowK1 h rv k).2 q
      obtain ⟨υ, u1, u2, u3⟩ := ih (k + 1) _ _ kn r ok1 hv1
      refine ⟨υ, ?_, u2, u3⟩
      by_cases a : rv / ((2 ^ k : Nat) : Int) % 2 = 1
      · rw [if_pos a, ← n77, fb2, if_neg (fun z => q ⟨a, z⟩), eX9_heals_103, e2]
        exact u1
      · rw [if_neg a, eX9_heals_103, e2]
        exact u1
/-- the end of HEALTH -/
theorem m_told (h : R x σ) : ∃ τ, (if σ 30 0 24 = 0 then some (some (vI ((sup σ 40 0 ((79 : Int).toNat) 1) 40 0 ((76 : Int).toNat))), P (sup σ 40 0 ((79 : Int).toNat) 1)) else some (some (vI (-2)), P σ)) = some (some (vI (if τ 30 0 24 = 0 then (toldC x).1 76 else -2)), P τ) ∧ KM σ τ ∧ R (toldC x) τ := by
  have e30 : ∀ g : Vec, row σ 40 0 g 30 0 = σ 30 0 := fun g => by rw [row_at, if_neg (by decide)]
  rw [sup_row, row_same, show (79 : Int).toNat = 79 from rfl, show (76 : Int).toNat = 76 from rfl, set_ne _ _ (show 76 ≠ 79 by decide)]
  unfold toldC
  by_cases hl : σ 30 0 24 = 0
  · obtain ⟨l1, l2, l3, l4⟩ := R_live h hl
    rw [if_pos hl, if_pos l2]
    refine ⟨row σ 40 0 (set (σ 40 0) 79 1), ?_, KM_row _ _ _ (Or.inl rfl), ?_, ?_, Or.inl ⟨?_, l2, ?_, ?_⟩⟩
    · rw [e30, if_pos hl]
      show _ = some (some (vI (set x.1 80 1 76)), _)
      rw [set_ne _ _ (show 76 ≠ 80 by decide), h.1.1 76 (by decide)]
    · rw [row_same]
      obtain ⟨h1, h2, h3, h4, h5⟩ := h.1
      refine ⟨fun j hj => ?_, ?_, ?_, ?_, RS_congr h5 (fun j hj => set_ne _ _ (by omega)) (fun j hj => set_ne _ _ (by omega))⟩
      · show set x.1 80 1 j = _
        rw [set_ne _ _ (by omega), set_ne _ _ (by omega), h1 j hj]
      · show set x.1 80 1 79 = _
        rw [set_ne _ _ (by omega), set_ne _ _ (by omega), h2]
      · show set x.1 80 1 80 = _
        rw [set_same, set_same]
      · show set x.1 80 1 81 = _
        rw [set_ne _ _ (by omega), set_ne _ _ (by omega), h4]
    · rw [e30]
      exact h.2.1
    · rw [e30]
      exact l1
    · show set x.1 80 1 78 = _
      rw [row_same, set_ne _ _ (by omega), set_ne _ _ (by omega), l3]
    · rw [e30]
      exact l4
  · have d := R_dead h hl
    rw [if_neg hl, if_neg (by rw [d.1]; decide)]
    exact ⟨σ, by rw [if_neg hl], KM_refl σ, h⟩
end MOD
end
section
/-! THE TWO MACHINES: health, whole; every deed -/
theorem FR_six {g f : Vec} (h : FR g f) : FR (set g 4 0) (set f 6 0) := by
  obtain ⟨h2, h3, h4, h5, f0, f1, f2, f3, f4, f5, f6, f7⟩ := h
  unfold FR OKFl
  simp only [set_at, Nat.reduceEqDiff, ↓reduceIte, true_and]
  omega
theorem FR_good {g f : Vec} (h : FR g f) (s : Nat) (hs : s < 2) (t : Int) (ht : 1 ≤ t ∧ t ≤ 7) : FR (set g (2 + s) (g (2 + s) - g (2 + s) % 16 + 2 * t + 1)) (set (set f (4 + s) 1) (2 + s) t) := by
  obtain ⟨h2, h3, h4, h5, f0, f1, f2, f3, f4, f5, f6, f7⟩ := h
  unfold FR OKFl
  rcases (show s = 0 ∨ s = 1 by omega) with rfl | rfl
  · simp only [set_at, Nat.reduceEqDiff, Nat.reduceAdd, ↓reduceIte]
    omega
  · simp only [set_at, Nat.reduceEqDiff, Nat.reduceAdd, ↓reduceIte]
    omega
section MOD
variable {N : Nat} {σ σ0 : Sto} {x : XP}
theorem set4_16 (g : Vec) (s : Nat) (hs : s < 2) : set g 4 0 (2 + s) = g (2 + s) := set_ne _ _ (by omega)
theorem good_b {v t : Int} (hv : 0 ≤ v ∧ v < 256) (ht : 1 ≤ t ∧ t ≤ 7) : 0 ≤ v - v % 16 + 2 * t + 1 ∧ v - v % 16 + 2 * t + 1 < 256 := by omega
theorem blow_m {v b : Int} (hb : 0 ≤ b ∧ b ≤ 31) : b + ((min (v - 1) 31 - b).toNat : Nat) ≤ 31 := by omega
theorem slot_s {v : Int} (h : v = 0 ∨ v = 1) : ∃ s : Nat, s < 2 ∧ v = (s : Int) := by
  rcases h with h | h
  · exact ⟨0, by omega, h⟩
  · exact ⟨1, by omega, h⟩
theorem OKF_slot {g : Vec} (h : OKF g) {s : Nat} (hs : s < 2) : 0 ≤ g (2 + s) ∧ g (2 + s) < 256 := by
  obtain ⟨f2, f3, -⟩ := h
  rcases (show s = 0 ∨ s = 1 by omega) with rfl | rfl
  · exact f2
  · exact f3
theorem m_heals (hg : OKG σ0 1) (h : RP x σ) (he : EnvM σ0 σ) (hr : ¬ x.1 78 = -1) : ∃ τ, inv N mX9_heals [vR 30 0] (P σ) = some (some (vI (if τ 30 0 24 = 0 then (healthC (σ0 2 1 3) x).1 76 else -2)), P τ) ∧ KM σ τ ∧ R (healthC (σ0 2 1 3) x) τ := by
  have tr1 := hg.2.2.2.2.2.2.1
  have tr2 := hg.2.2.2.2.2.2.2.1
  have c78 := h.2.2.2.1.2.2.2.2
  have n78 := (R_live h.1 h.2.1).2.2.1
  obtain ⟨r1, r2, r3⟩ := m_read (N := N) h
  have e38 : ∀ g : Vec, row (rfM σ) 43 0 g 38 0 = rfM σ 38 0 := fun g => by rw [row_at, if_neg (by decide)]
  have e30 : ∀ g : Vec, row (rfM σ) 43 0 g 30 0 = rfM σ 30 0 := fun g => by rw [row_at, if_neg (by decide)]
  have t38 := (EnvM_KM he r2).2.2.2.2.2.1
  have g6 := RF_g r3 0 (set (rfM σ 43 0) 6 0) (j := 4) (by decide) (by decide) (by decide) (by decide) (FR_six r3.2.2.1) (okf_set r3.2.2.2.2.2 (fun _ => zero_b) (by decide))
  have k43 : ∀ f : Vec, KM σ (row (rfM σ) 43 0 f) := fun f => KM_trans r2 (KM_row _ _ _ (Or.inr (Or.inl rfl)))
  rw [iX9_heals, eX9_heals_0, r1, bnd_s, push_n, show (78 : Int).toNat = 78 from rfl, ← n78, eX9_heals_7, sup_row, show (6 : Int).toNat = 6 from rfl]
  by_cases h2 : x.1 78 = 2
  · obtain ⟨w1, w2, w3, w4, w5, w6⟩ := m_wf (N := N) g6
    have ef : healthFlC (σ0 2 1 3) x = (x.1, set x.2 4 0) := by
      unfold healthFlC
      rw [if_neg (by rw [h2]; decide)]
    have eh : healthC (σ0 2 1 3) x = toldC (writeFlagsC (x.1, set x.2 4 0)) := by
      unfold healthC healthFuC
      rw [ef, if_neg (by rw [h2]; decide)]
    obtain ⟨τ, t1, t2, t3⟩ := m_told w3
    refine ⟨τ, ?_, KM_trans (k43 _) (KM_trans w2 t2), ?_⟩
    · rw [if_pos h2, w1, bnd_s, push_n, eX9_heals_34, if_pos h2, t1, eh]
    · rw [eh]
      exact t3
  · have hsl : x.1 78 = 0 ∨ x.1 78 = 1 := by
      generalize x.1 78 = v at c78 hr h2
      clear n78
      omega
    obtain ⟨s, hs, es⟩ := slot_s hsl
    obtain ⟨nn, p20, p28, p40, p48, k2, k4, j6, j7, j8, j9, hs4, r6, hs01⟩ := s_facts hs
    have fr := FR_good g6.2.2.1 s hs (σ0 2 1 3) ⟨tr1, tr2⟩
    rw [row_same] at fr
    have fr : FR (set (set x.2 4 0) (2 + s) (set x.2 4 0 (2 + s) - set x.2 4 0 (2 + s) % 16 + 2 * σ0 2 1 3 + 1)) _ := fr
    rw [set4_16 _ s hs] at fr
    have g := RF_g g6 (x.2 (2 + s) - x.2 (2 + s) % 16 + 2 * σ0 2 1 3 + 1) _ (j := 2 + s) j6 j7 j8 j9 fr (okf_set g6.2.2.2.2.2 (fun _ => good_b (OKF_slot h.2.2.2.2 hs) ⟨tr1, tr2⟩) j6)
    rw [row_row] at g
    have ef : healthFlC (σ0 2 1 3) x = (x.1, set (set x.2 4 0) (2 + s) (x.2 (2 + s) - x.2 (2 + s) % 16 + 2 * σ0 2 1 3 + 1)) := by
      unfold healthFlC
      rw [if_pos hsl, es, Int.toNat_natCast]
    obtain ⟨w1, w2, w3, w4, w5, w6⟩ := m_wf (N := N) g
    rw [← ef] at w3 w4
    have e78 : (writeFlagsC (healthFlC (σ0 2 1 3) x)).1 78 = x.1 78 := by rw [writeFlagsC_at _ (Or.inr (by decide))]; rfl
    have c76 := w4.1.2.2.1
    have eh : healthC (σ0 2 1 3) x = toldC (blowKC ((writeFlagsC (healthFlC (σ0 2 1 3) x)).1 (14 * s + 2)) 6 0 (blowVC (min ((writeFlagsC (healthFlC (σ0 2 1 3) x)).1 (14 * s) - 1) 31 - (writeFlagsC (healthFlC (σ0 2 1 3) x)).1 76).toNat ((writeFlagsC (healthFlC (σ0 2 1 3) x)).1 76) (writeFlagsC (healthFlC (σ0 2 1 3) x)))) := by
      unfold healthC healthFuC
      rw [if_pos hsl, es, Int.toNat_natCast]
    have bm := blow_m (v := (writeFlagsC (healthFlC (σ0 2 1 3) x)).1 (14 * s)) c76
    obtain ⟨τ1, a1, a2, a3⟩ := m_blowV (N := N) s hs _ _ _ _ w3 w4.1 (fun _ => ⟨rfl, rfl⟩) c76.1 bm w4
    have ok1 := blowVC_ok _ _ _ c76.1 bm w4
    obtain ⟨τ2, b1, b2, b3⟩ := m_blowK (N := N) s hs ((writeFlagsC (healthFlC (σ0 2 1 3) x)).1 (14 * s + 2)) 6 0 _ _ rfl a3 ok1 (blowVC_at _ _ _ (Nat.ne_of_lt (Nat.lt_of_lt_of_le (Nat.add_lt_add_right (Nat.mul_lt_mul_of_pos_left hs (by decide)) 2) (by decide))))
    obtain ⟨τ, t1, t2, t3⟩ := m_told b3
    rw [Int.cast_ofNat_Int] at b1
    refine ⟨τ, ?_, KM_trans (k43 _) (KM_trans w2 (KM_trans a2 (KM_trans b2 t2))), ?_⟩
    · rw [if_neg h2, es, k4, k2, if_neg p40, if_pos p48, if_neg p20, if_pos p28]
      simp only [Int.toNat_natCast, sup_row, row_same, row_row, e38, show (3 : Int).toNat = 3 from rfl]
      rw [t38, w1, bnd_s, push_n, eX9_heals_34, if_neg (by rw [← es]; exact h2), a1, b1, eX9_heals_66, if_neg (show ¬ (6 : Int) < 6 by decide), t1, eh]
    · rw [eh]
      exact t3
end MOD
end
