/-! THE TWO MACHINES: boots -/
def Dead (x : XP) : Prop := x.2 9 = 1 ∧ ¬ x.2 7 = -1 ∧ ¬ x.2 8 < x.2 7
def DD (x y : XP) : Prop := y.1 = x.1 ∧ y.2 7 = x.2 7 ∧ y.2 8 = x.2 8 ∧ y.2 9 = x.2 9
theorem DD_refl (x : XP) : DD x x := ⟨rfl, rfl, rfl, rfl⟩
theorem DD_trans {x y z : XP} (h : DD x y) (h2 : DD y z) : DD x z := ⟨h2.1.trans h.1, h2.2.1.trans h.2.1, h2.2.2.1.trans h.2.2.1, h2.2.2.2.trans h.2.2.2⟩
theorem DD_dead {x y : XP} (h : DD x y) (d : Dead x) : Dead y := by
  unfold Dead
  rw [h.2.1, h.2.2.1, h.2.2.2]
  exact d
theorem DD_wr {x : XP} (d : Dead x) (a n : Nat) (v : Int) : DD x (wrC a n v x) := by
  unfold wrC
  rw [if_pos ⟨d.2.1, d.2.2⟩]
  exact ⟨rfl, set_ne x.2 1 (show 7 ≠ 9 by omega), set_ne x.2 1 (show 8 ≠ 9 by omega), (set_same x.2 9 1).trans d.1.symm⟩
theorem DD_g (x : XP) (j : Nat) (v : Int) (h7 : j ≠ 7) (h8 : j ≠ 8) (h9 : j ≠ 9) : DD x (x.1, set x.2 j v) := ⟨rfl, set_ne x.2 v (Ne.symm h7), set_ne x.2 v (Ne.symm h8), set_ne x.2 v (Ne.symm h9)⟩
theorem DD_wrt {x y : XP} (h : DD x y) (d : Dead x) (a n : Nat) (v : Int) : DD x (wrC a n v y) := DD_trans h (DD_wr (DD_dead h d) a n v)
theorem DD_wfC {x : XP} (d : Dead x) (b : Nat) (nx : Int) : DD x (wfC b nx x) := by
  unfold wfC
  exact DD_wrt (DD_wrt (DD_wrt (DD_wrt (DD_wrt (DD_wrt (DD_wrt (DD_wrt (DD_wr d _ _ _) d _ _ _) d _ _ _) d _ _ _) d _ _ _) d _ _ _) d _ _ _) d _ _ _) d _ _ _
theorem DD_wf {x : XP} (d : Dead x) : DD x (writeFlagsC x) := by
  unfold writeFlagsC
  split
  · exact DD_trans (DD_wfC d _ _) (DD_g _ 6 1 (by omega) (by omega) (by omega))
  · exact DD_trans (DD_wfC d _ _) (DD_g _ 6 0 (by omega) (by omega) (by omega))
theorem DD_note {x : XP} (d : Dead x) (w v : Int) : DD x (noteStartC w v x) := by
  unfold noteStartC
  rw [if_neg (by rw [d.1]; omega)]
  exact DD_refl x
theorem DD_count {x : XP} {s : Nat} (hs : s < 2) : DD x (countTryC s x) := by
  unfold countTryC
  refine DD_trans (y := (x.1, if x.2 (2 + s) % 2 = 0 then set x.2 (2 + s) (x.2 (2 + s) - 2) else x.2)) ?_ (DD_trans (DD_g _ 4 _ (by omega) (by omega) (by omega)) (DD_g _ 5 _ (by omega) (by omega) (by omega)))
  split
  · exact DD_g _ _ _ (by omega) (by omega) (by omega)
  · exact DD_refl x
theorem chosen_s {g : Vec} (h : ¬ chosenC g = -1) : ∃ s : Nat, s < 2 ∧ chosenC g = (s : Int) := by
  unfold chosenC at h ⊢
  split
  · rename_i h2
    rw [if_pos h2] at h
    exact absurd rfl h
  · split
    · exact ⟨1, by omega, rfl⟩
    · exact ⟨0, by omega, rfl⟩
theorem DD_startL (W : Vec → Nat → Int) : ∀ (m : Nat) (x : XP), Dead x → DD x (startL W m x).2
  | 0, x, _ => DD_refl x
  | m + 1, x, d => by
    unfold startL
    by_cases h : chosenC x.2 = -1
    · rw [if_pos h]
      exact DD_refl x
    · obtain ⟨s, hs, e⟩ := chosen_s h
      rw [if_neg h, e, Int.toNat_natCast]
      split
      · have d1 := DD_count (x := x) hs
        have d2 := DD_trans d1 (DD_wf (DD_dead d1 d))
        exact DD_trans d2 (DD_note (DD_dead d2 d) _ _)
      · have d1 := DD_g x (2 + s) 0 (by omega) (by omega) (by omega)
        have d2 := DD_trans d1 (DD_wf (DD_dead d1 d))
        exact DD_trans d2 (DD_startL W m _ (DD_dead d2 d))
theorem DD_rec {x : XP} (d : Dead x) (cp : Int) : DD x (startRecoveryC cp x).2 := by
  unfold startRecoveryC
  split
  · exact DD_refl x
  · have d1 := DD_g x 5 2 (by omega) (by omega) (by omega)
    have d2 := DD_trans d1 (DD_wf (DD_dead d1 d))
    exact DD_trans d2 (DD_note (DD_dead d2 d) _ _)
theorem R_dd {x y : XP} {σ : Sto} (h : R x σ) (hd : DD x y) (d : Dead x) : R y σ := by
  obtain ⟨h1, h2, h3⟩ := h
  have hy := DD_dead hd d
  obtain ⟨e1, e2, e3, e4⟩ := hd
  refine ⟨by rw [e1]; exact h1, by rw [e3]; exact h2, Or.inr ?_⟩
  rcases h3 with ⟨_, l2, _⟩ | ⟨q1, q2, q3, q4, q5⟩
  · rw [d.1] at l2
    cases l2
  · exact ⟨q1, hy.1, q3, hy.2.1, hy.2.2⟩
theorem R_dead {x : XP} {σ : Sto} (h : R x σ) (h9 : ¬ σ 30 0 24 = 0) : Dead x := by
  rcases h.2.2 with ⟨q1, _⟩ | ⟨_, q2, _, q4, q5⟩
  · exact absurd q1 h9
  · exact ⟨q2, q4, q5⟩
theorem R_live {x : XP} {σ : Sto} (h : R x σ) (h9 : σ 30 0 24 = 0) : RL x σ := by
  rcases h.2.2 with q | ⟨q1, _⟩
  · exact q
  · exact absurd h9 q1
section MOD
variable {N : Nat} {σ : Sto}
theorem stand_FR {v p t g : Int} (hv : v = 16 * p + 2 * t + g) (hp : 0 ≤ p ∧ p < 16) (ht : 0 ≤ t ∧ t < 8) (hg : 0 ≤ g ∧ g < 2) : standF v = if 0 < p ∧ (g = 1 ∨ 0 < t) then p else 0 := by
  unfold standF
  by_cases h : 0 < p ∧ (g = 1 ∨ 0 < t)
  · rw [if_pos h, if_neg (by omega)]
    omega
  · rw [if_neg h]
    split
    · rfl
    · omega
theorem s9_slotChosen {g : Vec} (hf : FR g (σ 43 0)) : inv N mX9_slotChosen [vR 30 0] (P σ) = some (some (vI (chosenC g)), P σ) := by
  obtain ⟨h2, h3, -, -, f0, f1, f2, f3, f4, f5, -⟩ := hf
  have s0 := stand_FR h2 f0 f2 f4
  have s1 := stand_FR h3 f1 f3 f5
  unfold chosenC
  rw [s0, s1]
  clear s0 s1 h2 h3
  have w00 : w32 (0 + 0) = 0 := rfl
  have w20 : w32 (2 + 0) = 2 := rfl
  have w40 : w32 (4 + 0) = 4 := rfl
  have w01 : w32 (0 + 1) = 1 := rfl
  have w21 : w32 (2 + 1) = 3 := rfl
  have w41 : w32 (4 + 1) = 5 := rfl
  have w11 : w32 (1 + 1) = 2 := rfl
  have fin : ∀ (b : Int) (x3 : MV), ev N mX9_slotChosen 4 [vR 30 0, vI b, vI 2, x3] [] (P σ) = some (some (vI b), P σ) := by
    intro b x3
    rw [eX9_slotChosen_4, if_neg (by omega)]
  have one : ∀ (b : Int) (x3 : MV), (b = -1 ∨ b = 0) → ev N mX9_slotChosen 4 [vR 30 0, vI b, vI 1, x3] [] (P σ) = some (some (vI (if 0 < σ 43 0 1 ∧ (σ 43 0 5 = 1 ∨ 0 < σ 43 0 3) ∧ (b = -1 ∨ σ 43 0 0 < σ 43 0 1) then 1 else b)), P σ) := by
    intro b x3 hb
    rw [eX9_slotChosen_4, if_pos (by omega), w01, w21, w41, w11]
    simp only [Int.reduceToNat, Int.reduceLT, ↓reduceIte, fin]
    by_cases c1 : 0 < σ 43 0 1
    case neg => rw [if_neg c1, if_neg (fun z => c1 z.1)]
    rw [if_pos c1]
    by_cases c5 : σ 43 0 5 = 1
    · rw [if_pos c5]
      rcases hb with rfl | rfl
      · rw [if_pos rfl, if_pos ⟨c1, Or.inl c5, Or.inl rfl⟩]
      · rw [if_neg (by omega), w00, if_neg (by omega), if_pos (by omega)]
        simp only [Int.reduceToNat]
        by_cases c2 : σ 43 0 0 < σ 43 0 1
        · rw [if_pos c2, if_pos ⟨c1, Or.inl c5, Or.inr c2⟩]
        · rw [if_neg c2, if_neg (fun z => by rcases z.2.2 with q | q <;> omega)]
    · rw [if_neg c5]
      by_cases c3 : 0 < σ 43 0 3
      · rw [if_pos c3]
        rcases hb with rfl | rfl
        · rw [if_pos rfl, if_pos ⟨c1, Or.inr c3, Or.inl rfl⟩]
        · rw [if_neg (by omega), w00, if_neg (by omega), if_pos (by omega)]
          simp only [Int.reduceToNat]
          by_cases c2 : σ 43 0 0 < σ 43 0 1
          · rw [if_pos c2, if_pos ⟨c1, Or.inr c3, Or.inr c2⟩]
          · rw [if_neg c2, if_neg (fun z => by rcases z.2.2 with q | q <;> omega)]
      · rw [if_neg c3, if_neg (fun z => by rcases z.2.1 with q | q <;> contradiction)]
  have z0 : ∀ x3 : MV, ev N mX9_slotChosen 4 [vR 30 0, vI (-1), vI 0, x3] [] (P σ) = ev N mX9_slotChosen 4 [vR 30 0, vI (if 0 < σ 43 0 0 ∧ (σ 43 0 4 = 1 ∨ 0 < σ 43 0 2) then 0 else -1), vI 1, vI (if 0 < σ 43 0 0 ∧ (σ 43 0 4 = 1 ∨ 0 < σ 43 0 2) then 1 else 0)] [] (P σ) := by
    intro x3
    rw [eX9_slotChosen_4, if_pos (by omega), w00, w20, w40, w01]
    simp only [Int.reduceToNat, Int.reduceLT, ↓reduceIte]
    by_cases c1 : 0 < σ 43 0 0
    case neg => rw [if_neg c1, if_neg (fun z => c1 z.1), if_neg (fun z => c1 z.1)]
    rw [if_pos c1]
    by_cases c5 : σ 43 0 4 = 1
    · rw [if_pos c5, if_pos ⟨c1, Or.inl c5⟩, if_pos ⟨c1, Or.inl c5⟩]
    · rw [if_neg c5]
      by_cases c3 : 0 < σ 43 0 2
      · rw [if_pos c3, if_pos ⟨c1, Or.inr c3⟩, if_pos ⟨c1, Or.inr c3⟩]
      · rw [if_neg c3, if_neg (fun z => by rcases z.2 with q | q <;> contradiction), if_neg (fun z => by rcases z.2 with q | q <;> contradiction)]
  rw [iX9_slotChosen, eX9_slotChosen_0, z0, one _ _ (by split <;> simp)]
  clear z0 one fin w00 w20 w40 w01 w21 w41 w11
  refine congrArg (fun v => some (some (vI v), P σ)) ?_
  by_cases a : 0 < σ 43 0 0 ∧ (σ 43 0 4 = 1 ∨ 0 < σ 43 0 2) <;> by_cases b : 0 < σ 43 0 1 ∧ (σ 43 0 5 = 1 ∨ 0 < σ 43 0 3)
  · rw [if_pos a, if_pos a, if_pos b, if_neg (show ¬ (σ 43 0 0 = 0 ∧ σ 43 0 1 = 0) by omega)]
    by_cases q : σ 43 0 0 < σ 43 0 1
    · rw [if_pos q, if_pos ⟨b.1, b.2, Or.inr q⟩]
    · rw [if_neg q, if_neg (fun z => by rcases z.2.2 with y | y <;> omega)]
  · rw [if_pos a, if_pos a, if_neg b, if_neg (show ¬ (σ 43 0 0 = 0 ∧ (0 : Int) = 0) by omega), if_neg (show ¬ σ 43 0 0 < 0 by omega), if_neg (fun z => b ⟨z.1, z.2.1⟩)]
  · rw [if_neg a, if_neg a, if_pos b, if_neg (show ¬ ((0 : Int) = 0 ∧ σ 43 0 1 = 0) by omega), if_pos b.1, if_pos ⟨b.1, b.2, Or.inl rfl⟩]
  · rw [if_neg a, if_neg a, if_neg b, if_neg (fun z => b ⟨z.1, z.2.1⟩), if_pos ⟨rfl, rfl⟩]
/-- slot s is forgotten -/
def fgV (s : Nat) (f : Vec) : Vec := set (set (set f s 0) (2 + s) 0) (4 + s) 0
theorem s9_forgets (s : Nat) (hs : s < 2) : inv N mX9_forgets [vR 30 0, vI (s : Int)] (P σ) = some (none, P (row σ 43 0 (fgV s (σ 43 0)))) := by
  have e0 : w32 (0 + (s : Int)) = ((s : Nat) : Int) := by rw [w32i (by omega) (by omega)]; omega
  have e2 : w32 (2 + (s : Int)) = ((2 + s : Nat) : Int) := by rw [w32i (by omega) (by omega)]; omega
  have e4 : w32 (4 + (s : Int)) = ((4 + s : Nat) : Int) := by rw [w32i (by omega) (by omega)]; omega
  rw [iX9_forgets, eX9_forgets_0, e0, e2, e4, if_neg (by omega), if_pos (by omega), if_neg (by omega), if_pos (by omega), if_neg (by omega), if_pos (by omega)]
  simp only [Int.toNat_natCast, sup_row, row_same, row_row]
  rfl
theorem FR_forget {g f : Vec} (h : FR g f) (s : Nat) (hs : s < 2) : FR (set g (2 + s) 0) (fgV s f) := by
  obtain ⟨h2, h3, h4, h5, f0, f1, f2, f3, f4, f5, f6, f7⟩ := h
  unfold FR OKFl fgV
  rcases (show s = 0 ∨ s = 1 by omega) with rfl | rfl
  · simp only [set_at, Nat.reduceEqDiff, Nat.reduceAdd, ↓reduceIte]
    omega
  · simp only [set_at, Nat.reduceEqDiff, Nat.reduceAdd, ↓reduceIte]
    omega
end MOD
