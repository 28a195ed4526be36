/-! WRITES that are counted stay within an int; a boot of the model, whatever runs -/
def W8 (x : XP) : Prop := x.2 8 < 2147483648
theorem w32_lt (x : Int) : w32 x < 2147483648 := by unfold w32; omega
theorem W8_wr (a n : Nat) (v : Int) {x : XP} (h : W8 x) : W8 (wrC a n v x) := by
  unfold wrC
  split
  · show set x.2 9 1 8 < 2147483648
    rw [set_ne _ _ (by decide)]
    exact h
  · show set x.2 8 (w32 (x.2 8 + 1)) 8 < 2147483648
    rw [set_same]
    exact w32_lt _
theorem W8_g {x : XP} (h : W8 x) (c : Vec) (j : Nat) (v : Int) (hj : j ≠ 8) : W8 (c, set x.2 j v) := by
  show set x.2 j v 8 < 2147483648
  rw [set_ne _ _ (Ne.symm hj)]
  exact h
theorem W8_c {x : XP} (h : W8 x) (c : Vec) : W8 (c, x.2) := h
theorem W8_wfC (b : Nat) (nx : Int) {x : XP} (h : W8 x) : W8 (wfC b nx x) := by
  unfold wfC
  exact W8_wr _ _ _ (W8_wr _ _ _ (W8_wr _ _ _ (W8_wr _ _ _ (W8_wr _ _ _ (W8_wr _ _ _ (W8_wr _ _ _ (W8_wr _ _ _ (W8_wr _ _ _ h))))))))
theorem W8_wf {x : XP} (h : W8 x) : W8 (writeFlagsC x) := by
  unfold writeFlagsC
  split
  · exact W8_g (W8_wfC _ _ h) _ _ _ (by decide)
  · exact W8_g (W8_wfC _ _ h) _ _ _ (by decide)
theorem W8_note {x : XP} (h : W8 x) (w v : Int) : W8 (noteStartC w v x) := by
  unfold noteStartC
  split
  · exact h
  · exact h
theorem W8_count {x : XP} (h : W8 x) {s : Nat} (hs : s < 2) : W8 (countTryC s x) := by
  show set (set (if x.2 (2 + s) % 2 = 0 then set x.2 (2 + s) (x.2 (2 + s) - 2) else x.2) 4 (min (x.2 4 + 1) 255)) 5 (s : Int) 8 < 2147483648
  rw [set_ne _ _ (by decide), set_ne _ _ (by decide)]
  split
  · rw [set_ne _ _ (by omega)]
    exact h
  · exact h
theorem W8_startL (W : Vec → Nat → Int) : ∀ (m : Nat) (x : XP), W8 x → W8 (startL W m x).2
  | 0, _, h => h
  | m + 1, x, h => by
    unfold startL
    by_cases c : chosenC x.2 = -1
    · rw [if_pos c]; exact h
    · obtain ⟨s, hs, e⟩ := chosen_s c
      rw [if_neg c, e, Int.toNat_natCast]
      split
      · exact W8_note (W8_wf (W8_count h hs)) _ _
      · exact W8_startL W m _ (W8_wf (W8_g h _ _ _ (by omega)))
theorem W8_rec {x : XP} (h : W8 x) (cp : Int) : W8 (startRecoveryC cp x).2 := by
  unfold startRecoveryC
  split
  · exact h
  · exact W8_note (W8_wf (W8_g h _ _ _ (by decide))) _ _
theorem W8_begin (cut : Int) (x : XP) : W8 (beginC cut x) := by
  show set (set (set (set (set (set (set (set x.2 7 cut) 8 0) 9 0) 6 (newestF x.1)) 2 (flagF x.1 0)) 3 (flagF x.1 1)) 4 (flagF x.1 2)) 5 (flagF x.1 3) 8 < 2147483648
  rw [set_ne _ _ (by decide), set_ne _ _ (by decide), set_ne _ _ (by decide), set_ne _ _ (by decide), set_ne _ _ (by decide), set_ne _ _ (by decide), set_same]
  decide
theorem W8_end {x : XP} (h : W8 x) (a : Int) : (endC a x).2.1 81 < 2147483648 := by
  unfold endC
  split
  · show set x.1 81 (x.2 8) 81 < 2147483648
    rw [set_same]
    exact h
  · show set (set x.1 81 (x.2 8)) 78 (-1) 81 < 2147483648
    rw [set_ne _ _ (by decide), set_same]
    exact h
theorem W8_boot (σ : Sto) (a cut : Int) (x : XP) : (bootC σ a cut x).2.1 81 < 2147483648 := by
  have hs : ∀ bt, W8 (startSlotC (whyS σ) (σ 2 1 2) bt (beginC cut x)).2 := by
    intro bt
    unfold startSlotC
    split
    · exact W8_startL _ _ _ (W8_begin _ _)
    · exact W8_begin _ _
  unfold bootC
  generalize (if a = 1 then (1 : Int) else 0) = bt
  split
  · exact W8_end (W8_rec (hs _) _) _
  · exact W8_end (hs _) _
theorem W8_blowV : ∀ (m : Nat) (b : Int) (x : XP), W8 x → W8 (blowVC m b x)
  | 0, _, _, h => h
  | m + 1, b, x, h => W8_blowV m (b + 1) _ (W8_wr _ _ _ h)
theorem W8_blowK (rv : Int) : ∀ (m k : Nat) (x : XP), W8 x → W8 (blowKC rv m k x)
  | 0, _, _, h => h
  | m + 1, k, x, h => by
    refine W8_blowK rv m (k + 1) _ ?_
    unfold blowKC1
    split
    · exact W8_wr _ _ _ h
    · exact h
theorem W8_health (tr : Int) {x : XP} (h : W8 x) : W8 (healthC tr x) := by
  have h1 : W8 (healthFlC tr x) := by
    unfold healthFlC
    split
    · exact W8_g (x := (x.1, _)) (W8_g h x.1 4 0 (by decide)) x.1 _ _ (by omega)
    · exact W8_g h x.1 4 0 (by decide)
  have h2 : ∀ r y, W8 y → W8 (healthFuC r y) := by
    intro r y hy
    unfold healthFuC
    split
    · exact W8_blowK _ _ _ _ (W8_blowV _ _ _ hy)
    · exact hy
  unfold healthC toldC
  split
  · exact h2 _ _ (W8_wf h1)
  · exact h2 _ _ (W8_wf h1)
theorem W8_layL (b : Nat) (rd : XP → Nat → Int) : ∀ (m : Nat) (x : XP), W8 x → W8 (layL b rd m x)
  | 0, _, h => h
  | m + 1, x, h => W8_layL b rd m _ (W8_wr _ _ _ h)
theorem W8_lay (b : Nat) (rd : XP → Nat → Int) {x : XP} (h : W8 x) : W8 (layC b rd x) := W8_layL b rd 14 _ (W8_wr _ _ _ h)
theorem W8_favour (s : Nat) (hs : s < 2) {x : XP} (h : W8 x) : W8 (favourC s x) := by
  unfold favourC
  split
  · exact W8_g h _ _ _ (by omega)
  · exact W8_g (x := (x.1, _)) (W8_g h x.1 _ _ (by omega)) _ _ _ (by omega)
theorem W8_finish (σ : Sto) (s im : Nat) (hs : s < 2) {x : XP} (h : W8 x) : W8 (finishC σ s im x) := by
  have sf : ∀ v (y : XP), W8 y → W8 (setFl s v y) := fun v y hy => W8_g hy _ _ _ (by omega)
  unfold finishC
  exact W8_wr _ _ _ (W8_wf (W8_favour s hs (sf _ _ (W8_lay _ _ (W8_wf (sf _ _ h))))))
theorem W8_open (s im : Int) {x : XP} (h : W8 x) : W8 (openJC s im x) := W8_wr _ _ _ (W8_wr _ _ _ (W8_wr _ _ _ (W8_wr _ _ _ (W8_wr _ _ _ h))))
theorem W8_mend (σ : Sto) {x : XP} (h : W8 x) : W8 (mendC σ x).2 := by
  have h1 : W8 (mendF x) := by
    unfold mendF
    split
    · exact h
    · exact W8_wf h
  unfold mendC mendL
  split
  · split
    · exact h1
    · exact W8_lay _ _ h1
  · split
    · exact W8_lay _ _ h1
    · exact h1
theorem W8_perform (σ : Sto) (d a b cut : Int) (x : XP) (ha : ¬ d = 0 → ¬ d = 1 → ¬ d = 3 → ¬ d = 5 → ¬ d = 6 → a.toNat < 2) (h72 : (x.1 72).toNat < 2 ∨ ¬ d = 6) (hd : d = 0 ∨ d = 1 ∨ d = 2 ∨ d = 3 ∨ d = 4 ∨ d = 5 ∨ d = 6) : (performC σ d a b cut x).2.1 81 < 2147483648 := by
  unfold performC
  rcases hd with rfl | rfl | rfl | rfl | rfl | rfl | rfl
  · exact W8_boot _ _ _ _
  · exact W8_end (W8_health _ (W8_begin _ _)) _
  · exact W8_end (W8_finish _ _ _ (ha (by decide) (by decide) (by decide) (by decide) (by decide)) (W8_open _ _ (W8_begin _ _))) _
  · exact W8_end (W8_lay _ _ (W8_begin _ _)) _
  · exact W8_end (W8_wf (W8_favour _ (ha (by decide) (by decide) (by decide) (by decide) (by decide)) (W8_begin _ _))) _
  · exact W8_end (W8_mend _ (W8_begin _ _)) _
  · rcases h72 with h | h
    · exact W8_end (W8_finish _ _ _ h (W8_begin _ _)) _
    · exact absurd rfl h
theorem W8_able {σ : Sto} {im : Int} {wd : Vec} {d a b : Int} {x : XP} (h : ableF im wd x.1 d a b = 1) (cut : Int) : (performC σ d a b cut x).2.1 81 < 2147483648 := by
  have s2 : ∀ v : Int, v = 0 ∨ v = 1 → v.toNat < 2 := fun v hv => by omega
  unfold ableF at h
  by_cases d0 : d = 0
  · exact W8_perform σ d a b cut x (fun z => absurd d0 z) (Or.inr (by rw [d0]; decide)) (Or.inl d0)
  rw [if_neg d0] at h
  by_cases hr : x.1 78 = -1
  · rw [if_pos hr] at h; cases h
  rw [if_neg hr] at h
  by_cases d1 : d = 1
  · exact W8_perform σ d a b cut x (fun _ z => absurd d1 z) (Or.inr (by rw [d1]; decide)) (Or.inr (Or.inl d1))
  rw [if_neg d1] at h
  by_cases d2 : d = 2
  · rw [if_pos d2] at h
    by_cases q : (a = 0 ∨ a = 1) ∧ ¬ a = x.1 78 ∧ 0 ≤ b ∧ b < im
    · exact W8_perform σ d a b cut x (fun _ _ _ _ _ => s2 a q.1) (Or.inr (by rw [d2]; decide)) (Or.inr (Or.inr (Or.inl d2)))
    · rw [if_neg q] at h; cases h
  rw [if_neg d2] at h
  by_cases d3 : d = 3
  · exact W8_perform σ d a b cut x (fun _ _ z => absurd d3 z) (Or.inr (by rw [d3]; decide)) (Or.inr (Or.inr (Or.inr (Or.inl d3))))
  rw [if_neg d3] at h
  by_cases d4 : d = 4
  · rw [if_pos d4] at h
    by_cases q : (a = 0 ∨ a = 1) ∧ b = 0
    · exact W8_perform σ d a b cut x (fun _ _ _ _ _ => s2 a q.1) (Or.inr (by rw [d4]; decide)) (Or.inr (Or.inr (Or.inr (Or.inr (Or.inl d4)))))
    · rw [if_neg q] at h; cases h
  rw [if_neg d4] at h
  by_cases d5 : d = 5
  · exact W8_perform σ d a b cut x (fun _ _ _ z => absurd d5 z) (Or.inr (by rw [d5]; decide)) (Or.inr (Or.inr (Or.inr (Or.inr (Or.inr (Or.inl d5))))))
  rw [if_neg d5] at h
  by_cases d6 : d = 6
  · rw [if_pos d6] at h
    by_cases q : a = 0 ∧ b = 0 ∧ openF im x.1 = 1 ∧ ¬ x.1 72 = x.1 78
    · exact W8_perform σ d a b cut x (fun _ _ _ _ z => absurd d6 z) (Or.inl (s2 _ (able_open q.2.2.1).1)) (Or.inr (Or.inr (Or.inr (Or.inr (Or.inr (Or.inr d6))))))
    · rw [if_neg q] at h; cases h
  rw [if_neg d6] at h
  cases h
theorem able_06 {im : Int} {wd c : Vec} {d a b : Int} (h : ableF im wd c d a b = 1) : 0 ≤ d ∧ d ≤ 6 := by
  by_cases q : 0 ≤ d ∧ d ≤ 6
  · exact q
  · exfalso
    unfold ableF at h
    rw [if_neg (by omega)] at h
    by_cases hr : c 78 = -1
    · rw [if_pos hr] at h; cases h
    rw [if_neg hr, if_neg (by omega), if_neg (by omega), if_neg (by omega), if_neg (by omega), if_neg (by omega), if_neg (by omega)] at h
    cases h
theorem performC_0 (σ : Sto) (a b cut : Int) (x : XP) : performC σ 0 a b cut x = bootC σ a cut x := if_pos rfl
section MOD
variable {N : Nat} {σ σ0 : Sto} {x : XP}
theorem m_doesBoot (hg : OKG σ0 1) (hz : RZ x.1 (σ 40 0)) (hx : OKC x.1) (he : EnvM σ0 σ) (hb : x.1 82 < 2147483000) (a b cut : Int) (c0 : -1 ≤ cut) (c1 : cut < 2147483648) :
    ∃ τ, inv N mX9_does [vR 30 0, vI 0, vI a, vI b, vI cut] (P σ) = some (some (vI (bootC σ0 a cut x).1), P τ) ∧ KM σ τ ∧ RZ (bootC σ0 a cut x).2.1 (τ 40 0) ∧ τ 30 0 23 = (bootC σ0 a cut x).2.1 81 := by
  obtain ⟨υ, b1, b2, b3, b4⟩ := m_begin (N := N) hz hx cut c0 c1
  have he2 := EnvM_KM he b2
  have e82 : (beginC cut x).1 82 = x.1 82 := rfl
  have e81 : (81 : Int).toNat = 81 := rfl
  rw [iX9_does, eX9_does_0, b1, bnd_s, push_n, eX9_does_3]
  obtain ⟨τ, t1, t2, t3⟩ := m_boots (N := N) hg (if a = 1 then 1 else 0) b3 he2 (by rw [e82]; exact hb)
  have hB := bootC_end (σ := σ0) (x := x) a cut _ rfl
  obtain ⟨k1, k2, k3, k4⟩ := m_close hB t3 b2 t2
  rw [if_pos rfl]
  refine ⟨_, ?_, k1, k2, k3⟩
  rw [k4]
  by_cases ha : a = 1
  · rw [if_pos ha] at t1 ⊢
    rw [if_pos ha, t1, bnd_s, push_s, eX9_does_13, sup_row, e81]
  · rw [if_neg ha] at t1 ⊢
    rw [if_neg ha, t1, bnd_s, push_s, eX9_does_13, sup_row, e81]
end MOD
