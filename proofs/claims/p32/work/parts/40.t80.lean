/-! WHETHER HEALTH WAS TOLD: 0 or 1 -/
def T8 (c : Vec) : Prop := c 80 = 0 ∨ c 80 = 1
theorem T8_eq {c d : Vec} (h : T8 c) (e : d 80 = c 80) : T8 d := by
  unfold T8
  rw [e]
  exact h
theorem T8_wf {x : XP} (h : T8 x.1) : T8 (writeFlagsC x).1 := T8_eq h (writeFlagsC_at _ (Or.inr (by omega)))
theorem T8_note {x : XP} (h : T8 x.1) (w v : Int) : T8 (noteStartC w v x).1 := by
  unfold noteStartC
  split
  · exact Or.inl rfl
  · exact h
theorem T8_startL (W : Vec → Nat → Int) : ∀ (m : Nat) (x : XP), T8 x.1 → T8 (startL W m x).2.1
  | 0, x, h => h
  | m + 1, x, h => by
    unfold startL
    split
    · exact h
    · split
      · exact T8_note (T8_wf (x := countTryC (chosenC x.2).toNat x) h) _ _
      · exact T8_startL W m _ (T8_wf (x := (x.1, set x.2 (2 + (chosenC x.2).toNat) 0)) h)
theorem T8_startS (W : Vec → Nat → Int) (lim b : Int) {x : XP} (h : T8 x.1) : T8 (startSlotC W lim b x).2.1 := by
  unfold startSlotC
  split
  · exact T8_startL W 2 x h
  · exact h
theorem T8_rec {x : XP} (h : T8 x.1) (cp : Int) : T8 (startRecoveryC cp x).2.1 := by
  unfold startRecoveryC
  split
  · exact h
  · exact T8_note (T8_wf (x := (x.1, set x.2 5 2)) h) _ _
theorem T8_end {x : XP} (h : T8 x.1) (a : Int) : T8 (endC a x).2.1 := by
  unfold endC
  split
  · refine T8_eq h ?_
    show set x.1 81 (x.2 8) 80 = x.1 80
    exact set_ne _ _ (by decide)
  · refine T8_eq h ?_
    show set (set x.1 81 (x.2 8)) 78 (-1) 80 = x.1 80
    rw [set_ne _ _ (by decide), set_ne _ _ (by decide)]
theorem T8_boot (σ : Sto) {x : XP} (h : T8 x.1) (a cut : Int) : T8 (bootC σ a cut x).2.1 := by
  have hs := fun bt => T8_startS (whyS σ) (σ 2 1 2) bt (x := beginC cut x) h
  unfold bootC
  generalize (if a = 1 then (1 : Int) else 0) = bt
  have e := hs bt
  generalize startSlotC (whyS σ) (σ 2 1 2) bt (beginC cut x) = p at e
  split
  · exact T8_end (T8_rec e _) _
  · exact T8_end e _
theorem T8_health {σ : Sto} {x : XP} (h : T8 x.1) (cut : Int) : T8 (perfHealthC σ cut x).2.1 := by
  have h2 : T8 (healthC (σ 2 1 3) (beginC cut x)).1 := by
    unfold healthC toldC
    split
    · exact Or.inr rfl
    · refine T8_eq h ?_
      rw [healthFuC_at (by omega) (by omega), writeFlagsC_at _ (Or.inr (by omega))]
      rfl
  exact T8_end h2 _
theorem T8_perf {σ : Sto} {x : XP} (hg : OKG σ 1) (hc : OKC x.1) (h : T8 x.1) (d a b cut : Int) (hd : ableF (σ 2 1 1) (σ 5 1) x.1 d a b = 1) : T8 (performC σ d a b cut x).2.1 := by
  have hx := beginC_ok cut hc
  unfold ableF at hd
  unfold performC
  by_cases d0 : d = 0
  · rw [if_pos d0]
    exact T8_boot σ h a cut
  rw [if_neg d0] at hd ⊢
  by_cases hr : x.1 78 = -1
  · rw [if_pos hr] at hd; cases hd
  rw [if_neg hr] at hd
  by_cases d1 : d = 1
  · rw [if_pos d1]
    exact T8_health h cut
  rw [if_neg d1] at hd ⊢
  by_cases d2 : d = 2
  · rw [if_pos d2] at hd ⊢
    split at hd
    · rename_i q
      refine T8_end (T8_eq h ?_) _
      rw [finishC_at _ _ (by omega) (by omega), openJC_at (by omega)]
      rfl
    · cases hd
  rw [if_neg d2] at hd ⊢
  by_cases d3 : d = 3
  · rw [if_pos d3]
    have hb : 14 * otherF (copyF (σ 2 1 0) (σ 3 1) (σ 4 1) x.1) + 14 ≤ 56 := by unfold otherF; split <;> omega
    refine T8_end (T8_eq h ?_) _
    rw [layC_at _ _ _ (by omega)]
    rfl
  rw [if_neg d3] at hd ⊢
  by_cases d4 : d = 4
  · rw [if_pos d4]
    refine T8_end (T8_eq h ?_) _
    rw [writeFlagsC_at _ (by omega)]
    rfl
  rw [if_neg d4] at hd ⊢
  by_cases d5 : d = 5
  · rw [if_pos d5]
    refine T8_end (T8_eq h ?_) _
    rw [(mendC_ok (σ := σ) hx).2 80 (by omega)]
    rfl
  rw [if_neg d5] at hd ⊢
  by_cases d6 : d = 6
  · rw [if_pos d6] at hd
    split at hd
    · rename_i q
      have h2 := able_open q.2.2.1
      refine T8_end (T8_eq h ?_) _
      rw [finishC_at _ _ (by omega) (by omega)]
      rfl
    · cases hd
  · rw [if_neg d6] at hd; cases hd
