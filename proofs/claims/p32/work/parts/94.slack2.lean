/-! SLACK, whole -/
section TRY
variable {N : Nat} {σ σ0 : Sto} {L : Int}
theorem so_nums {s k : Nat} (hs : s < 4) : w32 (w32 ((s : Int) + 1) * 14) = ((14 * s + 14 : Nat) : Int) ∧ w32 (((14 * s + k : Nat) : Int) + 1) = w32 (((14 * s + k : Nat) : Int) + 1) := by
  refine ⟨?_, rfl⟩
  rw [w32i (x := (s : Int) + 1) (by omega) (by omega), w32i (by omega) (by omega)]
  omega
theorem sl_outer (hg : OKG σ0 1) {c : Vec} {τ : Sto} (hS : σ0 7 1 = c) (hc : OKC c) (eq : ∀ j, j < 78 → c j = τ 40 0 j) (h78 : -1 ≤ τ 40 0 78 ∧ τ 40 0 78 ≤ 2) (he : EnvM σ0 τ) (s : Nat) (hs : s < 4) : ∀ (m k : Nat) (v : Int) (x4 y4 : MV), k + m = 14 → 0 ≤ v → v + 31 * m < 90000 → ∃ r, ev N mX7_slackBits 11 [vR 11 0, vI (s : Int), vI v, vI ((14 * s + k : Nat) : Int), x4] [] (P σ0) = some (some (vI r), P σ0) ∧ ev N mX9_slack 12 [vR 30 0, vI (s : Int), vI v, vI (k : Int), y4] [] (P τ) = some (some (vI r), P τ) := by
  intro m
  induction m with
  | zero =>
    intro k v x4 y4 hk v0 v1
    have e : k = 14 := by omega
    subst e
    refine ⟨v, ?_, ?_⟩
    · rw [eX7_slackBits_11, (so_nums (k := 14) hs).1, if_neg (by omega)]
    · rw [eX9_slack_12, if_neg (by decide)]
  | succ m ih =>
    intro k v x4 y4 hk v0 v1
    have k14 : k < 14 := by omega
    have p1 : ((14 * s + k : Nat) : Int) < ((14 * s + 14 : Nat) : Int) := by omega
    have p2 : (k : Int) < 14 := by omega
    have e1 : w32 (((14 * s + k : Nat) : Int) + 1) = ((14 * s + (k + 1) : Nat) : Int) := by rw [w32i (by omega) (by omega)]; omega
    have e2 : w32 ((k : Int) + 1) = ((k + 1 : Nat) : Int) := by rw [w32i (by omega) (by omega)]; omega
    obtain ⟨r, r1, r2, r3, r4⟩ := sl_inner (N := N) hg hS hc eq h78 he s k hs k14 31 0 v rfl v0 (by omega)
    have v2 : r + 31 * m < 90000 := by
      clear r1 r2 e1 e2
      omega
    obtain ⟨z, z1, z2⟩ := ih (k + 1) r (vI 31) (vI 31) (by omega) r3 v2
    simp only [Int.cast_ofNat_Int] at r1 r2
    refine ⟨z, ?_, ?_⟩
    · rw [eX7_slackBits_11, (so_nums (k := k) hs).1, if_pos p1, r1, eX7_slackBits_20, if_neg (by decide), e1]
      exact z1
    · rw [eX9_slack_12, if_pos p2, r2, eX9_slack_17, if_neg (by decide), e2]
      exact z2
theorem pair_slack (s : Int) : PAIR N mX8_slack mX9_slack [vI s] := by
  intro L σ h hL
  have oi := fun τ v lo hi => s9_in (N := N) (σ := τ) v lo hi
  by_cases q : 0 ≤ s ∧ s < 4
  case neg =>
    refine ⟨-1, σ, σ, ?_, ?_, up300 h (by omega)⟩
    · rw [iX8_slack, eX8_slack_0, s8_isStore, if_neg q, bnd_s, push_s, eX8_slack_2, if_pos rfl]
    · rw [iX9_slack, eX9_slack_0, oi, if_neg (fun z => q ⟨z.1, Int.lt_of_le_of_lt z.2 (by decide)⟩), bnd_s, push_s, eX9_slack_5, if_pos rfl]
  obtain ⟨s, rfl⟩ := Int.eq_ofNat_of_zero_le q.1
  have hs : s < 4 := Int.ofNat_lt.mp q.2
  have q3 : 0 ≤ (s : Int) ∧ (s : Int) ≤ 3 := ⟨q.1, Int.le_of_lt_add_one q.2⟩
  have hc : CELL L (cpyV (σ 7 0) (σ 7 1) 0 0 107) (σ 40 0) := CELL_107 h.2.1 (fun j hj => cpy_all _ _ hj) (fun _ _ => rfl)
  have ct := c_take (N := N) (σ := σ) 1 0
  generalize cpyV (σ 7 0) (σ 7 1) 0 0 107 = c at hc ct
  rw [row_as_put] at ct
  have q1 := QX_put σ 1 (by decide) (c, σ 6 1)
  have hS : putC σ 1 (c, σ 6 1) 7 1 = c := putC_7 _ _ _
  generalize putC σ 1 (c, σ 6 1) = τ at ct q1 hS
  have hI := INV_QX q1 h
  have hm := INV_okm hI
  have t40 : ∀ j, j < 78 → c j = τ 40 0 j := fun j hj => (hc.2.1.1.1 j hj).trans (q1.2.2.1 j (by omega)).symm
  have hw : w32 ((s : Int) * 14) = ((14 * s + 0 : Nat) : Int) := by rw [w32i (by omega) (by omega)]; omega
  obtain ⟨r, r1, r2⟩ := sl_outer (N := N) (σ0 := τ) (τ := τ) hI.1.1 hS hc.1 t40 hm.2.2.2.2 hI.1.2.1 s hs 14 0 0 vX vX rfl (by decide) (by decide)
  rw [Int.cast_ofNat_Int] at r2
  refine ⟨r, τ, τ, ?_, ?_, up300 hI (by omega)⟩
  · rw [iX8_slack, eX8_slack_0, s8_isStore, if_pos q, bnd_s, push_s, eX8_slack_2, if_neg (by decide), iX7_slackBits, eX7_slackBits_0, ct, bnd_s, push_n, eX7_slackBits_5, hw, r1, bnd_s, push_s, eX8_slack_7]
  · rw [iX9_slack, eX9_slack_0, oi, if_pos q3, bnd_s, push_s, eX9_slack_5, if_neg (by decide)]
    exact r2
end TRY
