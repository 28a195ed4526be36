/-! FEED: the pair -/
section ASK
variable {N : Nat} {σ : Sto} {L : Int}
theorem INV_new2 (h : INV L σ) {τ : Sto} (o : ∀ k k', k ≠ 0 → k ≠ 1 → k ≠ 30 → k ≠ 31 → τ k k' = σ k k') (e5 : τ 30 0 5 = σ 30 0 5) (e6 : τ 30 0 6 = σ 30 0 6) (e21 : τ 30 0 21 = σ 30 0 21) (ht : TAPE τ) (hd : DRAWN τ) : INV L τ := by
  obtain ⟨⟨b1, b2, b3, b4, b5⟩, c, p⟩ := h
  have o := fun (k k' : Nat) (hk : k ≠ 0 ∧ k ≠ 1 ∧ k ≠ 30 ∧ k ≠ 31) => o k k' hk.1 hk.2.1 hk.2.2.1 hk.2.2.2
  refine ⟨⟨?_, ?_, ht, hd, ?_⟩, ?_, ?_⟩
  · unfold OKG at b1 ⊢
    rw [o 2 1 (by decide), o 3 1 (by decide), o 4 1 (by decide), o 5 1 (by decide)]
    exact b1
  · unfold EnvM OKM whyM whyS at b2 ⊢
    rw [o 32 0 (by decide), o 33 0 (by decide), o 36 0 (by decide), o 38 0 (by decide), e5, e6, o 2 1 (by decide), o 3 1 (by decide), o 4 1 (by decide), o 5 1 (by decide)]
    exact b2
  · unfold DRAFT at b5 ⊢
    rw [o 3 0 (by decide), o 5 0 (by decide)]
    exact b5
  · rw [o 7 0 (by decide), o 40 0 (by decide)]
    exact c
  · rw [o 10 0 (by decide), o 9 0 (by decide), o 41 0 (by decide), e21]
    exact p
theorem pair_feed (a b c d e : Int) : PAIR N mX8_feed mX9_feed [vI a, vI b, vI c, vI d, vI e] := by
  intro L σ h hL
  obtain ⟨t0, t1, t2, t3⟩ := h.1.2.2.1
  have hd := h.1.2.2.2.1
  obtain ⟨t, et⟩ : ∃ t : Nat, σ 0 0 1 = (t : Int) := ⟨(σ 0 0 1).toNat, by omega⟩
  have et2 : σ 30 0 1 = (t : Int) := t2.trans et
  by_cases q : t ≤ 280
  case neg =>
    refine ⟨-1, σ, σ, ?_, ?_, up300 h (by omega)⟩
    · rw [iX8_feed, eX8_feed_0, et, if_pos (by omega)]
    · rw [iX9_feed, eX9_feed_0, et2, w32i (by omega) (by omega), if_pos (by omega)]
  have cf := c_feed (N := N) t q et a b c d e
  generalize hs : row (row σ 1 0 (fd5 cb (σ 1 0) t a b c d e)) 0 0 (set (σ 0 0) 1 ((t + 20 : Nat) : Int)) = τ at cf
  have s30 : τ 30 0 = σ 30 0 := by rw [← hs, row_at, if_neg (by decide), row_at, if_neg (by decide)]
  have s31 : τ 31 0 = σ 31 0 := by rw [← hs, row_at, if_neg (by decide), row_at, if_neg (by decide)]
  have s1 : τ 1 0 = fd5 cb (σ 1 0) t a b c d e := by rw [← hs, row_at, if_neg (by decide), row_same]
  have s0 : τ 0 0 = set (σ 0 0) 1 ((t + 20 : Nat) : Int) := by rw [← hs, row_same]
  have so : ∀ k k', k ≠ 0 → k ≠ 1 → τ k k' = σ k k' := fun k k' h0 h1 => by rw [← hs, row_at, if_neg (fun z => h0 z.1), row_at, if_neg (fun z => h1 z.1)]
  have mf := m_feed (N := N) (σ := τ) t q (by rw [s30]; exact et2) a b c d e
  rw [s30, s31] at mf
  generalize hs2 : row (row τ 31 0 (fd5 mb (σ 31 0) t a b c d e)) 30 0 (set (σ 30 0) 1 ((t + 20 : Nat) : Int)) = υ at mf
  have u30 : υ 30 0 = set (σ 30 0) 1 ((t + 20 : Nat) : Int) := by rw [← hs2, row_same]
  have u31 : υ 31 0 = fd5 mb (σ 31 0) t a b c d e := by rw [← hs2, row_at, if_neg (by decide), row_same]
  have uo : ∀ k k', k ≠ 30 → k ≠ 31 → υ k k' = τ k k' := fun k k' h0 h1 => by rw [← hs2, row_at, if_neg (fun z => h0 z.1), row_at, if_neg (fun z => h1 z.1)]
  have tp : TP (fd5 cb (σ 1 0) t a b c d e) (fd5 mb (σ 31 0) t a b c d e) := TP_fd (TP_fd (TP_fd (TP_fd (TP_fd t3 _ _) _ _) _ _) _ _) _ _
  refine ⟨_, τ, υ, cf, mf, up300 (INV_new2 h (fun k k' h0 h1 h3 h4 => (uo k k' h3 h4).trans (so k k' h0 h1)) ?_ ?_ ?_ ?_ ?_) (by omega)⟩
  · rw [u30, set_ne _ _ (by decide)]
  · rw [u30, set_ne _ _ (by decide)]
  · rw [u30, set_ne _ _ (by decide)]
  · unfold TAPE
    rw [u30, u31, uo 0 0 (by decide) (by decide), uo 1 0 (by decide) (by decide), s0, s1, set_same, set_same]
    exact ⟨by omega, by omega, rfl, tp⟩
  · unfold DRAWN at hd ⊢
    rw [u30, uo 0 0 (by decide) (by decide), s0, set_ne _ _ (by decide), set_ne _ _ (by decide)]
    exact hd
end ASK
