/-! TRIALS: what a boot would start -/
section TRY
variable {N : Nat} {σ σ0 : Sto} {L : Int}
/-- what the model's thinking leaves: all but fields 22 to 24, the rows of flags, of what is put by from a place on -/
def WM (b : Nat) (σ τ : Sto) : Prop := (∀ k k', ¬ (k' = 0 ∧ (k = 30 ∨ k = 40 ∨ k = 42 ∨ k = 43 ∨ k = 44 ∨ k = 45)) → τ k k' = σ k k') ∧ (∀ j, j ≠ 22 → j ≠ 23 → j ≠ 24 → τ 30 0 j = σ 30 0 j) ∧ (∀ j, j < 107 → τ 40 0 j = σ 40 0 j) ∧ (∀ j, j < b → τ 42 0 j = σ 42 0 j)
theorem EnvM_o {τ : Sto} (h : EnvM σ0 σ) (o : ∀ k k', ¬ (k' = 0 ∧ (k = 30 ∨ k = 40 ∨ k = 42 ∨ k = 43 ∨ k = 44 ∨ k = 45)) → τ k k' = σ k k') (f : ∀ j, j ≠ 22 → j ≠ 23 → j ≠ 24 → τ 30 0 j = σ 30 0 j) : EnvM σ0 τ := by
  unfold EnvM OKM whyM at h ⊢
  rw [o 32 0 (by decide), o 33 0 (by decide), o 36 0 (by decide), o 38 0 (by decide), f 5 (by decide) (by decide) (by decide), f 6 (by decide) (by decide) (by decide)]
  exact h
theorem m_would (hg : OKG σ0 1) {c g : Vec} (hz : RZ c (σ 40 0)) (hc : OKC c) (he : EnvM σ0 σ) (hb : c 82 < 2147483000) (b : Int) (hb01 : b = 0 ∨ b = 1) :
    ∃ υ, inv N mX9_wouldStart [vR 30 0, vI b] (P σ) = some (some (vI (performC σ0 0 b 0 (-1) (set c 78 (-1), g)).1), P υ) ∧ WM 214 σ υ := by
  have th := m_thinks (N := N) (σ := σ) 2 (by decide)
  rw [Int.cast_ofNat_Int] at th
  have e78 : (78 : Int).toNat = 78 := rfl
  have tr := fun τ => s9_truth (N := N) (σ := τ) b
  have eb : (if b = 0 then (0 : Int) else 1) = b := by
    rcases hb01 with rfl | rfl
    · rfl
    · rfl
  rw [eb] at tr
  have r40 : row σ 42 0 (cpyV (σ 40 0) (σ 42 0) 0 (107 * 2) 107) 40 0 = σ 40 0 := by rw [row_at, if_neg (by decide)]
  have hz1 := RZ_78 hz
  have a1 : ableF (σ0 2 1 1) (σ0 5 1) (set c 78 (-1)) 0 b 0 = 1 := by
    unfold ableF
    rw [if_pos rfl, if_pos ⟨set_same _ _ _, hb01, rfl⟩]
  generalize hs : row (row σ 42 0 (cpyV (σ 40 0) (σ 42 0) 0 (107 * 2) 107)) 40 0 (set (σ 40 0) 78 (-1)) = τ
  have t40 : τ 40 0 = set (σ 40 0) 78 (-1) := by rw [← hs, row_same]
  have t42 : τ 42 0 = cpyV (σ 40 0) (σ 42 0) 0 (107 * 2) 107 := by rw [← hs, row_at, if_neg (by decide), row_same]
  have to : ∀ k k', ¬ (k' = 0 ∧ (k = 40 ∨ k = 42)) → τ k k' = σ k k' := fun k k' hk => by rw [← hs, row_at, if_neg (fun z => hk ⟨z.2, Or.inl z.1⟩), row_at, if_neg (fun z => hk ⟨z.2, Or.inr z.1⟩)]
  have he1 : EnvM σ0 τ := EnvM_o he (fun k k' hk => to k k' (fun z => hk ⟨z.1, by rcases z.2 with y | y <;> simp [y]⟩)) (fun j _ _ _ => by rw [to 30 0 (by decide)])
  obtain ⟨υ, u1, u2, u3, -⟩ := m_does (N := N) (σ := τ) (x := (set c 78 (-1), g)) hg (by rw [t40]; exact hz1) (OKC_78 hc) he1 (show set c 78 (-1) 82 < 2147483000 by rw [set_ne _ _ (by decide)]; exact hb) 0 b 0 (-1) a1 (by decide) (by decide)
  have v42 : υ 42 0 = τ 42 0 := KM_r u2 42 (by decide) 0
  have pb := m_putsBack (N := N) (σ := υ) 2 (by decide)
  rw [Int.cast_ofNat_Int] at pb
  refine ⟨row υ 40 0 (cpyV (υ 42 0) (υ 40 0) (107 * 2) 0 107), ?_, ?_, ?_, ?_, ?_⟩
  · rw [iX9_wouldStart, eX9_wouldStart_0, th, bnd_s, push_n, eX9_wouldStart_3, sup_row, e78, r40, hs, tr, bnd_s, push_s, eX9_wouldStart_12, u1, bnd_s, push_s, eX9_wouldStart_15, pb, bnd_s, push_n, eX9_wouldStart_19]
  · intro k k' hk
    rw [row_at, if_neg (fun z => hk ⟨z.2, Or.inr (Or.inl z.1)⟩), u2.1 k k' (fun z => hk ⟨z.1, by rcases z.2 with y | y | y | y | y <;> simp [y]⟩), to k k' (fun z => hk ⟨z.1, by rcases z.2 with y | y <;> simp [y]⟩)]
  · intro j h1 h2 h3
    rw [row_at, if_neg (by decide), u2.2 j h1 h2 h3, to 30 0 (by decide)]
  · intro j hj
    rw [row_same]
    have := cpyV_in (υ 42 0) (υ 40 0) (107 * 2) 0 107 j hj
    rw [Nat.zero_add] at this
    rw [this, v42, t42, cpyV_in _ _ _ _ _ _ hj, Nat.zero_add]
  · intro j hj
    rw [row_at, if_neg (by decide), v42, t42, cpyV_out _ _ _ _ _ _ (Or.inl (Nat.lt_of_lt_of_le hj (by decide)))]
end TRY
