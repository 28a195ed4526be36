/-! BUNDLE -/
section BU
variable {N n : Nat} {T : Vec} {σ : Sto} {L : Int}
theorem c_fill5 (i : Nat) : inv N mJ7_fill_53178 [vR 5 i, vI 0] (P σ) = some (none, P (row σ 5 i (fill (σ 5 i) 0 84 0))) := by
  have lp : ∀ (m k : Nat) (τ : Sto), k + m = 84 → ev N mJ7_fill_53178 5 [vR 5 i, vI 0, vI (k : Int), vI 84] [] (P τ) = some (none, P (row τ 5 i (fill (τ 5 i) k m 0))) := by
    intro m
    induction m with
    | zero =>
      intro k τ hk
      have e : k = 84 := by omega
      subst e
      rw [eJ7_fill_53178_5_k5, if_neg (by decide), fill_0, row_id]
    | succ m ih =>
      intro k τ hk
      have l1 : (k : Int) < 84 ∧ ¬ (k : Int) < 0 ∧ k + 1 + m = 84 := by omega
      have e1 : w32 ((k : Int) + 1) = ((k + 1 : Nat) : Int) := by rw [w32i (by omega) (by omega)]; omega
      rw [eJ7_fill_53178_5_k5, if_pos l1.1, if_neg l1.2.1, if_pos l1.1, e1, sup_row, ih (k + 1) _ l1.2.2, row_same, row_row, Int.toNat_natCast, fill_s]
  rw [iJ7_fill_53178_k5, eJ7_fill_53178_0_k5]
  exact lp 84 0 σ rfl
def clr2 (f : Vec) : Vec := set (set (set (set (set f 0 0) 1 0) 2 3) 3 3) 4 20
theorem c_clear : inv N mX0_clear [vR 2 0] (P σ) = some (none, P (row (row σ 2 0 (clr2 (σ 2 0))) 5 0 (fill (σ 5 0) 0 84 0))) := by
  have e : ∀ f, row σ 2 0 f 5 0 = σ 5 0 := fun _ => rfl
  rw [iX0_clear, eX0_clear_0]
  simp only [sup_row, row_same, row_row]
  rw [c_fill5, bnd_s, push_n, eX0_clear_19, e]
  rfl
def rd8 (f : Vec) (n : Int) : Vec := set (set (set (set (set (set (set f 2 n) 3 0) 4 (-1)) 10 0) 7 0) 8 0) 9 0
def rdQ (σ : Sto) (n : Int) : Sto := row (row (row σ 8 0 (rd8 (σ 8 0) n)) 2 0 (clr2 (σ 2 0))) 5 0 (fill (σ 5 0) 0 84 0)
theorem c_read0 (n : Int) : inv N mX4_read [vR 8 0, vI n] (P σ) = ev N mX4_read 26 [vR 8 0, vI n, vI 0] [] (P (rdQ σ n)) := by
  rw [iX4_read, eX4_read_0]
  simp only [sup_row, row_same, row_row]
  rw [c_clear, bnd_s, push_n, eX4_read_24]
  rfl
theorem rd_CR {n : Nat} (hn : n ≤ 300) (h3 : ∀ k, k < 6 → 0 ≤ σ 3 0 k ∧ σ 3 0 k < 10000) : CR n (σ 1 0) 0 (rdQ σ (n : Int)) ∧ ZW (rdQ σ (n : Int)) ∧ rdQ σ (n : Int) 8 0 10 = 0 := by
  have z5 : ∀ j, j < 84 → rdQ σ (n : Int) 5 0 j = 0 := fun j hj => by
    show fill (σ 5 0) 0 84 0 j = 0
    unfold fill
    rw [if_pos ⟨Nat.zero_le j, by omega⟩]
  have a0 : rdQ σ (n : Int) 2 0 0 = 0 := rfl
  have a1 : rdQ σ (n : Int) 2 0 1 = 0 := rfl
  have a2 : rdQ σ (n : Int) 2 0 2 = 3 := rfl
  have a3 : rdQ σ (n : Int) 2 0 3 = 3 := rfl
  have a4 : rdQ σ (n : Int) 2 0 4 = 20 := rfl
  refine ⟨⟨⟨rfl, hn, fun _ _ => rfl⟩, Nat.zero_le n, rfl, rfl, ?_, ?_, ?_, ?_, ?_, ⟨h3, fun j hj => by rw [z5 j hj]; decide⟩, ?_, ?_⟩, fun j _ hj => z5 j hj, rfl⟩
  · rw [a0]; decide
  · rw [a1]; decide
  · rw [a2]; decide
  · rw [a3]; decide
  · rw [a4]; decide
  · rw [a0]
    exact ⟨by decide, fun k hk => absurd hk (by omega)⟩
  · intro l h1 h2
    rcases (show l = 7 ∨ l = 8 ∨ l = 9 by omega) with rfl | rfl | rfl <;> exact Or.inl rfl
theorem CFr_rd (n : Int) : CFr σ (rdQ σ n) := CFr_trans (CFr_row σ 8 _ (by decide)) (CFr_trans (CFr_row _ 2 _ (by decide)) (CFr_row _ 5 _ (by decide)))
def mb30 (f : Vec) : Vec := set (set (set (set (set f 2 0) 3 (-1)) 7 0) 8 0) 9 0
def mbS (τ : Sto) : Sto := row (row τ 30 0 (mb30 (τ 30 0))) 39 0 (set (set (set (τ 39 0) 2 3) 3 3) 4 20)
theorem m_bundle0 (τ : Sto) : inv N mX9_bundle [vR 30 0] (P τ) = ev N mX9_bundle 34 [vR 30 0, vI 0, vI 1] [] (P (mbS τ)) := by
  rw [iX9_bundle, eX9_bundle_0]
  simp only [sup_row, row_same, row_row]
  rfl
theorem MFr_mb (τ : Sto) : MFr τ (mbS τ) := MFr_trans (MFr_30 τ _ (fun j a b _ c d e => by unfold mb30; rw [set_ne _ _ e, set_ne _ _ d, set_ne _ _ c, set_ne _ _ b, set_ne _ _ a])) (MFr_row _ 39 _ (by decide))
theorem mb_RR {σr τ : Sto} (h0 : σr 2 0 0 = 0) (h1 : σr 2 0 1 = 0) (h2 : σr 2 0 2 = 3) (h3 : σr 2 0 3 = 3) (h4 : σr 2 0 4 = 20) (p3 : σr 8 0 3 = 0) (b7 : σr 8 0 7 = 0) (b8 : σr 8 0 8 = 0) (b9 : σr 8 0 9 = 0) : RR σr (mbS τ) := by
  refine ⟨p3.symm, rfl, h0.symm, h1.symm, fun k hk => ?_, fun j hj => ?_, h2.symm, h3.symm, h4.symm, ?_⟩
  · rw [h0] at hk
    exact absurd hk (by omega)
  · rw [h1] at hj
    exact absurd hj (by omega)
  · rw [b7, b8, b9]
    rfl
end BU
