/-! FEED -/
def cb (a : Int) (s : Int) : Int := bAnd (shr32 a s) 255
def mb (a : Int) (s : Int) : Int := w8 (w8 (shr32 a s))
def fdV (f : Int → Int → Int) (r : Vec) (t : Nat) (a : Int) : Vec := set (set (set (set r t (f a 24)) (t + 1) (f a 16)) (t + 2) (f a 8)) (t + 3) (f a 0)
def TP (r m : Vec) : Prop := ∀ j, j < 300 → 0 ≤ r j ∧ r j < 256 ∧ -128 ≤ m j ∧ m j < 128 ∧ m j % 256 = r j
theorem w8_r (x : Int) : -128 ≤ w8 x ∧ w8 x < 128 ∧ w8 x % 256 = x % 256 := by
  unfold w8
  omega
theorem TP_set {r m : Vec} (h : TP r m) (t : Nat) (a s : Int) : TP (set r t (cb a s)) (set m t (mb a s)) := by
  intro j hj
  by_cases q : j = t
  · subst q
    rw [set_same, set_same]
    unfold cb mb
    rw [bAnd_255]
    have h1 := w8_r (w8 (shr32 a s))
    have h2 := w8_r (shr32 a s)
    generalize w8 (w8 (shr32 a s)) = y at h1
    generalize w8 (shr32 a s) = z at h1 h2
    generalize shr32 a s = x at h2
    omega
  · rw [set_ne _ _ q, set_ne _ _ q]
    exact h j hj
theorem TP_fd {r m : Vec} (h : TP r m) (t : Nat) (a : Int) : TP (fdV cb r t a) (fdV mb m t a) := TP_set (TP_set (TP_set (TP_set h _ _ _) _ _ _) _ _ _) _ _ _
section ASK
variable {N : Nat} {σ : Sto} {L : Int}
theorem m_puts (t : Nat) (ht : t + 4 ≤ 300) (h : σ 30 0 1 = (t : Int)) (a : Int) : inv N mX9_puts [vR 30 0, vI a] (P σ) = some (none, P (row (row σ 31 0 (fdV mb (σ 31 0) t a)) 30 0 (set (σ 30 0) 1 ((t + 4 : Nat) : Int)))) := by
  have st : ∀ (s : Int) (t : Nat) (τ : Sto), 0 ≤ s → s ≤ 24 → t < 300 → τ 30 0 1 = (t : Int) → ev N mX9_puts 2 [vR 30 0, vI a, vI s] [] (P τ) = ev N mX9_puts 2 [vR 30 0, vI a, vI (s - 8)] [] (P (row (row τ 31 0 (set (τ 31 0) t (mb a s))) 30 0 (set (τ 30 0) 1 ((t + 1 : Nat) : Int)))) := by
    intro s t τ s0 s1 h300 ht
    have e1 : w32 ((t : Int) + 1) = ((t + 1 : Nat) : Int) := by rw [w32i (by omega) (by omega)]; omega
    have e2 : w32 (s + -8) = s - 8 := by rw [w32i (by omega) (by omega)]; omega
    have r30 : ∀ g, row τ 31 0 g 30 0 = τ 30 0 := fun g => by rw [row_at, if_neg (by omega)]
    rw [eX9_puts_2, if_neg (by omega), ht, if_neg (by omega), if_pos (by omega), sup_row, sup_row, r30, ht, e1, e2, Int.toNat_natCast]
    rfl
  have r31 : ∀ (g f : Vec), row (row σ 31 0 g) 30 0 f 31 0 = g := fun g f => by rw [row_at, if_neg (by omega), row_same]
  have cm : ∀ (g f g2 f2 : Vec), row (row (row (row σ 31 0 g) 30 0 f) 31 0 g2) 30 0 f2 = row (row σ 31 0 g2) 30 0 f2 := by
    intro g f g2 f2
    rw [row_comm (row σ 31 0 g) 30 0 31 0 f g2 (by omega), row_row, row_row]
  rw [iX9_puts, eX9_puts_0, st 24 t σ (by omega) (by omega) (by omega) h, st _ (t + 1) _ (by omega) (by omega) (by omega) (by rw [row_same, set_same]), cm, row_same, r31, st _ (t + 1 + 1) _ (by omega) (by omega) (by omega) (by rw [row_same, set_same]), cm, row_same, r31, st _ (t + 1 + 1 + 1) _ (by omega) (by omega) (by omega) (by rw [row_same, set_same]), cm, row_same, r31, eX9_puts_2, if_pos (by omega)]
  simp only [set_set]
  rfl
end ASK
