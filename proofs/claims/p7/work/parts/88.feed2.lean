/-! FEED, whole -/
section ASK
variable {N : Nat} {σ : Sto} {L : Int}
theorem c_feedN (t : Nat) (ht : t + 4 ≤ 300) (h : σ 0 0 1 = (t : Int)) (a : Int) : inv N mX8_feedNumber [vR 0 0, vI a] (P σ) = some (none, P (row (row σ 1 0 (fdV cb (σ 1 0) t a)) 0 0 (set (σ 0 0) 1 ((t + 4 : Nat) : Int)))) := by
  have st : ∀ (s : Int) (t : Nat) (τ : Sto), 0 ≤ s → s ≤ 24 → t < 300 → τ 0 0 1 = (t : Int) → ev N mX8_feedNumber 2 [vR 0 0, vI a, vI s] [] (P τ) = ev N mX8_feedNumber 2 [vR 0 0, vI a, vI (s - 8)] [] (P (row (row τ 1 0 (set (τ 1 0) t (cb a s))) 0 0 (set (τ 0 0) 1 ((t + 1 : Nat) : Int)))) := by
    intro s t τ s0 s1 h300 ht
    have e1 : w32 ((t : Int) + 1) = ((t + 1 : Nat) : Int) := by rw [w32i (by omega) (by omega)]; omega
    have e2 : w32 (s + -8) = s - 8 := by rw [w32i (by omega) (by omega)]; omega
    have r00 : ∀ g, row τ 1 0 g 0 0 = τ 0 0 := fun g => by rw [row_at, if_neg (by omega)]
    have n0 : 0 ≤ (t : Int) := by omega
    have n1 : (t : Int) < 300 := by omega
    rw [eX8_feedNumber_2, if_neg (by omega), ht, s6_put1 _ _ n0 n1, bnd_s, push_n, eX8_feedNumber_14, sup_row, r00, ht, e1, e2, Int.toNat_natCast]
    rfl
  have r31 : ∀ (g f : Vec), row (row σ 1 0 g) 0 0 f 1 0 = g := fun g f => by rw [row_at, if_neg (by omega), row_same]
  have cm : ∀ (g f g2 f2 : Vec), row (row (row (row σ 1 0 g) 0 0 f) 1 0 g2) 0 0 f2 = row (row σ 1 0 g2) 0 0 f2 := by
    intro g f g2 f2
    rw [row_comm (row σ 1 0 g) 0 0 1 0 f g2 (by omega), row_row, row_row]
  rw [iX8_feedNumber, eX8_feedNumber_0, st 24 t σ (by omega) (by omega) (by omega) h, st _ (t + 1) _ (by omega) (by omega) (by omega) (by rw [row_same, set_same]), cm, row_same, r31, st _ (t + 1 + 1) _ (by omega) (by omega) (by omega) (by rw [row_same, set_same]), cm, row_same, r31, st _ (t + 1 + 1 + 1) _ (by omega) (by omega) (by omega) (by rw [row_same, set_same]), cm, row_same, r31, eX8_feedNumber_2, if_pos (by omega)]
  simp only [set_set]
  rfl
/-- five numbers -/
def fd5 (f : Int → Int → Int) (r : Vec) (t : Nat) (a b c d e : Int) : Vec := fdV f (fdV f (fdV f (fdV f (fdV f r t a) (t + 4) b) (t + 4 + 4) c) (t + 4 + 4 + 4) d) (t + 4 + 4 + 4 + 4) e
theorem c_feed (t : Nat) (ht : t ≤ 280) (h : σ 0 0 1 = (t : Int)) (a b c d e : Int) : inv N mX8_feed [vR 0 0, vI a, vI b, vI c, vI d, vI e] (P σ) = some (some (vI ((t + 20 : Nat) : Int)), P (row (row σ 1 0 (fd5 cb (σ 1 0) t a b c d e)) 0 0 (set (σ 0 0) 1 ((t + 20 : Nat) : Int)))) := by
  have r1 : ∀ (g f : Vec), row (row σ 1 0 g) 0 0 f 1 0 = g := fun g f => by rw [row_at, if_neg (by omega), row_same]
  have cm : ∀ (g f g2 f2 : Vec), row (row (row (row σ 1 0 g) 0 0 f) 1 0 g2) 0 0 f2 = row (row σ 1 0 g2) 0 0 f2 := by
    intro g f g2 f2
    rw [row_comm (row σ 1 0 g) 0 0 1 0 f g2 (by omega), row_row, row_row]
  rw [iX8_feed, eX8_feed_0, h, if_neg (by omega), c_feedN t (by omega) h, bnd_s, push_n, eX8_feed_9, c_feedN (t + 4) (by omega) (by rw [row_same, set_same]), cm, row_same, r1, bnd_s, push_n, eX8_feed_12, c_feedN (t + 4 + 4) (by omega) (by rw [row_same, set_same]), cm, row_same, r1, bnd_s, push_n, eX8_feed_15, c_feedN (t + 4 + 4 + 4) (by omega) (by rw [row_same, set_same]), cm, row_same, r1, bnd_s, push_n, eX8_feed_18, c_feedN (t + 4 + 4 + 4 + 4) (by omega) (by rw [row_same, set_same]), cm, row_same, r1, bnd_s, push_n, eX8_feed_21, row_same, set_same]
  simp only [set_set]
  rfl
theorem m_feed (t : Nat) (ht : t ≤ 280) (h : σ 30 0 1 = (t : Int)) (a b c d e : Int) : inv N mX9_feed [vR 30 0, vI a, vI b, vI c, vI d, vI e] (P σ) = some (some (vI ((t + 20 : Nat) : Int)), P (row (row σ 31 0 (fd5 mb (σ 31 0) t a b c d e)) 30 0 (set (σ 30 0) 1 ((t + 20 : Nat) : Int)))) := by
  have r1 : ∀ (g f : Vec), row (row σ 31 0 g) 30 0 f 31 0 = g := fun g f => by rw [row_at, if_neg (by omega), row_same]
  have cm : ∀ (g f g2 f2 : Vec), row (row (row (row σ 31 0 g) 30 0 f) 31 0 g2) 30 0 f2 = row (row σ 31 0 g2) 30 0 f2 := by
    intro g f g2 f2
    rw [row_comm (row σ 31 0 g) 30 0 31 0 f g2 (by omega), row_row, row_row]
  have w : w32 ((t : Int) + 20) = (t : Int) + 20 := w32i (by omega) (by omega)
  rw [iX9_feed, eX9_feed_0, h, w, if_neg (by omega), m_puts t (by omega) h, bnd_s, push_n, eX9_feed_11, m_puts (t + 4) (by omega) (by rw [row_same, set_same]), cm, row_same, r1, bnd_s, push_n, eX9_feed_14, m_puts (t + 4 + 4) (by omega) (by rw [row_same, set_same]), cm, row_same, r1, bnd_s, push_n, eX9_feed_17, m_puts (t + 4 + 4 + 4) (by omega) (by rw [row_same, set_same]), cm, row_same, r1, bnd_s, push_n, eX9_feed_20, m_puts (t + 4 + 4 + 4 + 4) (by omega) (by rw [row_same, set_same]), cm, row_same, r1, bnd_s, push_n, eX9_feed_23, row_same, set_same]
  simp only [set_set]
  rfl
end ASK
