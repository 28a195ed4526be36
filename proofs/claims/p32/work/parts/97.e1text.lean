/-! THE TEXT: signs, blanks, words, numbers -/
def byI (n : Nat) (T : Vec) (i : Nat) : Int := if i < n then T i else -1
def skF (n : Nat) (T : Vec) : Nat → Nat → Nat
  | 0, p => p
  | m + 1, p => if byI n T p = 32 then skF n T m (p + 1) else p
def SK (n : Nat) (T : Vec) (p : Nat) : Nat := skF n T (n - p) p
section PURE
variable {n : Nat} {T : Vec}
theorem byI_lt {i : Nat} (h : ¬ byI n T i = -1) : i < n := by
  unfold byI at h
  by_cases q : i < n
  · exact q
  · rw [if_neg q] at h
    exact absurd rfl h
theorem SK_b {p : Nat} (h : byI n T p = 32) : SK n T p = SK n T (p + 1) := by
  have hp : p < n := byI_lt (by rw [h]; decide)
  unfold SK
  rw [show n - p = (n - (p + 1)) + 1 by omega, skF, if_pos h]
theorem SK_n {p : Nat} (h : ¬ byI n T p = 32) : SK n T p = p := by
  unfold SK
  cases n - p with
  | zero => rfl
  | succ m => rw [skF, if_neg h]
theorem skF_le : ∀ (m p : Nat), p + m ≤ n → p ≤ skF n T m p ∧ skF n T m p ≤ n
  | 0, p, h => ⟨Nat.le_refl p, h⟩
  | m + 1, p, h => by
    rw [skF]
    split
    · have := skF_le m (p + 1) (by omega)
      exact ⟨by omega, this.2⟩
    · exact ⟨Nat.le_refl p, by omega⟩
theorem SK_le {p : Nat} (h : p ≤ n) : p ≤ SK n T p ∧ SK n T p ≤ n := skF_le (n - p) p (by omega)
theorem skF_by : ∀ (m p : Nat), p + m = n → ¬ byI n T (skF n T m p) = 32
  | 0, p, h => by
    rw [skF]
    unfold byI
    rw [if_neg (by omega)]
    decide
  | m + 1, p, h => by
    rw [skF]
    split
    · exact skF_by m (p + 1) (by omega)
    · assumption
theorem SK_by {p : Nat} (h : p ≤ n) : ¬ byI n T (SK n T p) = 32 := skF_by (n - p) p (by omega)
theorem SK_SK {p : Nat} (h : p ≤ n) : SK n T (SK n T p) = SK n T p := SK_n (SK_by h)
def DG (b : Int) : Prop := 48 ≤ b ∧ b ≤ 57
def numF (n : Nat) (T : Vec) : Nat → Nat → Int → Int × Nat
  | 0, p, v => (v, p)
  | m + 1, p, v => if 48 ≤ byI n T p ∧ byI n T p ≤ 57 then numF n T m (p + 1) (min (v * 10 + byI n T p - 48) 1000000) else (v, p)
theorem numF_r : ∀ (m p : Nat) (v : Int), p + m ≤ n → 0 ≤ v → v ≤ 1000000 → (0 ≤ (numF n T m p v).1 ∧ (numF n T m p v).1 ≤ 1000000) ∧ p ≤ (numF n T m p v).2 ∧ (numF n T m p v).2 ≤ n
  | 0, p, v, h, h0, h1 => ⟨⟨h0, h1⟩, Nat.le_refl p, h⟩
  | m + 1, p, v, h, h0, h1 => by
    rw [numF]
    split
    · rename_i q
      have := numF_r m (p + 1) (min (v * 10 + byI n T p - 48) 1000000) (by omega) (by omega) (by omega)
      exact ⟨this.1, by omega, this.2.2⟩
    · exact ⟨⟨h0, h1⟩, Nat.le_refl p, by omega⟩
def NUM (n : Nat) (T : Vec) (q : Nat) : Int × Nat := numF n T (n - q) q 0
theorem NUM_r {q : Nat} (h : q ≤ n) : (0 ≤ (NUM n T q).1 ∧ (NUM n T q).1 ≤ 1000000) ∧ q ≤ (NUM n T q).2 ∧ (NUM n T q).2 ≤ n := numF_r (n - q) q 0 (by omega) (by decide) (by decide)
/-- the fault of a number that is wanted at a place, -1 for none -/
def NF1 (n : Nat) (T : Vec) (lo hi : Int) (q : Nat) : Int := if 48 ≤ byI n T q ∧ byI n T q ≤ 57 then (if lo ≤ (NUM n T q).1 ∧ (NUM n T q).1 ≤ hi then -1 else 8 * (q : Int) + 2) else 8 * (q : Int) + 1
theorem NF1_ok {lo hi : Int} {q : Nat} (h : NF1 n T lo hi q = -1) : lo ≤ (NUM n T q).1 ∧ (NUM n T q).1 ≤ hi := by
  unfold NF1 at h
  split at h
  · split at h
    · assumption
    · omega
  · omega
theorem NF1_r {lo hi : Int} {q : Nat} (h : ¬ NF1 n T lo hi q = -1) : 0 ≤ NF1 n T lo hi q := by
  unfold NF1 at h ⊢
  split
  · split
    · rename_i a b
      rw [if_pos a, if_pos b] at h
      exact absurd rfl h
    · omega
  · omega
end PURE
/-- the class's text -/
def CT (n : Nat) (T : Vec) (σ : Sto) : Prop := σ 8 0 2 = (n : Int) ∧ n ≤ 300 ∧ ∀ j, j < 300 → σ 1 0 j = T j
/-- the model's text -/
def MX (n : Nat) (T : Vec) (τ : Sto) : Prop := τ 30 0 1 = (n : Int) ∧ n ≤ 300 ∧ (∀ j, j < 300 → (-128 ≤ τ 31 0 j ∧ τ 31 0 j < 128) ∧ τ 31 0 j % 256 = T j) ∧ ∀ j, j < 300 → 0 ≤ T j ∧ T j < 256
section TOK
variable {N n : Nat} {T : Vec} {σ : Sto}
theorem CT_row {f : Vec} (h : CT n T σ) (h2 : f 2 = σ 8 0 2) : CT n T (row σ 8 0 f) := by
  refine ⟨by rw [row_same, h2]; exact h.1, h.2.1, fun j hj => ?_⟩
  rw [row_at, if_neg (by decide)]
  exact h.2.2 j hj
theorem MX_30 {f : Vec} (h : MX n T σ) (h1 : f 1 = σ 30 0 1) : MX n T (row σ 30 0 f) := by
  refine ⟨by rw [row_same, h1]; exact h.1, h.2.1, fun j hj => ?_, h.2.2.2⟩
  rw [row_at, if_neg (by decide)]
  exact h.2.2.1 j hj
theorem c_byteAt (h : CT n T σ) (i : Nat) : inv N mX4_byteAt [vR 8 0, vI (i : Int)] (P σ) = some (some (vI (byI n T i)), P σ) := by
  obtain ⟨h1, h2, h3⟩ := h
  rw [iX4_byteAt, eX4_byteAt_0, if_neg (by omega), h1]
  unfold byI
  by_cases q : i < n
  · rw [if_pos (by omega), if_pos (by omega), if_neg (by omega), if_pos (by omega), if_pos q, Int.toNat_natCast, h3 i (by omega)]
  · rw [if_neg (by omega), if_neg q]
theorem p_n {p : Nat} (h : p ≤ n) (h2 : n ≤ 300) : w32 ((p : Int) + 1) = ((p + 1 : Nat) : Int) := by rw [w32i (by omega) (by omega)]; omega
theorem c_skip (h : CT n T σ) {p : Nat} (hp : p ≤ n) (h3 : σ 8 0 3 = (p : Int)) : inv N mX4_skipBlanks [vR 8 0] (P σ) = some (none, P (row σ 8 0 (set (σ 8 0) 3 (SK n T p : Int)))) := by
  have lp : ∀ (m p : Nat) (g : Vec), n - p = m → p ≤ n → g 3 = (p : Int) → g 2 = σ 8 0 2 → ev N mX4_skipBlanks 0 [vR 8 0] [] (P (row σ 8 0 g)) = some (none, P (row σ 8 0 (set g 3 (SK n T p : Int)))) := by
    intro m
    induction m with
    | zero =>
      intro p g hm hp g3 g2
      have e : ¬ byI n T p = 32 := by
        unfold byI
        rw [if_neg (by omega)]
        decide
      rw [eX4_skipBlanks_0, row_same, g3, g2, h.1, if_neg (by omega), SK_n e, ← g3, set_id]
    | succ m ih =>
      intro p g hm hp g3 g2
      rw [eX4_skipBlanks_0, row_same, g3, g2, h.1, if_pos (by omega), c_byteAt (CT_row h g2), bnd_s, push_s, eX4_skipBlanks_9]
      by_cases q : byI n T p = 32
      · rw [if_pos q, sup_row, row_same, row_row, g3, p_n hp h.2.1, ih (p + 1) (set g 3 ((p + 1 : Nat) : Int)) (by omega) (by omega) (set_same _ _ _) (by rw [set_ne _ _ (by decide), g2]), set_set, SK_b q]
      · rw [if_neg q, SK_n q, ← g3, set_id]
  have z := lp (n - p) p (σ 8 0) rfl hp h3 rfl
  rw [row_id] at z
  exact z
theorem c_digit (b : Int) : inv N mX4_isDigit [vI b] (P σ) = some (some (vI (if 48 ≤ b ∧ b ≤ 57 then 1 else 0)), P σ) := by
  rw [iX4_isDigit, eX4_isDigit_0]
  by_cases q1 : b < 48
  · rw [if_pos q1, if_neg (by omega)]
  · rw [if_neg q1]
    by_cases q2 : 57 < b
    · rw [if_pos q2, if_neg (by omega)]
    · rw [if_neg q2, if_pos (by omega)]
theorem c_letter (b : Int) : inv N mX4_isLetter [vI b] (P σ) = some (some (vI (if 97 ≤ b ∧ b ≤ 122 then 1 else 0)), P σ) := by
  rw [iX4_isLetter, eX4_isLetter_0]
  by_cases q1 : b < 97
  · rw [if_pos q1, if_neg (by omega)]
  · rw [if_neg q1]
    by_cases q2 : 122 < b
    · rw [if_pos q2, if_neg (by omega)]
    · rw [if_neg q2, if_pos (by omega)]
theorem c_fail (p k : Nat) (hp : p ≤ 300) (hk : k < 8) : inv N mX4_fail [vR 8 0, vI (p : Int), vI (k : Int)] (P σ) = some (some (vI 0), P (row σ 8 0 (set (σ 8 0) 4 (8 * (p : Int) + (k : Int))))) := by
  have e : w32 (w32 (8 * (p : Int)) + (k : Int)) = 8 * (p : Int) + (k : Int) := by rw [w32i (x := 8 * (p : Int)) (by omega) (by omega), w32i (by omega) (by omega)]
  rw [iX4_fail, eX4_fail_0, e, sup_row]
theorem m_sign (h : MX n T σ) {p : Nat} (hp : p ≤ n) (h2 : σ 30 0 2 = (p : Int)) : inv N mX9_sign [vR 30 0] (P σ) = some (some (vI (byI n T p)), P σ) := by
  obtain ⟨h1, h300, h3, -⟩ := h
  rw [iX9_sign, eX9_sign_0, h2, h1]
  unfold byI
  by_cases q : p < n
  · rw [if_pos (by omega), if_neg (by omega), if_pos (by omega), if_pos q, Int.toNat_natCast, bAnd_255, (h3 p (by omega)).2]
  · rw [if_neg (by omega), if_neg q]
theorem m_next (h : MX n T σ) {p : Nat} (hp : p ≤ n) (h2 : σ 30 0 2 = (p : Int)) : inv N mX9_nextSign [vR 30 0] (P σ) = some (some (vI (byI n T (SK n T p))), P (row σ 30 0 (set (σ 30 0) 2 (SK n T p : Int)))) := by
  have lp : ∀ (m p : Nat) (g : Vec), n - p = m → p ≤ n → g 2 = (p : Int) → g 1 = σ 30 0 1 → ev N mX9_nextSign 0 [vR 30 0] [] (P (row σ 30 0 g)) = some (some (vI (byI n T (SK n T p))), P (row σ 30 0 (set g 2 (SK n T p : Int)))) := by
    intro m
    induction m with
    | zero =>
      intro p g hm hp g2 g1
      have e : byI n T p = -1 := by
        unfold byI
        rw [if_neg (by omega)]
      have sg := m_sign (N := N) (MX_30 h g1) hp (by rw [row_same]; exact g2)
      rw [eX9_nextSign_0, sg, bnd_s, push_s, eX9_nextSign_2, if_neg (by rw [e]; decide), sg, bnd_s, push_s, eX9_nextSign_13, SK_n (by rw [e]; decide), ← g2, set_id]
    | succ m ih =>
      intro p g hm hp g2 g1
      have sg := m_sign (N := N) (MX_30 h g1) hp (by rw [row_same]; exact g2)
      rw [eX9_nextSign_0, sg, bnd_s, push_s, eX9_nextSign_2]
      by_cases q : byI n T p = 32
      · rw [if_pos q, sup_row, row_same, row_row, g2, p_n hp h.2.1, ih (p + 1) (set g 2 ((p + 1 : Nat) : Int)) (by omega) (by omega) (set_same _ _ _) (by rw [set_ne _ _ (by decide), g1]), set_set, SK_b q]
      · rw [if_neg q, sg, bnd_s, push_s, eX9_nextSign_13, SK_n q, ← g2, set_id]
  have z := lp (n - p) p (σ 30 0) rfl hp h2 rfl
  rw [row_id] at z
  exact z
theorem m_digit (h : MX n T σ) {p : Nat} (hp : p ≤ n) (h2 : σ 30 0 2 = (p : Int)) : inv N mX9_isDigit [vR 30 0] (P σ) = some (some (vI (if 48 ≤ byI n T p ∧ byI n T p ≤ 57 then 1 else 0)), P σ) := by
  rw [iX9_isDigit, eX9_isDigit_0, m_sign h hp h2, bnd_s, push_s, eX9_isDigit_2, s9_in, bnd_s, push_s, eX9_isDigit_6]
  split
  · rw [if_neg (by decide), if_pos rfl]
  · rw [if_pos rfl]
theorem m_right : inv N mX9_isRight [vR 30 0] (P σ) = some (some (vI (if σ 30 0 3 = -1 then 1 else 0)), P σ) := by
  rw [iX9_isRight, eX9_isRight_0]
  split <;> rfl
theorem m_fails (p k : Nat) (hp : p ≤ 300) (hk : k < 8) : inv N mX9_fails [vR 30 0, vI (k : Int), vI (p : Int)] (P σ) = some (none, P (row σ 30 0 (set (σ 30 0) 3 (if σ 30 0 3 = -1 then 8 * (p : Int) + (k : Int) else σ 30 0 3)))) := by
  have e : w32 (w32 (8 * (p : Int)) + (k : Int)) = 8 * (p : Int) + (k : Int) := by rw [w32i (x := 8 * (p : Int)) (by omega) (by omega), w32i (by omega) (by omega)]
  rw [iX9_fails, eX9_fails_0, e, sup_row]
  split
  · rfl
  · rw [set_id, row_id]
end TOK
