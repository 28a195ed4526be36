section
/-! THE TEXT: signs, blanks, words, numbers -/
def byI (n : Nat) (T : Vec) (i : Nat) : Int := if i < n then T i else -1
def skF (n : Nat) (T : Vec) : Nat → Nat → Nat
  | 0, p => p
  | m + 1, p => if byI n T p = 32 then skF n T m (p + 1) else p
def SK (n : Nat) (T : Vec) (p : Nat) : Nat := skF n T (n - p) p
section PURE
variable {n : Nat} {T : Vec}
theorem byI_lt {i : Nat} (h : ¬ byI n T i = -1) : i < n := by
  unfold byI at h
  by_cases q : i < n
  · exact q
  · rw [if_neg q] at h
    exact absurd rfl h
theorem SK_b {p : Nat} (h : byI n T p = 32) : SK n T p = SK n T (p + 1) := by
  have hp : p < n := byI_lt (by rw [h]; decide)
  unfold SK
  rw [show n - p = (n - (p + 1)) + 1 by omega, skF, if_pos h]
theorem SK_n {p : Nat} (h : ¬ byI n T p = 32) : SK n T p = p := by
  unfold SK
  cases n - p with
  | zero => rfl
  | succ m => rw [skF, if_neg h]
theorem skF_le : ∀ (m p : Nat), p + m ≤ n → p ≤ skF n T m p ∧ skF n T m p ≤ n
  | 0, p, h => ⟨Nat.le_refl p, h⟩
  | m + 1, p, h => by
    rw [skF]
    split
    · have := skF_le m (p + 1) (by omega)
      exact ⟨by omega, this.2⟩
    · exact ⟨Nat.le_refl p, by omega⟩
theorem SK_le {p : Nat} (h : p ≤ n) : p ≤ SK n T p ∧ SK n T p ≤ n := skF_le (n - p) p (by omega)
theorem skF_by : ∀ (m p : Nat), p + m = n → ¬ byI n T (skF n T m p) = 32
  | 0, p, h => by
    rw [skF]
    unfold byI
    rw [if_neg (by omega)]
    decide
  | m + 1, p, h => by
    rw [skF]
    split
    · exact skF_by m (p + 1) (by omega)
    · assumption
theorem SK_by {p : Nat} (h : p ≤ n) : ¬ byI n T (SK n T p) = 32 := skF_by (n - p) p (by omega)
theorem SK_SK {p : Nat} (h : p ≤ n) : SK n T (SK n T p) = SK n T p := SK_n (SK_by h)
def DG (b : Int) : Prop := 48 ≤ b ∧ b ≤ 57
def numF (n : Nat) (T : Vec) : Nat → Nat → Int → Int × Nat
  | 0, p, v => (v, p)
  | m + 1, p, v => if 48 ≤ byI n T p ∧ byI n T p ≤ 57 then numF n T m (p + 1) (min (v * 10 + byI n T p - 48) 1000000) else (v, p)
theorem numF_r : ∀ (m p : Nat) (v : Int), p + m ≤ n → 0 ≤ v → v ≤ 1000000 → (0 ≤ (numF n T m p v).1 ∧ (numF n T m p v).1 ≤ 1000000) ∧ p ≤ (numF n T m p v).2 ∧ (numF n T m p v).2 ≤ n
  | 0, p, v, h, h0, h1 => ⟨⟨h0, h1⟩, Nat.le_refl p, h⟩
  | m + 1, p, v, h, h0, h1 => by
    rw [numF]
    split
    · rename_i q
      have := numF_r m (p + 1) (min (v * 10 + byI n T p - 48) 1000000) (by omega) (by omega) (by omega)
      exact ⟨this.1, by omega, this.2.2⟩
    · exact ⟨⟨h0, h1⟩, Nat.le_refl p, by omega⟩
def NUM (n : Nat) (T : Vec) (q : Nat) : Int × Nat := numF n T (n - q) q 0
theorem NUM_r {q : Nat} (h : q ≤ n) : (0 ≤ (NUM n T q).1 ∧ (NUM n T q).1 ≤ 1000000) ∧ q ≤ (NUM n T q).2 ∧ (NUM n T q).2 ≤ n := numF_r (n - q) q 0 (by omega) (by decide) (by decide)
/-- the fault of a number that is wanted at a place, -1 for none -/
def NF1 (n : Nat) (T : Vec) (lo hi : Int) (q : Nat) : Int := if 48 ≤ byI n T q ∧ byI n T q ≤ 57 then (if lo ≤ (NUM n T q).1 ∧ (NUM n T q).1 ≤ hi then -1 else 8 * (q : Int) + 2) else 8 * (q : Int) + 1
theorem NF1_ok {lo hi : Int} {q : Nat} (h : NF1 n T lo hi q = -1) : lo ≤ (NUM n T q).1 ∧ (NUM n T q).1 ≤ hi := by
  unfold NF1 at h
  split at h
  · split at h
    · assumption
    · omega
  · omega
theorem NF1_r {lo hi : Int} {q : Nat} (h : ¬ NF1 n T lo hi q = -1) : 0 ≤ NF1 n T lo hi q := by
  unfold NF1 at h ⊢
  split
  · split
    · rename_i a b
      rw [if_pos a, if_pos b] at h
      exact absurd rfl h
    · omega
  · omega
end PURE
/-- the class's text -/
def CT (n : Nat) (T : Vec) (σ : Sto) : Prop := σ 8 0 2 = (n : Int) ∧ n ≤ 300 ∧ ∀ j, j < 300 → σ 1 0 j = T j
/-- the model's text -/
def MX (n : Nat) (T : Vec) (τ : Sto) : Prop := τ 30 0 1 = (n : Int) ∧ n ≤ 300 ∧ (∀ j, j < 300 → (-128 ≤ τ 31 0 j ∧ τ 31 0 j < 128) ∧ τ 31 0 j % 256 = T j) ∧ ∀ j, j < 300 → 0 ≤ T j ∧ T j < 256
section TOK
variable {N n : Nat} {T : Vec} {σ : Sto}
theorem CT_row {f : Vec} (h : CT n T σ) (h2 : f 2 = σ 8 0 2) : CT n T (row σ 8 0 f) := by
  refine ⟨by rw [row_same, h2]; exact h.1, h.2.1, fun j hj => ?_⟩
  rw [row_at, if_neg (by decide)]
  exact h.2.2 j hj
theorem MX_30 {f : Vec} (h : MX n T σ) (h1 : f 1 = σ 30 0 1) : MX n T (row σ 30 0 f) := by
  refine ⟨by rw [row_same, h1]; exact h.1, h.2.1, fun j hj => ?_, h.2.2.2⟩
  rw [row_at, if_neg (by decide)]
  exact h.2.2.1 j hj
theorem c_byteAt (h : CT n T σ) (i : Nat) : inv N mX4_byteAt [vR 8 0, vI (i : Int)] (P σ) = some (some (vI (byI n T i)), P σ) := by
  obtain ⟨h1, h2, h3⟩ := h
  rw [iX4_byteAt, eX4_byteAt_0, if_neg (by omega), h1]
  unfold byI
  by_cases q : i < n
  · rw [if_pos (by omega), if_pos (by omega), if_neg (by omega), if_pos (by omega), if_pos q, Int.toNat_natCast, h3 i (by omega)]
  · rw [if_neg (by omega), if_neg q]
theorem p_n {p : Nat} (h : p ≤ n) (h2 : n ≤ 300) : w32 ((p : Int) + 1) = ((p + 1 : Nat) : Int) := by rw [w32i (by omega) (by omega)]; omega
theorem c_skip (h : CT n T σ) {p : Nat} (hp : p ≤ n) (h3 : σ 8 0 3 = (p : Int)) : inv N mX4_skipBlanks [vR 8 0] (P σ) = some (none, P (row σ 8 0 (set (σ 8 0) 3 (SK n T p : Int)))) := by
  have lp : ∀ (m p : Nat) (g : Vec), n - p = m → p ≤ n → g 3 = (p : Int) → g 2 = σ 8 0 2 → ev N mX4_skipBlanks 0 [vR 8 0] [] (P (row σ 8 0 g)) = some (none, P (row σ 8 0 (set g 3 (SK n T p : Int)))) := by
    intro m
    induction m with
    | zero =>
      intro p g hm hp g3 g2
      have e : ¬ byI n T p = 32 := by
        unfold byI
        rw [if_neg (by omega)]
        decide
      rw [eX4_skipBlanks_0, row_same, g3, g2, h.1, if_neg (by omega), SK_n e, ← g3, set_id]
    | succ m ih =>
      intro p g hm hp g3 g2
      rw [eX4_skipBlanks_0, row_same, g3, g2, h.1, if_pos (by omega), c_byteAt (CT_row h g2), bnd_s, push_s, eX4_skipBlanks_9]
      by_cases q : byI n T p = 32
      · rw [if_pos q, sup_row, row_same, row_row, g3, p_n hp h.2.1, ih (p + 1) (set g 3 ((p + 1 : Nat) : Int)) (by omega) (by omega) (set_same _ _ _) (by rw [set_ne _ _ (by decide), g2]), set_set, SK_b q]
      · rw [if_neg q, SK_n q, ← g3, set_id]
  have z := lp (n - p) p (σ 8 0) rfl hp h3 rfl
  rw [row_id] at z
  exact z
theorem c_digit (b : Int) : inv N mX4_isDigit [vI b] (P σ) = some (some (vI (if 48 ≤ b ∧ b ≤ 57 then 1 else 0)), P σ) := by
  rw [iX4_isDigit, eX4_isDigit_0]
  by_cases q1 : b < 48
  · rw [if_pos q1, if_neg (by omega)]
  · rw [if_neg q1]
    by_cases q2 : 57 < b
    · rw [if_pos q2, if_neg (by omega)]
    · rw [if_neg q2, if_pos (by omega)]
theorem c_letter (b : Int) : inv N mX4_isLetter [vI b] (P σ) = some (some (vI (if 97 ≤ b ∧ b ≤ 122 then 1 else 0)), P σ) := by
  rw [iX4_isLetter, eX4_isLetter_0]
  by_cases q1 : b < 97
  · rw [if_pos q1, if_neg (by omega)]
  · rw [if_neg q1]
    by_cases q2 : 122 < b
    · rw [if_pos q2, if_neg (by omega)]
    · rw [if_neg q2, if_pos (by omega)]
theorem c_fail (p k : Nat) (hp : p ≤ 300) (hk : k < 8) : inv N mX4_fail [vR 8 0, vI (p : Int), vI (k : Int)] (P σ) = some (some (vI 0), P (row σ 8 0 (set (σ 8 0) 4 (8 * (p : Int) + (k : Int))))) := by
  have e : w32 (w32 (8 * (p : Int)) + (k : Int)) = 8 * (p : Int) + (k : Int) := by rw [w32i (x := 8 * (p : Int)) (by omega) (by omega), w32i (by omega) (by omega)]
  rw [iX4_fail, eX4_fail_0, e, sup_row]
theorem m_sign (h : MX n T σ) {p : Nat} (hp : p ≤ n) (h2 : σ 30 0 2 = (p : Int)) : inv N mX9_sign [vR 30 0] (P σ) = some (some (vI (byI n T p)), P σ) := by
  obtain ⟨h1, h300, h3, -⟩ := h
  rw [iX9_sign, eX9_sign_0, h2, h1]
  unfold byI
  by_cases q : p < n
  · rw [if_pos (by omega), if_neg (by omega), if_pos (by omega), if_pos q, Int.toNat_natCast, bAnd_255, (h3 p (by omega)).2]
  · rw [if_neg (by omega), if_neg q]
theorem m_next (h : MX n T σ) {p : Nat} (hp : p ≤ n) (h2 : σ 30 0 2 = (p : Int)) : inv N mX9_nextSign [vR 30 0] (P σ) = some (some (vI (byI n T (SK n T p))), P (row σ 30 0 (set (σ 30 0) 2 (SK n T p : Int)))) := by
  have lp : ∀ (m p : Nat) (g : Vec), n - p = m → p ≤ n → g 2 = (p : Int) → g 1 = σ 30 0 1 → ev N mX9_nextSign 0 [vR 30 0] [] (P (row σ 30 0 g)) = some (some (vI (byI n T (SK n T p))), P (row σ 30 0 (set g 2 (SK n T p : Int)))) := by
    intro m
    induction m with
    | zero =>
      intro p g hm hp g2 g1
      have e : byI n T p = -1 := by
        unfold byI
        rw [if_neg (by omega)]
      have sg := m_sign (N := N) (MX_30 h g1) hp (by rw [row_same]; exact g2)
      rw [eX9_nextSign_0, sg, bnd_s, push_s, eX9_nextSign_2, if_neg (by rw [e]; decide), sg, bnd_s, push_s, eX9_nextSign_13, SK_n (by rw [e]; decide), ← g2, set_id]
    | succ m ih =>
      intro p g hm hp g2 g1
      have sg := m_sign (N := N) (MX_30 h g1) hp (by rw [row_same]; exact g2)
      rw [eX9_nextSign_0, sg, bnd_s, push_s, eX9_nextSign_2]
      by_cases q : byI n T p = 32
      · rw [if_pos q, sup_row, row_same, row_row, g2, p_n hp h.2.1, ih (p + 1) (set g 2 ((p + 1 : Nat) : Int)) (by omega) (by omega) (set_same _ _ _) (by rw [set_ne _ _ (by decide), g1]), set_set, SK_b q]
      · rw [if_neg q, sg, bnd_s, push_s, eX9_nextSign_13, SK_n q, ← g2, set_id]
  have z := lp (n - p) p (σ 30 0) rfl hp h2 rfl
  rw [row_id] at z
  exact z
theorem m_digit (h : MX n T σ) {p : Nat} (hp : p ≤ n) (h2 : σ 30 0 2 = (p : Int)) : inv N mX9_isDigit [vR 30 0] (P σ) = some (some (vI (if 48 ≤ byI n T p ∧ byI n T p ≤ 57 then 1 else 0)), P σ) := by
  rw [iX9_isDigit, eX9_isDigit_0, m_sign h hp h2, bnd_s, push_s, eX9_isDigit_2, s9_in, bnd_s, push_s, eX9_isDigit_6]
  split
  · rw [if_neg (by decide), if_pos rfl]
  · rw [if_pos rfl]
theorem m_right : inv N mX9_isRight [vR 30 0] (P σ) = some (some (vI (if σ 30 0 3 = -1 then 1 else 0)), P σ) := by
  rw [iX9_isRight, eX9_isRight_0]
  split <;> rfl
theorem m_fails (p k : Nat) (hp : p ≤ 300) (hk : k < 8) : inv N mX9_fails [vR 30 0, vI (k : Int), vI (p : Int)] (P σ) = some (none, P (row σ 30 0 (set (σ 30 0) 3 (if σ 30 0 3 = -1 then 8 * (p : Int) + (k : Int) else σ 30 0 3)))) := by
  have e : w32 (w32 (8 * (p : Int)) + (k : Int)) = 8 * (p : Int) + (k : Int) := by rw [w32i (x := 8 * (p : Int)) (by omega) (by omega), w32i (by omega) (by omega)]
  rw [iX9_fails, eX9_fails_0, e, sup_row]
  split
  · rfl
  · rw [set_id, row_id]
end TOK
end
section
/-! NUMBERS of the text -/
section TOK
variable {N n : Nat} {T : Vec} {σ : Sto}
noncomputable def tailC (N : Nat) (lo hi : Int) (ρ : Sto) : Option Out := if ρ 8 0 5 < lo then bnd (inv N mX4_fail [vR 8 0, vI (ρ 8 0 6), vI 2] (P ρ)) (fun r S2 => ev N mX4_takeNumber 67 [vR 8 0, vI lo, vI hi] (push r []) S2) else if hi < ρ 8 0 5 then bnd (inv N mX4_fail [vR 8 0, vI (ρ 8 0 6), vI 2] (P ρ)) (fun r S2 => ev N mX4_takeNumber 67 [vR 8 0, vI lo, vI hi] (push r []) S2) else some (some (vI 1), P ρ)
theorem num_w {v b : Int} (h0 : 0 ≤ v) (h1 : v ≤ 1000000) (d : 48 ≤ b ∧ b ≤ 57) : w32 (w32 (w32 (v * 10) + b) - 48) = v * 10 + b - 48 ∧ w32 (w32 (w32 (10 * v) + b) - 48) = v * 10 + b - 48 := by
  rw [w32i (x := v * 10) (by omega) (by omega), w32i (x := 10 * v) (by omega) (by omega), w32i (x := v * 10 + b) (by omega) (by omega), w32i (x := 10 * v + b) (by omega) (by omega), w32i (x := v * 10 + b - 48) (by omega) (by omega), w32i (x := 10 * v + b - 48) (by omega) (by omega)]
  omega
theorem c_num_loop (h : CT n T σ) (lo hi : Int) : ∀ (m p : Nat) (v : Int) (g : Vec), n - p = m → p ≤ n → g 3 = (p : Int) → g 5 = v → g 2 = σ 8 0 2 → 0 ≤ v → v ≤ 1000000 → ev N mX4_takeNumber 21 [vR 8 0, vI lo, vI hi] [] (P (row σ 8 0 g)) = tailC N lo hi (row σ 8 0 (set (set g 5 (numF n T m p v).1) 3 ((numF n T m p v).2 : Int))) := by
  intro m
  induction m with
  | zero =>
    intro p v g hm hp g3 g5 g2 v0 v1
    have e : set (set g 5 v) 3 (p : Int) = g := by rw [← g5, set_id, ← g3, set_id]
    rw [eX4_takeNumber_21, row_same, g3, g2, h.1, if_neg (by omega), numF, e]
    unfold tailC
    rw [row_same]
  | succ m ih =>
    intro p v g hm hp g3 g5 g2 v0 v1
    have e : set (set g 5 v) 3 (p : Int) = g := by rw [← g5, set_id, ← g3, set_id]
    have ba := c_byteAt (N := N) (CT_row h g2) p
    rw [eX4_takeNumber_21, row_same, g3, g2, h.1, if_pos (by omega), ba, bnd_s, push_s, eX4_takeNumber_30, c_digit, bnd_s, push_s, eX4_takeNumber_31, numF]
    by_cases q : 48 ≤ byI n T p ∧ byI n T p ≤ 57
    · rw [if_pos q, if_neg (by decide), row_same, g3, g5, ba, bnd_s, push_s, eX4_takeNumber_41, if_pos q, (num_w v0 v1 q).1]
      simp only [sup_row, row_same, row_row]
      rw [set_ne _ _ (show 3 ≠ 5 by decide), g3, p_n hp h.2.1]
      rw [ih (p + 1) (min (v * 10 + byI n T p - 48) 1000000) _ (by omega) (by omega) (set_same _ _ _) (by rw [set_ne _ _ (by decide), set_same]) (by rw [set_ne _ _ (by decide), set_ne _ _ (by decide), g2]) (by omega) (by omega)]
      rw [set_comm (set g 5 (min (v * 10 + byI n T p - 48) 1000000)) 3 5 _ _ (by decide), set_set, set_set]
    · rw [if_neg q, if_pos rfl, if_neg q, e]
      unfold tailC
      rw [row_same]
theorem c_number (h : CT n T σ) {p : Nat} (hp : p ≤ n) (h3 : σ 8 0 3 = (p : Int)) (h4 : σ 8 0 4 = -1) (lo hi : Int) : ∃ g : Vec, inv N mX4_takeNumber [vR 8 0, vI lo, vI hi] (P σ) = some (some (vI (if NF1 n T lo hi (SK n T p) = -1 then 1 else 0)), P (row σ 8 0 g)) ∧ g 4 = NF1 n T lo hi (SK n T p) ∧ (NF1 n T lo hi (SK n T p) = -1 → g 3 = ((NUM n T (SK n T p)).2 : Int) ∧ g 5 = (NUM n T (SK n T p)).1 ∧ g 6 = (SK n T p : Int)) ∧ g 2 = σ 8 0 2 ∧ ∀ j, 7 ≤ j → g j = σ 8 0 j := by
  have sk := SK_le (T := T) hp
  have n3 := h.2.1
  generalize hq : SK n T p = q at sk
  have cs := c_skip (N := N) h hp h3
  rw [hq] at cs
  rw [iX4_takeNumber, eX4_takeNumber_0, cs, bnd_s, push_n, eX4_takeNumber_2]
  simp only [sup_row, row_same, row_row, set_same]
  rw [set_ne _ _ (show 3 ≠ 6 by decide), set_same]
  have g2 : set (set (σ 8 0) 3 (q : Int)) 6 (q : Int) 2 = σ 8 0 2 := by rw [set_ne _ _ (by decide), set_ne _ _ (by decide)]
  rw [c_byteAt (CT_row h g2), bnd_s, push_s, eX4_takeNumber_10, c_digit, bnd_s, push_s, eX4_takeNumber_11]
  unfold NF1
  by_cases d : 48 ≤ byI n T q ∧ byI n T q ≤ 57
  · rw [if_pos d, if_neg (by decide), sup_row, row_same, row_row, if_pos d]
    have lp := c_num_loop (N := N) h lo hi (n - q) q 0 (set (set (set (σ 8 0) 3 (q : Int)) 6 (q : Int)) 5 0) rfl sk.2 (by rw [set_ne _ _ (by decide), set_ne _ _ (by decide), set_same]) (set_same _ _ _) (by rw [set_ne _ _ (by decide), g2]) (by decide) (by decide)
    have ee : numF n T (n - q) q 0 = NUM n T q := rfl
    rw [ee] at lp
    rw [lp]
    unfold tailC
    have r5 : set (set (set (set (set (σ 8 0) 3 (q : Int)) 6 (q : Int)) 5 0) 5 (NUM n T q).1) 3 ((NUM n T q).2 : Int) 5 = (NUM n T q).1 := by rw [set_ne _ _ (by decide), set_same]
    have r6 : set (set (set (set (set (σ 8 0) 3 (q : Int)) 6 (q : Int)) 5 0) 5 (NUM n T q).1) 3 ((NUM n T q).2 : Int) 6 = (q : Int) := by rw [set_ne _ _ (by decide), set_ne _ _ (by decide), set_ne _ _ (by decide), set_same]
    have r4 : set (set (set (set (set (σ 8 0) 3 (q : Int)) 6 (q : Int)) 5 0) 5 (NUM n T q).1) 3 ((NUM n T q).2 : Int) 4 = -1 := by rw [set_ne _ _ (by decide), set_ne _ _ (by decide), set_ne _ _ (by decide), set_ne _ _ (by decide), set_ne _ _ (by decide), h4]
    have r3 : set (set (set (set (set (σ 8 0) 3 (q : Int)) 6 (q : Int)) 5 0) 5 (NUM n T q).1) 3 ((NUM n T q).2 : Int) 3 = ((NUM n T q).2 : Int) := set_same _ _ _
    have ro : ∀ j, j = 2 ∨ 7 ≤ j → set (set (set (set (set (σ 8 0) 3 (q : Int)) 6 (q : Int)) 5 0) 5 (NUM n T q).1) 3 ((NUM n T q).2 : Int) j = σ 8 0 j := fun j hj => by rw [set_ne _ _ (by omega), set_ne _ _ (by omega), set_ne _ _ (by omega), set_ne _ _ (by omega), set_ne _ _ (by omega)]
    generalize set (set (set (set (set (σ 8 0) 3 (q : Int)) 6 (q : Int)) 5 0) 5 (NUM n T q).1) 3 ((NUM n T q).2 : Int) = g at r3 r4 r5 r6 ro
    generalize (NUM n T q).1 = v at r5
    rw [row_same, r5, r6]
    have cf := c_fail (N := N) (σ := row σ 8 0 g) q 2 (by omega) (by decide)
    rw [Int.cast_ofNat_Int, row_same, row_row] at cf
    have bad : ¬ (lo ≤ v ∧ v ≤ hi) → ∃ g2 : Vec, some (some (vI 0), P (row σ 8 0 (set g 4 (8 * (q : Int) + 2)))) = some (some (vI (if (if lo ≤ v ∧ v ≤ hi then (-1 : Int) else 8 * (q : Int) + 2) = -1 then 1 else 0)), P (row σ 8 0 g2)) ∧ g2 4 = (if lo ≤ v ∧ v ≤ hi then (-1 : Int) else 8 * (q : Int) + 2) ∧ ((if lo ≤ v ∧ v ≤ hi then (-1 : Int) else 8 * (q : Int) + 2) = -1 → g2 3 = ((NUM n T q).2 : Int) ∧ g2 5 = v ∧ g2 6 = (q : Int)) ∧ g2 2 = σ 8 0 2 ∧ ∀ j, 7 ≤ j → g2 j = σ 8 0 j := by
      intro b
      have nz : ¬ 8 * (q : Int) + 2 = -1 := by omega
      rw [if_neg b, if_neg nz]
      exact ⟨_, rfl, set_same _ _ _, fun z => absurd z nz, by rw [set_ne _ _ (by decide)]; exact ro 2 (Or.inl rfl), fun j hj => by rw [set_ne _ _ (by omega)]; exact ro j (Or.inr hj)⟩
    by_cases c1 : v < lo
    · rw [if_pos c1, cf, bnd_s, push_s, eX4_takeNumber_67, if_pos rfl]
      exact bad (by omega)
    · rw [if_neg c1]
      by_cases c2 : hi < v
      · rw [if_pos c2, cf, bnd_s, push_s, eX4_takeNumber_67, if_pos rfl]
        exact bad (by omega)
      · rw [if_neg c2, if_pos (show lo ≤ v ∧ v ≤ hi by omega), if_pos rfl]
        exact ⟨g, rfl, r4, fun _ => ⟨r3, r5, r6⟩, ro 2 (Or.inl rfl), fun j hj => ro j (Or.inr hj)⟩
  · have cf := c_fail (N := N) (σ := row σ 8 0 (set (set (σ 8 0) 3 (q : Int)) 6 (q : Int))) q 1 (by omega) (by decide)
    rw [Int.cast_ofNat_Int, row_same, row_row] at cf
    have nz : ¬ 8 * (q : Int) + 1 = -1 := by omega
    rw [if_neg d, if_pos rfl, row_same, set_ne _ _ (show 3 ≠ 6 by decide), set_same, cf, bnd_s, push_s, eX4_takeNumber_17, if_pos rfl, if_neg d, if_neg nz]
    refine ⟨_, rfl, set_same _ _ _, fun z => absurd z nz, by rw [set_ne _ _ (by decide)]; exact g2, fun j hj => ?_⟩
    rw [set_ne _ _ (by omega), set_ne _ _ (by omega), set_ne _ _ (by omega)]
theorem m_num_loop (h : MX n T σ) (lo hi : Int) : ∀ (m p : Nat) (v : Int) (f : Vec), n - p = m → p ≤ n → f 2 = (p : Int) → f 3 = -1 → f 1 = σ 30 0 1 → 0 ≤ v → v ≤ 1000000 → ev N mX9_number 20 [vR 30 0, vI lo, vI hi, vI v] [] (P (row σ 30 0 f)) = ev N mX9_number 46 [vR 30 0, vI lo, vI hi, vI (numF n T m p v).1] [vI 1] (P (row σ 30 0 (set f 2 ((numF n T m p v).2 : Int)))) := by
  intro m
  induction m with
  | zero =>
    intro p v f hm hp f2 f3 f1 v0 v1
    have e : byI n T p = -1 := by
      unfold byI
      rw [if_neg (by omega)]
    have r := m_right (N := N) (σ := row σ 30 0 f)
    rw [row_same, if_pos f3] at r
    have dg := m_digit (N := N) (MX_30 h f1) hp (by rw [row_same]; exact f2)
    rw [eX9_number_20, r, bnd_s, push_s, eX9_number_22, if_neg (by decide), dg, bnd_s, push_s, if_neg (by rw [e]; decide), eX9_number_25, if_pos rfl, r, bnd_s, push_s, numF, ← f2, set_id]
  | succ m ih =>
    intro p v f hm hp f2 f3 f1 v0 v1
    have r := m_right (N := N) (σ := row σ 30 0 f)
    rw [row_same, if_pos f3] at r
    have dg := m_digit (N := N) (MX_30 h f1) hp (by rw [row_same]; exact f2)
    have sg := m_sign (N := N) (MX_30 h f1) hp (by rw [row_same]; exact f2)
    rw [eX9_number_20, r, bnd_s, push_s, eX9_number_22, if_neg (by decide), dg, bnd_s, push_s, eX9_number_25, numF]
    by_cases q : 48 ≤ byI n T p ∧ byI n T p ≤ 57
    · have mn : min 1000000 (v * 10 + byI n T p - 48) = min (v * 10 + byI n T p - 48) 1000000 := by omega
      rw [if_pos q, if_neg (by decide), sg, bnd_s, push_s, eX9_number_32, if_pos q, (num_w v0 v1 q).2, mn, sup_row, row_same, row_row, f2, p_n hp h.2.1]
      rw [ih (p + 1) (min (v * 10 + byI n T p - 48) 1000000) _ (by omega) (by omega) (set_same _ _ _) (by rw [set_ne _ _ (by decide), f3]) (by rw [set_ne _ _ (by decide), f1]) (by omega) (by omega), set_set]
    · rw [if_neg q, if_pos rfl, r, bnd_s, push_s, if_neg q, ← f2, set_id]
theorem m_number (h : MX n T σ) {p : Nat} (hp : p ≤ n) (h2 : σ 30 0 2 = (p : Int)) (h3 : σ 30 0 3 = -1) (lo hi : Int) : ∃ (x : Int) (f : Vec) (e : Nat), inv N mX9_number [vR 30 0, vI lo, vI hi] (P σ) = some (some (vI x), P (row σ 30 0 f)) ∧ f 3 = NF1 n T lo hi (SK n T p) ∧ f 2 = (e : Int) ∧ e ≤ n ∧ (NF1 n T lo hi (SK n T p) = -1 → x = (NUM n T (SK n T p)).1 ∧ e = (NUM n T (SK n T p)).2 ∧ f 4 = (SK n T p : Int)) ∧ ∀ j, j ≠ 2 → j ≠ 3 → j ≠ 4 → f j = σ 30 0 j := by
  have sk := SK_le (T := T) hp
  have n3 := h.2.1
  have mn := m_next (N := N) h hp h2
  generalize hq : SK n T p = q at sk mn
  have f1 : set (set (σ 30 0) 2 (q : Int)) 4 (q : Int) 1 = σ 30 0 1 := by rw [set_ne _ _ (by decide), set_ne _ _ (by decide)]
  have f2 : set (set (σ 30 0) 2 (q : Int)) 4 (q : Int) 2 = (q : Int) := by rw [set_ne _ _ (by decide), set_same]
  have f3 : set (set (σ 30 0) 2 (q : Int)) 4 (q : Int) 3 = -1 := by rw [set_ne _ _ (by decide), set_ne _ _ (by decide), h3]
  have f4 : set (set (σ 30 0) 2 (q : Int)) 4 (q : Int) 4 = (q : Int) := set_same _ _ _
  have fo : ∀ j, j ≠ 2 → j ≠ 3 → j ≠ 4 → set (set (σ 30 0) 2 (q : Int)) 4 (q : Int) j = σ 30 0 j := fun j a b c => by rw [set_ne _ _ c, set_ne _ _ a]
  rw [iX9_number, eX9_number_0, mn, bnd_s, push_s, eX9_number_2]
  simp only [sup_row, row_same, row_row, set_same]
  generalize set (set (σ 30 0) 2 (q : Int)) 4 (q : Int) = f at f1 f2 f3 f4 fo
  have r := m_right (N := N) (σ := row σ 30 0 f)
  rw [row_same, if_pos f3] at r
  have dg := m_digit (N := N) (MX_30 h f1) sk.2 (by rw [row_same]; exact f2)
  rw [r, bnd_s, push_s, eX9_number_9, if_neg (by decide), dg, bnd_s, push_s, eX9_number_12]
  unfold NF1
  by_cases d : 48 ≤ byI n T q ∧ byI n T q ≤ 57
  · have lp := m_num_loop (N := N) h lo hi (n - q) q 0 f rfl sk.2 f2 f3 f1 (by decide) (by decide)
    have ee : numF n T (n - q) q 0 = NUM n T q := rfl
    rw [ee] at lp
    have nr := NUM_r (T := T) sk.2
    rw [if_pos d, if_neg (by decide), if_pos d, eX9_number_18, lp, eX9_number_46, if_neg (by decide), s9_in, bnd_s, push_s, eX9_number_54]
    by_cases c : lo ≤ (NUM n T q).1 ∧ (NUM n T q).1 ≤ hi
    · rw [if_pos c, if_neg (by decide), eX9_number_60, if_pos c]
      exact ⟨_, _, (NUM n T q).2, rfl, by rw [set_ne _ _ (by decide)]; exact f3, set_same _ _ _, nr.2.2, fun _ => ⟨rfl, rfl, by rw [set_ne _ _ (by decide)]; exact f4⟩, fun j a b c => by rw [set_ne _ _ a]; exact fo j a b c⟩
    · have nz : ¬ 8 * (q : Int) + 2 = -1 := by omega
      have mf := m_fails (N := N) (σ := row σ 30 0 (set f 2 ((NUM n T q).2 : Int))) q 2 (by omega) (by decide)
      rw [Int.cast_ofNat_Int, row_same, row_row, set_ne _ _ (show 3 ≠ 2 by decide), if_pos f3] at mf
      rw [if_neg c, if_pos rfl, row_same, set_ne _ _ (show 4 ≠ 2 by decide), f4, mf, bnd_s, push_n, eX9_number_60, if_neg c]
      exact ⟨_, _, (NUM n T q).2, rfl, set_same _ _ _, by rw [set_ne _ _ (by decide), set_same], nr.2.2, fun z => absurd z nz, fun j a b c => by rw [set_ne _ _ b, set_ne _ _ a]; exact fo j a b c⟩
  · have nz : ¬ 8 * (q : Int) + 1 = -1 := by omega
    have mf := m_fails (N := N) (σ := row σ 30 0 f) q 1 (by omega) (by decide)
    rw [Int.cast_ofNat_Int, row_same, row_row, if_pos f3] at mf
    have r2 := m_right (N := N) (σ := row σ 30 0 (set f 3 (8 * (q : Int) + 1)))
    rw [row_same, set_same, if_neg nz] at r2
    rw [if_neg d, if_pos rfl, row_same, f2, mf, bnd_s, push_n, eX9_number_18, eX9_number_20, r2, bnd_s, push_s, eX9_number_22, if_pos rfl, r2, bnd_s, push_s, eX9_number_46, if_pos rfl, eX9_number_60, if_neg d]
    exact ⟨_, _, q, rfl, set_same _ _ _, by rw [set_ne _ _ (by decide)]; exact f2, sk.2, fun z => absurd z nz, fun j a b c => by rw [set_ne _ _ b]; exact fo j a b c⟩
theorem m_number_bad (h : MX n T σ) {p : Nat} (hp : p ≤ n) (h2 : σ 30 0 2 = (p : Int)) (h3 : ¬ σ 30 0 3 = -1) (lo hi : Int) : ∃ (f : Vec) (e : Nat), inv N mX9_number [vR 30 0, vI lo, vI hi] (P σ) = some (some (vI 0), P (row σ 30 0 f)) ∧ f 2 = (e : Int) ∧ e ≤ n ∧ ∀ j, j ≠ 2 → j ≠ 4 → f j = σ 30 0 j := by
  have sk := SK_le (T := T) hp
  have mn := m_next (N := N) h hp h2
  generalize SK n T p = q at sk mn
  have r := m_right (N := N) (σ := row σ 30 0 (set (set (σ 30 0) 2 (q : Int)) 4 (q : Int)))
  rw [row_same, set_ne _ _ (show 3 ≠ 4 by decide), set_ne _ _ (show 3 ≠ 2 by decide), if_neg h3] at r
  refine ⟨set (set (σ 30 0) 2 (q : Int)) 4 (q : Int), q, ?_, ?_, sk.2, ?_⟩
  · rw [iX9_number, eX9_number_0, mn, bnd_s, push_s, eX9_number_2]
    simp only [sup_row, row_same, row_row, set_same]
    rw [r, bnd_s, push_s, eX9_number_9, if_pos rfl, eX9_number_18, eX9_number_20, r, bnd_s, push_s, eX9_number_22, if_pos rfl, r, bnd_s, push_s, eX9_number_46, if_pos rfl, eX9_number_60]
  · rw [set_ne _ _ (by decide), set_same]
  · intro j a b
    rw [set_ne _ _ b, set_ne _ _ a]
end TOK
end
section
/-! WORDS of the text -/
def LT1 (b : Int) : Prop := 97 ≤ b ∧ b ≤ 122
def WD (n : Nat) (T : Vec) (w p : Nat) : Prop := (∀ i : Nat, (i : Int) < sLen w → byI n T (p + i) = sChr w i) ∧ ¬ (97 ≤ byI n T (p + (sLen w).toNat) ∧ byI n T (p + (sLen w).toNat) ≤ 122)
theorem words_all : ∀ w, w < 16 → (0 ≤ sLen w ∧ sLen w ≤ 7) ∧ ∀ i : Nat, i < 7 → (i : Int) < sLen w → 97 ≤ sChr w i ∧ sChr w i ≤ 122 := by decide +kernel
theorem words_l {w : Nat} (hw : w < 16) {i : Nat} (h : (i : Int) < sLen w) : 97 ≤ sChr w i ∧ sChr w i ≤ 122 := (words_all w hw).2 i (by have := (words_all w hw).1; omega) h
/-- the class's word, and the model's -/
def cw : Nat → Nat
  | 0 => 0
  | 1 => 2
  | 2 => 5
  | 3 => 6
  | 4 => 7
  | 5 => 1
  | 6 => 3
  | _ => 4
theorem cw_len : ∀ k, k < 8 → sLen (cw k) = sLen (8 + k) := by decide +kernel
theorem cw_chr {k : Nat} (hk : k < 8) (i : Nat) : sChr (cw k) i = sChr (8 + k) i := by
  rcases (show k = 0 ∨ k = 1 ∨ k = 2 ∨ k = 3 ∨ k = 4 ∨ k = 5 ∨ k = 6 ∨ k = 7 by omega) with rfl | rfl | rfl | rfl | rfl | rfl | rfl | rfl <;> rfl
theorem WD_cw {n : Nat} {T : Vec} {k p : Nat} (hk : k < 8) : WD n T (cw k) p ↔ WD n T (8 + k) p := by
  unfold WD
  rw [cw_len k hk]
  constructor
  · exact fun h => ⟨fun i hi => (h.1 i hi).trans (cw_chr hk i), h.2⟩
  · exact fun h => ⟨fun i hi => (h.1 i hi).trans (cw_chr hk i).symm, h.2⟩
section TOK
variable {N n : Nat} {T : Vec} {σ : Sto}
theorem WD_le {w p : Nat} (hw : w < 16) (hp : p ≤ n) (h : WD n T w p) : p + (sLen w).toNat ≤ n := by
  have r := (words_all w hw).1
  by_cases z : sLen w = 0
  · rw [z]
    simpa using hp
  · have l := h.1 ((sLen w).toNat - 1) (by omega)
    have c := words_l hw (i := (sLen w).toNat - 1) (by omega)
    have := byI_lt (n := n) (T := T) (i := p + ((sLen w).toNat - 1)) (by rw [l]; omega)
    omega
theorem pl_n {q i : Nat} (hq : q ≤ n) (h3 : n ≤ 300) (hi : i ≤ 10) : w32 ((q : Int) + (i : Int)) = ((q + i : Nat) : Int) := by rw [w32i (by omega) (by omega)]; omega
theorem c_word (h : CT n T σ) {p : Nat} (hp : p ≤ n) (h3 : σ 8 0 3 = (p : Int)) (w : Nat) (hw : w < 16) : ∃ a : Int, (a = 0 ∨ a = 1) ∧ (a = 1 ↔ WD n T w (SK n T p)) ∧ inv N mX4_takeWord [vR 8 0, vR 1000 w] (P σ) = some (some (vI a), P (row σ 8 0 (set (σ 8 0) 3 (if a = 1 then ((SK n T p + (sLen w).toNat : Nat) : Int) else (SK n T p : Int))))) := by
  have sk := SK_le (T := T) hp
  have cs := c_skip (N := N) h hp h3
  have r := (words_all w hw).1
  generalize hq : SK n T p = q at sk cs
  have h2 := CT_row h (f := set (σ 8 0) 3 (q : Int)) (set_ne _ _ (by decide))
  have e3 : row σ 8 0 (set (σ 8 0) 3 (q : Int)) 8 0 3 = (q : Int) := by rw [row_same, set_same]
  have fin : ∀ v : Int, row (row σ 8 0 (set (σ 8 0) 3 (q : Int))) 8 0 (set (row σ 8 0 (set (σ 8 0) 3 (q : Int)) 8 0) 3 v) = row σ 8 0 (set (σ 8 0) 3 v) := fun v => by rw [row_row, row_same, set_set]
  generalize row σ 8 0 (set (σ 8 0) 3 (q : Int)) = ρ at cs h2 e3 fin
  have lp : ∀ (m i : Nat), (i : Int) + (m : Int) = sLen w → (∀ j : Nat, j < i → byI n T (q + j) = sChr w j) → ∃ a : Int, (a = 0 ∨ a = 1) ∧ (a = 1 ↔ WD n T w q) ∧ ev N mX4_takeWord 4 [vR 8 0, vR 1000 w, vI (i : Int)] [] (P ρ) = some (some (vI a), P (row ρ 8 0 (set (ρ 8 0) 3 (if a = 1 then ((q + (sLen w).toNat : Nat) : Int) else (q : Int))))) := by
    intro m
    induction m with
    | zero =>
      intro i hi hj
      have e : w32 ((q : Int) + sLen w) = ((q + (sLen w).toNat : Nat) : Int) := by
        rw [w32i (by have := h.2.1; omega) (by have := h.2.1; omega)]
        omega
      have il : i = (sLen w).toNat := by omega
      rw [eX4_takeWord_4, if_neg (by omega), e3, e, c_byteAt h2, bnd_s, push_s, eX4_takeWord_29, c_letter, bnd_s, push_s, eX4_takeWord_30]
      by_cases q1 : 97 ≤ byI n T (q + (sLen w).toNat) ∧ byI n T (q + (sLen w).toNat) ≤ 122
      · refine ⟨0, Or.inl rfl, ⟨fun z => absurd z (by decide), fun z => absurd q1 z.2⟩, ?_⟩
        rw [if_pos q1, if_neg (by decide), if_neg (by decide), ← e3, set_id, row_id]
      · refine ⟨1, Or.inr rfl, ⟨fun _ => ⟨fun j hj2 => hj j (by omega), q1⟩, fun _ => rfl⟩, ?_⟩
        rw [if_neg q1, if_pos rfl, if_pos rfl, sup_row, e3, e]
    | succ m ih =>
      intro i hi hj
      have hl : (i : Int) < sLen w := by omega
      rw [eX4_takeWord_4, if_pos hl, e3, pl_n sk.2 h.2.1 (by omega), c_byteAt h2, bnd_s, push_s, eX4_takeWord_14, if_neg (by omega), if_pos hl, Int.toNat_natCast]
      by_cases q1 : byI n T (q + i) = sChr w i
      · have e1 : w32 ((i : Int) + 1) = ((i + 1 : Nat) : Int) := by rw [w32i (by omega) (by omega)]; omega
        rw [if_pos q1, e1]
        refine ih (i + 1) (by omega) (fun j hj2 => ?_)
        rcases Nat.lt_succ_iff_lt_or_eq.mp hj2 with z | z
        · exact hj j z
        · rw [z]; exact q1
      · refine ⟨0, Or.inl rfl, ⟨fun z => absurd z (by decide), fun z => absurd (z.1 i hl) q1⟩, ?_⟩
        rw [if_neg q1, if_neg (by decide), ← e3, set_id, row_id]
  obtain ⟨a, a1, a2, a3⟩ := lp (sLen w).toNat 0 (by omega) (fun j hj => absurd hj (Nat.not_lt_zero j))
  refine ⟨a, a1, a2, ?_⟩
  rw [fin] at a3
  rw [iX4_takeWord, eX4_takeWord_0, cs, bnd_s, push_n, eX4_takeWord_2]
  exact a3
theorem m_wl (h : MX n T σ) {q : Nat} (hq : q ≤ n) (h2 : σ 30 0 2 = (q : Int)) : ∃ k : Nat, inv N mX9_wordLength [vR 30 0] (P σ) = some (some (vI (k : Int)), P σ) ∧ (∀ j, j < k → 97 ≤ byI n T (q + j) ∧ byI n T (q + j) ≤ 122) ∧ ¬ (97 ≤ byI n T (q + k) ∧ byI n T (q + k) ≤ 122) ∧ q + k ≤ n := by
  obtain ⟨h1, h300, h3, -⟩ := h
  have lp : ∀ (m i : Nat), q + i + m = n → (∀ j, j < i → 97 ≤ byI n T (q + j) ∧ byI n T (q + j) ≤ 122) → ∃ k : Nat, ev N mX9_wordLength 2 [vR 30 0, vI (i : Int)] [] (P σ) = some (some (vI (k : Int)), P σ) ∧ (∀ j, j < k → 97 ≤ byI n T (q + j) ∧ byI n T (q + j) ≤ 122) ∧ ¬ (97 ≤ byI n T (q + k) ∧ byI n T (q + k) ≤ 122) ∧ q + k ≤ n := by
    intro m
    induction m with
    | zero =>
      intro i hi hj
      have e : w32 ((q : Int) + (i : Int)) = ((q + i : Nat) : Int) := by rw [w32i (by omega) (by omega)]; omega
      refine ⟨i, ?_, hj, ?_, by omega⟩
      · rw [eX9_wordLength_2, h2, h1, e, if_neg (by omega)]
      · unfold byI
        rw [if_neg (by omega)]
        omega
    | succ m ih =>
      intro i hi hj
      have e : w32 ((q : Int) + (i : Int)) = ((q + i : Nat) : Int) := by rw [w32i (by omega) (by omega)]; omega
      have t := h3 (q + i) (by omega)
      have eb : byI n T (q + i) = T (q + i) := by
        unfold byI
        rw [if_pos (by omega)]
      have lt : (97 ≤ σ 31 0 (q + i) ∧ σ 31 0 (q + i) ≤ 122) ↔ (97 ≤ byI n T (q + i) ∧ byI n T (q + i) ≤ 122) := by
        rw [eb, ← t.2]
        have := t.1
        generalize σ 31 0 (q + i) = s at this
        omega
      rw [eX9_wordLength_2, h2, h1, e, if_pos (by omega), if_neg (by omega), if_pos (by omega), Int.toNat_natCast, s9_in, bnd_s, push_s, eX9_wordLength_20]
      by_cases c : 97 ≤ σ 31 0 (q + i) ∧ σ 31 0 (q + i) ≤ 122
      · have e1 : w32 ((i : Int) + 1) = ((i + 1 : Nat) : Int) := by rw [w32i (by omega) (by omega)]; omega
        rw [if_pos c, if_neg (by decide), e1]
        refine ih (i + 1) (by omega) (fun j hj2 => ?_)
        rcases Nat.lt_succ_iff_lt_or_eq.mp hj2 with z | z
        · exact hj j z
        · rw [z]; exact lt.mp c
      · rw [if_neg c, if_pos rfl]
        exact ⟨i, rfl, hj, fun z => c (lt.mpr z), by omega⟩
  obtain ⟨k, k1, k2⟩ := lp (n - q) 0 (by omega) (fun j hj => absurd hj (Nat.not_lt_zero j))
  refine ⟨k, ?_, k2⟩
  rw [iX9_wordLength, eX9_wordLength_0]
  exact k1
theorem m_wordOf (k : Nat) (hk : k < 8) : inv N mX9_wordOf [vI (k : Int)] (P σ) = some (some (vR 1000 (8 + k)), P σ) := by
  rw [iX9_wordOf, eX9_wordOf_0]
  rcases (show k = 0 ∨ k = 1 ∨ k = 2 ∨ k = 3 ∨ k = 4 ∨ k = 5 ∨ k = 6 ∨ k = 7 by omega) with rfl | rfl | rfl | rfl | rfl | rfl | rfl | rfl <;> rfl
theorem m_isWord (h : MX n T σ) {p : Nat} (hp : p ≤ n) (h2 : σ 30 0 2 = (p : Int)) (k : Nat) (hk : k < 8) : ∃ a : Int, (a = 0 ∨ a = 1) ∧ (a = 1 ↔ WD n T (8 + k) (SK n T p)) ∧ inv N mX9_isWord [vR 30 0, vI (k : Int)] (P σ) = some (some (vI a), P (row σ 30 0 (set (σ 30 0) 2 (SK n T p : Int)))) := by
  have sk := SK_le (T := T) hp
  have mn := m_next (N := N) h hp h2
  have h300 := h.2.1
  generalize hq : SK n T p = q at sk mn
  have hx := MX_30 h (f := set (σ 30 0) 2 (q : Int)) (set_ne _ _ (by decide))
  have e2 : row σ 30 0 (set (σ 30 0) 2 (q : Int)) 30 0 2 = (q : Int) := by rw [row_same, set_same]
  generalize row σ 30 0 (set (σ 30 0) 2 (q : Int)) = τ at mn hx e2
  obtain ⟨l, l1, l2, l3, l4⟩ := m_wl (N := N) hx sk.2 e2
  have wo := m_wordOf (N := N) (σ := τ) k hk
  have ww : 8 + k < 16 := by omega
  generalize 8 + k = w at wo ww
  have r := (words_all w ww).1
  rw [iX9_isWord, eX9_isWord_0, mn, bnd_s, push_s, eX9_isWord_2, l1, bnd_s, push_s, eX9_isWord_5, wo, bnd_s, push_s, eX9_isWord_7]
  by_cases c : (l : Int) = sLen w
  · rw [if_pos c]
    have lp : ∀ (m i : Nat), i + m = l → (∀ j : Nat, j < i → byI n T (q + j) = sChr w j) → ∃ a : Int, (a = 0 ∨ a = 1) ∧ (a = 1 ↔ WD n T w q) ∧ ev N mX9_isWord 15 [vR 30 0, vI (k : Int), vI 1, vI (i : Int)] [] (P τ) = some (some (vI a), P τ) := by
      intro m
      induction m with
      | zero =>
        intro i hi hj
        refine ⟨1, Or.inr rfl, ⟨fun _ => ⟨fun j hj2 => hj j (by omega), ?_⟩, fun _ => rfl⟩, ?_⟩
        · rw [show (sLen w).toNat = l by omega]
          exact l3
        · rw [eX9_isWord_15, wo, bnd_s, push_s, eX9_isWord_18, if_neg (by omega), if_neg (by decide), if_pos rfl]
      | succ m ih =>
        intro i hi hj
        have hl : (i : Int) < sLen w := by omega
        have t := hx.2.2.1 (q + i) (by omega)
        have eb : byI n T (q + i) = T (q + i) := by
          unfold byI
          rw [if_pos (by omega)]
        have ch := words_l ww hl
        have lt : τ 31 0 (q + i) = sChr w i ↔ byI n T (q + i) = sChr w i := by
          rw [eb, ← t.2]
          have := t.1
          generalize τ 31 0 (q + i) = s at this
          omega
        rw [eX9_isWord_15, wo, bnd_s, push_s, eX9_isWord_18, if_pos hl, if_neg (by decide), e2, pl_n sk.2 h300 (by omega), if_neg (by omega), if_pos (by omega), Int.toNat_natCast, wo, bnd_s, push_s, eX9_isWord_31, if_neg (by omega), if_pos hl, Int.toNat_natCast]
        have e1 : w32 ((i : Int) + 1) = ((i + 1 : Nat) : Int) := by rw [w32i (by omega) (by omega)]; omega
        rw [e1]
        by_cases c2 : τ 31 0 (q + i) = sChr w i
        · rw [if_pos c2]
          refine ih (i + 1) (by omega) (fun j hj2 => ?_)
          rcases Nat.lt_succ_iff_lt_or_eq.mp hj2 with z | z
          · exact hj j z
          · rw [z]; exact lt.mp c2
        · refine ⟨0, Or.inl rfl, ⟨fun z => absurd z (by decide), fun z => absurd (lt.mpr (z.1 i hl)) c2⟩, ?_⟩
          rw [if_neg c2, eX9_isWord_15, wo, bnd_s, push_s, eX9_isWord_18]
          split
          · rw [if_pos rfl, if_pos rfl]
          · rw [if_pos rfl]
    exact lp l 0 (by omega) (fun j hj => absurd hj (Nat.not_lt_zero j))
  · refine ⟨0, Or.inl rfl, ⟨fun z => absurd z (by decide), fun z => ?_⟩, ?_⟩
    · exfalso
      rcases Int.lt_trichotomy (l : Int) (sLen w) with y | y | y
      · refine l3 ?_
        rw [z.1 l y]
        exact words_l ww y
      · exact c y
      · exact z.2 (l2 (sLen w).toNat (by omega))
    · rw [if_neg c, eX9_isWord_15, wo, bnd_s, push_s, eX9_isWord_18]
      split
      · rw [if_pos rfl, if_pos rfl]
      · rw [if_pos rfl]
theorem m_takes (h : MX n T σ) {p : Nat} (hp : p ≤ n) (h2 : σ 30 0 2 = (p : Int)) (h3 : σ 30 0 3 = -1) (k : Nat) (hk : k < 8) : ∃ a : Int, (a = 0 ∨ a = 1) ∧ (a = 1 ↔ WD n T (8 + k) (SK n T p)) ∧ inv N mX9_takes [vR 30 0, vI (k : Int)] (P σ) = some (some (vI a), P (row σ 30 0 (set (σ 30 0) 2 (if a = 1 then ((SK n T p + (sLen (8 + k)).toNat : Nat) : Int) else (SK n T p : Int))))) := by
  have sk := SK_le (T := T) hp
  have h300 := h.2.1
  obtain ⟨a, a1, a2, a3⟩ := m_isWord (N := N) h hp h2 k hk
  have wo := m_wordOf (N := N) (σ := row σ 30 0 (set (σ 30 0) 2 (SK n T p : Int))) k hk
  have r := (words_all (8 + k) (by omega)).1
  refine ⟨a, a1, a2, ?_⟩
  rw [iX9_takes, eX9_takes_0, m_right, if_pos h3, bnd_s, push_s, eX9_takes_2, if_neg (by decide), a3, bnd_s, push_s, eX9_takes_6]
  rcases a1 with rfl | rfl
  · have e : w32 ((SK n T p : Int) + 0) = (SK n T p : Int) := by rw [w32i (by omega) (by omega)]; omega
    rw [if_pos rfl, if_neg (by decide), sup_row, row_same, row_row, set_same, e, set_set]
  · have e : w32 ((SK n T p : Int) + sLen (8 + k)) = ((SK n T p + (sLen (8 + k)).toNat : Nat) : Int) := by rw [w32i (by omega) (by omega)]; omega
    rw [if_neg (by decide), if_pos rfl, wo, bnd_s, push_s, eX9_takes_18, if_neg (by decide), if_pos rfl, sup_row, row_same, row_row, set_same, e, set_set]
theorem m_takes_bad (h : MX n T σ) {p : Nat} (hp : p ≤ n) (h2 : σ 30 0 2 = (p : Int)) (h3 : ¬ σ 30 0 3 = -1) (k : Int) : inv N mX9_takes [vR 30 0, vI k] (P σ) = some (some (vI 0), P σ) := by
  have h300 := h.2.1
  have e : w32 ((p : Int) + 0) = (p : Int) := by rw [w32i (by omega) (by omega)]; omega
  rw [iX9_takes, eX9_takes_0, m_right, if_neg h3, bnd_s, push_s, eX9_takes_2, if_pos rfl, sup_row, h2, e, ← h2, set_id, row_id]
end TOK
end
section
/-! LINES: what holds of both readers, step by step -/
def CFr (σ σ2 : Sto) : Prop := ∀ k k', ¬ (k' = 0 ∧ (k = 2 ∨ k = 3 ∨ k = 4 ∨ k = 5 ∨ k = 8)) → σ2 k k' = σ k k'
def MFr (τ τ2 : Sto) : Prop := (∀ k k', ¬ (k' = 0 ∧ (k = 30 ∨ k = 34 ∨ k = 35 ∨ k = 37 ∨ k = 39)) → τ2 k k' = τ k k') ∧ ∀ j, j ≠ 2 → j ≠ 3 → j ≠ 4 → j ≠ 7 → j ≠ 8 → j ≠ 9 → τ2 30 0 j = τ 30 0 j
def DR (σ : Sto) : Prop := (0 ≤ σ 2 0 0 ∧ σ 2 0 0 ≤ 6) ∧ (0 ≤ σ 2 0 1 ∧ σ 2 0 1 ≤ 6) ∧ (1 ≤ σ 2 0 2 ∧ σ 2 0 2 ≤ 9) ∧ (1 ≤ σ 2 0 3 ∧ σ 2 0 3 ≤ 7) ∧ (1 ≤ σ 2 0 4 ∧ σ 2 0 4 ≤ 99) ∧ DRAFT σ ∧ OKU (σ 2 0 0) (σ 4 0) ∧ (∀ j, 7 ≤ j → j < 10 → σ 8 0 j = 0 ∨ σ 8 0 j = 1)
def ZW (σ : Sto) : Prop := ∀ j : Nat, 14 * σ 2 0 1 ≤ (j : Int) → j < 84 → σ 5 0 j = 0
theorem ZW_o {σ ρ : Sto} (h : ZW σ) (h2 : ρ 2 0 1 = σ 2 0 1) (h5 : ρ 5 0 = σ 5 0) : ZW ρ := by
  unfold ZW
  rw [h2, h5]
  exact h
def CR (n : Nat) (T : Vec) (p : Nat) (σ : Sto) : Prop := CT n T σ ∧ p ≤ n ∧ σ 8 0 3 = (p : Int) ∧ σ 8 0 4 = -1 ∧ DR σ
def RR (σ τ : Sto) : Prop := τ 30 0 2 = σ 8 0 3 ∧ τ 30 0 3 = -1 ∧ τ 30 0 7 = σ 2 0 0 ∧ τ 30 0 8 = σ 2 0 1 ∧ (∀ k : Nat, (k : Int) < σ 2 0 0 → τ 34 0 k = σ 3 0 k ∧ τ 35 0 k = σ 4 0 k) ∧ (∀ j : Nat, (j : Int) < 14 * σ 2 0 1 → τ 37 0 j = σ 5 0 j) ∧ τ 39 0 2 = σ 2 0 2 ∧ τ 39 0 3 = σ 2 0 3 ∧ τ 39 0 4 = σ 2 0 4 ∧ τ 30 0 9 = 4 * σ 8 0 7 + 8 * σ 8 0 8 + 16 * σ 8 0 9
def LINE (n : Nat) (T : Vec) (σ : Sto) (X : Sto → Prop) (C : Option Out) (M : Sto → Option Out) : Prop := ∃ (ok : Int) (σ2 : Sto), C = some (some (vI ok), P σ2) ∧ CFr σ σ2 ∧ CT n T σ2 ∧ DRAFT σ2 ∧ σ2 8 0 10 = σ 8 0 10 ∧ ((ok = 1 ∧ ZW σ2 ∧ σ 8 0 3 ≤ σ2 8 0 3 ∧ ∃ p2, CR n T p2 σ2) ∨ (ok = 0 ∧ ¬ σ2 8 0 4 = -1)) ∧ ∀ τ, MX n T τ → RR σ τ → X τ → ∃ τ2, M τ = some (none, P τ2) ∧ MFr τ τ2 ∧ (ok = 1 → RR σ2 τ2) ∧ (ok = 0 → τ2 30 0 3 = σ2 8 0 4)
theorem CFr_refl (σ : Sto) : CFr σ σ := fun _ _ _ => rfl
theorem CFr_trans {a b c : Sto} (h : CFr a b) (g : CFr b c) : CFr a c := fun k k' q => (g k k' q).trans (h k k' q)
theorem CFr_row (σ : Sto) (k : Nat) (f : Vec) (h : k = 2 ∨ k = 3 ∨ k = 4 ∨ k = 5 ∨ k = 8) : CFr σ (row σ k 0 f) := fun k1 k' q => by rw [row_at, if_neg (by omega)]
theorem MFr_refl (σ : Sto) : MFr σ σ := ⟨fun _ _ _ => rfl, fun _ _ _ _ _ _ _ => rfl⟩
theorem MFr_trans {a b c : Sto} (h : MFr a b) (g : MFr b c) : MFr a c := ⟨fun k k' q => (g.1 k k' q).trans (h.1 k k' q), fun j a b c d e f => (g.2 j a b c d e f).trans (h.2 j a b c d e f)⟩
theorem MFr_row (τ : Sto) (k : Nat) (f : Vec) (h : k = 34 ∨ k = 35 ∨ k = 37 ∨ k = 39) : MFr τ (row τ k 0 f) := ⟨fun k1 k' q => by rw [row_at, if_neg (by omega)], fun j _ _ _ _ _ _ => by rw [row_at, if_neg (by omega)]⟩
theorem MFr_30 (τ : Sto) (f : Vec) (h : ∀ j, j ≠ 2 → j ≠ 3 → j ≠ 4 → j ≠ 7 → j ≠ 8 → j ≠ 9 → f j = τ 30 0 j) : MFr τ (row τ 30 0 f) := ⟨fun k1 k' q => by rw [row_at, if_neg (by omega)], fun j a b c d e g => by rw [row_same]; exact h j a b c d e g⟩
theorem MX_MFr {n : Nat} {T : Vec} {τ τ2 : Sto} (h : MX n T τ) (m : MFr τ τ2) : MX n T τ2 := by
  refine ⟨by rw [m.2 1 (by decide) (by decide) (by decide) (by decide) (by decide) (by decide)]; exact h.1, h.2.1, fun j hj => ?_, h.2.2.2⟩
  rw [m.1 31 0 (by decide)]
  exact h.2.2.1 j hj
theorem CT_CFr {n : Nat} {T : Vec} {σ σ2 : Sto} (h : CT n T σ) (f : CFr σ σ2) (e : σ2 8 0 2 = σ 8 0 2) : CT n T σ2 := ⟨by rw [e]; exact h.1, h.2.1, fun j hj => by rw [f 1 0 (by decide)]; exact h.2.2 j hj⟩
theorem DR_8 {σ : Sto} (h : DR σ) {g : Vec} (hg : ∀ j, 7 ≤ j → g j = σ 8 0 j) : DR (row σ 8 0 g) := by
  obtain ⟨a, b, c, d, e, f, i, k⟩ := h
  exact ⟨a, b, c, d, e, f, i, fun l h1 h2 => by rw [row_same, hg l h1]; exact k l h1 h2⟩
theorem LINE_bad {n : Nat} {T : Vec} {σ σ2 : Sto} {X : Sto → Prop} {C : Option Out} {M : Sto → Option Out} (hC : C = some (some (vI 0), P σ2)) (fr : CFr σ σ2) (ct : CT n T σ2) (dr : DRAFT σ2) (e10 : σ2 8 0 10 = σ 8 0 10) (hf : ¬ σ2 8 0 4 = -1) (hm : ∀ τ, MX n T τ → RR σ τ → X τ → ∃ τ2, M τ = some (none, P τ2) ∧ MFr τ τ2 ∧ τ2 30 0 3 = σ2 8 0 4) : LINE n T σ X C M :=
  ⟨0, σ2, hC, fr, ct, dr, e10, Or.inr ⟨rfl, hf⟩, fun τ h1 h2 hX => by
    obtain ⟨τ2, a, b, c⟩ := hm τ h1 h2 hX
    exact ⟨τ2, a, b, fun z => absurd z (by decide), fun _ => c⟩⟩
theorem LINE_bad8 {n : Nat} {T : Vec} {σ : Sto} {g : Vec} {X : Sto → Prop} {C : Option Out} {M : Sto → Option Out} (h : CT n T σ) (dr : DRAFT σ) (hC : C = some (some (vI 0), P (row σ 8 0 g))) (g2 : g 2 = σ 8 0 2) (e10 : g 10 = σ 8 0 10) (hf : ¬ g 4 = -1) (hm : ∀ τ, MX n T τ → RR σ τ → X τ → ∃ τ2, M τ = some (none, P τ2) ∧ MFr τ τ2 ∧ τ2 30 0 3 = g 4) : LINE n T σ X C M :=
  LINE_bad hC (CFr_row σ 8 g (by decide)) (CT_row h g2) dr (by rw [row_same]; exact e10) (by rw [row_same]; exact hf) (fun τ h1 h2 hX => by rw [row_same]; exact hm τ h1 h2 hX)
theorem LINE_ok {n : Nat} {T : Vec} {σ σ2 : Sto} {X : Sto → Prop} {C : Option Out} {M : Sto → Option Out} (p2 : Nat) (hC : C = some (some (vI 1), P σ2)) (fr : CFr σ σ2) (cr : CR n T p2 σ2) (zw : ZW σ2) (e10 : σ2 8 0 10 = σ 8 0 10) (hm : ∀ τ, MX n T τ → RR σ τ → X τ → ∃ τ2, M τ = some (none, P τ2) ∧ MFr τ τ2 ∧ RR σ2 τ2) (mo : σ 8 0 3 ≤ σ2 8 0 3 := by exact Int.le_refl _) : LINE n T σ X C M :=
  ⟨1, σ2, hC, fr, cr.1, cr.2.2.2.2.2.2.2.2.2.1, e10, Or.inl ⟨rfl, zw, mo, p2, cr⟩, fun τ h1 h2 hX => by
    obtain ⟨τ2, a, b, c⟩ := hm τ h1 h2 hX
    exact ⟨τ2, a, b, fun _ => c, fun z => absurd z (by decide)⟩⟩
section LIN
variable {N n : Nat} {T : Vec} {σ : Sto} {p : Nat}
theorem bnd_bnd (o : Option Out) (f g : Option MV → MS → Option Out) : bnd (bnd o f) g = bnd o (fun r S => bnd (f r S) g) := by
  rcases o with _ | ⟨r, S⟩
  · rfl
  · rfl
theorem LINE_congr {X : Sto → Prop} {C C2 : Option Out} {M M2 : Sto → Option Out} (hC : C = C2) (hM : ∀ τ, MX n T τ → RR σ τ → X τ → M τ = M2 τ) (h : LINE n T σ X C2 M2) : LINE n T σ X C M := by
  obtain ⟨ok, σ2, a, b, c, d, e, f, g⟩ := h
  refine ⟨ok, σ2, hC.trans a, b, c, d, e, f, fun τ hx hr hX => ?_⟩
  rw [hM τ hx hr hX]
  exact g τ hx hr hX
theorem LINE_step {ρ : Sto} {X X2 : Sto → Prop} {C C2 : Option Out} {M M2 : Sto → Option Out} (hC : C = C2) (fr : CFr σ ρ) (e10 : ρ 8 0 10 = σ 8 0 10) (hm : ∀ τ, MX n T τ → RR σ τ → X τ → ∃ τ1, M τ = M2 τ1 ∧ MFr τ τ1 ∧ RR ρ τ1 ∧ X2 τ1) (h : LINE n T ρ X2 C2 M2) (mo : σ 8 0 3 ≤ ρ 8 0 3 := by exact Int.le_refl _) : LINE n T σ X C M := by
  obtain ⟨ok, σ2, a, b, c, d, e, f, g⟩ := h
  refine ⟨ok, σ2, hC.trans a, CFr_trans fr b, c, d, e.trans e10, f.imp (fun z => ⟨z.1, z.2.1, Int.le_trans mo z.2.2.1, z.2.2.2⟩) id, fun τ hx hr hX => ?_⟩
  obtain ⟨τ1, h1, h2, h3, h4⟩ := hm τ hx hr hX
  obtain ⟨τ2, k1, k2, k3⟩ := g τ1 (MX_MFr hx h2) h3 h4
  exact ⟨τ2, h1.trans k1, MFr_trans h2 k2, k3⟩
theorem RR_mv {τ τ2 : Sto} (h : RR σ τ) {g : Vec} (hg : ∀ j, 7 ≤ j → g j = σ 8 0 j) (f2 : τ2 30 0 2 = g 3) (f3 : τ2 30 0 3 = -1) (f7 : τ2 30 0 7 = τ 30 0 7) (f8 : τ2 30 0 8 = τ 30 0 8) (f9 : τ2 30 0 9 = τ 30 0 9) (r34 : τ2 34 0 = τ 34 0) (r35 : τ2 35 0 = τ 35 0) (r37 : τ2 37 0 = τ 37 0) (r39 : τ2 39 0 = τ 39 0) : RR (row σ 8 0 g) τ2 := by
  obtain ⟨a, b, c, d, k, j, l, m, o, q⟩ := h
  refine ⟨by rw [f2, row_same], f3, f7.trans c, f8.trans d, fun i hi => ?_, fun i hi => ?_, by rw [r39]; exact l, by rw [r39]; exact m, by rw [r39]; exact o, ?_⟩
  · rw [r34, r35]; exact k i hi
  · rw [r37]; exact j i hi
  · rw [f9, row_same, hg 7 (by decide), hg 8 (by decide), hg 9 (by decide)]; exact q
/-- what the model does behind a fault -/
def BADK (n : Nat) (T : Vec) (σ : Sto) (km : Sto → Option Out) : Prop := ∀ τ, MX n T τ → ¬ τ 30 0 3 = -1 → (∃ e : Nat, e ≤ n ∧ τ 30 0 2 = (e : Int)) → τ 30 0 7 = σ 2 0 0 → τ 30 0 8 = σ 2 0 1 → ∃ τ2, km τ = some (none, P τ2) ∧ MFr τ τ2 ∧ τ2 30 0 3 = τ 30 0 3
def same5 (σ ρ : Sto) : Prop := ρ 2 0 = σ 2 0 ∧ ρ 3 0 = σ 3 0 ∧ ρ 4 0 = σ 4 0 ∧ ρ 5 0 = σ 5 0
theorem same5_8 (σ : Sto) (g : Vec) : same5 σ (row σ 8 0 g) := ⟨rfl, rfl, rfl, rfl⟩
theorem CR_8 {g : Vec} {p2 : Nat} (h : CR n T p σ) (hp : p2 ≤ n) (g2 : g 2 = σ 8 0 2) (g3 : g 3 = (p2 : Int)) (g4 : g 4 = -1) (hg : ∀ j, 7 ≤ j → g j = σ 8 0 j) : CR n T p2 (row σ 8 0 g) := ⟨CT_row h.1 g2, hp, by rw [row_same]; exact g3, by rw [row_same]; exact g4, DR_8 h.2.2.2.2 hg⟩
/-- a number is read by both -/
theorem LINE_num {X : Sto → Prop} (hS : ∀ τ f, X τ → X (row τ 30 0 f)) (h : CR n T p σ) (lo hi : Int) (fc : Option MV → MS → Option Out) (fm : Option MV → MS → Option Out) (fbad : ∀ ρ, fc (some (vI 0)) (P ρ) = some (some (vI 0), P ρ)) (mbad : ∀ x, BADK n T σ (fun τ => fm (some (vI x)) (P τ))) (good : ∀ (ρ : Sto) (v : Int) (e : Nat), CR n T e ρ → ρ 8 0 5 = v → lo ≤ v ∧ v ≤ hi → same5 σ ρ → (∀ j, 7 ≤ j → ρ 8 0 j = σ 8 0 j) → (∃ q : Nat, q ≤ n ∧ ρ 8 0 6 = (q : Int)) → (∀ k k', ¬ (k = 8 ∧ k' = 0) → ρ k k' = σ k k') → LINE n T ρ X (fc (some (vI 1)) (P ρ)) (fun τ => fm (some (vI v)) (P τ))) : LINE n T σ X (bnd (inv N mX4_takeNumber [vR 8 0, vI lo, vI hi] (P σ)) fc) (fun τ => bnd (inv N mX9_number [vR 30 0, vI lo, vI hi] (P τ)) fm) := by
  have h0 := h
  obtain ⟨ct, hp, h3, h4, hD⟩ := h
  obtain ⟨g, c1, g4, gok, g2, go⟩ := c_number (N := N) ct hp h3 h4 lo hi
  have hq := SK_le (T := T) hp
  have mn := fun (τ : Sto) (hx : MX n T τ) (hr : RR σ τ) => m_number (N := N) hx hp (by rw [hr.1, h3]) hr.2.1 lo hi
  generalize SK n T p = q1 at c1 g4 gok hq mn
  by_cases nf : NF1 n T lo hi q1 = -1
  · obtain ⟨g3, g5, g6⟩ := gok nf
    have nr := NUM_r (T := T) hq.2
    have v9 := NF1_ok nf
    have L := good (row σ 8 0 g) _ _ (CR_8 h0 nr.2.2 g2 g3 (g4.trans nf) go) (by rw [row_same]; exact g5) v9 (same5_8 σ g) (fun j hj => by rw [row_same]; exact go j hj) ⟨q1, hq.2, by rw [row_same]; exact g6⟩ (fun k k' z => by rw [row_at, if_neg z])
    refine LINE_step (mo := by rw [row_same, g3, h3]; exact Int.ofNat_le.mpr (Nat.le_trans hq.1 nr.2.1)) ?_ (CFr_row σ 8 g (by decide)) (by rw [row_same]; exact go 10 (by decide)) ?_ L
    · rw [c1, if_pos nf, bnd_s]
    · intro τ hx hr hX
      obtain ⟨x, f, e, n1, n2, n3, n4, n5, n6⟩ := mn τ hx hr
      obtain ⟨e1, e2, e4⟩ := n5 nf
      refine ⟨row τ 30 0 f, ?_, MFr_30 τ f (fun j a b c _ _ _ => n6 j a b c), RR_mv hr go ?_ ?_ ?_ ?_ ?_ rfl rfl rfl rfl, hS _ _ hX⟩
      · show bnd (inv N mX9_number [vR 30 0, vI lo, vI hi] (P τ)) fm = _
        rw [n1, bnd_s, e1]
      · rw [row_same, n3, e2, g3]
      · rw [row_same, n2, nf]
      · rw [row_same]; exact n6 7 (by decide) (by decide) (by decide)
      · rw [row_same]; exact n6 8 (by decide) (by decide) (by decide)
      · rw [row_same]; exact n6 9 (by decide) (by decide) (by decide)
  · refine LINE_bad8 ct hD.2.2.2.2.2.1 (g := g) ?_ g2 (go 10 (by decide)) (by rw [g4]; exact nf) ?_
    · rw [c1, if_neg nf, bnd_s, fbad]
    · intro τ hx hr hX
      obtain ⟨x, f, e, n1, n2, n3, n4, -, n6⟩ := mn τ hx hr
      have mfr : MFr τ (row τ 30 0 f) := MFr_30 τ f (fun j a b c _ _ _ => n6 j a b c)
      obtain ⟨τ2, k1, k2, k3⟩ := mbad x (row τ 30 0 f) (MX_MFr hx mfr) (by rw [row_same, n2]; exact nf) ⟨e, n4, by rw [row_same]; exact n3⟩ (by rw [row_same, n6 7 (by decide) (by decide) (by decide)]; exact hr.2.2.1) (by rw [row_same, n6 8 (by decide) (by decide) (by decide)]; exact hr.2.2.2.1)
      refine ⟨τ2, ?_, MFr_trans mfr k2, by rw [k3, row_same, n2, g4]⟩
      show bnd (inv N mX9_number [vR 30 0, vI lo, vI hi] (P τ)) fm = _
      rw [n1, bnd_s]
      exact k1
/-- a word is looked for by both -/
theorem LINE_word {X : Sto → Prop} (hS : ∀ τ f, X τ → X (row τ 30 0 f)) (h : CR n T p σ) (k : Nat) (hk : k < 8) (fc fm : Option MV → MS → Option Out) (good : ∀ (a : Int) (ρ : Sto) (e : Nat), a = 0 ∨ a = 1 → CR n T e ρ → same5 σ ρ → (∀ j, j ≠ 3 → ρ 8 0 j = σ 8 0 j) → (∀ k k', ¬ (k = 8 ∧ k' = 0) → ρ k k' = σ k k') → LINE n T ρ X (fc (some (vI a)) (P ρ)) (fun τ => fm (some (vI a)) (P τ))) : LINE n T σ X (bnd (inv N mX4_takeWord [vR 8 0, vR 1000 (cw k)] (P σ)) fc) (fun τ => bnd (inv N mX9_takes [vR 30 0, vI (k : Int)] (P τ)) fm) := by
  have h0 := h
  obtain ⟨ct, hp, h3, h4, hD⟩ := h
  have hw : cw k < 16 := by
    rcases (show k = 0 ∨ k = 1 ∨ k = 2 ∨ k = 3 ∨ k = 4 ∨ k = 5 ∨ k = 6 ∨ k = 7 by omega) with rfl | rfl | rfl | rfl | rfl | rfl | rfl | rfl <;> decide
  obtain ⟨a, a1, a2, c2⟩ := c_word (N := N) ct hp h3 (cw k) hw
  have hq := SK_le (T := T) hp
  have el := cw_len k hk
  have wd := WD_cw (n := n) (T := T) (p := SK n T p) hk
  have le : a = 1 → SK n T p + (sLen (cw k)).toNat ≤ n := fun z => WD_le hw hq.2 (a2.mp z)
  have mt := fun (τ : Sto) (hx : MX n T τ) (hr : RR σ τ) => m_takes (N := N) hx hp (by rw [hr.1, h3]) hr.2.1 k hk
  rw [← el] at mt
  generalize SK n T p = q at c2 hq wd le mt a2
  generalize (sLen (cw k)).toNat = l at c2 le mt
  have key : ∃ e : Nat, e ≤ n ∧ p ≤ e ∧ (if a = 1 then ((q + l : Nat) : Int) else (q : Int)) = (e : Int) := by
    rcases a1 with rfl | rfl
    · exact ⟨q, hq.2, hq.1, if_neg (by decide)⟩
    · exact ⟨q + l, le rfl, Nat.le_trans hq.1 (Nat.le_add_right q l), if_pos rfl⟩
  obtain ⟨e, e1, ep, e2⟩ := key
  rw [e2] at c2
  have L := good a (row σ 8 0 (set (σ 8 0) 3 (e : Int))) e a1 (CR_8 h0 e1 (set_ne _ _ (by decide)) (set_same _ _ _) ((set_ne _ _ (by decide)).trans h4) (fun j hj => set_ne _ _ (Nat.ne_of_gt (Nat.lt_of_lt_of_le (by decide) hj)))) (same5_8 σ _) (fun j hj => by rw [row_same, set_ne _ _ hj]) (fun k k' z => by rw [row_at, if_neg z])
  refine LINE_step (mo := by rw [row_same, set_same, h3]; exact Int.ofNat_le.mpr ep) ?_ (CFr_row σ 8 _ (by decide)) (by rw [row_same, set_ne _ _ (by decide)]) ?_ L
  · rw [c2, bnd_s]
  · intro τ hx hr hX
    obtain ⟨b, b1, b2, b3⟩ := mt τ hx hr
    have ab : b = a := by
      rcases a1 with rfl | rfl <;> rcases b1 with rfl | rfl
      · rfl
      · exact (a2.mpr (wd.mpr (b2.mp rfl))).symm
      · exact b2.mpr (wd.mp (a2.mp rfl))
      · rfl
    rw [ab, e2] at b3
    refine ⟨row τ 30 0 (set (τ 30 0) 2 (e : Int)), ?_, MFr_30 τ _ (fun j z _ _ _ _ _ => set_ne _ _ z), RR_mv hr (fun j hj => set_ne _ _ (Nat.ne_of_gt (Nat.lt_of_lt_of_le (by decide) hj))) ?_ ?_ ?_ ?_ ?_ rfl rfl rfl rfl, hS _ _ hX⟩
    · show bnd (inv N mX9_takes [vR 30 0, vI (k : Int)] (P τ)) fm = _
      rw [b3, bnd_s]
    · rw [row_same, set_same, set_same]
    · rw [row_same, set_ne _ _ (by decide)]; exact hr.2.1
    · rw [row_same, set_ne _ _ (by decide)]
    · rw [row_same, set_ne _ _ (by decide)]
    · rw [row_same, set_ne _ _ (by decide)]
/-- blanks are skipped by both -/
theorem LINE_skip {X : Sto → Prop} (hS : ∀ τ f, X τ → X (row τ 30 0 f)) (h : CR n T p σ) (fc fm : Option MV → MS → Option Out) (good : ∀ (ρ : Sto) (e : Nat), CR n T e ρ → same5 σ ρ → (∀ j, j ≠ 3 → ρ 8 0 j = σ 8 0 j) → (∀ k k', ¬ (k = 8 ∧ k' = 0) → ρ k k' = σ k k') → LINE n T ρ X (fc none (P ρ)) (fun τ => fm (some (vI (byI n T e))) (P τ))) : LINE n T σ X (bnd (inv N mX4_skipBlanks [vR 8 0] (P σ)) fc) (fun τ => bnd (inv N mX9_nextSign [vR 30 0] (P τ)) fm) := by
  have h0 := h
  obtain ⟨ct, hp, h3, h4, hD⟩ := h
  have c2 := c_skip (N := N) ct hp h3
  have hq := SK_le (T := T) hp
  have mt := fun (τ : Sto) (hx : MX n T τ) (hr : RR σ τ) => m_next (N := N) hx hp (by rw [hr.1, h3])
  generalize SK n T p = e at c2 hq mt
  have L := good (row σ 8 0 (set (σ 8 0) 3 (e : Int))) e (CR_8 h0 hq.2 (set_ne _ _ (by decide)) (set_same _ _ _) ((set_ne _ _ (by decide)).trans h4) (fun j hj => set_ne _ _ (Nat.ne_of_gt (Nat.lt_of_lt_of_le (by decide) hj)))) (same5_8 σ _) (fun j hj => by rw [row_same, set_ne _ _ hj]) (fun k k' z => by rw [row_at, if_neg z])
  refine LINE_step (mo := by rw [row_same, set_same, h3]; exact Int.ofNat_le.mpr hq.1) ?_ (CFr_row σ 8 _ (by decide)) (by rw [row_same, set_ne _ _ (by decide)]) ?_ L
  · rw [c2, bnd_s]
  · intro τ hx hr hX
    have b3 := mt τ hx hr
    refine ⟨row τ 30 0 (set (τ 30 0) 2 (e : Int)), ?_, MFr_30 τ _ (fun j z _ _ _ _ _ => set_ne _ _ z), RR_mv hr (fun j hj => set_ne _ _ (Nat.ne_of_gt (Nat.lt_of_lt_of_le (by decide) hj))) ?_ ?_ ?_ ?_ ?_ rfl rfl rfl rfl, hS _ _ hX⟩
    · show bnd (inv N mX9_nextSign [vR 30 0] (P τ)) fm = _
      rw [b3, bnd_s]
    · rw [row_same, set_same, set_same]
    · rw [row_same, set_ne _ _ (by decide)]; exact hr.2.1
    · rw [row_same, set_ne _ _ (by decide)]
    · rw [row_same, set_ne _ _ (by decide)]
    · rw [row_same, set_ne _ _ (by decide)]
/-- a fault is told by both -/
theorem LINE_fail {X : Sto → Prop} (hS : ∀ τ f, X τ → X (row τ 30 0 f)) (h : CR n T p σ) (st k : Nat) (hst : st ≤ n) (hk : k < 8) (fc fm : Option MV → MS → Option Out) (fbad : ∀ ρ, fc (some (vI 0)) (P ρ) = some (some (vI 0), P ρ)) (mbad : BADK n T σ (fun τ => fm none (P τ))) : LINE n T σ X (bnd (inv N mX4_fail [vR 8 0, vI (st : Int), vI (k : Int)] (P σ)) fc) (fun τ => bnd (inv N mX9_fails [vR 30 0, vI (k : Int), vI (st : Int)] (P τ)) fm) := by
  have h0 := h
  obtain ⟨ct, hp, h3, h4, hD⟩ := h
  have s3 : st ≤ 300 := Nat.le_trans hst ct.2.1
  have nz : ¬ 8 * (st : Int) + (k : Int) = -1 := by clear h0 h3 h4 hD ct; omega
  have cf := c_fail (N := N) (σ := σ) st k s3 hk
  refine LINE_bad8 ct hD.2.2.2.2.2.1 (g := set (σ 8 0) 4 (8 * (st : Int) + (k : Int))) ?_ (set_ne _ _ (by decide)) (set_ne _ _ (by decide)) (by rw [set_same]; exact nz) ?_
  · rw [cf, bnd_s, fbad]
  · intro τ hx hr hX
    have mf := m_fails (N := N) (σ := τ) st k s3 hk
    rw [if_pos hr.2.1] at mf
    have mfr : MFr τ (row τ 30 0 (set (τ 30 0) 3 (8 * (st : Int) + (k : Int)))) := MFr_30 τ _ (fun j _ z _ _ _ _ => set_ne _ _ z)
    obtain ⟨τ2, k1, k2, k3⟩ := mbad _ (MX_MFr hx mfr) (by rw [row_same, set_same]; exact nz) ⟨p, hp, by rw [row_same, set_ne _ _ (by decide), hr.1, h3]⟩ (by rw [row_same, set_ne _ _ (by decide)]; exact hr.2.2.1) (by rw [row_same, set_ne _ _ (by decide)]; exact hr.2.2.2.1)
    refine ⟨τ2, ?_, MFr_trans mfr k2, by rw [k3, row_same, set_same, set_same]⟩
    show bnd (inv N mX9_fails [vR 30 0, vI (k : Int), vI (st : Int)] (P τ)) fm = _
    rw [mf, bnd_s]
    exact k1
theorem m_fails_bad {τ : Sto} (h : ¬ τ 30 0 3 = -1) (k x : Int) : inv N mX9_fails [vR 30 0, vI k, vI x] (P τ) = some (none, P τ) := by
  rw [iX9_fails, eX9_fails_0, if_neg h]
/-- a number is read by both, and is one too many -/
theorem LINE_num4 {X : Sto → Prop} (hS : ∀ τ f, X τ → X (row τ 30 0 f)) (h : CR n T p σ) (lo hi : Int) (fc fc2 fm : Option MV → MS → Option Out) (fm2 : Int → Option MV → MS → Option Out) (fbad : ∀ ρ, fc (some (vI 0)) (P ρ) = some (some (vI 0), P ρ)) (fgood : ∀ ρ, fc (some (vI 1)) (P ρ) = bnd (inv N mX4_fail [vR 8 0, vI (ρ 8 0 6), vI 4] (P ρ)) fc2) (fbad2 : ∀ ρ, fc2 (some (vI 0)) (P ρ) = some (some (vI 0), P ρ)) (hfm : ∀ x τ, fm (some (vI x)) (P τ) = bnd (inv N mX9_fails [vR 30 0, vI 4, vI (τ 30 0 4)] (P τ)) (fm2 x)) (mbad : ∀ x, BADK n T σ (fun τ => fm2 x none (P τ))) : LINE n T σ X (bnd (inv N mX4_takeNumber [vR 8 0, vI lo, vI hi] (P σ)) fc) (fun τ => bnd (inv N mX9_number [vR 30 0, vI lo, vI hi] (P τ)) fm) := by
  have h0 := h
  obtain ⟨ct, hp, h3, h4, hD⟩ := h
  obtain ⟨g, c1, g4, gok, g2, go⟩ := c_number (N := N) ct hp h3 h4 lo hi
  have hq := SK_le (T := T) hp
  have mn := fun (τ : Sto) (hx : MX n T τ) (hr : RR σ τ) => m_number (N := N) hx hp (by rw [hr.1, h3]) hr.2.1 lo hi
  generalize SK n T p = q1 at c1 g4 gok hq mn
  have s3 : q1 ≤ 300 := Nat.le_trans hq.2 ct.2.1
  by_cases nf : NF1 n T lo hi q1 = -1
  · obtain ⟨g3, g5, g6⟩ := gok nf
    have nz : ¬ 8 * (q1 : Int) + 4 = -1 := by clear h0 h3 h4 hD ct c1 g4 gok g2 go mn nf g3 g5 g6; omega
    have cf := c_fail (N := N) (σ := row σ 8 0 g) q1 4 s3 (by decide)
    rw [Int.cast_ofNat_Int, row_row, row_same] at cf
    refine LINE_bad8 ct hD.2.2.2.2.2.1 (g := set g 4 (8 * (q1 : Int) + 4)) ?_ ((set_ne _ _ (by decide)).trans g2) ((set_ne _ _ (by decide)).trans (go 10 (by decide))) (by rw [set_same]; exact nz) ?_
    · rw [c1, if_pos nf, bnd_s, fgood, row_same, g6, cf, bnd_s, fbad2]
    · intro τ hx hr hX
      obtain ⟨x, f, e, n1, n2, n3, n4, n5, n6⟩ := mn τ hx hr
      obtain ⟨e1, e2, e4⟩ := n5 nf
      have mf := m_fails (N := N) (σ := row τ 30 0 f) q1 4 s3 (by decide)
      rw [Int.cast_ofNat_Int, row_row, row_same, if_pos (n2.trans nf)] at mf
      have mfr : MFr τ (row τ 30 0 (set f 3 (8 * (q1 : Int) + 4))) := MFr_30 τ _ (fun j a b c _ _ _ => (set_ne _ _ b).trans (n6 j a b c))
      obtain ⟨τ2, k1, k2, k3⟩ := mbad x _ (MX_MFr hx mfr) (by rw [row_same, set_same]; exact nz) ⟨e, n4, by rw [row_same, set_ne _ _ (by decide)]; exact n3⟩ (by rw [row_same, set_ne _ _ (by decide), n6 7 (by decide) (by decide) (by decide)]; exact hr.2.2.1) (by rw [row_same, set_ne _ _ (by decide), n6 8 (by decide) (by decide) (by decide)]; exact hr.2.2.2.1)
      refine ⟨τ2, ?_, MFr_trans mfr k2, by rw [k3, row_same, set_same, set_same]⟩
      show bnd (inv N mX9_number [vR 30 0, vI lo, vI hi] (P τ)) fm = _
      rw [n1, bnd_s, hfm, row_same, e4, mf, bnd_s]
      exact k1
  · refine LINE_bad8 ct hD.2.2.2.2.2.1 (g := g) ?_ g2 (go 10 (by decide)) (by rw [g4]; exact nf) ?_
    · rw [c1, if_neg nf, bnd_s, fbad]
    · intro τ hx hr hX
      obtain ⟨x, f, e, n1, n2, n3, n4, -, n6⟩ := mn τ hx hr
      have mfr : MFr τ (row τ 30 0 f) := MFr_30 τ f (fun j a b c _ _ _ => n6 j a b c)
      have bad : ¬ row τ 30 0 f 30 0 3 = -1 := by rw [row_same, n2]; exact nf
      obtain ⟨τ2, k1, k2, k3⟩ := mbad x (row τ 30 0 f) (MX_MFr hx mfr) bad ⟨e, n4, by rw [row_same]; exact n3⟩ (by rw [row_same, n6 7 (by decide) (by decide) (by decide)]; exact hr.2.2.1) (by rw [row_same, n6 8 (by decide) (by decide) (by decide)]; exact hr.2.2.2.1)
      refine ⟨τ2, ?_, MFr_trans mfr k2, by rw [k3, row_same, n2, g4]⟩
      show bnd (inv N mX9_number [vR 30 0, vI lo, vI hi] (P τ)) fm = _
      rw [n1, bnd_s, hfm, m_fails_bad bad, bnd_s]
      exact k1
end LIN
end
section
/-! LINES: keys, settings -/
section LIN
variable {N n : Nat} {T : Vec} {σ : Sto} {p : Nat}
def addK (σ : Sto) (K : Nat) (v u : Int) : Sto := row (row (row σ 3 0 (set (σ 3 0) K v)) 4 0 (set (σ 4 0) K u)) 2 0 (set (σ 2 0) 0 ((K + 1 : Nat) : Int))
theorem key_n {K : Nat} (hK : K ≤ 6) : ¬ (K : Int) < 0 ∧ (K : Int) < 7 ∧ -1 < (K : Int) ∧ w32 ((K : Int) + 1) = ((K + 1 : Nat) : Int) ∧ w32 ((K : Int) - 1) = (K : Int) - 1 := by
  refine ⟨by omega, by omega, by omega, ?_, ?_⟩
  · rw [w32i (by omega) (by omega)]; omega
  · rw [w32i (by omega) (by omega)]
theorem key_6 {K : Nat} (hK : K < 6) : (K : Int) < 6 ∧ ¬ (K : Int) = 6 ∧ 0 ≤ (K : Int) := by omega
theorem c_addKey (K : Nat) (hK : K < 6) (h : σ 2 0 0 = (K : Int)) (v u : Int) : inv N mX0_addKey [vR 2 0, vI v, vI u] (P σ) = some (none, P (addK σ K v u)) := by
  have e1 : w32 ((K : Int) + 1) = ((K + 1 : Nat) : Int) := by rw [w32i (by omega) (by omega)]; omega
  have p3 := s6_put3 (N := N) (i := 0) (σ := σ) (K : Int) v (by omega) (by omega)
  rw [Int.toNat_natCast] at p3
  have r2 : ∀ f, row σ 3 0 f 2 0 = σ 2 0 := fun _ => rfl
  have p4 := s6_put4 (N := N) (i := 0) (σ := row σ 3 0 (set (σ 3 0) K v)) (K : Int) u (by omega) (by omega)
  rw [Int.toNat_natCast] at p4
  rw [iX0_addKey, eX0_addKey_0, h, p3, bnd_s, push_n, eX0_addKey_6, r2, h, p4, bnd_s, push_n, eX0_addKey_12, sup_row]
  have r3 : ∀ f g, row (row σ 3 0 f) 4 0 g 2 0 = σ 2 0 := fun _ _ => rfl
  have r4 : ∀ f, row σ 3 0 f 4 0 = σ 4 0 := fun _ => rfl
  rw [r3, h, e1, r4]
  rfl
theorem addK_CR {p2 K : Nat} (h : CR n T p2 σ) (hK : K < 6) (e : σ 2 0 0 = (K : Int)) {v u : Int} (hv : 0 ≤ v ∧ v ≤ 9999) (hu : -1 ≤ u ∧ u < (K : Int)) : CR n T p2 (addK σ K v u) := by
  obtain ⟨ct, hp, h3, h4, a, b, c, d, e5, ⟨f1, f2⟩, i, k⟩ := h
  have r0 : addK σ K v u 2 0 0 = ((K + 1 : Nat) : Int) := rfl
  have r3 : addK σ K v u 3 0 = set (σ 3 0) K v := rfl
  have r4 : addK σ K v u 4 0 = set (σ 4 0) K u := rfl
  refine ⟨ct, hp, h3, h4, ?_, b, c, d, e5, ⟨fun l hl => ?_, f2⟩, ?_, k⟩
  · rw [r0]; omega
  · rw [r3]
    by_cases q : l = K
    · rw [q, set_same]; omega
    · rw [set_ne _ _ q]; exact f1 l hl
  · rw [r0, r4]
    refine ⟨by omega, fun l hl => ?_⟩
    by_cases q : l = K
    · rw [q, set_same]; omega
    · rw [set_ne _ _ q]
      exact i.2 l (by rw [e]; omega)
theorem addK_RR {K : Nat} {τ : Sto} (h : RR σ τ) (e : σ 2 0 0 = (K : Int)) (v u : Int) {τ2 : Sto} (f2 : τ2 30 0 2 = σ 8 0 3) (f3 : τ2 30 0 3 = -1) (f7 : τ2 30 0 7 = ((K + 1 : Nat) : Int)) (f8 : τ2 30 0 8 = τ 30 0 8) (f9 : τ2 30 0 9 = τ 30 0 9) (r34 : τ2 34 0 = set (τ 34 0) K v) (r35 : τ2 35 0 = set (τ 35 0) K u) (r37 : τ2 37 0 = τ 37 0) (r39 : τ2 39 0 = τ 39 0) : RR (addK σ K v u) τ2 := by
  obtain ⟨a, b, c, d, k, j, l, m, o, q⟩ := h
  refine ⟨f2, f3, f7, by rw [f8, d]; rfl, fun i hi => ?_, fun i hi => ?_, by rw [r39, l]; rfl, by rw [r39, m]; rfl, by rw [r39, o]; rfl, by rw [f9, q]; rfl⟩
  · have hi2 : (i : Int) < ((K + 1 : Nat) : Int) := hi
    have s3 : addK σ K v u 3 0 = set (σ 3 0) K v := rfl
    have s4 : addK σ K v u 4 0 = set (σ 4 0) K u := rfl
    rw [r34, r35, s3, s4]
    by_cases z : i = K
    · rw [z, set_same, set_same, set_same, set_same]; exact ⟨rfl, rfl⟩
    · rw [set_ne _ _ z, set_ne _ _ z, set_ne _ _ z, set_ne _ _ z]
      exact k i (by rw [e]; omega)
  · rw [r37]
    exact j i hi
theorem CFr_addK (σ : Sto) (K : Nat) (v u : Int) : CFr σ (addK σ K v u) := CFr_trans (CFr_row _ 3 _ (by decide)) (CFr_trans (CFr_row _ 4 _ (by decide)) (CFr_row _ 2 _ (by decide)))
theorem m_key_bad {τ : Sto} (h : MX n T τ) (x1 : Int) {e : Nat} (he : e ≤ n) (h2 : τ 30 0 2 = (e : Int)) (h3 : ¬ τ 30 0 3 = -1) {K : Nat} (hK : K ≤ 6) (h7 : τ 30 0 7 = (K : Int)) (y0 : Int) : ∃ τ2, ev N mX9_readsKey 16 [vR 30 0, vI x1] [vI y0, vI (K : Int), vR 34 0] (P τ) = some (none, P τ2) ∧ MFr τ τ2 ∧ τ2 30 0 3 = τ 30 0 3 := by
  obtain ⟨k1, k2, -, e1, -⟩ := key_n hK
  have r30 : ∀ f g, row (row τ 34 0 f) 35 0 g 30 0 = τ 30 0 := fun _ _ => rfl
  have r30a : ∀ f, row τ 34 0 f 30 0 = τ 30 0 := fun _ => rfl
  have m1 := MFr_row τ 34 (set (τ 34 0) K y0) (by decide)
  have tk := m_takes_bad (N := N) (MX_MFr h m1) he (by rw [r30a]; exact h2) (by rw [r30a]; exact h3) 5
  refine ⟨row (row (row τ 34 0 (set (τ 34 0) K y0)) 35 0 (set (τ 35 0) K (-1))) 30 0 (set (τ 30 0) 7 ((K + 1 : Nat) : Int)), ?_, MFr_trans m1 (MFr_trans (MFr_row _ 35 _ (by decide)) (MFr_30 _ _ (fun j a b c d e f => by rw [set_ne _ _ d, r30]))), ?_⟩
  · rw [eX9_readsKey_16, if_neg k1, if_pos k2, Int.toNat_natCast, sup_row, tk, bnd_s, push_s, r30a, h7, eX9_readsKey_24, if_pos rfl, if_neg k1, if_pos k2, Int.toNat_natCast, sup_row, sup_row]
    have r35 : ∀ f, row τ 34 0 f 35 0 = τ 35 0 := fun _ => rfl
    rw [r35, r30, h7, e1]
  · rw [row_same, set_ne _ _ (by decide)]
theorem XT {X : Sto → Prop} (h : X = fun _ => True) : ∀ τ f, X τ → X (row τ 30 0 f) := fun _ _ _ => by rw [h]; trivial
theorem line_key (h : CR n T p σ) (zw : ZW σ) (st : Nat) (hst : st ≤ n) : LINE n T σ (fun _ => True) (inv N mX4_readKey [vR 8 0, vI (st : Int)] (P σ)) (fun τ => inv N mX9_readsKey [vR 30 0, vI (st : Int)] (P τ)) := by
  obtain ⟨K, eK⟩ := Int.eq_ofNat_of_zero_le h.2.2.2.2.1.1
  have K6 : K ≤ 6 := by have := h.2.2.2.2.1.2; rw [eK] at this; clear h; omega
  obtain ⟨k0, k7, km, k1, kw⟩ := key_n K6
  by_cases q : K = 6
  · have kk : ¬ (K : Int) < 6 ∧ (K : Int) = 6 := by clear h; omega
    refine LINE_congr ?_ ?_ (LINE_fail (N := N) (XT rfl) h st 3 hst (by decide) (fun r S2 => ev N mX4_readKey 9 [vR 8 0, vI (st : Int), vX, vX] (push r []) S2) (fun r S2 => ev N mX9_readsKey 8 [vR 30 0, vI (st : Int)] (push r []) S2) (fun ρ => ?_) ?_)
    · rw [iX4_readKey, eX4_readKey_0, eK, if_neg kk.1]
      rfl
    · intro τ hx hr _
      rw [iX9_readsKey, eX9_readsKey_0, hr.2.2.1, eK, if_pos kk.2]
      rfl
    · rw [push_s, eX4_readKey_9, if_pos rfl]
    · intro τ hx h3 ⟨e, he, h2⟩ h7 h8
      obtain ⟨f, e2, n1, n2, n3, n4⟩ := m_number_bad (N := N) hx he h2 h3 0 9999
      have mfr : MFr τ (row τ 30 0 f) := MFr_30 τ f (fun j a _ c _ _ _ => n4 j a c)
      obtain ⟨τ2, j1, j2, j3⟩ := m_key_bad (N := N) (MX_MFr hx mfr) (st : Int) n3 (by rw [row_same]; exact n2) (by rw [row_same, n4 3 (by decide) (by decide)]; exact h3) K6 (by rw [row_same, n4 7 (by decide) (by decide), h7, eK]) 0
      refine ⟨τ2, ?_, MFr_trans mfr j2, by rw [j3, row_same, n4 3 (by decide) (by decide)]⟩
      show ev N mX9_readsKey 8 [vR 30 0, vI (st : Int)] (push none []) (P τ) = _
      rw [push_n, eX9_readsKey_8, n1, bnd_s, push_s, h7, eK, j1]
  have K5 : K < 6 := Nat.lt_of_le_of_ne K6 q
  obtain ⟨l6, n6, -⟩ := key_6 K5
  refine LINE_congr ?_ ?_ (LINE_num (N := N) (XT rfl) h 0 9999 (fun r S2 => ev N mX4_readKey 14 [vR 8 0, vI (st : Int), vX, vX] (push r []) S2) (fun r S2 => ev N mX9_readsKey 16 [vR 30 0, vI (st : Int)] (push r [vI (K : Int), vR 34 0]) S2) (fun ρ => ?_) (fun x => ?_) ?_)
  · rw [iX4_readKey, eX4_readKey_0, eK, if_pos l6]
  · intro τ hx hr _
    rw [iX9_readsKey, eX9_readsKey_0, hr.2.2.1, eK, if_neg n6, eX9_readsKey_8, hr.2.2.1, eK]
  · rw [push_s, eX4_readKey_14, if_pos rfl]
  · intro τ hx h3 ⟨e, he, h2⟩ h7 h8
    exact m_key_bad hx _ he h2 h3 K6 (by rw [h7, eK]) x
  intro ρ v e cr r5 hv s5 r7 _ _
  have eKρ : ρ 2 0 0 = (K : Int) := by rw [s5.1]; exact eK
  have zwρ : ZW ρ := ZW_o zw (by rw [s5.1]) s5.2.2.2
  -- the model's row of secrets
  refine LINE_step (ρ := ρ) (X2 := fun τ => τ 34 0 K = v) rfl (CFr_refl ρ) rfl (fun τ hx hr _ => ⟨row τ 34 0 (set (τ 34 0) K v), ?_, MFr_row τ 34 _ (by decide), ?_, ?_⟩) (?_ : LINE n T ρ (fun τ => τ 34 0 K = v) _ (fun τ => bnd (inv N mX9_takes [vR 30 0, vI ((5 : Nat) : Int)] (P τ)) (fun r S2 => ev N mX9_readsKey 24 [vR 30 0, vI (st : Int)] (push r [vI (K : Int), vR 35 0]) S2)))
  · show ev N mX9_readsKey 16 [vR 30 0, vI (st : Int)] (push (some (vI v)) [vI (K : Int), vR 34 0]) (P τ) = _
    have r30 : row τ 34 0 (set (τ 34 0) K v) 30 0 7 = (K : Int) := by
      show τ 30 0 7 = (K : Int)
      rw [hr.2.2.1, eKρ]
    rw [push_s, eX9_readsKey_16, if_neg k0, if_pos k7, Int.toNat_natCast, sup_row, r30]
    rfl
  · obtain ⟨a, b, c, d, k, j, l, m, o, w⟩ := hr
    refine ⟨a, b, c, d, fun i hi => ⟨?_, (k i hi).2⟩, j, l, m, o, w⟩
    have ne : i ≠ K := by
      rw [eKρ] at hi
      clear h cr k j
      omega
    rw [row_same, set_ne _ _ ne]
    exact (k i hi).1
  · rw [row_same, set_same]
  refine LINE_congr ?_ (fun τ _ _ _ => rfl) (LINE_word (N := N) (fun _ _ z => z) cr 5 (by decide) (fun r S2 => ev N mX4_readKey 25 [vR 8 0, vI (st : Int), vI v, vI (-1)] (push r []) S2) (fun r S2 => ev N mX9_readsKey 24 [vR 30 0, vI (st : Int)] (push r [vI (K : Int), vR 35 0]) S2) ?_)
  · rw [push_s, eX4_readKey_14, if_neg (by decide), r5]
    rfl
  intro a ρ2 e2 ha cr2 s52 r72 _
  have eK2 : ρ2 2 0 0 = (K : Int) := by rw [s52.1]; exact eKρ
  have zw2 : ZW ρ2 := ZW_o zwρ (by rw [s52.1]) s52.2.2.2
  have e30 : ∀ (τ : Sto) (b : Vec), row τ 35 0 b 30 0 = τ 30 0 := fun _ _ => rfl
  rcases ha with rfl | rfl
  · -- no key above
    refine LINE_ok e2 (σ2 := addK ρ2 K v (-1)) ?_ (CFr_addK _ _ _ _) (addK_CR cr2 K5 eK2 hv ⟨by decide, km⟩) (ZW_o zw2 rfl rfl) rfl (fun τ hx hr hX => ⟨row (row τ 35 0 (set (τ 35 0) K (-1))) 30 0 (set (τ 30 0) 7 ((K + 1 : Nat) : Int)), ?_, ?_, ?_⟩)
    · show ev N mX4_readKey 25 [vR 8 0, vI (st : Int), vI v, vI (-1)] (push (some (vI 0)) []) (P ρ2) = _
      rw [push_s, eX4_readKey_25, if_pos rfl, c_addKey K K5 eK2, bnd_s, push_n, eX4_readKey_45]
    · show ev N mX9_readsKey 24 [vR 30 0, vI (st : Int)] (push (some (vI 0)) [vI (K : Int), vR 35 0]) (P τ) = _
      rw [push_s, eX9_readsKey_24, if_pos rfl, if_neg k0, if_pos k7, Int.toNat_natCast]
      simp only [sup_row, e30, hr.2.2.1, eK2, k1]
    · exact MFr_trans (MFr_row τ 35 _ (by decide)) (MFr_30 _ _ (fun j a b c d e z => by rw [set_ne _ _ d, e30]))
    · exact addK_RR hr eK2 v (-1) (by rw [row_same, set_ne _ _ (by decide)]; exact hr.1) (by rw [row_same, set_ne _ _ (by decide)]; exact hr.2.1) (by rw [row_same, set_same]) (by rw [row_same, set_ne _ _ (by decide)]) (by rw [row_same, set_ne _ _ (by decide)]) (by rw [← hX, set_id]; rfl) rfl rfl rfl
  · -- a key above
    refine LINE_congr ?_ ?_ (LINE_num (N := N) (fun _ _ z => z) cr2 0 ((K : Int) - 1) (fun r S2 => ev N mX4_readKey 34 [vR 8 0, vI (st : Int), vI v, vI (-1)] (push r []) S2) (fun r S2 => ev N mX9_readsKey 32 [vR 30 0, vI (st : Int)] (push r [vI (K : Int), vR 35 0]) S2) (fun ρ => ?_) (fun x => ?_) ?_)
    · show ev N mX4_readKey 25 [vR 8 0, vI (st : Int), vI v, vI (-1)] (push (some (vI 1)) []) (P ρ2) = _
      rw [push_s, eX4_readKey_25, if_neg (by decide), eK2, kw]
    · intro τ hx hr hX
      show ev N mX9_readsKey 24 [vR 30 0, vI (st : Int)] (push (some (vI 1)) [vI (K : Int), vR 35 0]) (P τ) = _
      rw [push_s, eX9_readsKey_24, if_neg (by decide), hr.2.2.1, eK2, kw]
    · rw [push_s, eX4_readKey_34, if_pos rfl]
    · intro τ hx h3 _ h7 h8
      refine ⟨row (row τ 35 0 (set (τ 35 0) K x)) 30 0 (set (τ 30 0) 7 ((K + 1 : Nat) : Int)), ?_, ?_, ?_⟩
      · show ev N mX9_readsKey 32 [vR 30 0, vI (st : Int)] (push (some (vI x)) [vI (K : Int), vR 35 0]) (P τ) = _
        rw [push_s, eX9_readsKey_32, if_neg k0, if_pos k7, Int.toNat_natCast]
        simp only [sup_row, e30, h7, eK2, k1]
      · exact MFr_trans (MFr_row τ 35 _ (by decide)) (MFr_30 _ _ (fun j a b c d e z => by rw [set_ne _ _ d, e30]))
      · rw [row_same, set_ne _ _ (by decide)]
    intro ρ3 u e3 cr3 r53 hu s53 r73 _ _
    have eK3 : ρ3 2 0 0 = (K : Int) := by rw [s53.1]; exact eK2
    have zw3 : ZW ρ3 := ZW_o zw2 (by rw [s53.1]) s53.2.2.2
    have hu2 : -1 ≤ u ∧ u < (K : Int) := by
      obtain ⟨u0, u1⟩ := hu
      clear h cr cr2 cr3
      omega
    refine LINE_ok e3 (σ2 := addK ρ3 K v u) ?_ (CFr_addK _ _ _ _) (addK_CR cr3 K5 eK3 hv hu2) (ZW_o zw3 rfl rfl) rfl (fun τ hx hr hX => ⟨row (row τ 35 0 (set (τ 35 0) K u)) 30 0 (set (τ 30 0) 7 ((K + 1 : Nat) : Int)), ?_, ?_, ?_⟩)
    · show ev N mX4_readKey 34 [vR 8 0, vI (st : Int), vI v, vI (-1)] (push (some (vI 1)) []) (P ρ3) = _
      rw [push_s, eX4_readKey_34, if_neg (by decide), r53, c_addKey K K5 eK3, bnd_s, push_n, eX4_readKey_45]
    · show ev N mX9_readsKey 32 [vR 30 0, vI (st : Int)] (push (some (vI u)) [vI (K : Int), vR 35 0]) (P τ) = _
      rw [push_s, eX9_readsKey_32, if_neg k0, if_pos k7, Int.toNat_natCast]
      simp only [sup_row, e30, hr.2.2.1, eK3, k1]
    · exact MFr_trans (MFr_row τ 35 _ (by decide)) (MFr_30 _ _ (fun j a b c d e z => by rw [set_ne _ _ d, e30]))
    · exact addK_RR hr eK3 v u (by rw [row_same, set_ne _ _ (by decide)]; exact hr.1) (by rw [row_same, set_ne _ _ (by decide)]; exact hr.2.1) (by rw [row_same, set_same]) (by rw [row_same, set_ne _ _ (by decide)]) (by rw [row_same, set_ne _ _ (by decide)]) (by rw [← hX, set_id]; rfl) rfl rfl rfl
theorem st_bits {a b c : Int} (ha : a = 0 ∨ a = 1) (hb : b = 0 ∨ b = 1) (hc : c = 0 ∨ c = 1) : (bAnd (shr32 (4 * a + 8 * b + 16 * c) 2) 1 = a ∧ bOr (4 * 0 + 8 * b + 16 * c) (shl32 1 2) = 4 * 1 + 8 * b + 16 * c) ∧ (bAnd (shr32 (4 * a + 8 * b + 16 * c) 3) 1 = b ∧ bOr (4 * a + 8 * 0 + 16 * c) (shl32 1 3) = 4 * a + 8 * 1 + 16 * c) ∧ (bAnd (shr32 (4 * a + 8 * b + 16 * c) 4) 1 = c ∧ bOr (4 * a + 8 * b + 16 * 0) (shl32 1 4) = 4 * a + 8 * b + 16 * 1) := by
  rcases ha with rfl | rfl <;> rcases hb with rfl | rfl <;> rcases hc with rfl | rfl <;> decide +kernel
theorem line_limit (h : CR n T p σ) (zw : ZW σ) (st : Nat) (hst : st ≤ n) : LINE n T σ (fun _ => True) (inv N mX4_readLimit [vR 8 0, vI (st : Int)] (P σ)) (fun τ => inv N mX9_readsSetting [vR 30 0, vI 2, vI (st : Int)] (P τ)) := by
  have b7 := h.2.2.2.2.2.2.2.2.2.2.2 7 (by decide) (by decide)
  have b8 := h.2.2.2.2.2.2.2.2.2.2.2 8 (by decide) (by decide)
  have b9 := h.2.2.2.2.2.2.2.2.2.2.2 9 (by decide) (by decide)
  have bits := (st_bits b7 b8 b9).1
  have nb : ∀ τ : Sto, RR σ τ → τ 30 0 9 = 4 * σ 8 0 7 + 8 * σ 8 0 8 + 16 * σ 8 0 9 := fun τ hr => hr.2.2.2.2.2.2.2.2.2
  have e39 : ∀ (τ : Sto) (f : Vec), row τ 30 0 f 39 0 = τ 39 0 := fun _ _ => rfl
  rcases b7 with q | q
  case inr =>
    refine LINE_congr ?_ ?_ (LINE_fail (N := N) (XT rfl) h st 3 hst (by decide) (fun r S2 => ev N mX4_readLimit 7 [vR 8 0, vI (st : Int)] (push r []) S2) (fun r S2 => ev N mX9_readsSetting 12 [vR 30 0, vI 2, vI (st : Int)] (push r []) S2) (fun ρ => ?_) ?_)
    · rw [iX4_readLimit, eX4_readLimit_0, if_neg (by rw [q]; decide)]
      rfl
    · intro τ hx hr _
      rw [iX9_readsSetting, eX9_readsSetting_0, nb τ hr, if_pos (bits.1.trans q)]
      rfl
    · rw [push_s, eX4_readLimit_7, if_pos rfl]
    · intro τ hx h3 ⟨e, he, h2⟩ h7 h8
      have m9 : MFr τ (row τ 30 0 (set (τ 30 0) 9 (bOr (τ 30 0 9) (shl32 1 2)))) := MFr_30 τ _ (fun j _ _ _ _ _ z => set_ne _ _ z)
      obtain ⟨f, e2, n1, n2, n3, n4⟩ := m_number_bad (N := N) (MX_MFr hx m9) he (by rw [row_same, set_ne _ _ (by decide)]; exact h2) (by rw [row_same, set_ne _ _ (by decide)]; exact h3) 1 9
      rw [row_row] at n1
      simp only [row_same] at n4
      refine ⟨row (row τ 30 0 f) 39 0 (set (τ 39 0) 2 0), ?_, MFr_trans (MFr_30 τ f (fun j a _ c _ _ z => (n4 j a c).trans (set_ne _ _ z))) (MFr_row _ 39 _ (by decide)), ?_⟩
      · show ev N mX9_readsSetting 12 [vR 30 0, vI 2, vI (st : Int)] (push none []) (P τ) = _
        rw [push_n, eX9_readsSetting_12, if_pos rfl, sup_row, n1, bnd_s, push_s, eX9_readsSetting_37, if_neg (by decide), if_pos (by decide), sup_row, e39]
        rfl
      · show f 3 = τ 30 0 3
        rw [n4 3 (by decide) (by decide), set_ne _ _ (by decide)]
  have g8 : ∀ j, j ≠ 7 → set (σ 8 0) 7 1 j = σ 8 0 j := fun j hj => set_ne _ _ hj
  refine LINE_step (ρ := row σ 8 0 (set (σ 8 0) 7 1)) (X2 := fun _ => True) ?_ (CFr_row σ 8 _ (by decide)) (by rw [row_same]; exact g8 10 (by decide)) (fun τ hx hr _ => ⟨row τ 30 0 (set (τ 30 0) 9 (bOr (τ 30 0 9) (shl32 1 2))), ?_, MFr_30 τ _ (fun j _ _ _ _ _ z => set_ne _ _ z), ?_, trivial⟩) (LINE_num (N := N) (p := p) (XT rfl) ?_ 1 9 (fun r S2 => ev N mX4_readLimit 15 [vR 8 0, vI (st : Int)] (push r []) S2) (fun r S2 => ev N mX9_readsSetting 37 [vR 30 0, vI 2, vI (st : Int)] (push r [vI 2, vR 39 0]) S2) (fun ρ => ?_) (fun x => ?_) ?_)
  · rw [iX4_readLimit, eX4_readLimit_0, if_pos q, sup_row]
  · show inv N mX9_readsSetting [vR 30 0, vI 2, vI (st : Int)] (P τ) = _
    rw [iX9_readsSetting, eX9_readsSetting_0, nb τ hr, if_neg (by rw [bits.1, q]; decide), eX9_readsSetting_12, if_pos rfl, sup_row, nb τ hr]
  · obtain ⟨a, b, c, d, k, j, l, m, o, w⟩ := hr
    have bo := bits.2
    rw [q] at w
    refine ⟨?_, ?_, ?_, ?_, k, j, l, m, o, ?_⟩
    · rw [row_same, row_same, set_ne _ _ (by decide), g8 3 (by decide)]; exact a
    · rw [row_same, set_ne _ _ (by decide)]; exact b
    · rw [row_same, set_ne _ _ (by decide)]; exact c
    · rw [row_same, set_ne _ _ (by decide)]; exact d
    · rw [row_same, row_same, set_same, w, bo, set_ne _ _ (show 8 ≠ 7 by decide), set_ne _ _ (show 9 ≠ 7 by decide), set_same]
  · obtain ⟨ct, hp, h3, h4, a, b, c, d, e, f, i, k⟩ := h
    refine ⟨CT_row ct (g8 2 (by decide)), hp, by rw [row_same, g8 3 (by decide)]; exact h3, by rw [row_same, g8 4 (by decide)]; exact h4, a, b, c, d, e, f, i, fun l h1 h2 => ?_⟩
    rw [row_same]
    by_cases z : l = 7
    · rw [z, set_same]; exact Or.inr rfl
    · rw [set_ne _ _ z]; exact k l h1 h2
  · rw [push_s, eX4_readLimit_15, if_pos rfl]
  · intro τ hx h3 _ h7 h8
    refine ⟨row τ 39 0 (set (τ 39 0) 2 x), ?_, MFr_row τ 39 _ (by decide), rfl⟩
    show ev N mX9_readsSetting 37 [vR 30 0, vI 2, vI (st : Int)] (push (some (vI x)) [vI 2, vR 39 0]) (P τ) = _
    rw [push_s, eX9_readsSetting_37, if_neg (by decide), if_pos (by decide), sup_row]
    rfl
  intro ρ v e cr r5 hv s5 r7 _ _
  refine LINE_ok e (σ2 := row ρ 2 0 (set (ρ 2 0) 2 v)) ?_ (CFr_row ρ 2 _ (by decide)) ?_ (ZW_o zw (by rw [row_same, set_ne _ _ (by decide), s5.1]; rfl) s5.2.2.2) rfl (fun τ hx hr _ => ⟨row τ 39 0 (set (τ 39 0) 2 v), ?_, MFr_row τ 39 _ (by decide), ?_⟩)
  · show ev N mX4_readLimit 15 [vR 8 0, vI (st : Int)] (push (some (vI 1)) []) (P ρ) = _
    rw [push_s, eX4_readLimit_15, if_neg (by decide), r5, sup_row]
  · obtain ⟨ct, hp, h3, h4, a, b, c, d, e5, f, i, k⟩ := cr
    exact ⟨ct, hp, h3, h4, a, b, hv, d, e5, f, i, k⟩
  · show ev N mX9_readsSetting 37 [vR 30 0, vI 2, vI (st : Int)] (push (some (vI v)) [vI 2, vR 39 0]) (P τ) = _
    rw [push_s, eX9_readsSetting_37, if_neg (by decide), if_pos (by decide), sup_row]
    rfl
  · obtain ⟨a, b, c, d, k, j, l, m, o, w⟩ := hr
    exact ⟨a, b, c, d, k, j, rfl, m, o, w⟩
theorem line_tries (h : CR n T p σ) (zw : ZW σ) (st : Nat) (hst : st ≤ n) : LINE n T σ (fun _ => True) (inv N mX4_readTries [vR 8 0, vI (st : Int)] (P σ)) (fun τ => inv N mX9_readsSetting [vR 30 0, vI 3, vI (st : Int)] (P τ)) := by
  have b7 := h.2.2.2.2.2.2.2.2.2.2.2 7 (by decide) (by decide)
  have b8 := h.2.2.2.2.2.2.2.2.2.2.2 8 (by decide) (by decide)
  have b9 := h.2.2.2.2.2.2.2.2.2.2.2 9 (by decide) (by decide)
  have bits := (st_bits b7 b8 b9).2.1
  have nb : ∀ τ : Sto, RR σ τ → τ 30 0 9 = 4 * σ 8 0 7 + 8 * σ 8 0 8 + 16 * σ 8 0 9 := fun τ hr => hr.2.2.2.2.2.2.2.2.2
  have e39 : ∀ (τ : Sto) (f : Vec), row τ 30 0 f 39 0 = τ 39 0 := fun _ _ => rfl
  rcases b8 with q | q
  case inr =>
    refine LINE_congr ?_ ?_ (LINE_fail (N := N) (XT rfl) h st 3 hst (by decide) (fun r S2 => ev N mX4_readTries 7 [vR 8 0, vI (st : Int)] (push r []) S2) (fun r S2 => ev N mX9_readsSetting 12 [vR 30 0, vI 3, vI (st : Int)] (push r []) S2) (fun ρ => ?_) ?_)
    · rw [iX4_readTries, eX4_readTries_0, if_neg (by rw [q]; decide)]
      rfl
    · intro τ hx hr _
      rw [iX9_readsSetting, eX9_readsSetting_0, nb τ hr, if_pos (bits.1.trans q)]
      rfl
    · rw [push_s, eX4_readTries_7, if_pos rfl]
    · intro τ hx h3 ⟨e, he, h2⟩ h7 h8
      have m9 : MFr τ (row τ 30 0 (set (τ 30 0) 9 (bOr (τ 30 0 9) (shl32 1 3)))) := MFr_30 τ _ (fun j _ _ _ _ _ z => set_ne _ _ z)
      obtain ⟨f, e2, n1, n2, n3, n4⟩ := m_number_bad (N := N) (MX_MFr hx m9) he (by rw [row_same, set_ne _ _ (by decide)]; exact h2) (by rw [row_same, set_ne _ _ (by decide)]; exact h3) 1 7
      rw [row_row] at n1
      simp only [row_same] at n4
      refine ⟨row (row τ 30 0 f) 39 0 (set (τ 39 0) 3 0), ?_, MFr_trans (MFr_30 τ f (fun j a _ c _ _ z => (n4 j a c).trans (set_ne _ _ z))) (MFr_row _ 39 _ (by decide)), ?_⟩
      · show ev N mX9_readsSetting 12 [vR 30 0, vI 3, vI (st : Int)] (push none []) (P τ) = _
        rw [push_n, eX9_readsSetting_12, if_neg (by decide), if_pos rfl, sup_row, n1, bnd_s, push_s, eX9_readsSetting_37, if_neg (by decide), if_pos (by decide), sup_row, e39]
        rfl
      · show f 3 = τ 30 0 3
        rw [n4 3 (by decide) (by decide), set_ne _ _ (by decide)]
  have g8 : ∀ j, j ≠ 8 → set (σ 8 0) 8 1 j = σ 8 0 j := fun j hj => set_ne _ _ hj
  refine LINE_step (ρ := row σ 8 0 (set (σ 8 0) 8 1)) (X2 := fun _ => True) ?_ (CFr_row σ 8 _ (by decide)) (by rw [row_same]; exact g8 10 (by decide)) (fun τ hx hr _ => ⟨row τ 30 0 (set (τ 30 0) 9 (bOr (τ 30 0 9) (shl32 1 3))), ?_, MFr_30 τ _ (fun j _ _ _ _ _ z => set_ne _ _ z), ?_, trivial⟩) (LINE_num (N := N) (p := p) (XT rfl) ?_ 1 7 (fun r S2 => ev N mX4_readTries 15 [vR 8 0, vI (st : Int)] (push r []) S2) (fun r S2 => ev N mX9_readsSetting 37 [vR 30 0, vI 3, vI (st : Int)] (push r [vI 3, vR 39 0]) S2) (fun ρ => ?_) (fun x => ?_) ?_)
  · rw [iX4_readTries, eX4_readTries_0, if_pos q, sup_row]
  · show inv N mX9_readsSetting [vR 30 0, vI 3, vI (st : Int)] (P τ) = _
    rw [iX9_readsSetting, eX9_readsSetting_0, nb τ hr, if_neg (by rw [bits.1, q]; decide), eX9_readsSetting_12, if_neg (by decide), if_pos rfl, sup_row, nb τ hr]
  · obtain ⟨a, b, c, d, k, j, l, m, o, w⟩ := hr
    have bo := bits.2
    rw [q] at w
    refine ⟨?_, ?_, ?_, ?_, k, j, l, m, o, ?_⟩
    · rw [row_same, row_same, set_ne _ _ (by decide), g8 3 (by decide)]; exact a
    · rw [row_same, set_ne _ _ (by decide)]; exact b
    · rw [row_same, set_ne _ _ (by decide)]; exact c
    · rw [row_same, set_ne _ _ (by decide)]; exact d
    · rw [row_same, row_same, set_same, w, bo, set_ne _ _ (show 7 ≠ 8 by decide), set_ne _ _ (show 9 ≠ 8 by decide), set_same]
  · obtain ⟨ct, hp, h3, h4, a, b, c, d, e, f, i, k⟩ := h
    refine ⟨CT_row ct (g8 2 (by decide)), hp, by rw [row_same, g8 3 (by decide)]; exact h3, by rw [row_same, g8 4 (by decide)]; exact h4, a, b, c, d, e, f, i, fun l h1 h2 => ?_⟩
    rw [row_same]
    by_cases z : l = 8
    · rw [z, set_same]; exact Or.inr rfl
    · rw [set_ne _ _ z]; exact k l h1 h2
  · rw [push_s, eX4_readTries_15, if_pos rfl]
  · intro τ hx h3 _ h7 h8
    refine ⟨row τ 39 0 (set (τ 39 0) 3 x), ?_, MFr_row τ 39 _ (by decide), rfl⟩
    show ev N mX9_readsSetting 37 [vR 30 0, vI 3, vI (st : Int)] (push (some (vI x)) [vI 3, vR 39 0]) (P τ) = _
    rw [push_s, eX9_readsSetting_37, if_neg (by decide), if_pos (by decide), sup_row]
    rfl
  intro ρ v e cr r5 hv s5 r7 _ _
  refine LINE_ok e (σ2 := row ρ 2 0 (set (ρ 2 0) 3 v)) ?_ (CFr_row ρ 2 _ (by decide)) ?_ (ZW_o zw (by rw [row_same, set_ne _ _ (by decide), s5.1]; rfl) s5.2.2.2) rfl (fun τ hx hr _ => ⟨row τ 39 0 (set (τ 39 0) 3 v), ?_, MFr_row τ 39 _ (by decide), ?_⟩)
  · show ev N mX4_readTries 15 [vR 8 0, vI (st : Int)] (push (some (vI 1)) []) (P ρ) = _
    rw [push_s, eX4_readTries_15, if_neg (by decide), r5, sup_row]
  · obtain ⟨ct, hp, h3, h4, a, b, c, d, e5, f, i, k⟩ := cr
    exact ⟨ct, hp, h3, h4, a, b, c, hv, e5, f, i, k⟩
  · show ev N mX9_readsSetting 37 [vR 30 0, vI 3, vI (st : Int)] (push (some (vI v)) [vI 3, vR 39 0]) (P τ) = _
    rw [push_s, eX9_readsSetting_37, if_neg (by decide), if_pos (by decide), sup_row]
    rfl
  · obtain ⟨a, b, c, d, k, j, l, m, o, w⟩ := hr
    exact ⟨a, b, c, d, k, j, l, rfl, o, w⟩
theorem line_watch (h : CR n T p σ) (zw : ZW σ) (st : Nat) (hst : st ≤ n) : LINE n T σ (fun _ => True) (inv N mX4_readWatch [vR 8 0, vI (st : Int)] (P σ)) (fun τ => inv N mX9_readsSetting [vR 30 0, vI 4, vI (st : Int)] (P τ)) := by
  have b7 := h.2.2.2.2.2.2.2.2.2.2.2 7 (by decide) (by decide)
  have b8 := h.2.2.2.2.2.2.2.2.2.2.2 8 (by decide) (by decide)
  have b9 := h.2.2.2.2.2.2.2.2.2.2.2 9 (by decide) (by decide)
  have bits := (st_bits b7 b8 b9).2.2
  have nb : ∀ τ : Sto, RR σ τ → τ 30 0 9 = 4 * σ 8 0 7 + 8 * σ 8 0 8 + 16 * σ 8 0 9 := fun τ hr => hr.2.2.2.2.2.2.2.2.2
  have e39 : ∀ (τ : Sto) (f : Vec), row τ 30 0 f 39 0 = τ 39 0 := fun _ _ => rfl
  rcases b9 with q | q
  case inr =>
    refine LINE_congr ?_ ?_ (LINE_fail (N := N) (XT rfl) h st 3 hst (by decide) (fun r S2 => ev N mX4_readWatch 7 [vR 8 0, vI (st : Int)] (push r []) S2) (fun r S2 => ev N mX9_readsSetting 12 [vR 30 0, vI 4, vI (st : Int)] (push r []) S2) (fun ρ => ?_) ?_)
    · rw [iX4_readWatch, eX4_readWatch_0, if_neg (by rw [q]; decide)]
      rfl
    · intro τ hx hr _
      rw [iX9_readsSetting, eX9_readsSetting_0, nb τ hr, if_pos (bits.1.trans q)]
      rfl
    · rw [push_s, eX4_readWatch_7, if_pos rfl]
    · intro τ hx h3 ⟨e, he, h2⟩ h7 h8
      have m9 : MFr τ (row τ 30 0 (set (τ 30 0) 9 (bOr (τ 30 0 9) (shl32 1 4)))) := MFr_30 τ _ (fun j _ _ _ _ _ z => set_ne _ _ z)
      obtain ⟨f, e2, n1, n2, n3, n4⟩ := m_number_bad (N := N) (MX_MFr hx m9) he (by rw [row_same, set_ne _ _ (by decide)]; exact h2) (by rw [row_same, set_ne _ _ (by decide)]; exact h3) 1 99
      rw [row_row] at n1
      simp only [row_same] at n4
      refine ⟨row (row τ 30 0 f) 39 0 (set (τ 39 0) 4 0), ?_, MFr_trans (MFr_30 τ f (fun j a _ c _ _ z => (n4 j a c).trans (set_ne _ _ z))) (MFr_row _ 39 _ (by decide)), ?_⟩
      · show ev N mX9_readsSetting 12 [vR 30 0, vI 4, vI (st : Int)] (push none []) (P τ) = _
        rw [push_n, eX9_readsSetting_12, if_neg (by decide), if_neg (by decide), sup_row, n1, bnd_s, push_s, eX9_readsSetting_37, if_neg (by decide), if_pos (by decide), sup_row, e39]
        rfl
      · show f 3 = τ 30 0 3
        rw [n4 3 (by decide) (by decide), set_ne _ _ (by decide)]
  have g8 : ∀ j, j ≠ 9 → set (σ 8 0) 9 1 j = σ 8 0 j := fun j hj => set_ne _ _ hj
  refine LINE_step (ρ := row σ 8 0 (set (σ 8 0) 9 1)) (X2 := fun _ => True) ?_ (CFr_row σ 8 _ (by decide)) (by rw [row_same]; exact g8 10 (by decide)) (fun τ hx hr _ => ⟨row τ 30 0 (set (τ 30 0) 9 (bOr (τ 30 0 9) (shl32 1 4))), ?_, MFr_30 τ _ (fun j _ _ _ _ _ z => set_ne _ _ z), ?_, trivial⟩) (LINE_num (N := N) (p := p) (XT rfl) ?_ 1 99 (fun r S2 => ev N mX4_readWatch 15 [vR 8 0, vI (st : Int)] (push r []) S2) (fun r S2 => ev N mX9_readsSetting 37 [vR 30 0, vI 4, vI (st : Int)] (push r [vI 4, vR 39 0]) S2) (fun ρ => ?_) (fun x => ?_) ?_)
  · rw [iX4_readWatch, eX4_readWatch_0, if_pos q, sup_row]
  · show inv N mX9_readsSetting [vR 30 0, vI 4, vI (st : Int)] (P τ) = _
    rw [iX9_readsSetting, eX9_readsSetting_0, nb τ hr, if_neg (by rw [bits.1, q]; decide), eX9_readsSetting_12, if_neg (by decide), if_neg (by decide), sup_row, nb τ hr]
  · obtain ⟨a, b, c, d, k, j, l, m, o, w⟩ := hr
    have bo := bits.2
    rw [q] at w
    refine ⟨?_, ?_, ?_, ?_, k, j, l, m, o, ?_⟩
    · rw [row_same, row_same, set_ne _ _ (by decide), g8 3 (by decide)]; exact a
    · rw [row_same, set_ne _ _ (by decide)]; exact b
    · rw [row_same, set_ne _ _ (by decide)]; exact c
    · rw [row_same, set_ne _ _ (by decide)]; exact d
    · rw [row_same, row_same, set_same, w, bo, set_ne _ _ (show 7 ≠ 9 by decide), set_ne _ _ (show 8 ≠ 9 by decide), set_same]
  · obtain ⟨ct, hp, h3, h4, a, b, c, d, e, f, i, k⟩ := h
    refine ⟨CT_row ct (g8 2 (by decide)), hp, by rw [row_same, g8 3 (by decide)]; exact h3, by rw [row_same, g8 4 (by decide)]; exact h4, a, b, c, d, e, f, i, fun l h1 h2 => ?_⟩
    rw [row_same]
    by_cases z : l = 9
    · rw [z, set_same]; exact Or.inr rfl
    · rw [set_ne _ _ z]; exact k l h1 h2
  · rw [push_s, eX4_readWatch_15, if_pos rfl]
  · intro τ hx h3 _ h7 h8
    refine ⟨row τ 39 0 (set (τ 39 0) 4 x), ?_, MFr_row τ 39 _ (by decide), rfl⟩
    show ev N mX9_readsSetting 37 [vR 30 0, vI 4, vI (st : Int)] (push (some (vI x)) [vI 4, vR 39 0]) (P τ) = _
    rw [push_s, eX9_readsSetting_37, if_neg (by decide), if_pos (by decide), sup_row]
    rfl
  intro ρ v e cr r5 hv s5 r7 _ _
  refine LINE_ok e (σ2 := row ρ 2 0 (set (ρ 2 0) 4 v)) ?_ (CFr_row ρ 2 _ (by decide)) ?_ (ZW_o zw (by rw [row_same, set_ne _ _ (by decide), s5.1]; rfl) s5.2.2.2) rfl (fun τ hx hr _ => ⟨row τ 39 0 (set (τ 39 0) 4 v), ?_, MFr_row τ 39 _ (by decide), ?_⟩)
  · show ev N mX4_readWatch 15 [vR 8 0, vI (st : Int)] (push (some (vI 1)) []) (P ρ) = _
    rw [push_s, eX4_readWatch_15, if_neg (by decide), r5, sup_row]
  · obtain ⟨ct, hp, h3, h4, a, b, c, d, e5, f, i, k⟩ := cr
    exact ⟨ct, hp, h3, h4, a, b, c, d, hv, f, i, k⟩
  · show ev N mX9_readsSetting 37 [vR 30 0, vI 4, vI (st : Int)] (push (some (vI v)) [vI 4, vR 39 0]) (P τ) = _
    rw [push_s, eX9_readsSetting_37, if_neg (by decide), if_pos (by decide), sup_row]
    rfl
  · obtain ⟨a, b, c, d, k, j, l, m, o, w⟩ := hr
    exact ⟨a, b, c, d, k, j, l, m, rfl, w⟩
end LIN
end
section
/-! IMAGES: a stretch of fourteen words, digests from the last part on -/
def img (w b : Vec) (a : Nat) : Vec := fun j => if a ≤ j ∧ j < a + 14 then w (j - a) else b j
theorem img_at (w b : Vec) (a : Nat) {i : Nat} (h : i < 14) : img w b a (a + i) = w i := by
  unfold img
  rw [if_pos ⟨Nat.le_add_right a i, by omega⟩, Nat.add_sub_cancel_left]
theorem img_out (w b : Vec) (a : Nat) {j : Nat} (h : j < a ∨ a + 14 ≤ j) : img w b a j = b j := by
  unfold img
  rw [if_neg (by omega)]
theorem img_set (w b : Vec) (a : Nat) {i : Nat} (h : i < 14) (v : Int) : set (img w b a) (a + i) v = img (set w i v) b a := by
  funext j
  show (if j = a + i then v else if a ≤ j ∧ j < a + 14 then w (j - a) else b j) = if a ≤ j ∧ j < a + 14 then (if j - a = i then v else w (j - a)) else b j
  by_cases q : j = a + i
  · rw [if_pos q, if_pos ⟨by omega, by omega⟩, if_pos (by omega)]
  · rw [if_neg q]
    by_cases z : a ≤ j ∧ j < a + 14
    · rw [if_pos z, if_pos z, if_neg (by omega)]
    · rw [if_neg z, if_neg z]
theorem img_of {w b : Vec} {a : Nat} (h : ∀ j, j < 14 → b (a + j) = w j) : b = img w b a := by
  funext j
  unfold img
  split
  · rename_i z
    rw [← h (j - a) (by omega), show a + (j - a) = j by omega]
  · rfl
theorem img_id (b : Vec) (a : Nat) : img (fun i => b (a + i)) b a = b := by
  funext j
  unfold img
  split
  · rename_i h
    show b (a + (j - a)) = b j
    rw [show a + (j - a) = j by omega]
  · rfl
def digL : Nat → Vec → Int → Vec × Int
  | 0, w, d => (w, d)
  | m + 1, w, d => digL m (set w (7 + 2 * m) d) (dig (w (6 + 2 * m)) d)
theorem dig_r (p b : Int) : 0 ≤ dig p b ∧ dig p b < 65536 := by unfold dig; omega
theorem digL_lo : ∀ (m : Nat) (w : Vec) (d : Int) {j : Nat}, j < 6 → (digL m w d).1 j = w j
  | 0, _, _, _, _ => rfl
  | m + 1, w, d, j, h => by
    rw [digL, digL_lo m _ _ h, set_ne _ _ (by omega)]
theorem digL_eq : ∀ (m : Nat) (w w2 : Vec) (d : Int), (∀ j, 6 ≤ j → w j = w2 j) → (digL m w d).2 = (digL m w2 d).2 ∧ ∀ j, 6 ≤ j → (digL m w d).1 j = (digL m w2 d).1 j
  | 0, _, _, _, h => ⟨rfl, h⟩
  | m + 1, w, w2, d, h => by
    rw [digL, digL, h (6 + 2 * m) (by omega)]
    refine digL_eq m _ _ _ (fun j hj => ?_)
    unfold set
    rw [h j hj]
theorem digL_r : ∀ (m : Nat) (w : Vec) (d : Int), 0 ≤ d ∧ d < 65536 → (∀ j, 0 ≤ w j ∧ w j < 100000) → (0 ≤ (digL m w d).2 ∧ (digL m w d).2 < 65536) ∧ ∀ j, 0 ≤ (digL m w d).1 j ∧ (digL m w d).1 j < 100000
  | 0, _, _, h, g => ⟨h, g⟩
  | m + 1, w, d, h, g => by
    rw [digL]
    refine digL_r m _ _ (dig_r _ _) (fun j => ?_)
    unfold set
    split
    · omega
    · exact g j
section IMG
variable {N n : Nat} {T : Vec} {σ : Sto} {p : Nat}
theorem i_n {a i : Nat} (ha : a ≤ 84) (hi : i < 14) : w32 ((a : Int) + (i : Int)) = ((a + i : Nat) : Int) ∧ ¬ (((a + i : Nat) : Int) < 0) ∧ ((a + i : Nat) : Int) < 98 ∧ 0 ≤ ((a + i : Nat) : Int) := by
  refine ⟨?_, by omega, by omega, by omega⟩
  rw [w32i (by omega) (by omega)]; omega
theorem i_n84 {a i : Nat} (ha : a ≤ 70) (hi : i < 14) : ((a + i : Nat) : Int) < 84 := by omega
theorem i_k {a k c : Nat} (ha : a ≤ 84) (hk : k < 4) (hc : c = 6 ∨ c = 7) : w32 (w32 ((a : Int) + (c : Int)) + w32 (2 * (k : Int))) = ((a + (c + 2 * k) : Nat) : Int) := by
  rw [w32i (x := (a : Int) + (c : Int)) (by omega) (by omega), w32i (x := 2 * (k : Int)) (by omega) (by omega), w32i (by omega) (by omega)]
  omega
theorem c_put (a i : Nat) (ha : a ≤ 70) (hi : i < 14) (w b : Vec) (v : Int) (h : σ 5 0 = img w b a) : inv N mX6_put [vR 5 0, vI ((a + i : Nat) : Int), vI v] (P σ) = some (none, P (row σ 5 0 (img (set w i v) b a))) := by
  have z := s6_put5 (N := N) (i := 0) (σ := σ) ((a + i : Nat) : Int) v (i_n (by omega) hi).2.2.2 (i_n84 ha hi)
  rw [Int.toNat_natCast, h, img_set w b a hi] at z
  exact z
theorem c_digs (a : Nat) (ha : a ≤ 70) (b : Vec) (x1 x2 x3 x4 : Int) : ∀ (m : Nat) (w : Vec) (d : Int) (τ : Sto), m ≤ 4 → τ 5 0 = img w b a → ev N mX0_addImage 11 [vR 2 0, vI x1, vI x2, vI x3, vI x4, vI (a : Int), vI d, vI ((m : Int) - 1)] [] (P τ) = ev N mX0_addImage 11 [vR 2 0, vI x1, vI x2, vI x3, vI x4, vI (a : Int), vI (digL m w d).2, vI (-1)] [] (P (row τ 5 0 (img (digL m w d).1 b a))) := by
  intro m
  induction m with
  | zero =>
    intro w d τ _ h
    rw [digL, ← h, row_id]
    rfl
  | succ m ih =>
    intro w d τ hm h
    have e0 : ((m + 1 : Nat) : Int) - 1 = (m : Int) := by omega
    have e1 : w32 ((m : Int) + -1) = (m : Int) - 1 := by rw [w32i (by omega) (by omega)]; omega
    have k7 := i_k (a := a) (k := m) (c := 7) (by omega) (by omega) (Or.inr rfl)
    have k6 := i_k (a := a) (k := m) (c := 6) (by omega) (by omega) (Or.inl rfl)
    have nn : ¬ (m : Int) < 0 := by omega
    have i7 : 7 + 2 * m < 14 := by omega
    have i6 : 6 + 2 * m < 14 := by omega
    have n6 := i_n (a := a) (i := 6 + 2 * m) (by omega) i6
    have n84 := i_n84 ha i6
    simp only [Int.cast_ofNat_Int] at k7 k6
    have at5 := s6_at5 (N := N) (i := 0) (σ := row τ 5 0 (img (set w (7 + 2 * m) d) b a)) ((a + (6 + 2 * m) : Nat) : Int) n6.2.2.2 n84
    rw [Int.toNat_natCast, row_same, img_at _ _ _ i6, set_ne _ _ (show 6 + 2 * m ≠ 7 + 2 * m by omega)] at at5
    rw [e0, eX0_addImage_11, if_neg nn, k7, c_put a _ ha i7 w b d h, bnd_s, push_n, eX0_addImage_24, k6, at5, bnd_s, push_s, eX0_addImage_34, s0_digest, bnd_s, push_s, eX0_addImage_36, e1, ih (set w (7 + 2 * m) d) (dig (w (6 + 2 * m)) d) _ (by omega) (row_same _ _ _ _), row_row]
    rfl
/-- the words of an image that is added -/
def addW (w : Vec) (m : Nat) (ver key rev sg : Int) : Vec := set (set (set (set (set (set (digL m w 0).1 0 (ver + 1)) 1 key) 2 rev) 3 (m : Int)) 4 (digL m w 0).2) 5 sg
def sgW (sec : Vec) (w : Vec) (m : Nat) (ver key rev : Int) : Int := sgn (sec key.toNat) (ver + 1) key rev (m : Int) (digL m w 0).2
theorem c_addImage (I : Nat) (hI : I < 6) (hi : σ 2 0 1 = (I : Int)) (w : Vec) (h : ∀ j, j < 14 → σ 5 0 (14 * I + j) = w j) (m : Nat) (hm : m ≤ 4) (ver key rev : Int) (hv : 0 ≤ ver ∧ ver ≤ 30) (hk : 0 ≤ key ∧ key < 6) (hs : ∀ k, k < 6 → 0 ≤ σ 3 0 k ∧ σ 3 0 k < 10000) : inv N mX0_addImage [vR 2 0, vI ver, vI key, vI rev, vI (m : Int)] (P σ) = some (none, P (row (row σ 5 0 (img (addW w m ver key rev (sgW (σ 3 0) w m ver key rev)) (σ 5 0) (14 * I))) 2 0 (set (σ 2 0) 1 ((I + 1 : Nat) : Int)))) := by
  have ha : 14 * I ≤ 70 := by omega
  have ha4 : 14 * I + 4 < 84 := by omega
  have h2 : σ 5 0 = img w (σ 5 0) (14 * I) := img_of h
  have e14 : w32 ((I : Int) * 14) = ((14 * I : Nat) : Int) := by rw [w32i (by omega) (by omega)]; omega
  have em : w32 ((m : Int) - 1) = (m : Int) - 1 := w32i (by omega) (by omega)
  have ev1 : w32 (ver + 1) = ver + 1 := w32i (by omega) (by omega)
  have eI : w32 ((I : Int) + 1) = ((I + 1 : Nat) : Int) := by rw [w32i (by omega) (by omega)]; omega
  generalize hb : σ 5 0 = b at h2
  have a84 : 14 * I ≤ 84 := Nat.le_trans ha (by decide)
  clear h hI
  generalize 14 * I = a at ha ha4 e14 h2 a84 ⊢
  have q1 := (i_n (a := a) (i := 1) a84 (by decide)).1
  have q2 := (i_n (a := a) (i := 2) a84 (by decide)).1
  have q3 := (i_n (a := a) (i := 3) a84 (by decide)).1
  have q4 := (i_n (a := a) (i := 4) a84 (by decide)).1
  have q5 := (i_n (a := a) (i := 5) a84 (by decide)).1
  simp only [Int.cast_ofNat_Int] at q1 q2 q3 q4 q5
  have cd := c_digs (N := N) a ha b ver key rev (m : Int) m w 0 σ hm (hb.trans h2)
  rw [iX0_addImage, eX0_addImage_0, hi, e14, em, cd, eX0_addImage_11, if_pos (by decide), ev1]
  generalize hD : digL m w 0 = D
  have p0 := fun τ x y z => c_put (N := N) (σ := τ) a 0 ha (by decide) x y z
  rw [Nat.add_zero] at p0
  rw [p0 _ D.1 b (ver + 1) (row_same _ _ _ _), bnd_s, push_n, row_row, eX0_addImage_46, q1, c_put a 1 ha (by decide) _ b key (row_same _ _ _ _), bnd_s, push_n, row_row, eX0_addImage_53, q2, c_put a 2 ha (by decide) _ b rev (row_same _ _ _ _), bnd_s, push_n, row_row, eX0_addImage_60, q3, c_put a 3 ha (by decide) _ b (m : Int) (row_same _ _ _ _), bnd_s, push_n, row_row, eX0_addImage_67, q4, c_put a 4 ha (by decide) _ b D.2 (row_same _ _ _ _), bnd_s, push_n, row_row, eX0_addImage_74]
  generalize hE : set (set (set (set (set D.1 0 (ver + 1)) 1 key) 2 rev) 3 (m : Int)) 4 D.2 = E
  have E0 : E 0 = ver + 1 := by rw [← hE]; rfl
  have E1 : E 1 = key := by rw [← hE]; rfl
  have E2 : E 2 = rev := by rw [← hE]; rfl
  have E3 : E 3 = (m : Int) := by rw [← hE]; rfl
  have E4 : E 4 = D.2 := by rw [← hE]; rfl
  have i0 := img_at E b a (i := 0) (by decide)
  rw [Nat.add_zero] at i0
  have sg := s0_sign5 (N := N) (i := 0) (j := 0) (σ := row σ 5 0 (img E b a)) a ha4 (by rw [row_same, img_at _ _ _ (by decide), E1]; exact hk) (fun k hk => hs k hk)
  unfold signF at sg
  rw [row_same, i0, img_at _ _ _ (show 1 < 14 by decide), img_at _ _ _ (show 2 < 14 by decide), img_at _ _ _ (show 3 < 14 by decide), img_at _ _ _ (show 4 < 14 by decide), E0, E1, E2, E3, E4] at sg
  have r3 : row σ 5 0 (img E b a) 3 0 = σ 3 0 := rfl
  have es : sgn (σ 3 0 key.toNat) (ver + 1) key rev (m : Int) D.2 = sgW (σ 3 0) w m ver key rev := by
    unfold sgW
    rw [hD]
  rw [r3, es] at sg
  rw [sg, bnd_s, push_s, q5, eX0_addImage_84, c_put a 5 ha (by decide) _ b _ (row_same _ _ _ _), bnd_s, push_n, row_row, eX0_addImage_85, sup_row]
  have r2 : ∀ f, row σ 5 0 f 2 0 = σ 2 0 := fun _ => rfl
  have eA : set E 5 (sgW (σ 3 0) w m ver key rev) = addW w m ver key rev (sgW (σ 3 0) w m ver key rev) := by
    unfold addW
    rw [hD, hE]
  rw [r2, hi, eI, eA]
end IMG
end
