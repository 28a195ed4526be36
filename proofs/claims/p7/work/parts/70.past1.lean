/-! COPIES of stretches -/
def seg (f : Vec) (a : Nat) : Vec := fun j => f (a + j)
theorem cpyV_0 (f g : Vec) (sp dp : Nat) : cpyV f g sp dp 0 = g := by
  funext j
  unfold cpyV
  rw [if_neg (by omega)]
theorem cpyV_s (f g : Vec) (sp dp k : Nat) : set (cpyV f g sp dp k) (dp + k) (f (sp + k)) = cpyV f g sp dp (k + 1) := by
  funext j
  unfold set cpyV
  by_cases h : j = dp + k
  · subst h
    rw [if_pos rfl, if_pos (by omega), show dp + k - dp = k by omega]
  · rw [if_neg h]
    by_cases h2 : dp ≤ j ∧ j < dp + k
    · rw [if_pos h2, if_pos (by omega)]
    · rw [if_neg h2, if_neg (by omega)]
theorem cpyV_in (f g : Vec) (sp dp n j : Nat) (h : j < n) : cpyV f g sp dp n (dp + j) = f (sp + j) := by
  unfold cpyV
  rw [if_pos (by omega), show dp + j - dp = j by omega]
theorem cpyV_out (f g : Vec) (sp dp n j : Nat) (h : j < dp ∨ dp + n ≤ j) : cpyV f g sp dp n j = g j := by
  unfold cpyV
  rw [if_neg (by omega)]
section MOD
variable {N : Nat} {σ : Sto}
theorem s9_keep41_loop (a : Nat) (ha : a + 107 ≤ 1284) : ∀ (m j : Nat), j + m = 107 → ev N mX9_keepsIn 2 [vR 30 0, vR 41 0, vI (a : Int), vI (j : Int)] [] (P (row σ 41 0 (cpyV (σ 40 0) (σ 41 0) 0 a j))) = some (none, P (row σ 41 0 (cpyV (σ 40 0) (σ 41 0) 0 a 107))) := by
  intro m
  induction m with
  | zero =>
    intro j hj
    have e : j = 107 := by omega
    subst e
    rw [eX9_keepsIn_2_k41, if_neg (by omega)]
  | succ m ih =>
    intro j hj
    have e1 : w32 ((a : Int) + (j : Int)) = ((a + j : Nat) : Int) := by rw [w32i (by omega) (by omega)]; omega
    have e2 : w32 ((j : Int) + 1) = ((j + 1 : Nat) : Int) := by rw [w32i (by omega) (by omega)]; omega
    have r40 : row σ 41 0 (cpyV (σ 40 0) (σ 41 0) 0 a j) 40 0 = σ 40 0 := by rw [row_at, if_neg (by omega)]
    have st := cpyV_s (σ 40 0) (σ 41 0) 0 a j
    rw [Nat.zero_add] at st
    rw [eX9_keepsIn_2_k41, if_pos (by omega), if_neg (by omega), if_pos (by omega), e1, e2, if_neg (by omega), if_pos (by omega), sup_row, row_same, row_row, r40, Int.toNat_natCast, Int.toNat_natCast, st]
    exact ih (j + 1) (by omega)
theorem s9_keep41 (a : Nat) (ha : a + 107 ≤ 1284) : inv N mX9_keepsIn [vR 30 0, vR 41 0, vI (a : Int)] (P σ) = some (none, P (row σ 41 0 (cpyV (σ 40 0) (σ 41 0) 0 a 107))) := by
  have h := s9_keep41_loop (N := N) (σ := σ) a ha 107 0 rfl
  rw [cpyV_0, row_id] at h
  rw [iX9_keepsIn_k41, eX9_keepsIn_0_k41]
  exact h
theorem s9_lays41_loop (a : Nat) (ha : a + 107 ≤ 1284) : ∀ (m j : Nat), j + m = 107 → ev N mX9_laysFrom 2 [vR 30 0, vR 41 0, vI (a : Int), vI (j : Int)] [] (P (row σ 40 0 (cpyV (σ 41 0) (σ 40 0) a 0 j))) = some (none, P (row σ 40 0 (cpyV (σ 41 0) (σ 40 0) a 0 107))) := by
  intro m
  induction m with
  | zero =>
    intro j hj
    have e : j = 107 := by omega
    subst e
    rw [eX9_laysFrom_2_k41, if_neg (by omega)]
  | succ m ih =>
    intro j hj
    have e1 : w32 ((a : Int) + (j : Int)) = ((a + j : Nat) : Int) := by rw [w32i (by omega) (by omega)]; omega
    have e2 : w32 ((j : Int) + 1) = ((j + 1 : Nat) : Int) := by rw [w32i (by omega) (by omega)]; omega
    have r40 : row σ 40 0 (cpyV (σ 41 0) (σ 40 0) a 0 j) 41 0 = σ 41 0 := by rw [row_at, if_neg (by omega)]
    have st := cpyV_s (σ 41 0) (σ 40 0) a 0 j
    rw [Nat.zero_add] at st
    rw [eX9_laysFrom_2_k41, if_pos (by omega), e1, e2, if_neg (by omega), if_pos (by omega), if_neg (by omega), if_pos (by omega), sup_row, row_same, row_row, r40, Int.toNat_natCast, Int.toNat_natCast, st]
    exact ih (j + 1) (by omega)
theorem s9_lays41 (a : Nat) (ha : a + 107 ≤ 1284) : inv N mX9_laysFrom [vR 30 0, vR 41 0, vI (a : Int)] (P σ) = some (none, P (row σ 40 0 (cpyV (σ 41 0) (σ 40 0) a 0 107))) := by
  have h := s9_lays41_loop (N := N) (σ := σ) a ha 107 0 rfl
  rw [cpyV_0, row_id] at h
  rw [iX9_laysFrom_k41, eX9_laysFrom_0_k41]
  exact h
theorem s9_keep42_loop (a : Nat) (ha : a + 107 ≤ 321) : ∀ (m j : Nat), j + m = 107 → ev N mX9_keepsIn 2 [vR 30 0, vR 42 0, vI (a : Int), vI (j : Int)] [] (P (row σ 42 0 (cpyV (σ 40 0) (σ 42 0) 0 a j))) = some (none, P (row σ 42 0 (cpyV (σ 40 0) (σ 42 0) 0 a 107))) := by
  intro m
  induction m with
  | zero =>
    intro j hj
    have e : j = 107 := by omega
    subst e
    rw [eX9_keepsIn_2_k42, if_neg (by omega)]
  | succ m ih =>
    intro j hj
    have e1 : w32 ((a : Int) + (j : Int)) = ((a + j : Nat) : Int) := by rw [w32i (by omega) (by omega)]; omega
    have e2 : w32 ((j : Int) + 1) = ((j + 1 : Nat) : Int) := by rw [w32i (by omega) (by omega)]; omega
    have r40 : row σ 42 0 (cpyV (σ 40 0) (σ 42 0) 0 a j) 40 0 = σ 40 0 := by rw [row_at, if_neg (by omega)]
    have st := cpyV_s (σ 40 0) (σ 42 0) 0 a j
    rw [Nat.zero_add] at st
    rw [eX9_keepsIn_2_k42, if_pos (by omega), if_neg (by omega), if_pos (by omega), e1, e2, if_neg (by omega), if_pos (by omega), sup_row, row_same, row_row, r40, Int.toNat_natCast, Int.toNat_natCast, st]
    exact ih (j + 1) (by omega)
theorem s9_keep42 (a : Nat) (ha : a + 107 ≤ 321) : inv N mX9_keepsIn [vR 30 0, vR 42 0, vI (a : Int)] (P σ) = some (none, P (row σ 42 0 (cpyV (σ 40 0) (σ 42 0) 0 a 107))) := by
  have h := s9_keep42_loop (N := N) (σ := σ) a ha 107 0 rfl
  rw [cpyV_0, row_id] at h
  rw [iX9_keepsIn_k42, eX9_keepsIn_0_k42]
  exact h
theorem s9_lays42_loop (a : Nat) (ha : a + 107 ≤ 321) : ∀ (m j : Nat), j + m = 107 → ev N mX9_laysFrom 2 [vR 30 0, vR 42 0, vI (a : Int), vI (j : Int)] [] (P (row σ 40 0 (cpyV (σ 42 0) (σ 40 0) a 0 j))) = some (none, P (row σ 40 0 (cpyV (σ 42 0) (σ 40 0) a 0 107))) := by
  intro m
  induction m with
  | zero =>
    intro j hj
    have e : j = 107 := by omega
    subst e
    rw [eX9_laysFrom_2_k42, if_neg (by omega)]
  | succ m ih =>
    intro j hj
    have e1 : w32 ((a : Int) + (j : Int)) = ((a + j : Nat) : Int) := by rw [w32i (by omega) (by omega)]; omega
    have e2 : w32 ((j : Int) + 1) = ((j + 1 : Nat) : Int) := by rw [w32i (by omega) (by omega)]; omega
    have r40 : row σ 40 0 (cpyV (σ 42 0) (σ 40 0) a 0 j) 42 0 = σ 42 0 := by rw [row_at, if_neg (by omega)]
    have st := cpyV_s (σ 42 0) (σ 40 0) a 0 j
    rw [Nat.zero_add] at st
    rw [eX9_laysFrom_2_k42, if_pos (by omega), e1, e2, if_neg (by omega), if_pos (by omega), if_neg (by omega), if_pos (by omega), sup_row, row_same, row_row, r40, Int.toNat_natCast, Int.toNat_natCast, st]
    exact ih (j + 1) (by omega)
theorem s9_lays42 (a : Nat) (ha : a + 107 ≤ 321) : inv N mX9_laysFrom [vR 30 0, vR 42 0, vI (a : Int)] (P σ) = some (none, P (row σ 40 0 (cpyV (σ 42 0) (σ 40 0) a 0 107))) := by
  have h := s9_lays42_loop (N := N) (σ := σ) a ha 107 0 rfl
  rw [cpyV_0, row_id] at h
  rw [iX9_laysFrom_k42, eX9_laysFrom_0_k42]
  exact h
theorem s9_keep48_loop (a : Nat) (ha : a + 107 ≤ 32100) : ∀ (m j : Nat), j + m = 107 → ev N mX9_keepsIn 2 [vR 30 0, vR 48 0, vI (a : Int), vI (j : Int)] [] (P (row σ 48 0 (cpyV (σ 40 0) (σ 48 0) 0 a j))) = some (none, P (row σ 48 0 (cpyV (σ 40 0) (σ 48 0) 0 a 107))) := by
  intro m
  induction m with
  | zero =>
    intro j hj
    have e : j = 107 := by omega
    subst e
    rw [eX9_keepsIn_2_k48, if_neg (by omega)]
  | succ m ih =>
    intro j hj
    have e1 : w32 ((a : Int) + (j : Int)) = ((a + j : Nat) : Int) := by rw [w32i (by omega) (by omega)]; omega
    have e2 : w32 ((j : Int) + 1) = ((j + 1 : Nat) : Int) := by rw [w32i (by omega) (by omega)]; omega
    have r40 : row σ 48 0 (cpyV (σ 40 0) (σ 48 0) 0 a j) 40 0 = σ 40 0 := by rw [row_at, if_neg (by omega)]
    have st := cpyV_s (σ 40 0) (σ 48 0) 0 a j
    rw [Nat.zero_add] at st
    rw [eX9_keepsIn_2_k48, if_pos (by omega), if_neg (by omega), if_pos (by omega), e1, e2, if_neg (by omega), if_pos (by omega), sup_row, row_same, row_row, r40, Int.toNat_natCast, Int.toNat_natCast, st]
    exact ih (j + 1) (by omega)
theorem s9_keep48 (a : Nat) (ha : a + 107 ≤ 32100) : inv N mX9_keepsIn [vR 30 0, vR 48 0, vI (a : Int)] (P σ) = some (none, P (row σ 48 0 (cpyV (σ 40 0) (σ 48 0) 0 a 107))) := by
  have h := s9_keep48_loop (N := N) (σ := σ) a ha 107 0 rfl
  rw [cpyV_0, row_id] at h
  rw [iX9_keepsIn_k48, eX9_keepsIn_0_k48]
  exact h
theorem s9_lays48_loop (a : Nat) (ha : a + 107 ≤ 32100) : ∀ (m j : Nat), j + m = 107 → ev N mX9_laysFrom 2 [vR 30 0, vR 48 0, vI (a : Int), vI (j : Int)] [] (P (row σ 40 0 (cpyV (σ 48 0) (σ 40 0) a 0 j))) = some (none, P (row σ 40 0 (cpyV (σ 48 0) (σ 40 0) a 0 107))) := by
  intro m
  induction m with
  | zero =>
    intro j hj
    have e : j = 107 := by omega
    subst e
    rw [eX9_laysFrom_2_k48, if_neg (by omega)]
  | succ m ih =>
    intro j hj
    have e1 : w32 ((a : Int) + (j : Int)) = ((a + j : Nat) : Int) := by rw [w32i (by omega) (by omega)]; omega
    have e2 : w32 ((j : Int) + 1) = ((j + 1 : Nat) : Int) := by rw [w32i (by omega) (by omega)]; omega
    have r40 : row σ 40 0 (cpyV (σ 48 0) (σ 40 0) a 0 j) 48 0 = σ 48 0 := by rw [row_at, if_neg (by omega)]
    have st := cpyV_s (σ 48 0) (σ 40 0) a 0 j
    rw [Nat.zero_add] at st
    rw [eX9_laysFrom_2_k48, if_pos (by omega), e1, e2, if_neg (by omega), if_pos (by omega), if_neg (by omega), if_pos (by omega), sup_row, row_same, row_row, r40, Int.toNat_natCast, Int.toNat_natCast, st]
    exact ih (j + 1) (by omega)
theorem s9_lays48 (a : Nat) (ha : a + 107 ≤ 32100) : inv N mX9_laysFrom [vR 30 0, vR 48 0, vI (a : Int)] (P σ) = some (none, P (row σ 40 0 (cpyV (σ 48 0) (σ 40 0) a 0 107))) := by
  have h := s9_lays48_loop (N := N) (σ := σ) a ha 107 0 rfl
  rw [cpyV_0, row_id] at h
  rw [iX9_laysFrom_k48, eX9_laysFrom_0_k48]
  exact h
/-- the row of the past is shifted -/
theorem s9_shift_loop : ∀ (m j : Nat), j + m = 1284 → 107 ≤ j → ev N mX9_remembers 6 [vR 30 0, vI (j : Int)] [] (P (row σ 41 0 (cpyV (σ 41 0) (σ 41 0) 107 0 (j - 107)))) = ev N mX9_remembers 6 [vR 30 0, vI 1284] [] (P (row σ 41 0 (cpyV (σ 41 0) (σ 41 0) 107 0 1177))) := by
  intro m
  induction m with
  | zero =>
    intro j hj h2
    have e : j = 1284 := by omega
    subst e
    rfl
  | succ m ih =>
    intro j hj h2
    have e1 : w32 ((j : Int) - 107) = ((j - 107 : Nat) : Int) := by rw [w32i (by omega) (by omega)]; omega
    have e2 : w32 ((j : Int) + 1) = ((j + 1 : Nat) : Int) := by rw [w32i (by omega) (by omega)]; omega
    have st := cpyV_s (σ 41 0) (σ 41 0) 107 0 (j - 107)
    have o : cpyV (σ 41 0) (σ 41 0) 107 0 (j - 107) j = σ 41 0 (107 + (j - 107)) := by rw [cpyV_out _ _ _ _ _ _ (by omega), show 107 + (j - 107) = j by omega]
    rw [Nat.zero_add, show j - 107 + 1 = j + 1 - 107 by omega] at st
    rw [eX9_remembers_6, if_pos (by omega), if_neg (by omega), if_pos (by omega), e1, e2, if_neg (by omega), if_pos (by omega), sup_row, row_same, row_row, Int.toNat_natCast, Int.toNat_natCast, o, st]
    exact ih (j + 1) (by omega) (by omega)
end MOD
