/-! TRIALS: what both try -/
section TRY
variable {N : Nat} {σ σ0 : Sto} {L : Int}
theorem c_take (i j : Nat) : inv N mX2_takeFrom [vR 6 i, vR 6 j] (P σ) = some (none, P (row σ 7 i (cpyV (σ 7 j) (σ 7 i) 0 0 107))) := by
  have w : w32 (107 - 107) = 0 := rfl
  rw [iX2_takeFrom, eX2_takeFrom_0, iX6_copy_k7_k7, eX6_copy_0_k7_k7, w]
  rw [if_neg (by omega), if_neg (by omega), if_neg (by omega), if_neg (by omega), if_neg (by omega), if_neg (by omega), if_neg (by omega), if_neg (by omega), if_neg (by omega), if_neg (by omega), bnd_s, push_n, eX2_takeFrom_8, cpy_row]
  rfl
theorem cpy_all (f g : Vec) {j : Nat} (hj : j < 107) : cpyV f g 0 0 107 j = f j := by
  have := cpyV_in f g 0 0 107 j hj
  rw [Nat.zero_add] at this
  exact this
theorem m_thinks (a : Nat) (ha : a < 3) : inv N mX9_thinks [vR 30 0, vI (a : Int)] (P σ) = some (none, P (row σ 42 0 (cpyV (σ 40 0) (σ 42 0) 0 (107 * a) 107))) := by
  have e : w32 (107 * (a : Int)) = ((107 * a : Nat) : Int) := by rw [w32i (by omega) (by omega)]; omega
  rw [iX9_thinks, eX9_thinks_0, e, s9_keep42 _ (by omega), bnd_s, push_n, eX9_thinks_7]
theorem m_putsBack (a : Nat) (ha : a < 3) : inv N mX9_putsBack [vR 30 0, vI (a : Int)] (P σ) = some (none, P (row σ 40 0 (cpyV (σ 42 0) (σ 40 0) (107 * a) 0 107))) := by
  have e : w32 (107 * (a : Int)) = ((107 * a : Nat) : Int) := by rw [w32i (by omega) (by omega)]; omega
  rw [iX9_putsBack, eX9_putsBack_0, e, s9_lays42 _ (by omega), bnd_s, push_n, eX9_putsBack_7]
end TRY
