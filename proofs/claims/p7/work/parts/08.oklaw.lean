theorem okw_0 : fd_f 0 0 300 = true := by decide +kernel
theorem okw_1 : fd_f 0 300 300 = true := by decide +kernel
theorem okw_2 : fd_f 0 600 274 = true := by decide +kernel
theorem okLaw (j : Nat) (ins : Instr) (h : nth (cod 0) j = some ins) : okI 0 j ins = true := by
  have hl0 : (cod 0).length = 874 := by decide +kernel
  have hl : j < (cod 0).length := nth_lt _ _ _ h
  rw [hl0] at hl
  rcases Nat.lt_or_ge j 300 with h0 | h0
  · exact fd_f_at okw_0 (by omega) (by omega) h
  rcases Nat.lt_or_ge j 600 with h1 | h1
  · exact fd_f_at okw_1 (by omega) (by omega) h
  rcases Nat.lt_or_ge j 874 with h2 | h2
  · exact fd_f_at okw_2 (by omega) (by omega) h
  omega
theorem okIns (m j : Nat) (ins : Instr) (hm : m < 264) (h : nth (cod m) j = some ins) : okI m j ins = true := by
  rcases Nat.eq_zero_or_pos m with e | e
  · subst e; exact okLaw j ins h
  · exact fd_m_at (okAll m e hm) h
