def okAt (m j : Nat) : Bool := match nth (cod m) j with
  | some ins => okI m j ins
  | none => true
theorem okw_0 : allR (okAt 0) 0 50 = true := by decide +kernel
theorem okw_1 : allR (okAt 0) 50 50 = true := by decide +kernel
theorem okw_2 : allR (okAt 0) 100 50 = true := by decide +kernel
theorem okw_3 : allR (okAt 0) 150 50 = true := by decide +kernel
theorem okw_4 : allR (okAt 0) 200 50 = true := by decide +kernel
theorem okw_5 : allR (okAt 0) 250 50 = true := by decide +kernel
theorem okw_6 : allR (okAt 0) 300 50 = true := by decide +kernel
theorem okw_7 : allR (okAt 0) 350 50 = true := by decide +kernel
theorem okw_8 : allR (okAt 0) 400 50 = true := by decide +kernel
theorem okw_9 : allR (okAt 0) 450 50 = true := by decide +kernel
theorem okw_10 : allR (okAt 0) 500 50 = true := by decide +kernel
theorem okw_11 : allR (okAt 0) 550 50 = true := by decide +kernel
theorem okw_12 : allR (okAt 0) 600 50 = true := by decide +kernel
theorem okw_13 : allR (okAt 0) 650 50 = true := by decide +kernel
theorem okw_14 : allR (okAt 0) 700 50 = true := by decide +kernel
theorem okw_15 : allR (okAt 0) 750 50 = true := by decide +kernel
theorem okw_16 : allR (okAt 0) 800 50 = true := by decide +kernel
theorem okw_17 : allR (okAt 0) 850 24 = true := by decide +kernel
set_option maxRecDepth 100000 in
theorem okLaw (j : Nat) (ins : Instr) (h : nth (cod 0) j = some ins) : okI 0 j ins = true := by
  have hl0 : (cod 0).length = 874 := by decide +kernel
  have hl : j < (cod 0).length := nth_lt _ _ _ h
  rw [hl0] at hl
  have e : okAt 0 j = true := by
    rcases Nat.lt_or_ge j 50 with h0 | h0
    · exact allR_at 50 0 j okw_0 (by omega) (by omega)
    rcases Nat.lt_or_ge j 100 with h1 | h1
    · exact allR_at 50 50 j okw_1 (by omega) (by omega)
    rcases Nat.lt_or_ge j 150 with h2 | h2
    · exact allR_at 50 100 j okw_2 (by omega) (by omega)
    rcases Nat.lt_or_ge j 200 with h3 | h3
    · exact allR_at 50 150 j okw_3 (by omega) (by omega)
    rcases Nat.lt_or_ge j 250 with h4 | h4
    · exact allR_at 50 200 j okw_4 (by omega) (by omega)
    rcases Nat.lt_or_ge j 300 with h5 | h5
    · exact allR_at 50 250 j okw_5 (by omega) (by omega)
    rcases Nat.lt_or_ge j 350 with h6 | h6
    · exact allR_at 50 300 j okw_6 (by omega) (by omega)
    rcases Nat.lt_or_ge j 400 with h7 | h7
    · exact allR_at 50 350 j okw_7 (by omega) (by omega)
    rcases Nat.lt_or_ge j 450 with h8 | h8
    · exact allR_at 50 400 j okw_8 (by omega) (by omega)
    rcases Nat.lt_or_ge j 500 with h9 | h9
    · exact allR_at 50 450 j okw_9 (by omega) (by omega)
    rcases Nat.lt_or_ge j 550 with h10 | h10
    · exact allR_at 50 500 j okw_10 (by omega) (by omega)
    rcases Nat.lt_or_ge j 600 with h11 | h11
    · exact allR_at 50 550 j okw_11 (by omega) (by omega)
    rcases Nat.lt_or_ge j 650 with h12 | h12
    · exact allR_at 50 600 j okw_12 (by omega) (by omega)
    rcases Nat.lt_or_ge j 700 with h13 | h13
    · exact allR_at 50 650 j okw_13 (by omega) (by omega)
    rcases Nat.lt_or_ge j 750 with h14 | h14
    · exact allR_at 50 700 j okw_14 (by omega) (by omega)
    rcases Nat.lt_or_ge j 800 with h15 | h15
    · exact allR_at 50 750 j okw_15 (by omega) (by omega)
    rcases Nat.lt_or_ge j 850 with h16 | h16
    · exact allR_at 50 800 j okw_16 (by omega) (by omega)
    rcases Nat.lt_or_ge j 874 with h17 | h17
    · exact allR_at 24 850 j okw_17 (by omega) (by omega)
    omega
  unfold okAt at e
  rw [h] at e
  exact e
theorem okIns (m j : Nat) (ins : Instr) (hm : m < 264) (h : nth (cod m) j = some ins) : okI m j ins = true := by
  rcases Nat.eq_zero_or_pos m with e | e
  · subst e; exact okLaw j ins h
  · have := okL_at m (cod m) 0 j ins (okAll m e hm) h
    rwa [Nat.zero_add] at this
