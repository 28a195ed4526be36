def allR (f : Nat → Bool) : Nat → Nat → Bool
  | _, 0 => true
  | a, n + 1 => band (f a) (allR f (a + 1) n)
theorem allR_at {f : Nat → Bool} : ∀ (n a m : Nat), allR f a n = true → a ≤ m → m < a + n → f m = true
  | 0, a, m, _, h1, h2 => by omega
  | n + 1, a, m, h, h1, h2 => by
    rcases Nat.eq_or_lt_of_le h1 with e | e
    · rw [← e]; exact (band_t h).1
    · exact allR_at n (a + 1) m (band_t h).2 e (by omega)
theorem okc_0 : allR fd_m 1 13 = true := by decide +kernel
theorem okc_1 : allR fd_m 14 18 = true := by decide +kernel
theorem okc_2 : allR fd_m 32 11 = true := by decide +kernel
theorem okc_3 : allR fd_m 43 10 = true := by decide +kernel
theorem okc_4 : allR fd_m 53 13 = true := by decide +kernel
theorem okc_5 : allR fd_m 66 10 = true := by decide +kernel
theorem okc_6 : allR fd_m 76 14 = true := by decide +kernel
theorem okc_7 : allR fd_m 90 6 = true := by decide +kernel
theorem okc_8 : allR fd_m 96 11 = true := by decide +kernel
theorem okc_9 : allR fd_m 107 19 = true := by decide +kernel
theorem okc_10 : allR fd_m 126 21 = true := by decide +kernel
theorem okc_11 : allR fd_m 147 17 = true := by decide +kernel
theorem okc_12 : allR fd_m 164 9 = true := by decide +kernel
theorem okc_13 : allR fd_m 173 9 = true := by decide +kernel
theorem okc_14 : allR fd_m 182 12 = true := by decide +kernel
theorem okc_15 : allR fd_m 194 7 = true := by decide +kernel
theorem okc_16 : allR fd_m 201 6 = true := by decide +kernel
theorem okc_17 : allR fd_m 207 8 = true := by decide +kernel
theorem okc_18 : allR fd_m 215 22 = true := by decide +kernel
theorem okc_19 : allR fd_m 237 9 = true := by decide +kernel
theorem okc_20 : allR fd_m 246 7 = true := by decide +kernel
theorem okc_21 : allR fd_m 253 9 = true := by decide +kernel
theorem okc_22 : allR fd_m 262 2 = true := by decide +kernel
theorem okAll (m : Nat) (h0 : 0 < m) (h : m < 264) : fd_m m = true := by
  rcases Nat.lt_or_ge m 14 with h0 | h0
  · exact allR_at 13 1 m okc_0 (by omega) (by omega)
  rcases Nat.lt_or_ge m 32 with h1 | h1
  · exact allR_at 18 14 m okc_1 (by omega) (by omega)
  rcases Nat.lt_or_ge m 43 with h2 | h2
  · exact allR_at 11 32 m okc_2 (by omega) (by omega)
  rcases Nat.lt_or_ge m 53 with h3 | h3
  · exact allR_at 10 43 m okc_3 (by omega) (by omega)
  rcases Nat.lt_or_ge m 66 with h4 | h4
  · exact allR_at 13 53 m okc_4 (by omega) (by omega)
  rcases Nat.lt_or_ge m 76 with h5 | h5
  · exact allR_at 10 66 m okc_5 (by omega) (by omega)
  rcases Nat.lt_or_ge m 90 with h6 | h6
  · exact allR_at 14 76 m okc_6 (by omega) (by omega)
  rcases Nat.lt_or_ge m 96 with h7 | h7
  · exact allR_at 6 90 m okc_7 (by omega) (by omega)
  rcases Nat.lt_or_ge m 107 with h8 | h8
  · exact allR_at 11 96 m okc_8 (by omega) (by omega)
  rcases Nat.lt_or_ge m 126 with h9 | h9
  · exact allR_at 19 107 m okc_9 (by omega) (by omega)
  rcases Nat.lt_or_ge m 147 with h10 | h10
  · exact allR_at 21 126 m okc_10 (by omega) (by omega)
  rcases Nat.lt_or_ge m 164 with h11 | h11
  · exact allR_at 17 147 m okc_11 (by omega) (by omega)
  rcases Nat.lt_or_ge m 173 with h12 | h12
  · exact allR_at 9 164 m okc_12 (by omega) (by omega)
  rcases Nat.lt_or_ge m 182 with h13 | h13
  · exact allR_at 9 173 m okc_13 (by omega) (by omega)
  rcases Nat.lt_or_ge m 194 with h14 | h14
  · exact allR_at 12 182 m okc_14 (by omega) (by omega)
  rcases Nat.lt_or_ge m 201 with h15 | h15
  · exact allR_at 7 194 m okc_15 (by omega) (by omega)
  rcases Nat.lt_or_ge m 207 with h16 | h16
  · exact allR_at 6 201 m okc_16 (by omega) (by omega)
  rcases Nat.lt_or_ge m 215 with h17 | h17
  · exact allR_at 8 207 m okc_17 (by omega) (by omega)
  rcases Nat.lt_or_ge m 237 with h18 | h18
  · exact allR_at 22 215 m okc_18 (by omega) (by omega)
  rcases Nat.lt_or_ge m 246 with h19 | h19
  · exact allR_at 9 237 m okc_19 (by omega) (by omega)
  rcases Nat.lt_or_ge m 253 with h20 | h20
  · exact allR_at 7 246 m okc_20 (by omega) (by omega)
  rcases Nat.lt_or_ge m 262 with h21 | h21
  · exact allR_at 9 253 m okc_21 (by omega) (by omega)
  rcases Nat.lt_or_ge m 264 with h22 | h22
  · exact allR_at 2 262 m okc_22 (by omega) (by omega)
  omega
theorem calAll : ∀ k, k < 264 → 0 < k → calOk k = true := by
  intro k h h0
  exact allR_at 263 1 k (by decide +kernel) (by omega) (by omega)
theorem mInit_nm (k : Nat) (h : k < 264) (hi : mInit k = true) : mNm k = "<init>" := by
  have e : allR (fun k => cond (mInit k) (elemN k [1, 11, 18, 64, 68, 85, 100, 109, 152]) true) 0 264 = true := by decide +kernel
  have e1 := allR_at 264 0 k e (by omega) (by omega)
  rw [hi] at e1
  have e2 : k ∈ [1, 11, 18, 64, 68, 85, 100, 109, 152] := elemN_in _ _ e1
  simp only [List.mem_cons, List.not_mem_nil, or_false] at e2
  rcases e2 with rfl | rfl | rfl | rfl | rfl | rfl | rfl | rfl | rfl <;> rfl
theorem mArg_ok : allR (fun k => decide ((parseMethodDescriptor (mDs k)).map (fun d => d.parameters.length) = some (cond (mSt k) (mArg k) (mArg k - 1)))) 0 264 = true := by decide +kernel
theorem mRet_ok : allR (fun k => retOk (mRet k) (mRetT k)) 0 264 = true := by decide +kernel
def tf0 : List FieldType := [.int, .int, .int, .int, .int, .array .int, .array .int, .array .int]
def tf1 : List FieldType := [.object "TwinSlots$Bundle", .object "TwinSlots$Machine", .object "TwinSlots$Machine", .array .int, .long, .int, .int, .int, .int, .int, .int, .int]
def tf2 : List FieldType := [.object "TwinSlots$Bundle", .array .int, .int, .int, .int, .int, .int, .int, .int, .boolean]
def tf3 : List FieldType := [.object "TwinSlots$Machine", .array .int, .int, .int]
def tf4 : List FieldType := [.array .int, .object "TwinSlots$Bundle", .int, .int, .int, .int, .int, .boolean, .boolean, .boolean, .int]
def tf5 : List FieldType := [.object "TwinSlots$Bundle", .object "TwinSlots$Machine", .object "TwinSlots$Machine", .array .long, .array .int, .array .int, .array .int, .array .int, .array .int, .int, .int, .int, .int]
def tf6 : List FieldType := [.object "TwinSlots$Machine", .object "TwinSlots$Machine", .object "TwinSlots$Machine"]
def tf7 : List FieldType := [.array .int, .int, .object "TwinSlots$Bundle", .object "TwinSlots$Bundle", .object "TwinSlots$Reader", .object "TwinSlots$Machine", .object "TwinSlots$Past", .object "TwinSlots$Trials", .object "TwinSlots$Lives", .object "TwinSlots$Routes", .int]
def tf8 : List FieldType := [.array .byte, .int, .int, .int, .int, .int, .int, .int, .int, .int, .array .int, .array .int, .array .int, .array .int, .array .int, .array .int, .array .int, .array .int, .array .int, .array .int, .array .int, .int, .int, .int, .boolean, .array .int, .array .int, .array .int, .array .int, .array .int, .array .int, .array .int, .array .int, .array .int, .int, .int, .int, .int, .int, .int, .int]
def nthT : List FieldType → Nat → FieldType
  | [], _ => .int
  | a :: _, 0 => a
  | _ :: l, n + 1 => nthT l n
def tyF (ci f : Nat) : FieldType := nthT (cond (Nat.blt ci 4) (cond (Nat.blt ci 2) (cond (Nat.blt ci 1) (cond (Nat.beq ci 0) (tf0) ([])) (cond (Nat.beq ci 1) (tf1) ([]))) (cond (Nat.blt ci 3) (cond (Nat.beq ci 2) (tf2) ([])) (cond (Nat.beq ci 3) (tf3) ([])))) (cond (Nat.blt ci 6) (cond (Nat.blt ci 5) (cond (Nat.beq ci 4) (tf4) ([])) (cond (Nat.beq ci 5) (tf5) ([]))) (cond (Nat.blt ci 7) (cond (Nat.beq ci 6) (tf6) ([])) (cond (Nat.blt ci 8) (cond (Nat.beq ci 7) (tf7) ([])) (cond (Nat.beq ci 8) (tf8) ([])))))) f
def tyOk : Nat → FieldType → Bool
  | 0, .int => true
  | 1, .boolean => true
  | 2, .long => true
  | 3, .object _ => true
  | 3, .array _ => true
  | _, _ => false
def fldOk (ci f : Nat) : Bool := band (decide (parseFieldDescriptor (cTb ci f).2.2.1 = some (tyF ci f))) (tyOk (fTy ci f) (tyF ci f))
theorem fldAll : allR (fun ci => allR (fun f => fldOk ci f) 0 (nF ci)) 0 9 = true := by decide +kernel
theorem nmAll : allR (fun ci => allR (fun a => allR (fun b => cond (Nat.beq a b) true (decide ((cTb ci a).2.1 ≠ (cTb ci b).2.1))) 0 (nF ci)) 0 (nF ci)) 0 9 = true := by decide +kernel
theorem layAll : allR (fun ci => allR (fun f => elemW (9, ci, f, 0)) 0 (nF ci)) 0 9 = true := by decide +kernel
theorem dclAll : allR (fun ci => allR (fun f => decide ((cTb ci f).1 = cN ci)) 0 (nF ci)) 0 9 = true := by decide +kernel
