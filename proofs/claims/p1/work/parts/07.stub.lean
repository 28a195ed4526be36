def allR (f : Nat → Bool) : Nat → Nat → Bool
  | _, 0 => true
  | a, n + 1 => band (f a) (allR f (a + 1) n)
theorem allR_at {f : Nat → Bool} : ∀ (n a m : Nat), allR f a n = true → a ≤ m → m < a + n → f m = true
  | 0, a, m, _, h1, h2 => by omega
  | n + 1, a, m, h, h1, h2 => by
    rcases Nat.eq_or_lt_of_le h1 with e | e
    · rw [← e]; exact (band_t h).1
    · exact allR_at n (a + 1) m (band_t h).2 e (by omega)
theorem okIns (m j : Nat) (ins : Instr) (hm : m < 264) (h : nth (cod m) j = some ins) : okI m j ins = true := sorry
theorem calAll : ∀ k, k < 264 → 0 < k → calOk k = true := by
  intro k h h0
  exact allR_at 263 1 k (by decide +kernel) (by omega) (by omega)
theorem mInit_nm (k : Nat) (h : k < 264) (hi : mInit k = true) : mNm k = "<init>" := by
  have e : allR (fun k => cond (mInit k) (elemN k [1, 11, 18, 64, 68, 85, 100, 109, 152]) true) 0 264 = true := by decide +kernel
  have e1 := allR_at 264 0 k e (by omega) (by omega)
  rw [hi] at e1
  have e2 : k ∈ [1, 11, 18, 64, 68, 85, 100, 109, 152] := elemN_in _ _ e1
  simp only [List.mem_cons, List.not_mem_nil, or_false] at e2
  rcases e2 with rfl | rfl | rfl | rfl | rfl | rfl | rfl | rfl | rfl <;> rfl
theorem mArg_ok : allR (fun k => decide ((parseMethodDescriptor (mDs k)).map (fun d => d.parameters.length) = some (cond (mSt k) (mArg k) (mArg k - 1)))) 0 264 = true := by decide +kernel
theorem mRet_ok : allR (fun k => retOk (mRet k) (mRetT k)) 0 264 = true := by decide +kernel
def tf0 : List FieldType := [.int, .int, .int, .int, .int, .array .int, .array .int, .array .int]
def tf1 : List FieldType := [.object "TwinSlots$Bundle", .object "TwinSlots$Machine", .object "TwinSlots$Machine", .array .int, .long, .int, .int, .int, .int, .int, .int, .int]
def tf2 : List FieldType := [.object "TwinSlots$Bundle", .array .int, .int, .int, .int, .int, .int, .int, .int, .boolean]
def tf3 : List FieldType := [.object "TwinSlots$Machine", .array .int, .int, .int]
def tf4 : List FieldType := [.array .int, .object "TwinSlots$Bundle", .int, .int, .int, .int, .int, .boolean, .boolean, .boolean, .int]
def tf5 : List FieldType := [.object "TwinSlots$Bundle", .object "TwinSlots$Machine", .object "TwinSlots$Machine", .array .long, .array .int, .array .int, .array .int, .array .int, .array .int, .int, .int, .int, .int]
def tf6 : List FieldType := [.object "TwinSlots$Machine", .object "TwinSlots$Machine", .object "TwinSlots$Machine"]
def tf7 : List FieldType := [.array .int, .int, .object "TwinSlots$Bundle", .object "TwinSlots$Bundle", .object "TwinSlots$Reader", .object "TwinSlots$Machine", .object "TwinSlots$Past", .object "TwinSlots$Trials", .object "TwinSlots$Lives", .object "TwinSlots$Routes", .int]
def tf8 : List FieldType := [.array .byte, .int, .int, .int, .int, .int, .int, .int, .int, .int, .array .int, .array .int, .array .int, .array .int, .array .int, .array .int, .array .int, .array .int, .array .int, .array .int, .array .int, .int, .int, .int, .boolean, .array .int, .array .int, .array .int, .array .int, .array .int, .array .int, .array .int, .array .int, .array .int, .int, .int, .int, .int, .int, .int, .int]
def nthT : List FieldType → Nat → FieldType
  | [], _ => .int
  | a :: _, 0 => a
  | _ :: l, n + 1 => nthT l n
def tyF (ci f : Nat) : FieldType := nthT (cond (Nat.blt ci 4) (cond (Nat.blt ci 2) (cond (Nat.blt ci 1) (cond (Nat.beq ci 0) (tf0) ([])) (cond (Nat.beq ci 1) (tf1) ([]))) (cond (Nat.blt ci 3) (cond (Nat.beq ci 2) (tf2) ([])) (cond (Nat.beq ci 3) (tf3) ([])))) (cond (Nat.blt ci 6) (cond (Nat.blt ci 5) (cond (Nat.beq ci 4) (tf4) ([])) (cond (Nat.beq ci 5) (tf5) ([]))) (cond (Nat.blt ci 7) (cond (Nat.beq ci 6) (tf6) ([])) (cond (Nat.blt ci 8) (cond (Nat.beq ci 7) (tf7) ([])) (cond (Nat.beq ci 8) (tf8) ([])))))) f
def tyOk : Nat → FieldType → Bool
  | 0, .int => true
  | 1, .boolean => true
  | 2, .long => true
  | 3, .object _ => true
  | 3, .array _ => true
  | _, _ => false
def fldOk (ci f : Nat) : Bool := band (decide (parseFieldDescriptor (cTb ci f).2.2.1 = some (tyF ci f))) (tyOk (fTy ci f) (tyF ci f))
theorem fldAll : allR (fun ci => allR (fun f => fldOk ci f) 0 (nF ci)) 0 9 = true := by decide +kernel
theorem nmAll : allR (fun ci => allR (fun a => allR (fun b => cond (Nat.beq a b) true (decide ((cTb ci a).2.1 ≠ (cTb ci b).2.1))) 0 (nF ci)) 0 (nF ci)) 0 9 = true := by decide +kernel
theorem layAll : allR (fun ci => allR (fun f => elem4 (9, ci, f, 0) wcs) 0 (nF ci)) 0 9 = true := by decide +kernel
theorem dclAll : allR (fun ci => allR (fun f => decide ((cTb ci f).1 = cN ci)) 0 (nF ci)) 0 9 = true := by decide +kernel
