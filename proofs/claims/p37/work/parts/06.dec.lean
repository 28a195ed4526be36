section
/-! A FASTER LOOK at the bytes: a decoder over the list of bytes that are left (made by wip/gen/decgen.py) -/
abbrev fd_R (α : Type) := Reader DecodeError α
theorem fd_bind {α β : Type} {x : fd_R α} {f : α → fd_R β} {A : ByteArray} {p s : Nat} {a : α} {r : Except DecodeError (β × Nat)} (h : x A p = .ok (a, s)) (hf : f a A s = r) : (x >>= f) A p = r := by
  have e : (x >>= f) A p = (match x A p with | .error e => Except.error e | .ok (a, s) => f a A s) := by
    show (do let (a, s) ← x A p; f a A s : Except DecodeError (β × Nat)) = _
    cases x A p <;> rfl
  rw [e, h]; exact hf
theorem fd_map {α β : Type} {x : fd_R α} {g : α → β} {A : ByteArray} {p s : Nat} {a : α} (h : x A p = .ok (a, s)) : (g <$> x) A p = .ok (g a, s) := by
  have e : (g <$> x) A p = (match x A p with | .error e => Except.error e | .ok (a, s) => .ok (g a, s)) := by
    show (do let (a, s) ← x A p; .ok (g a, s) : Except DecodeError (β × Nat)) = _
    cases x A p <;> rfl
  rw [e, h]
/-- the bytes of A from p on are l -/
def fd_A (A : ByteArray) (p : Nat) (l : List UInt8) : Prop := A.data.toList.drop p = l
theorem fd_u1 {A : ByteArray} {p : Nat} {b : UInt8} {l : List UInt8} (h : fd_A A p (b :: l)) : (Reader.u1 : fd_R Nat) A p = .ok (b.toNat, p + 1) := by
  unfold fd_A at h
  have h1 : p < A.data.toList.length := by
    rcases Nat.lt_or_ge p A.data.toList.length with z | z
    · exact z
    · rw [List.drop_eq_nil_of_le z] at h; cases h
  have h2 : p < A.size := h1
  rw [List.drop_eq_getElem_cons h1] at h
  have h3 : A.data.toList[p] = b := (List.cons.inj h).1
  show (dite (p < A.size) (fun h => (do set (p + 1); pure A[p].toNat : fd_R Nat)) (fun _ => throw (HasTruncated.truncated p))) A p = _
  rw [dif_pos h2]
  show Except.ok (A[p].toNat, p + 1) = _
  rw [← h3]
  rfl
theorem fd_n {A : ByteArray} {p : Nat} {b : UInt8} {l : List UInt8} {n : Nat} (h : fd_A A p (b :: l)) (e : b.toNat = n) : (Reader.u1 : fd_R Nat) A p = .ok (n, p + 1) := by
  subst e; exact fd_u1 h
theorem fd_x {A : ByteArray} {p : Nat} {b : UInt8} {l : List UInt8} (h : fd_A A p (b :: l)) : fd_A A (p + 1) l := by
  unfold fd_A at h ⊢
  have := congrArg List.tail h
  rw [List.tail_drop] at this
  exact this
theorem fd_u2 {A : ByteArray} {p : Nat} {b c : UInt8} {l : List UInt8} (h : fd_A A p (b :: c :: l)) : (Reader.u2 : fd_R Nat) A p = .ok (b.toNat * 256 + c.toNat, p + 2) :=
  fd_bind (fd_u1 h) (fd_bind (fd_u1 (fd_x h)) rfl)
theorem fd_s1 {A : ByteArray} {p : Nat} {b : UInt8} {l : List UInt8} (h : fd_A A p (b :: l)) : (Reader.s1 : fd_R Int) A p = .ok (Reader.signed 8 b.toNat, p + 1) := fd_map (fd_u1 h)
theorem fd_s2 {A : ByteArray} {p : Nat} {b c : UInt8} {l : List UInt8} (h : fd_A A p (b :: c :: l)) : (Reader.s2 : fd_R Int) A p = .ok (Reader.signed 16 (b.toNat * 256 + c.toNat), p + 2) := fd_map (fd_u2 h)
theorem fd_d {A : ByteArray} {p n : Nat} {i : Instr} (h : Decoder.instr p A p = .ok (i, p + n)) : decode A p = .ok (i, n) := by
  show (do let (i, x) ← Decoder.instr p A p; pure (i, x - p) : Except DecodeError (Instr × Nat)) = _
  rw [h]
  show Except.ok (i, p + n - p) = _
  rw [Nat.add_sub_cancel_left]
def fd_o1 (C : Nat → Instr) : List UInt8 → Option (Instr × Nat)
  | x :: _ => some (C x.toNat, 2)
  | _ => none
def fd_o2 (C : Nat → Instr) : List UInt8 → Option (Instr × Nat)
  | x :: y :: _ => some (C (x.toNat * 256 + y.toNat), 3)
  | _ => none
def fd_z1 (C : Int → Instr) : List UInt8 → Option (Instr × Nat)
  | x :: _ => some (C (Reader.signed 8 x.toNat), 2)
  | _ => none
def fd_z2 (C : Int → Instr) : List UInt8 → Option (Instr × Nat)
  | x :: y :: _ => some (C (Reader.signed 16 (x.toNat * 256 + y.toNat)), 3)
  | _ => none
def fd_ii : List UInt8 → Option (Instr × Nat)
  | x :: y :: _ => some (.iinc x.toNat (Reader.signed 8 y.toNat), 3)
  | _ => none
/-- r, if it says something, says what decode says at p -/
def fd_Q (A : ByteArray) (p : Nat) (r : Option (Instr × Nat)) : Prop := ∀ i n, r = some (i, n) → decode A p = .ok (i, n)
theorem fd_c {A : ByteArray} {p : Nat} {n k : Nat} {a b : Option (Instr × Nat)} (h1 : fd_Q A p a) (h2 : fd_Q A p b) : fd_Q A p (cond (Nat.blt n k) a b) := by
  cases Nat.blt n k
  · exact h2
  · exact h1
theorem fd_l {A : ByteArray} {p : Nat} {n k : Nat} {a : Option (Instr × Nat)} (h : n = k → fd_Q A p a) : fd_Q A p (cond (Nat.beq n k) a none) := by
  cases e : Nat.beq n k
  · intro i m z; cases z
  · exact h (Nat.eq_of_beq_eq_true e)
theorem fd_k {A : ByteArray} {p : Nat} {C : Instr} (h : Decoder.instr p A p = .ok (C, p + 1)) : fd_Q A p (some (C, 1)) := by
  intro i n z; cases z; exact fd_d h
theorem fd_k1 {A : ByteArray} {p : Nat} {C : Nat → Instr} {b : UInt8} {l : List UInt8} (hA : fd_A A p (b :: l)) (h : ∀ x, (Reader.u1 : fd_R Nat) A (p + 1) = .ok (x, p + 2) → Decoder.instr p A p = .ok (C x, p + 2)) : fd_Q A p (fd_o1 C l) := by
  intro i n z
  match l, hA, z with
  | x :: t, hA, z => cases z; exact fd_d (h _ (fd_u1 (fd_x hA)))
theorem fd_k2 {A : ByteArray} {p : Nat} {C : Nat → Instr} {b : UInt8} {l : List UInt8} (hA : fd_A A p (b :: l)) (h : ∀ x, (Reader.u2 : fd_R Nat) A (p + 1) = .ok (x, p + 3) → Decoder.instr p A p = .ok (C x, p + 3)) : fd_Q A p (fd_o2 C l) := by
  intro i n z
  match l, hA, z with
  | x :: y :: t, hA, z => cases z; exact fd_d (h _ (fd_u2 (fd_x hA)))
theorem fd_y1 {A : ByteArray} {p : Nat} {C : Int → Instr} {b : UInt8} {l : List UInt8} (hA : fd_A A p (b :: l)) (h : ∀ x, (Reader.s1 : fd_R Int) A (p + 1) = .ok (x, p + 2) → Decoder.instr p A p = .ok (C x, p + 2)) : fd_Q A p (fd_z1 C l) := by
  intro i n z
  match l, hA, z with
  | x :: t, hA, z => cases z; exact fd_d (h _ (fd_s1 (fd_x hA)))
theorem fd_y2 {A : ByteArray} {p : Nat} {C : Int → Instr} {b : UInt8} {l : List UInt8} (hA : fd_A A p (b :: l)) (h : ∀ x, (Reader.s2 : fd_R Int) A (p + 1) = .ok (x, p + 3) → Decoder.instr p A p = .ok (C x, p + 3)) : fd_Q A p (fd_z2 C l) := by
  intro i n z
  match l, hA, z with
  | x :: y :: t, hA, z => cases z; exact fd_d (h _ (fd_s2 (fd_x hA)))
theorem fd_yi {A : ByteArray} {p : Nat} {b : UInt8} {l : List UInt8} (hA : fd_A A p (b :: l)) (h : ∀ x y, (Reader.u1 : fd_R Nat) A (p + 1) = .ok (x, p + 2) → (Reader.s1 : fd_R Int) A (p + 2) = .ok (y, p + 3) → Decoder.instr p A p = .ok (.iinc x y, p + 3)) : fd_Q A p (fd_ii l) := by
  intro i n z
  match l, hA, z with
  | x :: y :: t, hA, z => cases z; exact fd_d (h _ _ (fd_u1 (fd_x hA)) (fd_s1 (fd_x (fd_x hA))))
theorem fd_2 {A : ByteArray} {p : Nat} {b : UInt8} {l : List UInt8} (hA : fd_A A p (b :: l)) (e : b.toNat = 2) : fd_Q A p (some (.iconst (-1), 1)) := fd_k (C := .iconst (-1)) (fd_bind (fd_n hA e) rfl)
theorem fd_3 {A : ByteArray} {p : Nat} {b : UInt8} {l : List UInt8} (hA : fd_A A p (b :: l)) (e : b.toNat = 3) : fd_Q A p (some (.iconst (0), 1)) := fd_k (C := .iconst (0)) (fd_bind (fd_n hA e) rfl)
theorem fd_4 {A : ByteArray} {p : Nat} {b : UInt8} {l : List UInt8} (hA : fd_A A p (b :: l)) (e : b.toNat = 4) : fd_Q A p (some (.iconst (1), 1)) := fd_k (C := .iconst (1)) (fd_bind (fd_n hA e) rfl)
theorem fd_5 {A : ByteArray} {p : Nat} {b : UInt8} {l : List UInt8} (hA : fd_A A p (b :: l)) (e : b.toNat = 5) : fd_Q A p (some (.iconst (2), 1)) := fd_k (C := .iconst (2)) (fd_bind (fd_n hA e) rfl)
theorem fd_6 {A : ByteArray} {p : Nat} {b : UInt8} {l : List UInt8} (hA : fd_A A p (b :: l)) (e : b.toNat = 6) : fd_Q A p (some (.iconst (3), 1)) := fd_k (C := .iconst (3)) (fd_bind (fd_n hA e) rfl)
theorem fd_7 {A : ByteArray} {p : Nat} {b : UInt8} {l : List UInt8} (hA : fd_A A p (b :: l)) (e : b.toNat = 7) : fd_Q A p (some (.iconst (4), 1)) := fd_k (C := .iconst (4)) (fd_bind (fd_n hA e) rfl)
theorem fd_8 {A : ByteArray} {p : Nat} {b : UInt8} {l : List UInt8} (hA : fd_A A p (b :: l)) (e : b.toNat = 8) : fd_Q A p (some (.iconst (5), 1)) := fd_k (C := .iconst (5)) (fd_bind (fd_n hA e) rfl)
theorem fd_9 {A : ByteArray} {p : Nat} {b : UInt8} {l : List UInt8} (hA : fd_A A p (b :: l)) (e : b.toNat = 9) : fd_Q A p (some (.lconst 0, 1)) := fd_k (C := .lconst 0) (fd_bind (fd_n hA e) rfl)
theorem fd_10 {A : ByteArray} {p : Nat} {b : UInt8} {l : List UInt8} (hA : fd_A A p (b :: l)) (e : b.toNat = 10) : fd_Q A p (some (.lconst 1, 1)) := fd_k (C := .lconst 1) (fd_bind (fd_n hA e) rfl)
theorem fd_16 {A : ByteArray} {p : Nat} {b : UInt8} {l : List UInt8} (hA : fd_A A p (b :: l)) (e : b.toNat = 16) : fd_Q A p (fd_z1 .bipush l) := fd_y1 hA fun x h => fd_bind (fd_n hA e) (fd_bind h rfl)
theorem fd_17 {A : ByteArray} {p : Nat} {b : UInt8} {l : List UInt8} (hA : fd_A A p (b :: l)) (e : b.toNat = 17) : fd_Q A p (fd_z2 .sipush l) := fd_y2 hA fun x h => fd_bind (fd_n hA e) (fd_bind h rfl)
theorem fd_18 {A : ByteArray} {p : Nat} {b : UInt8} {l : List UInt8} (hA : fd_A A p (b :: l)) (e : b.toNat = 18) : fd_Q A p (fd_o1 .ldc l) := fd_k1 hA fun x h => fd_bind (fd_n hA e) (fd_bind h rfl)
theorem fd_19 {A : ByteArray} {p : Nat} {b : UInt8} {l : List UInt8} (hA : fd_A A p (b :: l)) (e : b.toNat = 19) : fd_Q A p (fd_o2 .ldc_w l) := fd_k2 hA fun x h => fd_bind (fd_n hA e) (fd_bind h rfl)
theorem fd_20 {A : ByteArray} {p : Nat} {b : UInt8} {l : List UInt8} (hA : fd_A A p (b :: l)) (e : b.toNat = 20) : fd_Q A p (fd_o2 .ldc2_w l) := fd_k2 hA fun x h => fd_bind (fd_n hA e) (fd_bind h rfl)
theorem fd_21 {A : ByteArray} {p : Nat} {b : UInt8} {l : List UInt8} (hA : fd_A A p (b :: l)) (e : b.toNat = 21) : fd_Q A p (fd_o1 .iload l) := fd_k1 hA fun x h => fd_bind (fd_n hA e) (fd_bind h rfl)
theorem fd_22 {A : ByteArray} {p : Nat} {b : UInt8} {l : List UInt8} (hA : fd_A A p (b :: l)) (e : b.toNat = 22) : fd_Q A p (fd_o1 .lload l) := fd_k1 hA fun x h => fd_bind (fd_n hA e) (fd_bind h rfl)
theorem fd_25 {A : ByteArray} {p : Nat} {b : UInt8} {l : List UInt8} (hA : fd_A A p (b :: l)) (e : b.toNat = 25) : fd_Q A p (fd_o1 .aload l) := fd_k1 hA fun x h => fd_bind (fd_n hA e) (fd_bind h rfl)
theorem fd_26 {A : ByteArray} {p : Nat} {b : UInt8} {l : List UInt8} (hA : fd_A A p (b :: l)) (e : b.toNat = 26) : fd_Q A p (some (.iload_n 0, 1)) := fd_k (C := .iload_n 0) (fd_bind (fd_n hA e) rfl)
theorem fd_27 {A : ByteArray} {p : Nat} {b : UInt8} {l : List UInt8} (hA : fd_A A p (b :: l)) (e : b.toNat = 27) : fd_Q A p (some (.iload_n 1, 1)) := fd_k (C := .iload_n 1) (fd_bind (fd_n hA e) rfl)
theorem fd_28 {A : ByteArray} {p : Nat} {b : UInt8} {l : List UInt8} (hA : fd_A A p (b :: l)) (e : b.toNat = 28) : fd_Q A p (some (.iload_n 2, 1)) := fd_k (C := .iload_n 2) (fd_bind (fd_n hA e) rfl)
theorem fd_29 {A : ByteArray} {p : Nat} {b : UInt8} {l : List UInt8} (hA : fd_A A p (b :: l)) (e : b.toNat = 29) : fd_Q A p (some (.iload_n 3, 1)) := fd_k (C := .iload_n 3) (fd_bind (fd_n hA e) rfl)
theorem fd_30 {A : ByteArray} {p : Nat} {b : UInt8} {l : List UInt8} (hA : fd_A A p (b :: l)) (e : b.toNat = 30) : fd_Q A p (some (.lload_n 0, 1)) := fd_k (C := .lload_n 0) (fd_bind (fd_n hA e) rfl)
theorem fd_31 {A : ByteArray} {p : Nat} {b : UInt8} {l : List UInt8} (hA : fd_A A p (b :: l)) (e : b.toNat = 31) : fd_Q A p (some (.lload_n 1, 1)) := fd_k (C := .lload_n 1) (fd_bind (fd_n hA e) rfl)
theorem fd_32 {A : ByteArray} {p : Nat} {b : UInt8} {l : List UInt8} (hA : fd_A A p (b :: l)) (e : b.toNat = 32) : fd_Q A p (some (.lload_n 2, 1)) := fd_k (C := .lload_n 2) (fd_bind (fd_n hA e) rfl)
theorem fd_33 {A : ByteArray} {p : Nat} {b : UInt8} {l : List UInt8} (hA : fd_A A p (b :: l)) (e : b.toNat = 33) : fd_Q A p (some (.lload_n 3, 1)) := fd_k (C := .lload_n 3) (fd_bind (fd_n hA e) rfl)
theorem fd_42 {A : ByteArray} {p : Nat} {b : UInt8} {l : List UInt8} (hA : fd_A A p (b :: l)) (e : b.toNat = 42) : fd_Q A p (some (.aload_n 0, 1)) := fd_k (C := .aload_n 0) (fd_bind (fd_n hA e) rfl)
theorem fd_43 {A : ByteArray} {p : Nat} {b : UInt8} {l : List UInt8} (hA : fd_A A p (b :: l)) (e : b.toNat = 43) : fd_Q A p (some (.aload_n 1, 1)) := fd_k (C := .aload_n 1) (fd_bind (fd_n hA e) rfl)
theorem fd_44 {A : ByteArray} {p : Nat} {b : UInt8} {l : List UInt8} (hA : fd_A A p (b :: l)) (e : b.toNat = 44) : fd_Q A p (some (.aload_n 2, 1)) := fd_k (C := .aload_n 2) (fd_bind (fd_n hA e) rfl)
theorem fd_45 {A : ByteArray} {p : Nat} {b : UInt8} {l : List UInt8} (hA : fd_A A p (b :: l)) (e : b.toNat = 45) : fd_Q A p (some (.aload_n 3, 1)) := fd_k (C := .aload_n 3) (fd_bind (fd_n hA e) rfl)
theorem fd_46 {A : ByteArray} {p : Nat} {b : UInt8} {l : List UInt8} (hA : fd_A A p (b :: l)) (e : b.toNat = 46) : fd_Q A p (some (.iaload, 1)) := fd_k (C := .iaload) (fd_bind (fd_n hA e) rfl)
theorem fd_47 {A : ByteArray} {p : Nat} {b : UInt8} {l : List UInt8} (hA : fd_A A p (b :: l)) (e : b.toNat = 47) : fd_Q A p (some (.laload, 1)) := fd_k (C := .laload) (fd_bind (fd_n hA e) rfl)
theorem fd_51 {A : ByteArray} {p : Nat} {b : UInt8} {l : List UInt8} (hA : fd_A A p (b :: l)) (e : b.toNat = 51) : fd_Q A p (some (.baload, 1)) := fd_k (C := .baload) (fd_bind (fd_n hA e) rfl)
theorem fd_54 {A : ByteArray} {p : Nat} {b : UInt8} {l : List UInt8} (hA : fd_A A p (b :: l)) (e : b.toNat = 54) : fd_Q A p (fd_o1 .istore l) := fd_k1 hA fun x h => fd_bind (fd_n hA e) (fd_bind h rfl)
theorem fd_55 {A : ByteArray} {p : Nat} {b : UInt8} {l : List UInt8} (hA : fd_A A p (b :: l)) (e : b.toNat = 55) : fd_Q A p (fd_o1 .lstore l) := fd_k1 hA fun x h => fd_bind (fd_n hA e) (fd_bind h rfl)
theorem fd_58 {A : ByteArray} {p : Nat} {b : UInt8} {l : List UInt8} (hA : fd_A A p (b :: l)) (e : b.toNat = 58) : fd_Q A p (fd_o1 .astore l) := fd_k1 hA fun x h => fd_bind (fd_n hA e) (fd_bind h rfl)
theorem fd_59 {A : ByteArray} {p : Nat} {b : UInt8} {l : List UInt8} (hA : fd_A A p (b :: l)) (e : b.toNat = 59) : fd_Q A p (some (.istore_n 0, 1)) := fd_k (C := .istore_n 0) (fd_bind (fd_n hA e) rfl)
theorem fd_60 {A : ByteArray} {p : Nat} {b : UInt8} {l : List UInt8} (hA : fd_A A p (b :: l)) (e : b.toNat = 60) : fd_Q A p (some (.istore_n 1, 1)) := fd_k (C := .istore_n 1) (fd_bind (fd_n hA e) rfl)
theorem fd_61 {A : ByteArray} {p : Nat} {b : UInt8} {l : List UInt8} (hA : fd_A A p (b :: l)) (e : b.toNat = 61) : fd_Q A p (some (.istore_n 2, 1)) := fd_k (C := .istore_n 2) (fd_bind (fd_n hA e) rfl)
theorem fd_62 {A : ByteArray} {p : Nat} {b : UInt8} {l : List UInt8} (hA : fd_A A p (b :: l)) (e : b.toNat = 62) : fd_Q A p (some (.istore_n 3, 1)) := fd_k (C := .istore_n 3) (fd_bind (fd_n hA e) rfl)
theorem fd_63 {A : ByteArray} {p : Nat} {b : UInt8} {l : List UInt8} (hA : fd_A A p (b :: l)) (e : b.toNat = 63) : fd_Q A p (some (.lstore_n 0, 1)) := fd_k (C := .lstore_n 0) (fd_bind (fd_n hA e) rfl)
theorem fd_64 {A : ByteArray} {p : Nat} {b : UInt8} {l : List UInt8} (hA : fd_A A p (b :: l)) (e : b.toNat = 64) : fd_Q A p (some (.lstore_n 1, 1)) := fd_k (C := .lstore_n 1) (fd_bind (fd_n hA e) rfl)
theorem fd_65 {A : ByteArray} {p : Nat} {b : UInt8} {l : List UInt8} (hA : fd_A A p (b :: l)) (e : b.toNat = 65) : fd_Q A p (some (.lstore_n 2, 1)) := fd_k (C := .lstore_n 2) (fd_bind (fd_n hA e) rfl)
theorem fd_66 {A : ByteArray} {p : Nat} {b : UInt8} {l : List UInt8} (hA : fd_A A p (b :: l)) (e : b.toNat = 66) : fd_Q A p (some (.lstore_n 3, 1)) := fd_k (C := .lstore_n 3) (fd_bind (fd_n hA e) rfl)
theorem fd_75 {A : ByteArray} {p : Nat} {b : UInt8} {l : List UInt8} (hA : fd_A A p (b :: l)) (e : b.toNat = 75) : fd_Q A p (some (.astore_n 0, 1)) := fd_k (C := .astore_n 0) (fd_bind (fd_n hA e) rfl)
theorem fd_76 {A : ByteArray} {p : Nat} {b : UInt8} {l : List UInt8} (hA : fd_A A p (b :: l)) (e : b.toNat = 76) : fd_Q A p (some (.astore_n 1, 1)) := fd_k (C := .astore_n 1) (fd_bind (fd_n hA e) rfl)
theorem fd_77 {A : ByteArray} {p : Nat} {b : UInt8} {l : List UInt8} (hA : fd_A A p (b :: l)) (e : b.toNat = 77) : fd_Q A p (some (.astore_n 2, 1)) := fd_k (C := .astore_n 2) (fd_bind (fd_n hA e) rfl)
theorem fd_78 {A : ByteArray} {p : Nat} {b : UInt8} {l : List UInt8} (hA : fd_A A p (b :: l)) (e : b.toNat = 78) : fd_Q A p (some (.astore_n 3, 1)) := fd_k (C := .astore_n 3) (fd_bind (fd_n hA e) rfl)
theorem fd_79 {A : ByteArray} {p : Nat} {b : UInt8} {l : List UInt8} (hA : fd_A A p (b :: l)) (e : b.toNat = 79) : fd_Q A p (some (.iastore, 1)) := fd_k (C := .iastore) (fd_bind (fd_n hA e) rfl)
theorem fd_80 {A : ByteArray} {p : Nat} {b : UInt8} {l : List UInt8} (hA : fd_A A p (b :: l)) (e : b.toNat = 80) : fd_Q A p (some (.lastore, 1)) := fd_k (C := .lastore) (fd_bind (fd_n hA e) rfl)
theorem fd_84 {A : ByteArray} {p : Nat} {b : UInt8} {l : List UInt8} (hA : fd_A A p (b :: l)) (e : b.toNat = 84) : fd_Q A p (some (.bastore, 1)) := fd_k (C := .bastore) (fd_bind (fd_n hA e) rfl)
theorem fd_87 {A : ByteArray} {p : Nat} {b : UInt8} {l : List UInt8} (hA : fd_A A p (b :: l)) (e : b.toNat = 87) : fd_Q A p (some (.pop, 1)) := fd_k (C := .pop) (fd_bind (fd_n hA e) rfl)
theorem fd_89 {A : ByteArray} {p : Nat} {b : UInt8} {l : List UInt8} (hA : fd_A A p (b :: l)) (e : b.toNat = 89) : fd_Q A p (some (.dup, 1)) := fd_k (C := .dup) (fd_bind (fd_n hA e) rfl)
theorem fd_92 {A : ByteArray} {p : Nat} {b : UInt8} {l : List UInt8} (hA : fd_A A p (b :: l)) (e : b.toNat = 92) : fd_Q A p (some (.dup2, 1)) := fd_k (C := .dup2) (fd_bind (fd_n hA e) rfl)
theorem fd_96 {A : ByteArray} {p : Nat} {b : UInt8} {l : List UInt8} (hA : fd_A A p (b :: l)) (e : b.toNat = 96) : fd_Q A p (some (.iadd, 1)) := fd_k (C := .iadd) (fd_bind (fd_n hA e) rfl)
theorem fd_97 {A : ByteArray} {p : Nat} {b : UInt8} {l : List UInt8} (hA : fd_A A p (b :: l)) (e : b.toNat = 97) : fd_Q A p (some (.ladd, 1)) := fd_k (C := .ladd) (fd_bind (fd_n hA e) rfl)
theorem fd_100 {A : ByteArray} {p : Nat} {b : UInt8} {l : List UInt8} (hA : fd_A A p (b :: l)) (e : b.toNat = 100) : fd_Q A p (some (.isub, 1)) := fd_k (C := .isub) (fd_bind (fd_n hA e) rfl)
theorem fd_104 {A : ByteArray} {p : Nat} {b : UInt8} {l : List UInt8} (hA : fd_A A p (b :: l)) (e : b.toNat = 104) : fd_Q A p (some (.imul, 1)) := fd_k (C := .imul) (fd_bind (fd_n hA e) rfl)
theorem fd_105 {A : ByteArray} {p : Nat} {b : UInt8} {l : List UInt8} (hA : fd_A A p (b :: l)) (e : b.toNat = 105) : fd_Q A p (some (.lmul, 1)) := fd_k (C := .lmul) (fd_bind (fd_n hA e) rfl)
theorem fd_108 {A : ByteArray} {p : Nat} {b : UInt8} {l : List UInt8} (hA : fd_A A p (b :: l)) (e : b.toNat = 108) : fd_Q A p (some (.idiv, 1)) := fd_k (C := .idiv) (fd_bind (fd_n hA e) rfl)
theorem fd_109 {A : ByteArray} {p : Nat} {b : UInt8} {l : List UInt8} (hA : fd_A A p (b :: l)) (e : b.toNat = 109) : fd_Q A p (some (.ldiv, 1)) := fd_k (C := .ldiv) (fd_bind (fd_n hA e) rfl)
theorem fd_112 {A : ByteArray} {p : Nat} {b : UInt8} {l : List UInt8} (hA : fd_A A p (b :: l)) (e : b.toNat = 112) : fd_Q A p (some (.irem, 1)) := fd_k (C := .irem) (fd_bind (fd_n hA e) rfl)
theorem fd_113 {A : ByteArray} {p : Nat} {b : UInt8} {l : List UInt8} (hA : fd_A A p (b :: l)) (e : b.toNat = 113) : fd_Q A p (some (.lrem, 1)) := fd_k (C := .lrem) (fd_bind (fd_n hA e) rfl)
theorem fd_120 {A : ByteArray} {p : Nat} {b : UInt8} {l : List UInt8} (hA : fd_A A p (b :: l)) (e : b.toNat = 120) : fd_Q A p (some (.ishl, 1)) := fd_k (C := .ishl) (fd_bind (fd_n hA e) rfl)
theorem fd_121 {A : ByteArray} {p : Nat} {b : UInt8} {l : List UInt8} (hA : fd_A A p (b :: l)) (e : b.toNat = 121) : fd_Q A p (some (.lshl, 1)) := fd_k (C := .lshl) (fd_bind (fd_n hA e) rfl)
theorem fd_122 {A : ByteArray} {p : Nat} {b : UInt8} {l : List UInt8} (hA : fd_A A p (b :: l)) (e : b.toNat = 122) : fd_Q A p (some (.ishr, 1)) := fd_k (C := .ishr) (fd_bind (fd_n hA e) rfl)
theorem fd_123 {A : ByteArray} {p : Nat} {b : UInt8} {l : List UInt8} (hA : fd_A A p (b :: l)) (e : b.toNat = 123) : fd_Q A p (some (.lshr, 1)) := fd_k (C := .lshr) (fd_bind (fd_n hA e) rfl)
theorem fd_125 {A : ByteArray} {p : Nat} {b : UInt8} {l : List UInt8} (hA : fd_A A p (b :: l)) (e : b.toNat = 125) : fd_Q A p (some (.lushr, 1)) := fd_k (C := .lushr) (fd_bind (fd_n hA e) rfl)
theorem fd_126 {A : ByteArray} {p : Nat} {b : UInt8} {l : List UInt8} (hA : fd_A A p (b :: l)) (e : b.toNat = 126) : fd_Q A p (some (.iand, 1)) := fd_k (C := .iand) (fd_bind (fd_n hA e) rfl)
theorem fd_128 {A : ByteArray} {p : Nat} {b : UInt8} {l : List UInt8} (hA : fd_A A p (b :: l)) (e : b.toNat = 128) : fd_Q A p (some (.ior, 1)) := fd_k (C := .ior) (fd_bind (fd_n hA e) rfl)
theorem fd_129 {A : ByteArray} {p : Nat} {b : UInt8} {l : List UInt8} (hA : fd_A A p (b :: l)) (e : b.toNat = 129) : fd_Q A p (some (.lor, 1)) := fd_k (C := .lor) (fd_bind (fd_n hA e) rfl)
theorem fd_130 {A : ByteArray} {p : Nat} {b : UInt8} {l : List UInt8} (hA : fd_A A p (b :: l)) (e : b.toNat = 130) : fd_Q A p (some (.ixor, 1)) := fd_k (C := .ixor) (fd_bind (fd_n hA e) rfl)
theorem fd_132 {A : ByteArray} {p : Nat} {b : UInt8} {l : List UInt8} (hA : fd_A A p (b :: l)) (e : b.toNat = 132) : fd_Q A p (fd_ii l) := fd_yi hA fun x y h h2 => fd_bind (fd_n hA e) (fd_bind h (fd_bind h2 rfl))
theorem fd_133 {A : ByteArray} {p : Nat} {b : UInt8} {l : List UInt8} (hA : fd_A A p (b :: l)) (e : b.toNat = 133) : fd_Q A p (some (.i2l, 1)) := fd_k (C := .i2l) (fd_bind (fd_n hA e) rfl)
theorem fd_136 {A : ByteArray} {p : Nat} {b : UInt8} {l : List UInt8} (hA : fd_A A p (b :: l)) (e : b.toNat = 136) : fd_Q A p (some (.l2i, 1)) := fd_k (C := .l2i) (fd_bind (fd_n hA e) rfl)
theorem fd_145 {A : ByteArray} {p : Nat} {b : UInt8} {l : List UInt8} (hA : fd_A A p (b :: l)) (e : b.toNat = 145) : fd_Q A p (some (.i2b, 1)) := fd_k (C := .i2b) (fd_bind (fd_n hA e) rfl)
theorem fd_148 {A : ByteArray} {p : Nat} {b : UInt8} {l : List UInt8} (hA : fd_A A p (b :: l)) (e : b.toNat = 148) : fd_Q A p (some (.lcmp, 1)) := fd_k (C := .lcmp) (fd_bind (fd_n hA e) rfl)
theorem fd_153 {A : ByteArray} {p : Nat} {b : UInt8} {l : List UInt8} (hA : fd_A A p (b :: l)) (e : b.toNat = 153) : fd_Q A p (fd_z2 (.ifCond .eq) l) := fd_y2 hA fun x h => fd_bind (fd_n hA e) (fd_bind h rfl)
theorem fd_154 {A : ByteArray} {p : Nat} {b : UInt8} {l : List UInt8} (hA : fd_A A p (b :: l)) (e : b.toNat = 154) : fd_Q A p (fd_z2 (.ifCond .ne) l) := fd_y2 hA fun x h => fd_bind (fd_n hA e) (fd_bind h rfl)
theorem fd_155 {A : ByteArray} {p : Nat} {b : UInt8} {l : List UInt8} (hA : fd_A A p (b :: l)) (e : b.toNat = 155) : fd_Q A p (fd_z2 (.ifCond .lt) l) := fd_y2 hA fun x h => fd_bind (fd_n hA e) (fd_bind h rfl)
theorem fd_156 {A : ByteArray} {p : Nat} {b : UInt8} {l : List UInt8} (hA : fd_A A p (b :: l)) (e : b.toNat = 156) : fd_Q A p (fd_z2 (.ifCond .ge) l) := fd_y2 hA fun x h => fd_bind (fd_n hA e) (fd_bind h rfl)
theorem fd_157 {A : ByteArray} {p : Nat} {b : UInt8} {l : List UInt8} (hA : fd_A A p (b :: l)) (e : b.toNat = 157) : fd_Q A p (fd_z2 (.ifCond .gt) l) := fd_y2 hA fun x h => fd_bind (fd_n hA e) (fd_bind h rfl)
theorem fd_158 {A : ByteArray} {p : Nat} {b : UInt8} {l : List UInt8} (hA : fd_A A p (b :: l)) (e : b.toNat = 158) : fd_Q A p (fd_z2 (.ifCond .le) l) := fd_y2 hA fun x h => fd_bind (fd_n hA e) (fd_bind h rfl)
theorem fd_159 {A : ByteArray} {p : Nat} {b : UInt8} {l : List UInt8} (hA : fd_A A p (b :: l)) (e : b.toNat = 159) : fd_Q A p (fd_z2 (.if_icmp .eq) l) := fd_y2 hA fun x h => fd_bind (fd_n hA e) (fd_bind h rfl)
theorem fd_160 {A : ByteArray} {p : Nat} {b : UInt8} {l : List UInt8} (hA : fd_A A p (b :: l)) (e : b.toNat = 160) : fd_Q A p (fd_z2 (.if_icmp .ne) l) := fd_y2 hA fun x h => fd_bind (fd_n hA e) (fd_bind h rfl)
theorem fd_161 {A : ByteArray} {p : Nat} {b : UInt8} {l : List UInt8} (hA : fd_A A p (b :: l)) (e : b.toNat = 161) : fd_Q A p (fd_z2 (.if_icmp .lt) l) := fd_y2 hA fun x h => fd_bind (fd_n hA e) (fd_bind h rfl)
theorem fd_162 {A : ByteArray} {p : Nat} {b : UInt8} {l : List UInt8} (hA : fd_A A p (b :: l)) (e : b.toNat = 162) : fd_Q A p (fd_z2 (.if_icmp .ge) l) := fd_y2 hA fun x h => fd_bind (fd_n hA e) (fd_bind h rfl)
theorem fd_163 {A : ByteArray} {p : Nat} {b : UInt8} {l : List UInt8} (hA : fd_A A p (b :: l)) (e : b.toNat = 163) : fd_Q A p (fd_z2 (.if_icmp .gt) l) := fd_y2 hA fun x h => fd_bind (fd_n hA e) (fd_bind h rfl)
theorem fd_164 {A : ByteArray} {p : Nat} {b : UInt8} {l : List UInt8} (hA : fd_A A p (b :: l)) (e : b.toNat = 164) : fd_Q A p (fd_z2 (.if_icmp .le) l) := fd_y2 hA fun x h => fd_bind (fd_n hA e) (fd_bind h rfl)
theorem fd_167 {A : ByteArray} {p : Nat} {b : UInt8} {l : List UInt8} (hA : fd_A A p (b :: l)) (e : b.toNat = 167) : fd_Q A p (fd_z2 .goto l) := fd_y2 hA fun x h => fd_bind (fd_n hA e) (fd_bind h rfl)
theorem fd_172 {A : ByteArray} {p : Nat} {b : UInt8} {l : List UInt8} (hA : fd_A A p (b :: l)) (e : b.toNat = 172) : fd_Q A p (some (.ireturn, 1)) := fd_k (C := .ireturn) (fd_bind (fd_n hA e) rfl)
theorem fd_173 {A : ByteArray} {p : Nat} {b : UInt8} {l : List UInt8} (hA : fd_A A p (b :: l)) (e : b.toNat = 173) : fd_Q A p (some (.lreturn, 1)) := fd_k (C := .lreturn) (fd_bind (fd_n hA e) rfl)
theorem fd_176 {A : ByteArray} {p : Nat} {b : UInt8} {l : List UInt8} (hA : fd_A A p (b :: l)) (e : b.toNat = 176) : fd_Q A p (some (.areturn, 1)) := fd_k (C := .areturn) (fd_bind (fd_n hA e) rfl)
theorem fd_177 {A : ByteArray} {p : Nat} {b : UInt8} {l : List UInt8} (hA : fd_A A p (b :: l)) (e : b.toNat = 177) : fd_Q A p (some (.return_, 1)) := fd_k (C := .return_) (fd_bind (fd_n hA e) rfl)
theorem fd_180 {A : ByteArray} {p : Nat} {b : UInt8} {l : List UInt8} (hA : fd_A A p (b :: l)) (e : b.toNat = 180) : fd_Q A p (fd_o2 .getfield l) := fd_k2 hA fun x h => fd_bind (fd_n hA e) (fd_bind h rfl)
theorem fd_181 {A : ByteArray} {p : Nat} {b : UInt8} {l : List UInt8} (hA : fd_A A p (b :: l)) (e : b.toNat = 181) : fd_Q A p (fd_o2 .putfield l) := fd_k2 hA fun x h => fd_bind (fd_n hA e) (fd_bind h rfl)
theorem fd_182 {A : ByteArray} {p : Nat} {b : UInt8} {l : List UInt8} (hA : fd_A A p (b :: l)) (e : b.toNat = 182) : fd_Q A p (fd_o2 .invokevirtual l) := fd_k2 hA fun x h => fd_bind (fd_n hA e) (fd_bind h rfl)
theorem fd_183 {A : ByteArray} {p : Nat} {b : UInt8} {l : List UInt8} (hA : fd_A A p (b :: l)) (e : b.toNat = 183) : fd_Q A p (fd_o2 .invokespecial l) := fd_k2 hA fun x h => fd_bind (fd_n hA e) (fd_bind h rfl)
theorem fd_184 {A : ByteArray} {p : Nat} {b : UInt8} {l : List UInt8} (hA : fd_A A p (b :: l)) (e : b.toNat = 184) : fd_Q A p (fd_o2 .invokestatic l) := fd_k2 hA fun x h => fd_bind (fd_n hA e) (fd_bind h rfl)
theorem fd_187 {A : ByteArray} {p : Nat} {b : UInt8} {l : List UInt8} (hA : fd_A A p (b :: l)) (e : b.toNat = 187) : fd_Q A p (fd_o2 .new l) := fd_k2 hA fun x h => fd_bind (fd_n hA e) (fd_bind h rfl)
theorem fd_190 {A : ByteArray} {p : Nat} {b : UInt8} {l : List UInt8} (hA : fd_A A p (b :: l)) (e : b.toNat = 190) : fd_Q A p (some (.arraylength, 1)) := fd_k (C := .arraylength) (fd_bind (fd_n hA e) rfl)
theorem fd_198 {A : ByteArray} {p : Nat} {b : UInt8} {l : List UInt8} (hA : fd_A A p (b :: l)) (e : b.toNat = 198) : fd_Q A p (fd_z2 .ifnull l) := fd_y2 hA fun x h => fd_bind (fd_n hA e) (fd_bind h rfl)
def fd_t (n : Nat) (l : List UInt8) : Option (Instr × Nat) := cond (Nat.blt n 87) (cond (Nat.blt n 42) (cond (Nat.blt n 19) (cond (Nat.blt n 8) (cond (Nat.blt n 5) (cond (Nat.blt n 3) (cond (Nat.beq n 2) (some (.iconst (-1), 1)) none) (cond (Nat.blt n 4) (cond (Nat.beq n 3) (some (.iconst (0), 1)) none) (cond (Nat.beq n 4) (some (.iconst (1), 1)) none))) (cond (Nat.blt n 6) (cond (Nat.beq n 5) (some (.iconst (2), 1)) none) (cond (Nat.blt n 7) (cond (Nat.beq n 6) (some (.iconst (3), 1)) none) (cond (Nat.beq n 7) (some (.iconst (4), 1)) none)))) (cond (Nat.blt n 16) (cond (Nat.blt n 9) (cond (Nat.beq n 8) (some (.iconst (5), 1)) none) (cond (Nat.blt n 10) (cond (Nat.beq n 9) (some (.lconst 0, 1)) none) (cond (Nat.beq n 10) (some (.lconst 1, 1)) none))) (cond (Nat.blt n 17) (cond (Nat.beq n 16) (fd_z1 .bipush l) none) (cond (Nat.blt n 18) (cond (Nat.beq n 17) (fd_z2 .sipush l) none) (cond (Nat.beq n 18) (fd_o1 .ldc l) none))))) (cond (Nat.blt n 27) (cond (Nat.blt n 22) (cond (Nat.blt n 20) (cond (Nat.beq n 19) (fd_o2 .ldc_w l) none) (cond (Nat.blt n 21) (cond (Nat.beq n 20) (fd_o2 .ldc2_w l) none) (cond (Nat.beq n 21) (fd_o1 .iload l) none))) (cond (Nat.blt n 25) (cond (Nat.beq n 22) (fd_o1 .lload l) none) (cond (Nat.blt n 26) (cond (Nat.beq n 25) (fd_o1 .aload l) none) (cond (Nat.beq n 26) (some (.iload_n 0, 1)) none)))) (cond (Nat.blt n 30) (cond (Nat.blt n 28) (cond (Nat.beq n 27) (some (.iload_n 1, 1)) none) (cond (Nat.blt n 29) (cond (Nat.beq n 28) (some (.iload_n 2, 1)) none) (cond (Nat.beq n 29) (some (.iload_n 3, 1)) none))) (cond (Nat.blt n 32) (cond (Nat.blt n 31) (cond (Nat.beq n 30) (some (.lload_n 0, 1)) none) (cond (Nat.beq n 31) (some (.lload_n 1, 1)) none)) (cond (Nat.blt n 33) (cond (Nat.beq n 32) (some (.lload_n 2, 1)) none) (cond (Nat.beq n 33) (some (.lload_n 3, 1)) none)))))) (cond (Nat.blt n 61) (cond (Nat.blt n 51) (cond (Nat.blt n 45) (cond (Nat.blt n 43) (cond (Nat.beq n 42) (some (.aload_n 0, 1)) none) (cond (Nat.blt n 44) (cond (Nat.beq n 43) (some (.aload_n 1, 1)) none) (cond (Nat.beq n 44) (some (.aload_n 2, 1)) none))) (cond (Nat.blt n 46) (cond (Nat.beq n 45) (some (.aload_n 3, 1)) none) (cond (Nat.blt n 47) (cond (Nat.beq n 46) (some (.iaload, 1)) none) (cond (Nat.beq n 47) (some (.laload, 1)) none)))) (cond (Nat.blt n 58) (cond (Nat.blt n 54) (cond (Nat.beq n 51) (some (.baload, 1)) none) (cond (Nat.blt n 55) (cond (Nat.beq n 54) (fd_o1 .istore l) none) (cond (Nat.beq n 55) (fd_o1 .lstore l) none))) (cond (Nat.blt n 59) (cond (Nat.beq n 58) (fd_o1 .astore l) none) (cond (Nat.blt n 60) (cond (Nat.beq n 59) (some (.istore_n 0, 1)) none) (cond (Nat.beq n 60) (some (.istore_n 1, 1)) none))))) (cond (Nat.blt n 75) (cond (Nat.blt n 64) (cond (Nat.blt n 62) (cond (Nat.beq n 61) (some (.istore_n 2, 1)) none) (cond (Nat.blt n 63) (cond (Nat.beq n 62) (some (.istore_n 3, 1)) none) (cond (Nat.beq n 63) (some (.lstore_n 0, 1)) none))) (cond (Nat.blt n 65) (cond (Nat.beq n 64) (some (.lstore_n 1, 1)) none) (cond (Nat.blt n 66) (cond (Nat.beq n 65) (some (.lstore_n 2, 1)) none) (cond (Nat.beq n 66) (some (.lstore_n 3, 1)) none)))) (cond (Nat.blt n 78) (cond (Nat.blt n 76) (cond (Nat.beq n 75) (some (.astore_n 0, 1)) none) (cond (Nat.blt n 77) (cond (Nat.beq n 76) (some (.astore_n 1, 1)) none) (cond (Nat.beq n 77) (some (.astore_n 2, 1)) none))) (cond (Nat.blt n 80) (cond (Nat.blt n 79) (cond (Nat.beq n 78) (some (.astore_n 3, 1)) none) (cond (Nat.beq n 79) (some (.iastore, 1)) none)) (cond (Nat.blt n 84) (cond (Nat.beq n 80) (some (.lastore, 1)) none) (cond (Nat.beq n 84) (some (.bastore, 1)) none))))))) (cond (Nat.blt n 148) (cond (Nat.blt n 120) (cond (Nat.blt n 104) (cond (Nat.blt n 96) (cond (Nat.blt n 89) (cond (Nat.beq n 87) (some (.pop, 1)) none) (cond (Nat.blt n 92) (cond (Nat.beq n 89) (some (.dup, 1)) none) (cond (Nat.beq n 92) (some (.dup2, 1)) none))) (cond (Nat.blt n 97) (cond (Nat.beq n 96) (some (.iadd, 1)) none) (cond (Nat.blt n 100) (cond (Nat.beq n 97) (some (.ladd, 1)) none) (cond (Nat.beq n 100) (some (.isub, 1)) none)))) (cond (Nat.blt n 109) (cond (Nat.blt n 105) (cond (Nat.beq n 104) (some (.imul, 1)) none) (cond (Nat.blt n 108) (cond (Nat.beq n 105) (some (.lmul, 1)) none) (cond (Nat.beq n 108) (some (.idiv, 1)) none))) (cond (Nat.blt n 112) (cond (Nat.beq n 109) (some (.ldiv, 1)) none) (cond (Nat.blt n 113) (cond (Nat.beq n 112) (some (.irem, 1)) none) (cond (Nat.beq n 113) (some (.lrem, 1)) none))))) (cond (Nat.blt n 128) (cond (Nat.blt n 123) (cond (Nat.blt n 121) (cond (Nat.beq n 120) (some (.ishl, 1)) none) (cond (Nat.blt n 122) (cond (Nat.beq n 121) (some (.lshl, 1)) none) (cond (Nat.beq n 122) (some (.ishr, 1)) none))) (cond (Nat.blt n 125) (cond (Nat.beq n 123) (some (.lshr, 1)) none) (cond (Nat.blt n 126) (cond (Nat.beq n 125) (some (.lushr, 1)) none) (cond (Nat.beq n 126) (some (.iand, 1)) none)))) (cond (Nat.blt n 132) (cond (Nat.blt n 129) (cond (Nat.beq n 128) (some (.ior, 1)) none) (cond (Nat.blt n 130) (cond (Nat.beq n 129) (some (.lor, 1)) none) (cond (Nat.beq n 130) (some (.ixor, 1)) none))) (cond (Nat.blt n 136) (cond (Nat.blt n 133) (cond (Nat.beq n 132) (fd_ii l) none) (cond (Nat.beq n 133) (some (.i2l, 1)) none)) (cond (Nat.blt n 145) (cond (Nat.beq n 136) (some (.l2i, 1)) none) (cond (Nat.beq n 145) (some (.i2b, 1)) none)))))) (cond (Nat.blt n 167) (cond (Nat.blt n 158) (cond (Nat.blt n 155) (cond (Nat.blt n 153) (cond (Nat.beq n 148) (some (.lcmp, 1)) none) (cond (Nat.blt n 154) (cond (Nat.beq n 153) (fd_z2 (.ifCond .eq) l) none) (cond (Nat.beq n 154) (fd_z2 (.ifCond .ne) l) none))) (cond (Nat.blt n 156) (cond (Nat.beq n 155) (fd_z2 (.ifCond .lt) l) none) (cond (Nat.blt n 157) (cond (Nat.beq n 156) (fd_z2 (.ifCond .ge) l) none) (cond (Nat.beq n 157) (fd_z2 (.ifCond .gt) l) none)))) (cond (Nat.blt n 161) (cond (Nat.blt n 159) (cond (Nat.beq n 158) (fd_z2 (.ifCond .le) l) none) (cond (Nat.blt n 160) (cond (Nat.beq n 159) (fd_z2 (.if_icmp .eq) l) none) (cond (Nat.beq n 160) (fd_z2 (.if_icmp .ne) l) none))) (cond (Nat.blt n 163) (cond (Nat.blt n 162) (cond (Nat.beq n 161) (fd_z2 (.if_icmp .lt) l) none) (cond (Nat.beq n 162) (fd_z2 (.if_icmp .ge) l) none)) (cond (Nat.blt n 164) (cond (Nat.beq n 163) (fd_z2 (.if_icmp .gt) l) none) (cond (Nat.beq n 164) (fd_z2 (.if_icmp .le) l) none))))) (cond (Nat.blt n 181) (cond (Nat.blt n 176) (cond (Nat.blt n 172) (cond (Nat.beq n 167) (fd_z2 .goto l) none) (cond (Nat.blt n 173) (cond (Nat.beq n 172) (some (.ireturn, 1)) none) (cond (Nat.beq n 173) (some (.lreturn, 1)) none))) (cond (Nat.blt n 177) (cond (Nat.beq n 176) (some (.areturn, 1)) none) (cond (Nat.blt n 180) (cond (Nat.beq n 177) (some (.return_, 1)) none) (cond (Nat.beq n 180) (fd_o2 .getfield l) none)))) (cond (Nat.blt n 184) (cond (Nat.blt n 182) (cond (Nat.beq n 181) (fd_o2 .putfield l) none) (cond (Nat.blt n 183) (cond (Nat.beq n 182) (fd_o2 .invokevirtual l) none) (cond (Nat.beq n 183) (fd_o2 .invokespecial l) none))) (cond (Nat.blt n 190) (cond (Nat.blt n 187) (cond (Nat.beq n 184) (fd_o2 .invokestatic l) none) (cond (Nat.beq n 187) (fd_o2 .new l) none)) (cond (Nat.blt n 198) (cond (Nat.beq n 190) (some (.arraylength, 1)) none) (cond (Nat.beq n 198) (fd_z2 .ifnull l) none)))))))
theorem fd_tq {A : ByteArray} {p : Nat} {b : UInt8} {l : List UInt8} (hA : fd_A A p (b :: l)) : fd_Q A p (fd_t b.toNat l) := fd_c (fd_c (fd_c (fd_c (fd_c (fd_c (fd_l (fun e => fd_2 hA e)) (fd_c (fd_l (fun e => fd_3 hA e)) (fd_l (fun e => fd_4 hA e)))) (fd_c (fd_l (fun e => fd_5 hA e)) (fd_c (fd_l (fun e => fd_6 hA e)) (fd_l (fun e => fd_7 hA e))))) (fd_c (fd_c (fd_l (fun e => fd_8 hA e)) (fd_c (fd_l (fun e => fd_9 hA e)) (fd_l (fun e => fd_10 hA e)))) (fd_c (fd_l (fun e => fd_16 hA e)) (fd_c (fd_l (fun e => fd_17 hA e)) (fd_l (fun e => fd_18 hA e)))))) (fd_c (fd_c (fd_c (fd_l (fun e => fd_19 hA e)) (fd_c (fd_l (fun e => fd_20 hA e)) (fd_l (fun e => fd_21 hA e)))) (fd_c (fd_l (fun e => fd_22 hA e)) (fd_c (fd_l (fun e => fd_25 hA e)) (fd_l (fun e => fd_26 hA e))))) (fd_c (fd_c (fd_l (fun e => fd_27 hA e)) (fd_c (fd_l (fun e => fd_28 hA e)) (fd_l (fun e => fd_29 hA e)))) (fd_c (fd_c (fd_l (fun e => fd_30 hA e)) (fd_l (fun e => fd_31 hA e))) (fd_c (fd_l (fun e => fd_32 hA e)) (fd_l (fun e => fd_33 hA e))))))) (fd_c (fd_c (fd_c (fd_c (fd_l (fun e => fd_42 hA e)) (fd_c (fd_l (fun e => fd_43 hA e)) (fd_l (fun e => fd_44 hA e)))) (fd_c (fd_l (fun e => fd_45 hA e)) (fd_c (fd_l (fun e => fd_46 hA e)) (fd_l (fun e => fd_47 hA e))))) (fd_c (fd_c (fd_l (fun e => fd_51 hA e)) (fd_c (fd_l (fun e => fd_54 hA e)) (fd_l (fun e => fd_55 hA e)))) (fd_c (fd_l (fun e => fd_58 hA e)) (fd_c (fd_l (fun e => fd_59 hA e)) (fd_l (fun e => fd_60 hA e)))))) (fd_c (fd_c (fd_c (fd_l (fun e => fd_61 hA e)) (fd_c (fd_l (fun e => fd_62 hA e)) (fd_l (fun e => fd_63 hA e)))) (fd_c (fd_l (fun e => fd_64 hA e)) (fd_c (fd_l (fun e => fd_65 hA e)) (fd_l (fun e => fd_66 hA e))))) (fd_c (fd_c (fd_l (fun e => fd_75 hA e)) (fd_c (fd_l (fun e => fd_76 hA e)) (fd_l (fun e => fd_77 hA e)))) (fd_c (fd_c (fd_l (fun e => fd_78 hA e)) (fd_l (fun e => fd_79 hA e))) (fd_c (fd_l (fun e => fd_80 hA e)) (fd_l (fun e => fd_84 hA e)))))))) (fd_c (fd_c (fd_c (fd_c (fd_c (fd_l (fun e => fd_87 hA e)) (fd_c (fd_l (fun e => fd_89 hA e)) (fd_l (fun e => fd_92 hA e)))) (fd_c (fd_l (fun e => fd_96 hA e)) (fd_c (fd_l (fun e => fd_97 hA e)) (fd_l (fun e => fd_100 hA e))))) (fd_c (fd_c (fd_l (fun e => fd_104 hA e)) (fd_c (fd_l (fun e => fd_105 hA e)) (fd_l (fun e => fd_108 hA e)))) (fd_c (fd_l (fun e => fd_109 hA e)) (fd_c (fd_l (fun e => fd_112 hA e)) (fd_l (fun e => fd_113 hA e)))))) (fd_c (fd_c (fd_c (fd_l (fun e => fd_120 hA e)) (fd_c (fd_l (fun e => fd_121 hA e)) (fd_l (fun e => fd_122 hA e)))) (fd_c (fd_l (fun e => fd_123 hA e)) (fd_c (fd_l (fun e => fd_125 hA e)) (fd_l (fun e => fd_126 hA e))))) (fd_c (fd_c (fd_l (fun e => fd_128 hA e)) (fd_c (fd_l (fun e => fd_129 hA e)) (fd_l (fun e => fd_130 hA e)))) (fd_c (fd_c (fd_l (fun e => fd_132 hA e)) (fd_l (fun e => fd_133 hA e))) (fd_c (fd_l (fun e => fd_136 hA e)) (fd_l (fun e => fd_145 hA e))))))) (fd_c (fd_c (fd_c (fd_c (fd_l (fun e => fd_148 hA e)) (fd_c (fd_l (fun e => fd_153 hA e)) (fd_l (fun e => fd_154 hA e)))) (fd_c (fd_l (fun e => fd_155 hA e)) (fd_c (fd_l (fun e => fd_156 hA e)) (fd_l (fun e => fd_157 hA e))))) (fd_c (fd_c (fd_l (fun e => fd_158 hA e)) (fd_c (fd_l (fun e => fd_159 hA e)) (fd_l (fun e => fd_160 hA e)))) (fd_c (fd_c (fd_l (fun e => fd_161 hA e)) (fd_l (fun e => fd_162 hA e))) (fd_c (fd_l (fun e => fd_163 hA e)) (fd_l (fun e => fd_164 hA e)))))) (fd_c (fd_c (fd_c (fd_l (fun e => fd_167 hA e)) (fd_c (fd_l (fun e => fd_172 hA e)) (fd_l (fun e => fd_173 hA e)))) (fd_c (fd_l (fun e => fd_176 hA e)) (fd_c (fd_l (fun e => fd_177 hA e)) (fd_l (fun e => fd_180 hA e))))) (fd_c (fd_c (fd_l (fun e => fd_181 hA e)) (fd_c (fd_l (fun e => fd_182 hA e)) (fd_l (fun e => fd_183 hA e)))) (fd_c (fd_c (fd_l (fun e => fd_184 hA e)) (fd_l (fun e => fd_187 hA e))) (fd_c (fd_l (fun e => fd_190 hA e)) (fd_l (fun e => fd_198 hA e))))))))
def fd_q : List UInt8 → Option (Instr × Nat)
  | [] => none
  | b :: l => fd_t b.toNat l
theorem fd_qq {A : ByteArray} {p : Nat} : ∀ {l : List UInt8}, fd_A A p l → fd_Q A p (fd_q l)
  | [], _ => fun i n z => by cases z
  | _ :: _, h => fd_tq h
def fd_one (m j p q : Nat) (ins : Instr) : Option (Instr × Nat) → Bool
  | some (raw, len) => band (band (Nat.beq q (p + len)) (cond (Nat.beq (lenOf raw) 0) true (Nat.beq len (lenOf raw)))) (rz m p raw ins)
  | none => okI m j ins
/-- one instruction after another: its places, the bytes that are left -/
def fd_s (m : Nat) : Nat → List Nat → List UInt8 → List Instr → Bool
  | _, _, _, [] => true
  | j, p :: q :: ps, l, ins :: is => band (band (Nat.ble p q) (fd_one m j p q ins (fd_q l))) (fd_s m (j + 1) (q :: ps) (l.drop (q - p)) is)
  | _, _, _, _ => false
theorem nthD_drop : ∀ (L : List Nat) (j p : Nat) (t : List Nat), L.drop j = p :: t → nthD L j = p
  | [], j, p, t, h => by simp at h
  | a :: L, 0, p, t, h => by
    simp only [List.drop_zero, List.cons.injEq] at h
    simp only [nthD]
    exact h.1
  | a :: L, j + 1, p, t, h => by
    simp only [List.drop_succ_cons] at h
    simp only [nthD]
    exact nthD_drop L j p t h
theorem drop_nx {α : Type} {L : List α} {j : Nat} {p : α} {t : List α} (h : L.drop j = p :: t) : L.drop (j + 1) = t := by
  have := congrArg List.tail h
  rw [List.tail_drop] at this
  exact this
theorem fd_s_at (m : Nat) : ∀ (is : List Instr) (j : Nat) (ps : List Nat) (l : List UInt8), fd_s m j ps l is = true → (bpcs m).drop j = ps → fd_A (mCode m) (bpc m j) l → ∀ k ins, nth is k = some ins → okI m (j + k) ins = true
  | [], j, ps, l, _, _, _, k, ins, h => by simp [nth] at h
  | i0 :: is, j, ps, l, hs, hp, hl, k, ins, h => by
    match ps, hs, hp with
    | p :: q :: t, hs, hp =>
      unfold fd_s at hs
      obtain ⟨h1, h2⟩ := band_t hs
      obtain ⟨h0, h1⟩ := band_t h1
      have e1 : bpc m j = p := nthD_drop _ _ _ _ hp
      have hp2 : (bpcs m).drop (j + 1) = q :: t := drop_nx hp
      have e2 : bpc m (j + 1) = q := nthD_drop _ _ _ _ hp2
      have hle : p ≤ q := Nat.le_of_ble_eq_true h0
      match k, h with
      | 0, h =>
        simp only [nth, Option.some.injEq] at h
        subst h
        cases hq : fd_q l with
        | none =>
          rw [hq] at h1
          exact h1
        | some r =>
          obtain ⟨raw, len⟩ := r
          rw [hq] at h1
          have hd := fd_qq hl raw len hq
          show okI m j i0 = true
          unfold okI
          rw [hd, e2, e1]
          exact h1
      | k + 1, h =>
        have hl2 : fd_A (mCode m) (bpc m (j + 1)) (l.drop (q - p)) := by
          unfold fd_A at hl ⊢
          rw [e2, ← hl, e1, List.drop_drop]
          congr 1
          omega
        have := fd_s_at m is (j + 1) (q :: t) (l.drop (q - p)) h2 hp2 hl2 k ins (by simpa [nth] using h)
        rw [show j + (k + 1) = j + 1 + k by omega]
        exact this
theorem nth_drop {α : Type} : ∀ (L : List α) (a k : Nat), nth (L.drop a) k = nth L (a + k)
  | [], a, k => by simp [nth]
  | x :: L, 0, k => by rw [Nat.zero_add]; rfl
  | x :: L, a + 1, k => by
    rw [List.drop_succ_cons, nth_drop L a k, show a + 1 + k = a + k + 1 by omega]
    rfl
theorem nth_take {α : Type} : ∀ (L : List α) (c k : Nat), k < c → nth (L.take c) k = nth L k
  | [], c, k, h => by simp [nth]
  | x :: L, 0, k, h => absurd h (Nat.not_lt_zero _)
  | x :: L, c + 1, 0, h => rfl
  | x :: L, c + 1, k + 1, h => by
    rw [List.take_succ_cons]
    show nth (L.take c) k = nth L k
    exact nth_take L c k (by omega)
def fd_f (m a c : Nat) : Bool := fd_s m a ((bpcs m).drop a) ((mCode m).data.toList.drop (bpc m a)) (((cod m).drop a).take c)
theorem fd_f_at {m a c j : Nat} {ins : Instr} (h : fd_f m a c = true) (h1 : a ≤ j) (h2 : j < a + c) (hj : nth (cod m) j = some ins) : okI m j ins = true := by
  have := fd_s_at m _ a _ _ h rfl rfl (j - a) ins (by
    rw [nth_take _ _ _ (by omega), nth_drop, show a + (j - a) = j by omega]
    exact hj)
  rw [show a + (j - a) = j by omega] at this
  exact this
def fd_m (m : Nat) : Bool := fd_s m 0 (bpcs m) ((mCode m).data.toList.drop (bpc m 0)) (cod m)
theorem fd_m_at {m j : Nat} {ins : Instr} (h : fd_m m = true) (hj : nth (cod m) j = some ins) : okI m j ins = true := by
  have := fd_s_at m _ 0 _ _ h rfl rfl j ins hj
  rw [Nat.zero_add] at this
  exact this
end
section
def allR (f : Nat → Bool) : Nat → Nat → Bool
  | _, 0 => true
  | a, n + 1 => band (f a) (allR f (a + 1) n)
theorem allR_at {f : Nat → Bool} : ∀ (n a m : Nat), allR f a n = true → a ≤ m → m < a + n → f m = true
  | 0, a, m, _, h1, h2 => by omega
  | n + 1, a, m, h, h1, h2 => by
    rcases Nat.eq_or_lt_of_le h1 with e | e
    · rw [← e]; exact (band_t h).1
    · exact allR_at n (a + 1) m (band_t h).2 e (by omega)
theorem okc_0 : allR fd_m 1 13 = true := by decide +kernel
theorem okc_1 : allR fd_m 14 18 = true := by decide +kernel
theorem okc_2 : allR fd_m 32 11 = true := by decide +kernel
theorem okc_3 : allR fd_m 43 10 = true := by decide +kernel
theorem okc_4 : allR fd_m 53 13 = true := by decide +kernel
theorem okc_5 : allR fd_m 66 10 = true := by decide +kernel
theorem okc_6 : allR fd_m 76 14 = true := by decide +kernel
theorem okc_7 : allR fd_m 90 6 = true := by decide +kernel
theorem okc_8 : allR fd_m 96 11 = true := by decide +kernel
theorem okc_9 : allR fd_m 107 19 = true := by decide +kernel
theorem okc_10 : allR fd_m 126 21 = true := by decide +kernel
theorem okc_11 : allR fd_m 147 17 = true := by decide +kernel
theorem okc_12 : allR fd_m 164 9 = true := by decide +kernel
theorem okc_13 : allR fd_m 173 9 = true := by decide +kernel
theorem okc_14 : allR fd_m 182 12 = true := by decide +kernel
theorem okc_15 : allR fd_m 194 7 = true := by decide +kernel
theorem okc_16 : allR fd_m 201 6 = true := by decide +kernel
theorem okc_17 : allR fd_m 207 8 = true := by decide +kernel
theorem okc_18 : allR fd_m 215 22 = true := by decide +kernel
theorem okc_19 : allR fd_m 237 9 = true := by decide +kernel
theorem okc_20 : allR fd_m 246 7 = true := by decide +kernel
theorem okc_21 : allR fd_m 253 9 = true := by decide +kernel
theorem okc_22 : allR fd_m 262 2 = true := by decide +kernel
theorem okAll (m : Nat) (h0 : 0 < m) (h : m < 264) : fd_m m = true := by
  rcases Nat.lt_or_ge m 14 with h0 | h0
  · exact allR_at 13 1 m okc_0 (by omega) (by omega)
  rcases Nat.lt_or_ge m 32 with h1 | h1
  · exact allR_at 18 14 m okc_1 (by omega) (by omega)
  rcases Nat.lt_or_ge m 43 with h2 | h2
  · exact allR_at 11 32 m okc_2 (by omega) (by omega)
  rcases Nat.lt_or_ge m 53 with h3 | h3
  · exact allR_at 10 43 m okc_3 (by omega) (by omega)
  rcases Nat.lt_or_ge m 66 with h4 | h4
  · exact allR_at 13 53 m okc_4 (by omega) (by omega)
  rcases Nat.lt_or_ge m 76 with h5 | h5
  · exact allR_at 10 66 m okc_5 (by omega) (by omega)
  rcases Nat.lt_or_ge m 90 with h6 | h6
  · exact allR_at 14 76 m okc_6 (by omega) (by omega)
  rcases Nat.lt_or_ge m 96 with h7 | h7
  · exact allR_at 6 90 m okc_7 (by omega) (by omega)
  rcases Nat.lt_or_ge m 107 with h8 | h8
  · exact allR_at 11 96 m okc_8 (by omega) (by omega)
  rcases Nat.lt_or_ge m 126 with h9 | h9
  · exact allR_at 19 107 m okc_9 (by omega) (by omega)
  rcases Nat.lt_or_ge m 147 with h10 | h10
  · exact allR_at 21 126 m okc_10 (by omega) (by omega)
  rcases Nat.lt_or_ge m 164 with h11 | h11
  · exact allR_at 17 147 m okc_11 (by omega) (by omega)
  rcases Nat.lt_or_ge m 173 with h12 | h12
  · exact allR_at 9 164 m okc_12 (by omega) (by omega)
  rcases Nat.lt_or_ge m 182 with h13 | h13
  · exact allR_at 9 173 m okc_13 (by omega) (by omega)
  rcases Nat.lt_or_ge m 194 with h14 | h14
  · exact allR_at 12 182 m okc_14 (by omega) (by omega)
  rcases Nat.lt_or_ge m 201 with h15 | h15
  · exact allR_at 7 194 m okc_15 (by omega) (by omega)
  rcases Nat.lt_or_ge m 207 with h16 | h16
  · exact allR_at 6 201 m okc_16 (by omega) (by omega)
  rcases Nat.lt_or_ge m 215 with h17 | h17
  · exact allR_at 8 207 m okc_17 (by omega) (by omega)
  rcases Nat.lt_or_ge m 237 with h18 | h18
  · exact allR_at 22 215 m okc_18 (by omega) (by omega)
  rcases Nat.lt_or_ge m 246 with h19 | h19
  · exact allR_at 9 237 m okc_19 (by omega) (by omega)
  rcases Nat.lt_or_ge m 253 with h20 | h20
  · exact allR_at 7 246 m okc_20 (by omega) (by omega)
  rcases Nat.lt_or_ge m 262 with h21 | h21
  · exact allR_at 9 253 m okc_21 (by omega) (by omega)
  rcases Nat.lt_or_ge m 264 with h22 | h22
  · exact allR_at 2 262 m okc_22 (by omega) (by omega)
  omega
theorem calAll : ∀ k, k < 264 → 0 < k → calOk k = true := by
  intro k h h0
  exact allR_at 263 1 k (by decide +kernel) (by omega) (by omega)
theorem mInit_nm (k : Nat) (h : k < 264) (hi : mInit k = true) : mNm k = "<init>" := by
  have e : allR (fun k => cond (mInit k) (elemN k [1, 11, 18, 64, 68, 85, 100, 109, 152]) true) 0 264 = true := by decide +kernel
  have e1 := allR_at 264 0 k e (by omega) (by omega)
  rw [hi] at e1
  have e2 : k ∈ [1, 11, 18, 64, 68, 85, 100, 109, 152] := elemN_in _ _ e1
  simp only [List.mem_cons, List.not_mem_nil, or_false] at e2
  rcases e2 with rfl | rfl | rfl | rfl | rfl | rfl | rfl | rfl | rfl <;> rfl
theorem mArg_ok : allR (fun k => decide ((parseMethodDescriptor (mDs k)).map (fun d => d.parameters.length) = some (cond (mSt k) (mArg k) (mArg k - 1)))) 0 264 = true := by decide +kernel
theorem mRet_ok : allR (fun k => retOk (mRet k) (mRetT k)) 0 264 = true := by decide +kernel
def tf0 : List FieldType := [.int, .int, .int, .int, .int, .array .int, .array .int, .array .int]
def tf1 : List FieldType := [.object "TwinSlots$Bundle", .object "TwinSlots$Machine", .object "TwinSlots$Machine", .array .int, .long, .int, .int, .int, .int, .int, .int, .int]
def tf2 : List FieldType := [.object "TwinSlots$Bundle", .array .int, .int, .int, .int, .int, .int, .int, .int, .boolean]
def tf3 : List FieldType := [.object "TwinSlots$Machine", .array .int, .int, .int]
def tf4 : List FieldType := [.array .int, .object "TwinSlots$Bundle", .int, .int, .int, .int, .int, .boolean, .boolean, .boolean, .int]
def tf5 : List FieldType := [.object "TwinSlots$Bundle", .object "TwinSlots$Machine", .object "TwinSlots$Machine", .array .long, .array .int, .array .int, .array .int, .array .int, .array .int, .int, .int, .int, .int]
def tf6 : List FieldType := [.object "TwinSlots$Machine", .object "TwinSlots$Machine", .object "TwinSlots$Machine"]
def tf7 : List FieldType := [.array .int, .int, .object "TwinSlots$Bundle", .object "TwinSlots$Bundle", .object "TwinSlots$Reader", .object "TwinSlots$Machine", .object "TwinSlots$Past", .object "TwinSlots$Trials", .object "TwinSlots$Lives", .object "TwinSlots$Routes", .int]
def tf8 : List FieldType := [.array .byte, .int, .int, .int, .int, .int, .int, .int, .int, .int, .array .int, .array .int, .array .int, .array .int, .array .int, .array .int, .array .int, .array .int, .array .int, .array .int, .array .int, .int, .int, .int, .boolean, .array .int, .array .int, .array .int, .array .int, .array .int, .array .int, .array .int, .array .int, .array .int, .int, .int, .int, .int, .int, .int, .int]
def nthT : List FieldType → Nat → FieldType
  | [], _ => .int
  | a :: _, 0 => a
  | _ :: l, n + 1 => nthT l n
def tyF (ci f : Nat) : FieldType := nthT (cond (Nat.blt ci 4) (cond (Nat.blt ci 2) (cond (Nat.blt ci 1) (cond (Nat.beq ci 0) (tf0) ([])) (cond (Nat.beq ci 1) (tf1) ([]))) (cond (Nat.blt ci 3) (cond (Nat.beq ci 2) (tf2) ([])) (cond (Nat.beq ci 3) (tf3) ([])))) (cond (Nat.blt ci 6) (cond (Nat.blt ci 5) (cond (Nat.beq ci 4) (tf4) ([])) (cond (Nat.beq ci 5) (tf5) ([]))) (cond (Nat.blt ci 7) (cond (Nat.beq ci 6) (tf6) ([])) (cond (Nat.blt ci 8) (cond (Nat.beq ci 7) (tf7) ([])) (cond (Nat.beq ci 8) (tf8) ([])))))) f
def tyOk : Nat → FieldType → Bool
  | 0, .int => true
  | 1, .boolean => true
  | 2, .long => true
  | 3, .object _ => true
  | 3, .array _ => true
  | _, _ => false
def fldOk (ci f : Nat) : Bool := band (decide (parseFieldDescriptor (cTb ci f).2.2.1 = some (tyF ci f))) (tyOk (fTy ci f) (tyF ci f))
theorem fldAll : allR (fun ci => allR (fun f => fldOk ci f) 0 (nF ci)) 0 9 = true := by decide +kernel
theorem nmAll : allR (fun ci => allR (fun a => allR (fun b => cond (Nat.beq a b) true (decide ((cTb ci a).2.1 ≠ (cTb ci b).2.1))) 0 (nF ci)) 0 (nF ci)) 0 9 = true := by decide +kernel
theorem layAll : allR (fun ci => allR (fun f => elemW (9, ci, f, 0)) 0 (nF ci)) 0 9 = true := by decide +kernel
theorem dclAll : allR (fun ci => allR (fun f => decide ((cTb ci f).1 = cN ci)) 0 (nF ci)) 0 9 = true := by decide +kernel
end
section
theorem okw_0 : fd_f 0 0 300 = true := by decide +kernel
theorem okw_1 : fd_f 0 300 300 = true := by decide +kernel
theorem okw_2 : fd_f 0 600 274 = true := by decide +kernel
theorem okLaw (j : Nat) (ins : Instr) (h : nth (cod 0) j = some ins) : okI 0 j ins = true := by
  have hl0 : (cod 0).length = 874 := by decide +kernel
  have hl : j < (cod 0).length := nth_lt _ _ _ h
  rw [hl0] at hl
  rcases Nat.lt_or_ge j 300 with h0 | h0
  · exact fd_f_at okw_0 (by omega) (by omega) h
  rcases Nat.lt_or_ge j 600 with h1 | h1
  · exact fd_f_at okw_1 (by omega) (by omega) h
  rcases Nat.lt_or_ge j 874 with h2 | h2
  · exact fd_f_at okw_2 (by omega) (by omega) h
  omega
theorem okIns (m j : Nat) (ins : Instr) (hm : m < 264) (h : nth (cod m) j = some ins) : okI m j ins = true := by
  rcases Nat.eq_zero_or_pos m with e | e
  · subst e; exact okLaw j ins h
  · exact fd_m_at (okAll m e hm) h
end
section
/-! NUMBERS: the small machine's whole numbers and the JVM's words -/
theorem bmod32 (x : Int) : Int.bmod x 4294967296 = w32 x := by
  unfold Int.bmod w32
  dsimp only
  split <;> omega
theorem bmod64 (x : Int) : Int.bmod x 18446744073709551616 = w64 x := by
  unfold Int.bmod w64
  dsimp only
  split <;> omega
theorem bmod8 (x : Int) : Int.bmod x 256 = w8 x := by
  unfold Int.bmod w8
  dsimp only
  split <;> omega
theorem w32_in (x : Int) : in32 (w32 x) := by unfold in32 w32; omega
theorem w64_in (x : Int) : in64 (w64 x) := by unfold in64 w64; omega
theorem w32_id {x : Int} (h : in32 x) : w32 x = x := by unfold in32 at h; unfold w32; omega
theorem w64_id {x : Int} (h : in64 x) : w64 x = x := by unfold in64 at h; unfold w64; omega
theorem in32_64 {x : Int} (h : in32 x) : in64 x := by unfold in32 at h; unfold in64; omega
theorem toInt32_of (x : Int) : (Int32.ofInt x).toInt = w32 x := by rw [Int32.toInt_ofInt]; exact bmod32 x
theorem toInt64_of (x : Int) : (Int64.ofInt x).toInt = w64 x := by rw [Int64.toInt_ofInt]; exact bmod64 x
theorem toInt32_in {x : Int} (h : in32 x) : (Int32.ofInt x).toInt = x := (toInt32_of x).trans (w32_id h)
theorem toInt64_in {x : Int} (h : in64 x) : (Int64.ofInt x).toInt = x := (toInt64_of x).trans (w64_id h)
theorem of32 (x : Int32) : Int32.ofInt x.toInt = x := Int32.ofInt_toInt x
theorem of64 (x : Int64) : Int64.ofInt x.toInt = x := Int64.ofInt_toInt x
theorem in32_of (x : Int32) : in32 x.toInt := ⟨Int32.le_toInt x, Int32.toInt_lt x⟩
theorem in64_of (x : Int64) : in64 x.toInt := ⟨Int64.le_toInt x, Int64.toInt_lt x⟩
theorem w32_of (x : Int) : Int32.ofInt (w32 x) = Int32.ofInt x := by rw [← toInt32_of, of32]
theorem w64_of (x : Int) : Int64.ofInt (w64 x) = Int64.ofInt x := by rw [← toInt64_of, of64]
theorem lt32 {a b : Int} (ha : in32 a) (hb : in32 b) : Int32.ofInt a < Int32.ofInt b ↔ a < b := by
  rw [Int32.lt_iff_toInt_lt, toInt32_in ha, toInt32_in hb]
theorem le32 {a b : Int} (ha : in32 a) (hb : in32 b) : Int32.ofInt a ≤ Int32.ofInt b ↔ a ≤ b := by
  rw [Int32.le_iff_toInt_le, toInt32_in ha, toInt32_in hb]
theorem eq32 {a b : Int} (ha : in32 a) (hb : in32 b) : Int32.ofInt a = Int32.ofInt b ↔ a = b := by
  rw [← Int32.toInt_inj, toInt32_in ha, toInt32_in hb]
theorem eq64 {a b : Int} (ha : in64 a) (hb : in64 b) : Int64.ofInt a = Int64.ofInt b ↔ a = b := by
  rw [← Int64.toInt_inj, toInt64_in ha, toInt64_in hb]
theorem lt64 {a b : Int} (ha : in64 a) (hb : in64 b) : Int64.ofInt a < Int64.ofInt b ↔ a < b := by
  rw [Int64.lt_iff_toInt_lt, toInt64_in ha, toInt64_in hb]
theorem in32_0 : in32 0 := by unfold in32; omega
theorem in64_0 : in64 0 := by unfold in64; omega
theorem of32_0 : Int32.ofInt 0 = 0 := rfl
theorem add32 (a b : Int) : Int32.ofInt (w32 (a + b)) = Int32.ofInt a + Int32.ofInt b := by rw [w32_of, Int32.ofInt_add]
theorem sub32 (a b : Int) : Int32.ofInt (w32 (a - b)) = Int32.ofInt a - Int32.ofInt b := by rw [w32_of, Int32.ofInt_sub]
theorem mul32 (a b : Int) : Int32.ofInt (w32 (a * b)) = Int32.ofInt a * Int32.ofInt b := by rw [w32_of, Int32.ofInt_mul]
theorem add64 (a b : Int) : Int64.ofInt (w64 (a + b)) = Int64.ofInt a + Int64.ofInt b := by rw [w64_of, Int64.ofInt_add]
theorem mul64 (a b : Int) : Int64.ofInt (w64 (a * b)) = Int64.ofInt a * Int64.ofInt b := by rw [w64_of, Int64.ofInt_mul]
theorem div32 {a b : Int} (ha : in32 a) (hb : in32 b) : Int32.ofInt (w32 (a.tdiv b)) = Int32.ofInt a / Int32.ofInt b := by
  rw [← Int32.toInt_inj, toInt32_of, Int32.toInt_div, toInt32_in ha, toInt32_in hb]
  show w32 (w32 _) = Int.bmod _ 4294967296
  rw [bmod32, w32_id (w32_in _)]
theorem div64 {a b : Int} (ha : in64 a) (hb : in64 b) : Int64.ofInt (w64 (a.tdiv b)) = Int64.ofInt a / Int64.ofInt b := by
  rw [← Int64.toInt_inj, toInt64_of, Int64.toInt_div, toInt64_in ha, toInt64_in hb]
  show w64 (w64 _) = Int.bmod _ 18446744073709551616
  rw [bmod64, w64_id (w64_in _)]
theorem rem32 {a b : Int} (ha : in32 a) (hb : in32 b) : Int32.ofInt (a.tmod b) = Int32.ofInt a - Int32.ofInt a / Int32.ofInt b * Int32.ofInt b := by
  rw [← div32 ha hb, ← mul32, ← sub32]
  rw [← Int32.toInt_inj, toInt32_of, toInt32_of]
  have e : a.tmod b = a - a.tdiv b * b := by rw [Int.tmod_def, Int.mul_comm]
  rw [e]
  have k : ∀ x y : Int, w32 (x - y * b) = w32 (w32 (x - w32 (w32 y * b))) := by
    intro x y
    have k1 : Int32.ofInt (x - y * b) = Int32.ofInt (x - w32 (w32 y * b)) := by
      rw [Int32.ofInt_sub, Int32.ofInt_sub, w32_of, Int32.ofInt_mul, Int32.ofInt_mul, w32_of]
    rw [← toInt32_of, k1, toInt32_of, w32_id (w32_in _)]
  exact k a (a.tdiv b)
theorem rem64 {a b : Int} (ha : in64 a) (hb : in64 b) : Int64.ofInt (a.tmod b) = Int64.ofInt a - Int64.ofInt a / Int64.ofInt b * Int64.ofInt b := by
  rw [← div64 ha hb, ← mul64]
  have e : a.tmod b = a - a.tdiv b * b := by rw [Int.tmod_def, Int.mul_comm]
  rw [e, Int64.ofInt_sub, Int64.ofInt_mul, w64_of, Int64.ofInt_mul, w64_of]
theorem tmod_in32 {a b : Int} (ha : in32 a) : in32 (a.tmod b) := by
  have h1 : (a.tmod b).natAbs ≤ a.natAbs := by rw [Int.natAbs_tmod]; exact Nat.mod_le _ _
  rcases Int.le_total 0 a with h | h
  · have := Int.tmod_nonneg b h
    unfold in32 at *
    omega
  · have h2 := Int.tmod_nonneg b (show 0 ≤ -a by omega)
    rw [Int.neg_tmod] at h2
    unfold in32 at *
    omega
theorem tmod_in64 {a b : Int} (ha : in64 a) : in64 (a.tmod b) := by
  have h1 : (a.tmod b).natAbs ≤ a.natAbs := by rw [Int.natAbs_tmod]; exact Nat.mod_le _ _
  rcases Int.le_total 0 a with h | h
  · have := Int.tmod_nonneg b h
    unfold in64 at *
    omega
  · have h2 := Int.tmod_nonneg b (show 0 ≤ -a by omega)
    rw [Int.neg_tmod] at h2
    unfold in64 at *
    omega
theorem i2l_of {a : Int} (h : in32 a) : (Int32.ofInt a).toInt64 = Int64.ofInt a := by
  rw [← Int64.toInt_inj, Int32.toInt_toInt64, toInt32_in h, toInt64_in (in32_64 h)]
theorem l2i_of {a : Int} (h : in64 a) : (Int64.ofInt a).toInt32 = Int32.ofInt (w32 a) := by
  rw [← Int32.toInt_inj, Int64.toInt_toInt32, toInt64_in h, toInt32_in (w32_in _)]
  exact bmod32 a
theorem w8_in (x : Int) : in32 (w8 x) := by unfold in32 w8; omega
theorem i2b_of {a : Int} (h : in32 a) : (Int32.ofInt a).toInt8.toInt32 = Int32.ofInt (w8 a) := by
  rw [← Int32.toInt_inj, Int8.toInt_toInt32, Int32.toInt_toInt8, toInt32_in h, toInt32_in (w8_in _)]
  exact bmod8 a
theorem min_of {a b : Int} (ha : in32 a) (hb : in32 b) : (if Int32.ofInt b < Int32.ofInt a then Int32.ofInt b else Int32.ofInt a) = Int32.ofInt (min a b) := by
  by_cases h : b < a
  · rw [if_pos ((lt32 hb ha).mpr h), Int.min_eq_right (by omega)]
  · rw [if_neg (fun z => h ((lt32 hb ha).mp z)), Int.min_eq_left (by omega)]
theorem clampI {j : Int} (h0 : 0 ≤ j) (h : in32 j) : (Int32.ofInt j).toNatClampNeg = j.toNat := by
  show (Int32.ofInt j).toInt.toNat = j.toNat
  rw [toInt32_in h]
theorem vpinI {j : Int} {n : Nat} (h0 : ¬ j < 0) (hn : j < (n : Int)) (h : in32 j) : vp_in (Int32.ofInt j) n := by
  rintro (z | z)
  · rw [Int32.lt_iff_toInt_lt, toInt32_in h, Int32.toInt_zero] at z; exact h0 z
  · rw [clampI (by omega) h] at z; omega
theorem and_in (a b : Int) : in32 (bAnd a b) := in32_of _
end
section
/-! THE WORLD of the small machine's cells in the JVM's heap -/
abbrev GT : Type := va_G × (Nat → ClassId) × (Nat → Nat)
abbrev AdT : Type := Nat → Nat → Nat
def toV (ad : AdT) : MV → Value
  | .inl x => .int (Int32.ofInt x)
  | .inr (.inl x) => .long (Int64.ofInt x)
  | .inr (.inr (.inl q)) => .ref (ad q.1 q.2)
  | .inr (.inr (.inr _)) => .null
def fval (ad : AdT) (S : MS) (k i f : Nat) : Value := match fTy (kCls k) f with
  | 2 => .long (Int64.ofInt (S.2.2 k i f))
  | 3 => cond (elem3 (k, i, f) S.2.1) .null (.ref (ad (fRef k i f).1 (fRef k i f).2))
  | _ => .int (Int32.ofInt (S.2.2 k i f))
def ent (G : GT) (ad : AdT) (S : MS) (q : Nat × Nat) : va_E := match kTag q.1 with
  | 0 => .inr (kCls q.1, (List.range (nF (kCls q.1))).map (fval ad S q.1 q.2))
  | 3 => .inl (G.2.1 3, kLen q.1, .inr (.inl (fun j => Int64.ofInt (S.2.2 q.1 q.2 j))))
  | t => .inl (G.2.1 t, kLen q.1, .inl (fun j => Int32.ofInt (S.2.2 q.1 q.2 j)))
def wl (G : GT) (ad : AdT) (S : MS) : va_W := (ords.take S.1).map fun q => (ad q.1 q.2, ent G ad S q)
abbrev tys0 (G : GT) : List (ClassId × FieldType) := [(G.2.1 1, .int), (G.2.1 2, .byte), (G.2.1 3, .long)]
/-- a cell that is made -/
def vld (n : Nat) (q : Nat × Nat) : Prop := ∃ a, a < n ∧ nth ords a = some q
def okV (n : Nat) : MV → Prop
  | .inl x => in32 x
  | .inr (.inl x) => in64 x
  | .inr (.inr (.inl q)) => vld n q ∨ q = (999, 0) ∨ (q.1 = 1000 ∧ q.2 < 16)
  | .inr (.inr (.inr _)) => True
def isL (k j : Nat) : Bool := cond (Nat.beq (kTag k) 3) true (cond (Nat.beq (kTag k) 0) (Nat.beq (fTy (kCls k) j) 2) false)
def okS (σ : Sto) : Prop := ∀ k i j, in64 (σ k i j) ∧ (isL k j = false → in32 (σ k i j))
def RK (S : MS) : Prop := ∀ q, vld S.1 q → kTag q.1 = 0 → ∀ f, f < nF (kCls q.1) → fTy (kCls q.1) f = 3 → elem3 (q.1, q.2, f) S.2.1 = false → vld S.1 (fRef q.1 q.2 f)
def szOf (q : Nat × Nat) : Nat := cond (Nat.beq (kTag q.1) 0) (nF (kCls q.1)) (kLen q.1)
def slN (n : Nat) : Nat := ((ords.take n).map szOf).sum
theorem nth_get {α : Type} : ∀ (l : List α) (i : Nat), nth l i = l[i]?
  | [], i => by simp [nth]
  | a :: l, 0 => by simp [nth]
  | a :: l, i + 1 => by simp [nth, nth_get l i]
theorem setn_set {α : Type} : ∀ (l : List α) (i : Nat) (v : α), setn l i v = l.set i v
  | [], i, v => by simp [setn]
  | a :: l, 0, v => by simp [setn]
  | a :: l, i + 1, v => by simp [setn, setn_set l i v]
theorem slN_succ {n : Nat} {q : Nat × Nat} (h : nth ords n = some q) : slN (n + 1) = slN n + szOf q := by
  rw [nth_get] at h
  unfold slN
  rw [List.take_add_one, h]
  simp
theorem ords_inj {a b : Nat} {q : Nat × Nat} (ha : nth ords a = some q) (hb : nth ords b = some q) : a = b := by
  have e : allR (fun a => allR (fun b => cond (Nat.beq a b) true (decide (nth ords a ≠ nth ords b))) 0 55) 0 55 = true := by decide +kernel
  have h1 : a < 55 := nth_lt _ _ _ ha
  have h2 : b < 55 := nth_lt _ _ _ hb
  have e1 := allR_at 55 0 b (allR_at 55 0 a e (by omega) (by omega)) (by omega) (by omega)
  rcases z : Nat.beq a b with _ | _
  · rw [z] at e1
    exact absurd (ha.trans hb.symm) (of_decide_eq_true e1)
  · exact Nat.eq_of_beq_eq_true z
/-- of a cell: its kind is one of the tables' -/
theorem ords_kd {a : Nat} {q : Nat × Nat} (ha : nth ords a = some q) : q.1 < 999 ∧ (kTag q.1 = 0 → kCls q.1 < 9 ∧ cls0[kCls q.1]? = some (cN (kCls q.1), cTb (kCls q.1), nF (kCls q.1))) ∧ kTag q.1 < 4 ∧ kLenZ q.1 = (kLen q.1 : Int) ∧ kLen q.1 < 100000 ∧ (kCls q.1 < 9 → kTag q.1 = 0) := by
  have e : allR (fun a => match nth ords a with
    | some q => band (Nat.blt q.1 999) (band (Nat.blt (kTag q.1) 4) (band (decide (kLenZ q.1 = (kLen q.1 : Int))) (band (Nat.blt (kLen q.1) 100000) (cond (Nat.beq (kTag q.1) 0) (Nat.blt (kCls q.1) 9) (Nat.ble 9 (kCls q.1))))))
    | none => true) 0 55 = true := by decide +kernel
  have h1 : a < 55 := nth_lt _ _ _ ha
  have e1 := allR_at 55 0 a e (by omega) (by omega)
  rw [ha] at e1
  obtain ⟨b1, b2⟩ := band_t e1
  obtain ⟨b2, b3⟩ := band_t b2
  obtain ⟨b3, b4⟩ := band_t b3
  obtain ⟨b4, b5⟩ := band_t b4
  have c1 : q.1 + 1 ≤ 999 := Nat.le_of_ble_eq_true b1
  have c2 : kTag q.1 + 1 ≤ 4 := Nat.le_of_ble_eq_true b2
  have c4 : kLen q.1 + 1 ≤ 100000 := Nat.le_of_ble_eq_true b4
  refine ⟨by omega, fun h0 => ?_, by omega, of_decide_eq_true b3, by omega, fun h9 => ?_⟩
  case refine_2 =>
    rcases z : Nat.beq (kTag q.1) 0 with _ | _
    · rw [z] at b5
      have := Nat.le_of_ble_eq_true b5
      omega
    · exact Nat.eq_of_beq_eq_true z
  rw [h0] at b5
  have c3 : kCls q.1 + 1 ≤ 9 := Nat.le_of_ble_eq_true b5
  refine ⟨by omega, ?_⟩
  generalize kCls q.1 = c at c3
  rcases (by omega : c = 0 ∨ c = 1 ∨ c = 2 ∨ c = 3 ∨ c = 4 ∨ c = 5 ∨ c = 6 ∨ c = 7 ∨ c = 8) with rfl | rfl | rfl | rfl | rfl | rfl | rfl | rfl | rfl <;> rfl
theorem wl_at {G : GT} {ad : AdT} {S : MS} {a : Nat} {q : Nat × Nat} (ha : a < S.1) (h : nth ords a = some q) : (wl G ad S)[a]? = some (ad q.1 q.2, ent G ad S q) := by
  rw [nth_get] at h
  unfold wl
  rw [List.getElem?_map, List.getElem?_take, if_pos ha, h]
  rfl
theorem wl_to {G : GT} {ad : AdT} {S : MS} {a : Nat} {x : Nat × va_E} (h : (wl G ad S)[a]? = some x) : ∃ q, a < S.1 ∧ nth ords a = some q ∧ x = (ad q.1 q.2, ent G ad S q) := by
  unfold wl at h
  rw [List.getElem?_map, List.getElem?_take] at h
  split at h
  · rename_i ha
    rcases e : ords[a]? with _ | q
    · rw [e] at h; cases h
    · rw [e] at h
      cases h
      exact ⟨q, ha, by rw [nth_get]; exact e, rfl⟩
  · cases h
/-- one cell is written -/
theorem wl_set {G : GT} {ad : AdT} {S S' : MS} {a : Nat} {q : Nat × Nat} (ha : a < S.1) (h : nth ords a = some q) (hn : S'.1 = S.1) (ho : ∀ q', q' ≠ q → ent G ad S' q' = ent G ad S q') :
    (wl G ad S).set a (ad q.1 q.2, ent G ad S' q) = wl G ad S' := by
  apply List.ext_getElem?
  intro j
  rw [List.getElem?_set]
  by_cases hj : a = j
  · subst hj
    rw [if_pos rfl, if_pos (List.getElem?_eq_some_iff.mp (wl_at (G := G) (ad := ad) ha h)).1, wl_at (S := S') (by omega) h]
  · rw [if_neg hj]
    rcases e : (wl G ad S)[j]? with _ | x
    · rcases e2 : (wl G ad S')[j]? with _ | y
      · rfl
      · obtain ⟨q2, h1, h2, h3⟩ := wl_to e2
        rw [wl_at (S := S) (by omega) h2] at e
        cases e
    · obtain ⟨q2, h1, h2, rfl⟩ := wl_to e
      rw [wl_at (S := S') (by omega) h2, ho q2 (fun z => hj (ords_inj (z ▸ h) h2))]
theorem ent_sup {G : GT} {ad : AdT} {n : Nat} {un : List (Nat × Nat × Nat)} {σ : Sto} {k i j : Nat} {v : Int} {q : Nat × Nat} (h : q ≠ (k, i)) : ent G ad (n, un, sup σ k i j v) q = ent G ad (n, un, σ) q := by
  have e : ∀ j', sup σ k i j v q.1 q.2 j' = σ q.1 q.2 j' := fun j' => by
    unfold sup
    rw [if_neg]
    rintro ⟨h1, h2, -⟩
    exact h (Prod.ext h1 h2)
  unfold ent
  split
  · congr 2
    apply List.map_congr_left
    intro f _
    unfold fval
    simp only [e]
  · simp only [e]
  · simp only [e]
end
section
/-! THE WALK: what holds at a place of a method, and one row a kind of instruction -/
theorem ent_un {G : GT} {ad : AdT} {n n' : Nat} {un un' : List (Nat × Nat × Nat)} {σ σ' : Sto} {q : Nat × Nat} (hs : ∀ j, σ' q.1 q.2 j = σ q.1 q.2 j) (hu : ∀ f, elem3 (q.1, q.2, f) un' = elem3 (q.1, q.2, f) un) : ent G ad (n', un', σ') q = ent G ad (n, un, σ) q := by
  unfold ent
  split
  · congr 2
    apply List.map_congr_left
    intro f _
    unfold fval
    simp only [hs, hu]
  · simp only [hs]
  · simp only [hs]
def Locs (ad : AdT) (L : List MV) (ls : Array Slot) : Prop := ls.size = L.length ∧ lv_wf ls ∧ ∀ i v, nth L i = some v → v ≠ vX → ls[i]? = some (.val (toV ad v))
/-- the texts' own cells: given by the Statement, outside what is written -/
def TX1 (len : Nat) (byt : List Int32) (a v : Nat) (A : Nat → Prop) (U : State) (H : Heap) : Prop := va_O "java/lang/String" a A U H ∧ va_OF "java/lang/String" "coder" "B" (.int 0) a A U H ∧ va_OF "java/lang/String" "value" "[B" (.ref v) a A U H ∧ va_T .byte v len (fun j => .int (byt.getD j 0)) A U H
def TXc (G : GT) (A : Nat → Prop) (U : State) (H : Heap) : Prop := (∃ adV : Nat → Nat, ∀ i, i < 16 → TX1 (lenS.getD i 0) (bytS.getD i []) (G.2.2 i) (adV i) A U H) ∧ va_Z "java/lang/String" "COMPACT_STRINGS" "Z" (.int 1) A U H ∧ va_Zq "jdk/internal/util/Preconditions" "SIOOBE_FORMATTER" "Ljava/util/function/BiFunction;" A U H
theorem TXc.moved {G : GT} {A : Nat → Prop} {u U : State} {H : Heap} (hvm : u.vm.Alike U.vm) (h : TXc G A u H) : TXc G A U H := by
  obtain ⟨⟨adV, h1⟩, h2, h3⟩ := h
  exact ⟨⟨adV, fun i hi => ⟨va_O.moved hvm (h1 i hi).1, va_OF.moved hvm (h1 i hi).2.1, va_OF.moved hvm (h1 i hi).2.2.1, va_T.moved hvm (h1 i hi).2.2.2⟩⟩, va_Z.moved hvm h2, va_Zq.moved hvm h3⟩
theorem TXc.kept {G : GT} {A : Nat → Prop} {U : State} {H H1 : Heap} (h : TXc G A U H) (hq : ∀ a : Nat, a < H.size → ¬ A a → H1[a]? = H[a]?) : TXc G A U H1 := by
  obtain ⟨⟨adV, h1⟩, h2, h3⟩ := h
  exact ⟨⟨adV, fun i hi => ⟨(h1 i hi).1.kept hq, (h1 i hi).2.1.kept hq, (h1 i hi).2.2.1.kept hq, (h1 i hi).2.2.2.kept hq⟩⟩, h2.kept hq, h3.kept hq⟩
theorem TXc.narrow {G : GT} {A B : Nat → Prop} {U : State} {H : Heap} (h : TXc G A U H) (hAB : ∀ q, B q → A q) : TXc G B U H := by
  obtain ⟨⟨adV, h1⟩, h2, h3⟩ := h
  exact ⟨⟨adV, fun i hi => ⟨(h1 i hi).1.narrow hAB, (h1 i hi).2.1.narrow hAB, (h1 i hi).2.2.1.narrow hAB, (h1 i hi).2.2.2.narrow hAB⟩⟩, h2.narrow hAB, h3.narrow hAB⟩
/-- what the tables say, wherever the run stands -/
def GS (G : GT) (U : State) : Prop := va_K G.1 cls0 (tys0 G) U ∧ (∀ a i k, nestOk a i k = true → va_Nw (.methodLinkNest (cN a) i (mN k) "TwinSlots") U) ∧ (∀ a i k, strOk a i k = true → vk_R (cN a) i (sTxt k) (G.2.2 k) U)
section WALK
variable {N m : Nat} {G : GT} {b : Nat} {xs : Nat → Int32} {out : Out}
variable {p : Program} {l : Launch} {e : Env} {R : Room} {s : State} {mid : MethodId} {args : Array Value} {below : List Frame} {meth : Method} {c : Code} {A : Nat → Prop} {H0 : Heap} {Q : State → Prop}
def Cx (N m : Nat) (G : GT) (b : Nat) (xs : Nat → Int32) (p : Program) (R : Room) (s : State) (mid : MethodId) (args : Array Value) (meth : Method) (c : Code) (A : Nat → Prop) (H0 : Heap) : Prop :=
  m < 264 ∧ p.tables.exec = Jvm.exec ∧ c.code = mCode m ∧ c.maxLocals = mMaxL m ∧ s.vm.findClass (cN (mOwn m)) = some mid.cls ∧ (∀ w ∈ gw, w.before args s = true) ∧ (mInit m = true → meth.name = "<init>") ∧ mFr m ≤ R.frames ∧ mLo m ≤ R.locals ∧ GS G s ∧
  (∀ q, H0.size ≤ q → A q) ∧ va_X b N xs s H0 ∧ b < H0.size ∧ ¬ A b ∧ TXc G A s H0 ∧ N < 2147483648
/-- the world as it stands -/
def Wd (N : Nat) (G : GT) (b : Nat) (xs : Nat → Int32) (A : Nat → Prop) (H0 : Heap) (S : MS) (ad : AdT) (H : Heap) (locs : List Loc) : Prop :=
  va_P G.1 cls0 (wl G ad S) H ∧ va_D A (wl G ad S) ∧ va_S A H0 H locs ∧ ad 999 0 = b ∧ (∀ i, i < 16 → ad 1000 i = G.2.2 i) ∧ okS S.2.2 ∧ RK S ∧ (∀ j, j < N → Int32.ofInt (S.2.2 999 0 j) = xs j)
def retV (ad : AdT) : Option MV → List Value
  | none => []
  | some v => [toV ad v]
/-- the place is an end, of the kind that the answer has -/
def EndAt (m pc : Nat) : Option MV → Prop
  | none => decode (mCode m) (bpc m pc) = .ok (.return_, 1) ∧ mRet m = 0
  | some (.inl x) => decode (mCode m) (bpc m pc) = .ok (.ireturn, 1) ∧ (mRet m = 1 ∨ (mRet m = 2 ∧ (x = 0 ∨ x = 1))) ∧ in32 x
  | some (.inr (.inl x)) => decode (mCode m) (bpc m pc) = .ok (.lreturn, 1) ∧ mRet m = 3 ∧ in64 x
  | some (.inr (.inr (.inl _))) => decode (mCode m) (bpc m pc) = .ok (.areturn, 1) ∧ mRet m = 4
  | some (.inr (.inr (.inr _))) => False
/-- what is to be shown at the end -/
def KK (N m : Nat) (G : GT) (b : Nat) (xs : Nat → Int32) (out : Out) (p : Program) (l : Launch) (e : Env) (R : Room) (s : State) (mid : MethodId) (args : Array Value) (below : List Frame) (meth : Method) (c : Code) (A : Nat → Prop) (H0 : Heap) (Q : State → Prop) (cells slots n : Nat) (ad : AdT) : Prop :=
  ∀ (ad1 : AdT) (H1 : Heap) (locs1 : List Loc) (cells1 slots1 pc1 : Nat) (ls1 : Array Slot), (∀ q, vld n q → ad1 q.1 q.2 = ad q.1 q.2) → Wd N G b xs A H0 out.2 ad1 H1 locs1 → cells1 + n = cells + out.2.1 → slots1 + slN n = slots + slN out.2.1 → EndAt m pc1 out.1 → (∀ v, out.1 = some v → okV out.2.1 v) →
    W p l e R s mid args below meth c H1 locs1 cells1 slots1 Q (F0 mid (bpc m pc1) ls1 (retV ad1 out.1))
def Here (N m : Nat) (G : GT) (b : Nat) (xs : Nat → Int32) (out : Out) (p : Program) (l : Launch) (e : Env) (R : Room) (s : State) (mid : MethodId) (args : Array Value) (below : List Frame) (meth : Method) (c : Code) (A : Nat → Prop) (H0 : Heap) (Q : State → Prop) (L st : List MV) (S : MS) (ad : AdT) (H : Heap) (locs : List Loc) (cells slots : Nat) (ls : Array Slot) : Prop :=
  Wd N G b xs A H0 S ad H locs ∧ (∀ v ∈ L, okV S.1 v) ∧ (∀ v ∈ st, okV S.1 v) ∧ (mLong m = false → ∀ v ∈ L, isJ v = false) ∧ Locs ad L ls ∧ L.length = mMaxL m ∧ cells + out.2.1 ≤ R.cells + S.1 ∧ slots + slN out.2.1 ≤ R.slots + slN S.1 ∧ KK N m G b xs out p l e R s mid args below meth c A H0 Q cells slots S.1 ad
/-- going on from a place is settled -/
def IH (N F m : Nat) (G : GT) (b : Nat) (xs : Nat → Int32) (out : Out) (p : Program) (l : Launch) (e : Env) (R : Room) (s : State) (mid : MethodId) (args : Array Value) (below : List Frame) (meth : Method) (c : Code) (A : Nat → Prop) (H0 : Heap) (Q : State → Prop) : Prop :=
  ∀ (pc : Nat) (L st : List MV) (S : MS) (ad : AdT) (H : Heap) (locs : List Loc) (cells slots : Nat) (ls : Array Slot), exec N F m pc L st S = some out → Here N m G b xs out p l e R s mid args below meth c A H0 Q L st S ad H locs cells slots ls → W p l e R s mid args below meth c H locs cells slots Q (F0 mid (bpc m pc) ls (st.map (toV ad)))
variable {F pc : Nat} {L st : List MV} {S : MS} {ad : AdT} {H : Heap} {locs : List Loc} {cells slots : Nat} {ls : Array Slot}
theorem nth_mem {α : Type} : ∀ (l : List α) (i : Nat) (a : α), nth l i = some a → a ∈ l
  | [], i, a, h => by simp [nth] at h
  | b :: l, 0, a, h => by simp only [nth, Option.some.injEq] at h; rw [h]; exact List.mem_cons_self
  | b :: l, i + 1, a, h => List.mem_cons_of_mem _ (nth_mem l i a (by simpa [nth] using h))
theorem mem_setn {α : Type} : ∀ (l : List α) (i : Nat) (v a : α), a ∈ setn l i v → a = v ∨ a ∈ l
  | [], i, v, a, h => by simp [setn] at h
  | b :: l, 0, v, a, h => by
    rcases List.mem_cons.mp (by simpa [setn] using h) with h | h
    · exact Or.inl h
    · exact Or.inr (List.mem_cons_of_mem _ h)
  | b :: l, i + 1, v, a, h => by
    have h2 : a = b ∨ a ∈ setn l i v := List.mem_cons.mp (by simpa [setn] using h)
    rcases h2 with h | h
    · exact Or.inr (by rw [h]; exact List.mem_cons_self)
    · rcases mem_setn l i v a h with h | h
      · exact Or.inl h
      · exact Or.inr (List.mem_cons_of_mem _ h)
/-- the locals as a list of pairs, for the kit's rows -/
def lvOf (ad : AdT) (L : List MV) : List (Nat × Value) := (List.range L.length).filterMap fun i => match nth L i with
  | some (.inr (.inr (.inr _))) => none
  | some v => some (i, toV ad v)
  | none => none
theorem lvOf_mem {i : Nat} {v : MV} (h : nth L i = some v) (hx : v ≠ vX) : (i, toV ad v) ∈ lvOf ad L := by
  refine List.mem_filterMap.mpr ⟨i, List.mem_range.mpr (nth_lt _ _ _ h), ?_⟩
  rw [h]
  rcases v with v | v | v | v
  · rfl
  · rfl
  · rfl
  · exact absurd rfl hx
theorem lvOf_has (h : Locs ad L ls) : lv_has ls L.length (lvOf ad L) := by
  refine ⟨h.1, h.2.1, fun q hq => ?_⟩
  obtain ⟨i, -, hi⟩ := List.mem_filterMap.mp hq
  rcases e : nth L i with _ | v
  · rw [e] at hi; cases hi
  · rw [e] at hi
    rcases v with v | v | v | v
    · cases hi; exact h.2.2 i _ e (by intro z; cases z)
    · cases hi; exact h.2.2 i _ e (by intro z; cases z)
    · cases hi; exact h.2.2 i _ e (by intro z; cases z)
    · cases hi
end WALK
end
section
theorem okI_x {m j : Nat} {ins : Instr} (h : okI m j ins = true) : ∃ raw len, decode (mCode m) (bpc m j) = .ok (raw, len) ∧ bpc m (j + 1) = bpc m j + len ∧ (lenOf raw = 0 ∨ len = lenOf raw) ∧ rz m (bpc m j) raw ins = true := by
  unfold okI at h
  split at h
  · rename_i raw len e
    obtain ⟨h1, h2⟩ := band_t h
    obtain ⟨h3, h4⟩ := band_t h1
    refine ⟨raw, len, e, Nat.eq_of_beq_eq_true h3, ?_, h2⟩
    rcases z : Nat.beq (lenOf raw) 0 with _ | _
    · rw [z] at h4; exact Or.inr (Nat.eq_of_beq_eq_true h4)
    · exact Or.inl (Nat.eq_of_beq_eq_true z)
  · cases h
section WALK
variable {N m : Nat} {G : GT} {b : Nat} {xs : Nat → Int32} {out : Out}
variable {p : Program} {l : Launch} {e : Env} {R : Room} {s : State} {mid : MethodId} {args : Array Value} {below : List Frame} {meth : Method} {c : Code} {A : Nat → Prop} {H0 : Heap} {Q : State → Prop}
variable {F pc : Nat} {L st : List MV} {S : MS} {ad : AdT} {H : Heap} {locs : List Loc} {cells slots : Nat} {ls : Array Slot}
theorem go_on {pc' : Nat} {L' st' : List MV} {ls' : Array Slot} (ih : IH N F m G b xs out p l e R s mid args below meth c A H0 Q) (hH : Here N m G b xs out p l e R s mid args below meth c A H0 Q L st S ad H locs cells slots ls)
    (hx : exec N F m pc' L' st' S = some out) (hL : ∀ v ∈ L', okV S.1 v) (hst : ∀ v ∈ st', okV S.1 v) (hJ : mLong m = false → ∀ v ∈ L', isJ v = false) (hl : Locs ad L' ls') (hn : L'.length = mMaxL m) :
    W p l e R s mid args below meth c H locs cells slots Q (F0 mid (bpc m pc') ls' (st'.map (toV ad))) :=
  ih pc' L' st' S ad H locs cells slots ls' hx ⟨hH.1, hL, hst, hJ, hl, hn, hH.2.2.2.2.2.2.1, hH.2.2.2.2.2.2.2.1, hH.2.2.2.2.2.2.2.2⟩
/-- the stack alone has changed -/
theorem go_st {pc' : Nat} {st' : List MV} (ih : IH N F m G b xs out p l e R s mid args below meth c A H0 Q) (hH : Here N m G b xs out p l e R s mid args below meth c A H0 Q L st S ad H locs cells slots ls)
    (hx : exec N F m pc' L st' S = some out) (hst : ∀ v ∈ st', okV S.1 v) : W p l e R s mid args below meth c H locs cells slots Q (F0 mid (bpc m pc') ls (st'.map (toV ad))) :=
  go_on ih hH hx hH.2.1 hst hH.2.2.2.1 hH.2.2.2.2.1 hH.2.2.2.2.2.1
theorem ok1 {n : Nat} {v : MV} {st' : List MV} (hv : okV n v) (h : ∀ v ∈ st', okV n v) : ∀ u ∈ v :: st', okV n u := by
  intro u hu
  rcases List.mem_cons.mp hu with h1 | h1
  · rw [h1]; exact hv
  · exact h u h1
theorem okt {n : Nat} {v : MV} {st' : List MV} (h : ∀ u ∈ v :: st', okV n u) : ∀ u ∈ st', okV n u := fun u hu => h u (List.mem_cons_of_mem _ hu)
theorem okh {n : Nat} {v : MV} {st' : List MV} (h : ∀ u ∈ v :: st', okV n u) : okV n v := h v List.mem_cons_self
end WALK
end
