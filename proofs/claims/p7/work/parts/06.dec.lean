/-! A FASTER LOOK at the bytes: a decoder over the list of bytes that are left (made by wip/gen/decgen.py) -/
abbrev fd_R (α : Type) := Reader DecodeError α
theorem fd_bind {α β : Type} {x : fd_R α} {f : α → fd_R β} {A : ByteArray} {p s : Nat} {a : α} {r : Except DecodeError (β × Nat)} (h : x A p = .ok (a, s)) (hf : f a A s = r) : (x >>= f) A p = r := by
  have e : (x >>= f) A p = (match x A p with | .error e => Except.error e | .ok (a, s) => f a A s) := by
    show (do let (a, s) ← x A p; f a A s : Except DecodeError (β × Nat)) = _
    cases x A p <;> rfl
  rw [e, h]; exact hf
theorem fd_map {α β : Type} {x : fd_R α} {g : α → β} {A : ByteArray} {p s : Nat} {a : α} (h : x A p = .ok (a, s)) : (g <$> x) A p = .ok (g a, s) := by
  have e : (g <$> x) A p = (match x A p with | .error e => Except.error e | .ok (a, s) => .ok (g a, s)) := by
    show (do let (a, s) ← x A p; .ok (g a, s) : Except DecodeError (β × Nat)) = _
    cases x A p <;> rfl
  rw [e, h]
/-- the bytes of A from p on are l -/
def fd_A (A : ByteArray) (p : Nat) (l : List UInt8) : Prop := A.data.toList.drop p = l
theorem fd_u1 {A : ByteArray} {p : Nat} {b : UInt8} {l : List UInt8} (h : fd_A A p (b :: l)) : (Reader.u1 : fd_R Nat) A p = .ok (b.toNat, p + 1) := by
  unfold fd_A at h
  have h1 : p < A.data.toList.length := by
    rcases Nat.lt_or_ge p A.data.toList.length with z | z
    · exact z
    · rw [List.drop_eq_nil_of_le z] at h; cases h
  have h2 : p < A.size := h1
  rw [List.drop_eq_getElem_cons h1] at h
  have h3 : A.data.toList[p] = b := (List.cons.inj h).1
  show (dite (p < A.size) (fun h => (do set (p + 1); pure A[p].toNat : fd_R Nat)) (fun _ => throw (HasTruncated.truncated p))) A p = _
  rw [dif_pos h2]
  show Except.ok (A[p].toNat, p + 1) = _
  rw [← h3]
  rfl
theorem fd_n {A : ByteArray} {p : Nat} {b : UInt8} {l : List UInt8} {n : Nat} (h : fd_A A p (b :: l)) (e : b.toNat = n) : (Reader.u1 : fd_R Nat) A p = .ok (n, p + 1) := by
  subst e; exact fd_u1 h
theorem fd_x {A : ByteArray} {p : Nat} {b : UInt8} {l : List UInt8} (h : fd_A A p (b :: l)) : fd_A A (p + 1) l := by
  unfold fd_A at h ⊢
  have := congrArg List.tail h
  rw [List.tail_drop] at this
  exact this
theorem fd_u2 {A : ByteArray} {p : Nat} {b c : UInt8} {l : List UInt8} (h : fd_A A p (b :: c :: l)) : (Reader.u2 : fd_R Nat) A p = .ok (b.toNat * 256 + c.toNat, p + 2) :=
  fd_bind (fd_u1 h) (fd_bind (fd_u1 (fd_x h)) rfl)
theorem fd_s1 {A : ByteArray} {p : Nat} {b : UInt8} {l : List UInt8} (h : fd_A A p (b :: l)) : (Reader.s1 : fd_R Int) A p = .ok (Reader.signed 8 b.toNat, p + 1) := fd_map (fd_u1 h)
theorem fd_s2 {A : ByteArray} {p : Nat} {b c : UInt8} {l : List UInt8} (h : fd_A A p (b :: c :: l)) : (Reader.s2 : fd_R Int) A p = .ok (Reader.signed 16 (b.toNat * 256 + c.toNat), p + 2) := fd_map (fd_u2 h)
theorem fd_d {A : ByteArray} {p n : Nat} {i : Instr} (h : Decoder.instr p A p = .ok (i, p + n)) : decode A p = .ok (i, n) := by
  show (do let (i, x) ← Decoder.instr p A p; pure (i, x - p) : Except DecodeError (Instr × Nat)) = _
  rw [h]
  show Except.ok (i, p + n - p) = _
  rw [Nat.add_sub_cancel_left]
def fd_o1 (C : Nat → Instr) : List UInt8 → Option (Instr × Nat)
  | x :: _ => some (C x.toNat, 2)
  | _ => none
def fd_o2 (C : Nat → Instr) : List UInt8 → Option (Instr × Nat)
  | x :: y :: _ => some (C (x.toNat * 256 + y.toNat), 3)
  | _ => none
def fd_z1 (C : Int → Instr) : List UInt8 → Option (Instr × Nat)
  | x :: _ => some (C (Reader.signed 8 x.toNat), 2)
  | _ => none
def fd_z2 (C : Int → Instr) : List UInt8 → Option (Instr × Nat)
  | x :: y :: _ => some (C (Reader.signed 16 (x.toNat * 256 + y.toNat)), 3)
  | _ => none
def fd_ii : List UInt8 → Option (Instr × Nat)
  | x :: y :: _ => some (.iinc x.toNat (Reader.signed 8 y.toNat), 3)
  | _ => none
/-- r, if it says something, says what decode says at p -/
def fd_Q (A : ByteArray) (p : Nat) (r : Option (Instr × Nat)) : Prop := ∀ i n, r = some (i, n) → decode A p = .ok (i, n)
theorem fd_c {A : ByteArray} {p : Nat} {n k : Nat} {a b : Option (Instr × Nat)} (h1 : fd_Q A p a) (h2 : fd_Q A p b) : fd_Q A p (cond (Nat.blt n k) a b) := by
  cases Nat.blt n k
  · exact h2
  · exact h1
theorem fd_l {A : ByteArray} {p : Nat} {n k : Nat} {a : Option (Instr × Nat)} (h : n = k → fd_Q A p a) : fd_Q A p (cond (Nat.beq n k) a none) := by
  cases e : Nat.beq n k
  · intro i m z; cases z
  · exact h (Nat.eq_of_beq_eq_true e)
theorem fd_k {A : ByteArray} {p : Nat} {C : Instr} (h : Decoder.instr p A p = .ok (C, p + 1)) : fd_Q A p (some (C, 1)) := by
  intro i n z; cases z; exact fd_d h
theorem fd_k1 {A : ByteArray} {p : Nat} {C : Nat → Instr} {b : UInt8} {l : List UInt8} (hA : fd_A A p (b :: l)) (h : ∀ x, (Reader.u1 : fd_R Nat) A (p + 1) = .ok (x, p + 2) → Decoder.instr p A p = .ok (C x, p + 2)) : fd_Q A p (fd_o1 C l) := by
  intro i n z
  match l, hA, z with
  | x :: t, hA, z => cases z; exact fd_d (h _ (fd_u1 (fd_x hA)))
theorem fd_k2 {A : ByteArray} {p : Nat} {C : Nat → Instr} {b : UInt8} {l : List UInt8} (hA : fd_A A p (b :: l)) (h : ∀ x, (Reader.u2 : fd_R Nat) A (p + 1) = .ok (x, p + 3) → Decoder.instr p A p = .ok (C x, p + 3)) : fd_Q A p (fd_o2 C l) := by
  intro i n z
  match l, hA, z with
  | x :: y :: t, hA, z => cases z; exact fd_d (h _ (fd_u2 (fd_x hA)))
theorem fd_y1 {A : ByteArray} {p : Nat} {C : Int → Instr} {b : UInt8} {l : List UInt8} (hA : fd_A A p (b :: l)) (h : ∀ x, (Reader.s1 : fd_R Int) A (p + 1) = .ok (x, p + 2) → Decoder.instr p A p = .ok (C x, p + 2)) : fd_Q A p (fd_z1 C l) := by
  intro i n z
  match l, hA, z with
  | x :: t, hA, z => cases z; exact fd_d (h _ (fd_s1 (fd_x hA)))
theorem fd_y2 {A : ByteArray} {p : Nat} {C : Int → Instr} {b : UInt8} {l : List UInt8} (hA : fd_A A p (b :: l)) (h : ∀ x, (Reader.s2 : fd_R Int) A (p + 1) = .ok (x, p + 3) → Decoder.instr p A p = .ok (C x, p + 3)) : fd_Q A p (fd_z2 C l) := by
  intro i n z
  match l, hA, z with
  | x :: y :: t, hA, z => cases z; exact fd_d (h _ (fd_s2 (fd_x hA)))
theorem fd_yi {A : ByteArray} {p : Nat} {b : UInt8} {l : List UInt8} (hA : fd_A A p (b :: l)) (h : ∀ x y, (Reader.u1 : fd_R Nat) A (p + 1) = .ok (x, p + 2) → (Reader.s1 : fd_R Int) A (p + 2) = .ok (y, p + 3) → Decoder.instr p A p = .ok (.iinc x y, p + 3)) : fd_Q A p (fd_ii l) := by
  intro i n z
  match l, hA, z with
  | x :: y :: t, hA, z => cases z; exact fd_d (h _ _ (fd_u1 (fd_x hA)) (fd_s1 (fd_x (fd_x hA))))
theorem fd_2 {A : ByteArray} {p : Nat} {b : UInt8} {l : List UInt8} (hA : fd_A A p (b :: l)) (e : b.toNat = 2) : fd_Q A p (some (.iconst (-1), 1)) := fd_k (C := .iconst (-1)) (fd_bind (fd_n hA e) rfl)
theorem fd_3 {A : ByteArray} {p : Nat} {b : UInt8} {l : List UInt8} (hA : fd_A A p (b :: l)) (e : b.toNat = 3) : fd_Q A p (some (.iconst (0), 1)) := fd_k (C := .iconst (0)) (fd_bind (fd_n hA e) rfl)
theorem fd_4 {A : ByteArray} {p : Nat} {b : UInt8} {l : List UInt8} (hA : fd_A A p (b :: l)) (e : b.toNat = 4) : fd_Q A p (some (.iconst (1), 1)) := fd_k (C := .iconst (1)) (fd_bind (fd_n hA e) rfl)
theorem fd_5 {A : ByteArray} {p : Nat} {b : UInt8} {l : List UInt8} (hA : fd_A A p (b :: l)) (e : b.toNat = 5) : fd_Q A p (some (.iconst (2), 1)) := fd_k (C := .iconst (2)) (fd_bind (fd_n hA e) rfl)
theorem fd_6 {A : ByteArray} {p : Nat} {b : UInt8} {l : List UInt8} (hA : fd_A A p (b :: l)) (e : b.toNat = 6) : fd_Q A p (some (.iconst (3), 1)) := fd_k (C := .iconst (3)) (fd_bind (fd_n hA e) rfl)
theorem fd_7 {A : ByteArray} {p : Nat} {b : UInt8} {l : List UInt8} (hA : fd_A A p (b :: l)) (e : b.toNat = 7) : fd_Q A p (some (.iconst (4), 1)) := fd_k (C := .iconst (4)) (fd_bind (fd_n hA e) rfl)
theorem fd_8 {A : ByteArray} {p : Nat} {b : UInt8} {l : List UInt8} (hA : fd_A A p (b :: l)) (e : b.toNat = 8) : fd_Q A p (some (.iconst (5), 1)) := fd_k (C := .iconst (5)) (fd_bind (fd_n hA e) rfl)
theorem fd_9 {A : ByteArray} {p : Nat} {b : UInt8} {l : List UInt8} (hA : fd_A A p (b :: l)) (e : b.toNat = 9) : fd_Q A p (some (.lconst 0, 1)) := fd_k (C := .lconst 0) (fd_bind (fd_n hA e) rfl)
theorem fd_10 {A : ByteArray} {p : Nat} {b : UInt8} {l : List UInt8} (hA : fd_A A p (b :: l)) (e : b.toNat = 10) : fd_Q A p (some (.lconst 1, 1)) := fd_k (C := .lconst 1) (fd_bind (fd_n hA e) rfl)
theorem fd_16 {A : ByteArray} {p : Nat} {b : UInt8} {l : List UInt8} (hA : fd_A A p (b :: l)) (e : b.toNat = 16) : fd_Q A p (fd_z1 .bipush l) := fd_y1 hA fun x h => fd_bind (fd_n hA e) (fd_bind h rfl)
theorem fd_17 {A : ByteArray} {p : Nat} {b : UInt8} {l : List UInt8} (hA : fd_A A p (b :: l)) (e : b.toNat = 17) : fd_Q A p (fd_z2 .sipush l) := fd_y2 hA fun x h => fd_bind (fd_n hA e) (fd_bind h rfl)
theorem fd_18 {A : ByteArray} {p : Nat} {b : UInt8} {l : List UInt8} (hA : fd_A A p (b :: l)) (e : b.toNat = 18) : fd_Q A p (fd_o1 .ldc l) := fd_k1 hA fun x h => fd_bind (fd_n hA e) (fd_bind h rfl)
theorem fd_19 {A : ByteArray} {p : Nat} {b : UInt8} {l : List UInt8} (hA : fd_A A p (b :: l)) (e : b.toNat = 19) : fd_Q A p (fd_o2 .ldc_w l) := fd_k2 hA fun x h => fd_bind (fd_n hA e) (fd_bind h rfl)
theorem fd_20 {A : ByteArray} {p : Nat} {b : UInt8} {l : List UInt8} (hA : fd_A A p (b :: l)) (e : b.toNat = 20) : fd_Q A p (fd_o2 .ldc2_w l) := fd_k2 hA fun x h => fd_bind (fd_n hA e) (fd_bind h rfl)
theorem fd_21 {A : ByteArray} {p : Nat} {b : UInt8} {l : List UInt8} (hA : fd_A A p (b :: l)) (e : b.toNat = 21) : fd_Q A p (fd_o1 .iload l) := fd_k1 hA fun x h => fd_bind (fd_n hA e) (fd_bind h rfl)
theorem fd_22 {A : ByteArray} {p : Nat} {b : UInt8} {l : List UInt8} (hA : fd_A A p (b :: l)) (e : b.toNat = 22) : fd_Q A p (fd_o1 .lload l) := fd_k1 hA fun x h => fd_bind (fd_n hA e) (fd_bind h rfl)
theorem fd_25 {A : ByteArray} {p : Nat} {b : UInt8} {l : List UInt8} (hA : fd_A A p (b :: l)) (e : b.toNat = 25) : fd_Q A p (fd_o1 .aload l) := fd_k1 hA fun x h => fd_bind (fd_n hA e) (fd_bind h rfl)
theorem fd_26 {A : ByteArray} {p : Nat} {b : UInt8} {l : List UInt8} (hA : fd_A A p (b :: l)) (e : b.toNat = 26) : fd_Q A p (some (.iload_n 0, 1)) := fd_k (C := .iload_n 0) (fd_bind (fd_n hA e) rfl)
theorem fd_27 {A : ByteArray} {p : Nat} {b : UInt8} {l : List UInt8} (hA : fd_A A p (b :: l)) (e : b.toNat = 27) : fd_Q A p (some (.iload_n 1, 1)) := fd_k (C := .iload_n 1) (fd_bind (fd_n hA e) rfl)
theorem fd_28 {A : ByteArray} {p : Nat} {b : UInt8} {l : List UInt8} (hA : fd_A A p (b :: l)) (e : b.toNat = 28) : fd_Q A p (some (.iload_n 2, 1)) := fd_k (C := .iload_n 2) (fd_bind (fd_n hA e) rfl)
theorem fd_29 {A : ByteArray} {p : Nat} {b : UInt8} {l : List UInt8} (hA : fd_A A p (b :: l)) (e : b.toNat = 29) : fd_Q A p (some (.iload_n 3, 1)) := fd_k (C := .iload_n 3) (fd_bind (fd_n hA e) rfl)
theorem fd_30 {A : ByteArray} {p : Nat} {b : UInt8} {l : List UInt8} (hA : fd_A A p (b :: l)) (e : b.toNat = 30) : fd_Q A p (some (.lload_n 0, 1)) := fd_k (C := .lload_n 0) (fd_bind (fd_n hA e) rfl)
theorem fd_31 {A : ByteArray} {p : Nat} {b : UInt8} {l : List UInt8} (hA : fd_A A p (b :: l)) (e : b.toNat = 31) : fd_Q A p (some (.lload_n 1, 1)) := fd_k (C := .lload_n 1) (fd_bind (fd_n hA e) rfl)
theorem fd_32 {A : ByteArray} {p : Nat} {b : UInt8} {l : List UInt8} (hA : fd_A A p (b :: l)) (e : b.toNat = 32) : fd_Q A p (some (.lload_n 2, 1)) := fd_k (C := .lload_n 2) (fd_bind (fd_n hA e) rfl)
theorem fd_33 {A : ByteArray} {p : Nat} {b : UInt8} {l : List UInt8} (hA : fd_A A p (b :: l)) (e : b.toNat = 33) : fd_Q A p (some (.lload_n 3, 1)) := fd_k (C := .lload_n 3) (fd_bind (fd_n hA e) rfl)
theorem fd_42 {A : ByteArray} {p : Nat} {b : UInt8} {l : List UInt8} (hA : fd_A A p (b :: l)) (e : b.toNat = 42) : fd_Q A p (some (.aload_n 0, 1)) := fd_k (C := .aload_n 0) (fd_bind (fd_n hA e) rfl)
theorem fd_43 {A : ByteArray} {p : Nat} {b : UInt8} {l : List UInt8} (hA : fd_A A p (b :: l)) (e : b.toNat = 43) : fd_Q A p (some (.aload_n 1, 1)) := fd_k (C := .aload_n 1) (fd_bind (fd_n hA e) rfl)
theorem fd_44 {A : ByteArray} {p : Nat} {b : UInt8} {l : List UInt8} (hA : fd_A A p (b :: l)) (e : b.toNat = 44) : fd_Q A p (some (.aload_n 2, 1)) := fd_k (C := .aload_n 2) (fd_bind (fd_n hA e) rfl)
theorem fd_45 {A : ByteArray} {p : Nat} {b : UInt8} {l : List UInt8} (hA : fd_A A p (b :: l)) (e : b.toNat = 45) : fd_Q A p (some (.aload_n 3, 1)) := fd_k (C := .aload_n 3) (fd_bind (fd_n hA e) rfl)
theorem fd_46 {A : ByteArray} {p : Nat} {b : UInt8} {l : List UInt8} (hA : fd_A A p (b :: l)) (e : b.toNat = 46) : fd_Q A p (some (.iaload, 1)) := fd_k (C := .iaload) (fd_bind (fd_n hA e) rfl)
theorem fd_47 {A : ByteArray} {p : Nat} {b : UInt8} {l : List UInt8} (hA : fd_A A p (b :: l)) (e : b.toNat = 47) : fd_Q A p (some (.laload, 1)) := fd_k (C := .laload) (fd_bind (fd_n hA e) rfl)
theorem fd_51 {A : ByteArray} {p : Nat} {b : UInt8} {l : List UInt8} (hA : fd_A A p (b :: l)) (e : b.toNat = 51) : fd_Q A p (some (.baload, 1)) := fd_k (C := .baload) (fd_bind (fd_n hA e) rfl)
theorem fd_54 {A : ByteArray} {p : Nat} {b : UInt8} {l : List UInt8} (hA : fd_A A p (b :: l)) (e : b.toNat = 54) : fd_Q A p (fd_o1 .istore l) := fd_k1 hA fun x h => fd_bind (fd_n hA e) (fd_bind h rfl)
theorem fd_55 {A : ByteArray} {p : Nat} {b : UInt8} {l : List UInt8} (hA : fd_A A p (b :: l)) (e : b.toNat = 55) : fd_Q A p (fd_o1 .lstore l) := fd_k1 hA fun x h => fd_bind (fd_n hA e) (fd_bind h rfl)
theorem fd_58 {A : ByteArray} {p : Nat} {b : UInt8} {l : List UInt8} (hA : fd_A A p (b :: l)) (e : b.toNat = 58) : fd_Q A p (fd_o1 .astore l) := fd_k1 hA fun x h => fd_bind (fd_n hA e) (fd_bind h rfl)
theorem fd_59 {A : ByteArray} {p : Nat} {b : UInt8} {l : List UInt8} (hA : fd_A A p (b :: l)) (e : b.toNat = 59) : fd_Q A p (some (.istore_n 0, 1)) := fd_k (C := .istore_n 0) (fd_bind (fd_n hA e) rfl)
theorem fd_60 {A : ByteArray} {p : Nat} {b : UInt8} {l : List UInt8} (hA : fd_A A p (b :: l)) (e : b.toNat = 60) : fd_Q A p (some (.istore_n 1, 1)) := fd_k (C := .istore_n 1) (fd_bind (fd_n hA e) rfl)
theorem fd_61 {A : ByteArray} {p : Nat} {b : UInt8} {l : List UInt8} (hA : fd_A A p (b :: l)) (e : b.toNat = 61) : fd_Q A p (some (.istore_n 2, 1)) := fd_k (C := .istore_n 2) (fd_bind (fd_n hA e) rfl)
theorem fd_62 {A : ByteArray} {p : Nat} {b : UInt8} {l : List UInt8} (hA : fd_A A p (b :: l)) (e : b.toNat = 62) : fd_Q A p (some (.istore_n 3, 1)) := fd_k (C := .istore_n 3) (fd_bind (fd_n hA e) rfl)
theorem fd_63 {A : ByteArray} {p : Nat} {b : UInt8} {l : List UInt8} (hA : fd_A A p (b :: l)) (e : b.toNat = 63) : fd_Q A p (some (.lstore_n 0, 1)) := fd_k (C := .lstore_n 0) (fd_bind (fd_n hA e) rfl)
theorem fd_64 {A : ByteArray} {p : Nat} {b : UInt8} {l : List UInt8} (hA : fd_A A p (b :: l)) (e : b.toNat = 64) : fd_Q A p (some (.lstore_n 1, 1)) := fd_k (C := .lstore_n 1) (fd_bind (fd_n hA e) rfl)
theorem fd_65 {A : ByteArray} {p : Nat} {b : UInt8} {l : List UInt8} (hA : fd_A A p (b :: l)) (e : b.toNat = 65) : fd_Q A p (some (.lstore_n 2, 1)) := fd_k (C := .lstore_n 2) (fd_bind (fd_n hA e) rfl)
theorem fd_66 {A : ByteArray} {p : Nat} {b : UInt8} {l : List UInt8} (hA : fd_A A p (b :: l)) (e : b.toNat = 66) : fd_Q A p (some (.lstore_n 3, 1)) := fd_k (C := .lstore_n 3) (fd_bind (fd_n hA e) rfl)
theorem fd_75 {A : ByteArray} {p : Nat} {b : UInt8} {l : List UInt8} (hA : fd_A A p (b :: l)) (e : b.toNat = 75) : fd_Q A p (some (.astore_n 0, 1)) := fd_k (C := .astore_n 0) (fd_bind (fd_n hA e) rfl)
theorem fd_76 {A : ByteArray} {p : Nat} {b : UInt8} {l : List UInt8} (hA : fd_A A p (b :: l)) (e : b.toNat = 76) : fd_Q A p (some (.astore_n 1, 1)) := fd_k (C := .astore_n 1) (fd_bind (fd_n hA e) rfl)
theorem fd_77 {A : ByteArray} {p : Nat} {b : UInt8} {l : List UInt8} (hA : fd_A A p (b :: l)) (e : b.toNat = 77) : fd_Q A p (some (.astore_n 2, 1)) := fd_k (C := .astore_n 2) (fd_bind (fd_n hA e) rfl)
theorem fd_78 {A : ByteArray} {p : Nat} {b : UInt8} {l : List UInt8} (hA : fd_A A p (b :: l)) (e : b.toNat = 78) : fd_Q A p (some (.astore_n 3, 1)) := fd_k (C := .astore_n 3) (fd_bind (fd_n hA e) rfl)
theorem fd_79 {A : ByteArray} {p : Nat} {b : UInt8} {l : List UInt8} (hA : fd_A A p (b :: l)) (e : b.toNat = 79) : fd_Q A p (some (.iastore, 1)) := fd_k (C := .iastore) (fd_bind (fd_n hA e) rfl)
theorem fd_80 {A : ByteArray} {p : Nat} {b : UInt8} {l : List UInt8} (hA : fd_A A p (b :: l)) (e : b.toNat = 80) : fd_Q A p (some (.lastore, 1)) := fd_k (C := .lastore) (fd_bind (fd_n hA e) rfl)
theorem fd_84 {A : ByteArray} {p : Nat} {b : UInt8} {l : List UInt8} (hA : fd_A A p (b :: l)) (e : b.toNat = 84) : fd_Q A p (some (.bastore, 1)) := fd_k (C := .bastore) (fd_bind (fd_n hA e) rfl)
theorem fd_87 {A : ByteArray} {p : Nat} {b : UInt8} {l : List UInt8} (hA : fd_A A p (b :: l)) (e : b.toNat = 87) : fd_Q A p (some (.pop, 1)) := fd_k (C := .pop) (fd_bind (fd_n hA e) rfl)
theorem fd_89 {A : ByteArray} {p : Nat} {b : UInt8} {l : List UInt8} (hA : fd_A A p (b :: l)) (e : b.toNat = 89) : fd_Q A p (some (.dup, 1)) := fd_k (C := .dup) (fd_bind (fd_n hA e) rfl)
theorem fd_92 {A : ByteArray} {p : Nat} {b : UInt8} {l : List UInt8} (hA : fd_A A p (b :: l)) (e : b.toNat = 92) : fd_Q A p (some (.dup2, 1)) := fd_k (C := .dup2) (fd_bind (fd_n hA e) rfl)
theorem fd_96 {A : ByteArray} {p : Nat} {b : UInt8} {l : List UInt8} (hA : fd_A A p (b :: l)) (e : b.toNat = 96) : fd_Q A p (some (.iadd, 1)) := fd_k (C := .iadd) (fd_bind (fd_n hA e) rfl)
theorem fd_97 {A : ByteArray} {p : Nat} {b : UInt8} {l : List UInt8} (hA : fd_A A p (b :: l)) (e : b.toNat = 97) : fd_Q A p (some (.ladd, 1)) := fd_k (C := .ladd) (fd_bind (fd_n hA e) rfl)
theorem fd_100 {A : ByteArray} {p : Nat} {b : UInt8} {l : List UInt8} (hA : fd_A A p (b :: l)) (e : b.toNat = 100) : fd_Q A p (some (.isub, 1)) := fd_k (C := .isub) (fd_bind (fd_n hA e) rfl)
theorem fd_104 {A : ByteArray} {p : Nat} {b : UInt8} {l : List UInt8} (hA : fd_A A p (b :: l)) (e : b.toNat = 104) : fd_Q A p (some (.imul, 1)) := fd_k (C := .imul) (fd_bind (fd_n hA e) rfl)
theorem fd_105 {A : ByteArray} {p : Nat} {b : UInt8} {l : List UInt8} (hA : fd_A A p (b :: l)) (e : b.toNat = 105) : fd_Q A p (some (.lmul, 1)) := fd_k (C := .lmul) (fd_bind (fd_n hA e) rfl)
theorem fd_108 {A : ByteArray} {p : Nat} {b : UInt8} {l : List UInt8} (hA : fd_A A p (b :: l)) (e : b.toNat = 108) : fd_Q A p (some (.idiv, 1)) := fd_k (C := .idiv) (fd_bind (fd_n hA e) rfl)
theorem fd_109 {A : ByteArray} {p : Nat} {b : UInt8} {l : List UInt8} (hA : fd_A A p (b :: l)) (e : b.toNat = 109) : fd_Q A p (some (.ldiv, 1)) := fd_k (C := .ldiv) (fd_bind (fd_n hA e) rfl)
theorem fd_112 {A : ByteArray} {p : Nat} {b : UInt8} {l : List UInt8} (hA : fd_A A p (b :: l)) (e : b.toNat = 112) : fd_Q A p (some (.irem, 1)) := fd_k (C := .irem) (fd_bind (fd_n hA e) rfl)
theorem fd_113 {A : ByteArray} {p : Nat} {b : UInt8} {l : List UInt8} (hA : fd_A A p (b :: l)) (e : b.toNat = 113) : fd_Q A p (some (.lrem, 1)) := fd_k (C := .lrem) (fd_bind (fd_n hA e) rfl)
theorem fd_120 {A : ByteArray} {p : Nat} {b : UInt8} {l : List UInt8} (hA : fd_A A p (b :: l)) (e : b.toNat = 120) : fd_Q A p (some (.ishl, 1)) := fd_k (C := .ishl) (fd_bind (fd_n hA e) rfl)
theorem fd_121 {A : ByteArray} {p : Nat} {b : UInt8} {l : List UInt8} (hA : fd_A A p (b :: l)) (e : b.toNat = 121) : fd_Q A p (some (.lshl, 1)) := fd_k (C := .lshl) (fd_bind (fd_n hA e) rfl)
theorem fd_122 {A : ByteArray} {p : Nat} {b : UInt8} {l : List UInt8} (hA : fd_A A p (b :: l)) (e : b.toNat = 122) : fd_Q A p (some (.ishr, 1)) := fd_k (C := .ishr) (fd_bind (fd_n hA e) rfl)
theorem fd_123 {A : ByteArray} {p : Nat} {b : UInt8} {l : List UInt8} (hA : fd_A A p (b :: l)) (e : b.toNat = 123) : fd_Q A p (some (.lshr, 1)) := fd_k (C := .lshr) (fd_bind (fd_n hA e) rfl)
theorem fd_125 {A : ByteArray} {p : Nat} {b : UInt8} {l : List UInt8} (hA : fd_A A p (b :: l)) (e : b.toNat = 125) : fd_Q A p (some (.lushr, 1)) := fd_k (C := .lushr) (fd_bind (fd_n hA e) rfl)
theorem fd_126 {A : ByteArray} {p : Nat} {b : UInt8} {l : List UInt8} (hA : fd_A A p (b :: l)) (e : b.toNat = 126) : fd_Q A p (some (.iand, 1)) := fd_k (C := .iand) (fd_bind (fd_n hA e) rfl)
theorem fd_128 {A : ByteArray} {p : Nat} {b : UInt8} {l : List UInt8} (hA : fd_A A p (b :: l)) (e : b.toNat = 128) : fd_Q A p (some (.ior, 1)) := fd_k (C := .ior) (fd_bind (fd_n hA e) rfl)
theorem fd_129 {A : ByteArray} {p : Nat} {b : UInt8} {l : List UInt8} (hA : fd_A A p (b :: l)) (e : b.toNat = 129) : fd_Q A p (some (.lor, 1)) := fd_k (C := .lor) (fd_bind (fd_n hA e) rfl)
theorem fd_130 {A : ByteArray} {p : Nat} {b : UInt8} {l : List UInt8} (hA : fd_A A p (b :: l)) (e : b.toNat = 130) : fd_Q A p (some (.ixor, 1)) := fd_k (C := .ixor) (fd_bind (fd_n hA e) rfl)
theorem fd_132 {A : ByteArray} {p : Nat} {b : UInt8} {l : List UInt8} (hA : fd_A A p (b :: l)) (e : b.toNat = 132) : fd_Q A p (fd_ii l) := fd_yi hA fun x y h h2 => fd_bind (fd_n hA e) (fd_bind h (fd_bind h2 rfl))
theorem fd_133 {A : ByteArray} {p : Nat} {b : UInt8} {l : List UInt8} (hA : fd_A A p (b :: l)) (e : b.toNat = 133) : fd_Q A p (some (.i2l, 1)) := fd_k (C := .i2l) (fd_bind (fd_n hA e) rfl)
theorem fd_136 {A : ByteArray} {p : Nat} {b : UInt8} {l : List UInt8} (hA : fd_A A p (b :: l)) (e : b.toNat = 136) : fd_Q A p (some (.l2i, 1)) := fd_k (C := .l2i) (fd_bind (fd_n hA e) rfl)
theorem fd_145 {A : ByteArray} {p : Nat} {b : UInt8} {l : List UInt8} (hA : fd_A A p (b :: l)) (e : b.toNat = 145) : fd_Q A p (some (.i2b, 1)) := fd_k (C := .i2b) (fd_bind (fd_n hA e) rfl)
theorem fd_148 {A : ByteArray} {p : Nat} {b : UInt8} {l : List UInt8} (hA : fd_A A p (b :: l)) (e : b.toNat = 148) : fd_Q A p (some (.lcmp, 1)) := fd_k (C := .lcmp) (fd_bind (fd_n hA e) rfl)
theorem fd_153 {A : ByteArray} {p : Nat} {b : UInt8} {l : List UInt8} (hA : fd_A A p (b :: l)) (e : b.toNat = 153) : fd_Q A p (fd_z2 (.ifCond .eq) l) := fd_y2 hA fun x h => fd_bind (fd_n hA e) (fd_bind h rfl)
theorem fd_154 {A : ByteArray} {p : Nat} {b : UInt8} {l : List UInt8} (hA : fd_A A p (b :: l)) (e : b.toNat = 154) : fd_Q A p (fd_z2 (.ifCond .ne) l) := fd_y2 hA fun x h => fd_bind (fd_n hA e) (fd_bind h rfl)
theorem fd_155 {A : ByteArray} {p : Nat} {b : UInt8} {l : List UInt8} (hA : fd_A A p (b :: l)) (e : b.toNat = 155) : fd_Q A p (fd_z2 (.ifCond .lt) l) := fd_y2 hA fun x h => fd_bind (fd_n hA e) (fd_bind h rfl)
theorem fd_156 {A : ByteArray} {p : Nat} {b : UInt8} {l : List UInt8} (hA : fd_A A p (b :: l)) (e : b.toNat = 156) : fd_Q A p (fd_z2 (.ifCond .ge) l) := fd_y2 hA fun x h => fd_bind (fd_n hA e) (fd_bind h rfl)
theorem fd_157 {A : ByteArray} {p : Nat} {b : UInt8} {l : List UInt8} (hA : fd_A A p (b :: l)) (e : b.toNat = 157) : fd_Q A p (fd_z2 (.ifCond .gt) l) := fd_y2 hA fun x h => fd_bind (fd_n hA e) (fd_bind h rfl)
theorem fd_158 {A : ByteArray} {p : Nat} {b : UInt8} {l : List UInt8} (hA : fd_A A p (b :: l)) (e : b.toNat = 158) : fd_Q A p (fd_z2 (.ifCond .le) l) := fd_y2 hA fun x h => fd_bind (fd_n hA e) (fd_bind h rfl)
theorem fd_159 {A : ByteArray} {p : Nat} {b : UInt8} {l : List UInt8} (hA : fd_A A p (b :: l)) (e : b.toNat = 159) : fd_Q A p (fd_z2 (.if_icmp .eq) l) := fd_y2 hA fun x h => fd_bind (fd_n hA e) (fd_bind h rfl)
theorem fd_160 {A : ByteArray} {p : Nat} {b : UInt8} {l : List UInt8} (hA : fd_A A p (b :: l)) (e : b.toNat = 160) : fd_Q A p (fd_z2 (.if_icmp .ne) l) := fd_y2 hA fun x h => fd_bind (fd_n hA e) (fd_bind h rfl)
theorem fd_161 {A : ByteArray} {p : Nat} {b : UInt8} {l : List UInt8} (hA : fd_A A p (b :: l)) (e : b.toNat = 161) : fd_Q A p (fd_z2 (.if_icmp .lt) l) := fd_y2 hA fun x h => fd_bind (fd_n hA e) (fd_bind h rfl)
theorem fd_162 {A : ByteArray} {p : Nat} {b : UInt8} {l : List UInt8} (hA : fd_A A p (b :: l)) (e : b.toNat = 162) : fd_Q A p (fd_z2 (.if_icmp .ge) l) := fd_y2 hA fun x h => fd_bind (fd_n hA e) (fd_bind h rfl)
theorem fd_163 {A : ByteArray} {p : Nat} {b : UInt8} {l : List UInt8} (hA : fd_A A p (b :: l)) (e : b.toNat = 163) : fd_Q A p (fd_z2 (.if_icmp .gt) l) := fd_y2 hA fun x h => fd_bind (fd_n hA e) (fd_bind h rfl)
theorem fd_164 {A : ByteArray} {p : Nat} {b : UInt8} {l : List UInt8} (hA : fd_A A p (b :: l)) (e : b.toNat = 164) : fd_Q A p (fd_z2 (.if_icmp .le) l) := fd_y2 hA fun x h => fd_bind (fd_n hA e) (fd_bind h rfl)
theorem fd_167 {A : ByteArray} {p : Nat} {b : UInt8} {l : List UInt8} (hA : fd_A A p (b :: l)) (e : b.toNat = 167) : fd_Q A p (fd_z2 .goto l) := fd_y2 hA fun x h => fd_bind (fd_n hA e) (fd_bind h rfl)
theorem fd_172 {A : ByteArray} {p : Nat} {b : UInt8} {l : List UInt8} (hA : fd_A A p (b :: l)) (e : b.toNat = 172) : fd_Q A p (some (.ireturn, 1)) := fd_k (C := .ireturn) (fd_bind (fd_n hA e) rfl)
theorem fd_173 {A : ByteArray} {p : Nat} {b : UInt8} {l : List UInt8} (hA : fd_A A p (b :: l)) (e : b.toNat = 173) : fd_Q A p (some (.lreturn, 1)) := fd_k (C := .lreturn) (fd_bind (fd_n hA e) rfl)
theorem fd_176 {A : ByteArray} {p : Nat} {b : UInt8} {l : List UInt8} (hA : fd_A A p (b :: l)) (e : b.toNat = 176) : fd_Q A p (some (.areturn, 1)) := fd_k (C := .areturn) (fd_bind (fd_n hA e) rfl)
theorem fd_177 {A : ByteArray} {p : Nat} {b : UInt8} {l : List UInt8} (hA : fd_A A p (b :: l)) (e : b.toNat = 177) : fd_Q A p (some (.return_, 1)) := fd_k (C := .return_) (fd_bind (fd_n hA e) rfl)
theorem fd_180 {A : ByteArray} {p : Nat} {b : UInt8} {l : List UInt8} (hA : fd_A A p (b :: l)) (e : b.toNat = 180) : fd_Q A p (fd_o2 .getfield l) := fd_k2 hA fun x h => fd_bind (fd_n hA e) (fd_bind h rfl)
theorem fd_181 {A : ByteArray} {p : Nat} {b : UInt8} {l : List UInt8} (hA : fd_A A p (b :: l)) (e : b.toNat = 181) : fd_Q A p (fd_o2 .putfield l) := fd_k2 hA fun x h => fd_bind (fd_n hA e) (fd_bind h rfl)
theorem fd_182 {A : ByteArray} {p : Nat} {b : UInt8} {l : List UInt8} (hA : fd_A A p (b :: l)) (e : b.toNat = 182) : fd_Q A p (fd_o2 .invokevirtual l) := fd_k2 hA fun x h => fd_bind (fd_n hA e) (fd_bind h rfl)
theorem fd_183 {A : ByteArray} {p : Nat} {b : UInt8} {l : List UInt8} (hA : fd_A A p (b :: l)) (e : b.toNat = 183) : fd_Q A p (fd_o2 .invokespecial l) := fd_k2 hA fun x h => fd_bind (fd_n hA e) (fd_bind h rfl)
theorem fd_184 {A : ByteArray} {p : Nat} {b : UInt8} {l : List UInt8} (hA : fd_A A p (b :: l)) (e : b.toNat = 184) : fd_Q A p (fd_o2 .invokestatic l) := fd_k2 hA fun x h => fd_bind (fd_n hA e) (fd_bind h rfl)
theorem fd_187 {A : ByteArray} {p : Nat} {b : UInt8} {l : List UInt8} (hA : fd_A A p (b :: l)) (e : b.toNat = 187) : fd_Q A p (fd_o2 .new l) := fd_k2 hA fun x h => fd_bind (fd_n hA e) (fd_bind h rfl)
theorem fd_190 {A : ByteArray} {p : Nat} {b : UInt8} {l : List UInt8} (hA : fd_A A p (b :: l)) (e : b.toNat = 190) : fd_Q A p (some (.arraylength, 1)) := fd_k (C := .arraylength) (fd_bind (fd_n hA e) rfl)
theorem fd_198 {A : ByteArray} {p : Nat} {b : UInt8} {l : List UInt8} (hA : fd_A A p (b :: l)) (e : b.toNat = 198) : fd_Q A p (fd_z2 .ifnull l) := fd_y2 hA fun x h => fd_bind (fd_n hA e) (fd_bind h rfl)
def fd_t (n : Nat) (l : List UInt8) : Option (Instr × Nat) := cond (Nat.blt n 87) (cond (Nat.blt n 42) (cond (Nat.blt n 19) (cond (Nat.blt n 8) (cond (Nat.blt n 5) (cond (Nat.blt n 3) (cond (Nat.beq n 2) (some (.iconst (-1), 1)) none) (cond (Nat.blt n 4) (cond (Nat.beq n 3) (some (.iconst (0), 1)) none) (cond (Nat.beq n 4) (some (.iconst (1), 1)) none))) (cond (Nat.blt n 6) (cond (Nat.beq n 5) (some (.iconst (2), 1)) none) (cond (Nat.blt n 7) (cond (Nat.beq n 6) (some (.iconst (3), 1)) none) (cond (Nat.beq n 7) (some (.iconst (4), 1)) none)))) (cond (Nat.blt n 16) (cond (Nat.blt n 9) (cond (Nat.beq n 8) (some (.iconst (5), 1)) none) (cond (Nat.blt n 10) (cond (Nat.beq n 9) (some (.lconst 0, 1)) none) (cond (Nat.beq n 10) (some (.lconst 1, 1)) none))) (cond (Nat.blt n 17) (cond (Nat.beq n 16) (fd_z1 .bipush l) none) (cond (Nat.blt n 18) (cond (Nat.beq n 17) (fd_z2 .sipush l) none) (cond (Nat.beq n 18) (fd_o1 .ldc l) none))))) (cond (Nat.blt n 27) (cond (Nat.blt n 22) (cond (Nat.blt n 20) (cond (Nat.beq n 19) (fd_o2 .ldc_w l) none) (cond (Nat.blt n 21) (cond (Nat.beq n 20) (fd_o2 .ldc2_w l) none) (cond (Nat.beq n 21) (fd_o1 .iload l) none))) (cond (Nat.blt n 25) (cond (Nat.beq n 22) (fd_o1 .lload l) none) (cond (Nat.blt n 26) (cond (Nat.beq n 25) (fd_o1 .aload l) none) (cond (Nat.beq n 26) (some (.iload_n 0, 1)) none)))) (cond (Nat.blt n 30) (cond (Nat.blt n 28) (cond (Nat.beq n 27) (some (.iload_n 1, 1)) none) (cond (Nat.blt n 29) (cond (Nat.beq n 28) (some (.iload_n 2, 1)) none) (cond (Nat.beq n 29) (some (.iload_n 3, 1)) none))) (cond (Nat.blt n 32) (cond (Nat.blt n 31) (cond (Nat.beq n 30) (some (.lload_n 0, 1)) none) (cond (Nat.beq n 31) (some (.lload_n 1, 1)) none)) (cond (Nat.blt n 33) (cond (Nat.beq n 32) (some (.lload_n 2, 1)) none) (cond (Nat.beq n 33) (some (.lload_n 3, 1)) none)))))) (cond (Nat.blt n 61) (cond (Nat.blt n 51) (cond (Nat.blt n 45) (cond (Nat.blt n 43) (cond (Nat.beq n 42) (some (.aload_n 0, 1)) none) (cond (Nat.blt n 44) (cond (Nat.beq n 43) (some (.aload_n 1, 1)) none) (cond (Nat.beq n 44) (some (.aload_n 2, 1)) none))) (cond (Nat.blt n 46) (cond (Nat.beq n 45) (some (.aload_n 3, 1)) none) (cond (Nat.blt n 47) (cond (Nat.beq n 46) (some (.iaload, 1)) none) (cond (Nat.beq n 47) (some (.laload, 1)) none)))) (cond (Nat.blt n 58) (cond (Nat.blt n 54) (cond (Nat.beq n 51) (some (.baload, 1)) none) (cond (Nat.blt n 55) (cond (Nat.beq n 54) (fd_o1 .istore l) none) (cond (Nat.beq n 55) (fd_o1 .lstore l) none))) (cond (Nat.blt n 59) (cond (Nat.beq n 58) (fd_o1 .astore l) none) (cond (Nat.blt n 60) (cond (Nat.beq n 59) (some (.istore_n 0, 1)) none) (cond (Nat.beq n 60) (some (.istore_n 1, 1)) none))))) (cond (Nat.blt n 75) (cond (Nat.blt n 64) (cond (Nat.blt n 62) (cond (Nat.beq n 61) (some (.istore_n 2, 1)) none) (cond (Nat.blt n 63) (cond (Nat.beq n 62) (some (.istore_n 3, 1)) none) (cond (Nat.beq n 63) (some (.lstore_n 0, 1)) none))) (cond (Nat.blt n 65) (cond (Nat.beq n 64) (some (.lstore_n 1, 1)) none) (cond (Nat.blt n 66) (cond (Nat.beq n 65) (some (.lstore_n 2, 1)) none) (cond (Nat.beq n 66) (some (.lstore_n 3, 1)) none)))) (cond (Nat.blt n 78) (cond (Nat.blt n 76) (cond (Nat.beq n 75) (some (.astore_n 0, 1)) none) (cond (Nat.blt n 77) (cond (Nat.beq n 76) (some (.astore_n 1, 1)) none) (cond (Nat.beq n 77) (some (.astore_n 2, 1)) none))) (cond (Nat.blt n 80) (cond (Nat.blt n 79) (cond (Nat.beq n 78) (some (.astore_n 3, 1)) none) (cond (Nat.beq n 79) (some (.iastore, 1)) none)) (cond (Nat.blt n 84) (cond (Nat.beq n 80) (some (.lastore, 1)) none) (cond (Nat.beq n 84) (some (.bastore, 1)) none))))))) (cond (Nat.blt n 148) (cond (Nat.blt n 120) (cond (Nat.blt n 104) (cond (Nat.blt n 96) (cond (Nat.blt n 89) (cond (Nat.beq n 87) (some (.pop, 1)) none) (cond (Nat.blt n 92) (cond (Nat.beq n 89) (some (.dup, 1)) none) (cond (Nat.beq n 92) (some (.dup2, 1)) none))) (cond (Nat.blt n 97) (cond (Nat.beq n 96) (some (.iadd, 1)) none) (cond (Nat.blt n 100) (cond (Nat.beq n 97) (some (.ladd, 1)) none) (cond (Nat.beq n 100) (some (.isub, 1)) none)))) (cond (Nat.blt n 109) (cond (Nat.blt n 105) (cond (Nat.beq n 104) (some (.imul, 1)) none) (cond (Nat.blt n 108) (cond (Nat.beq n 105) (some (.lmul, 1)) none) (cond (Nat.beq n 108) (some (.idiv, 1)) none))) (cond (Nat.blt n 112) (cond (Nat.beq n 109) (some (.ldiv, 1)) none) (cond (Nat.blt n 113) (cond (Nat.beq n 112) (some (.irem, 1)) none) (cond (Nat.beq n 113) (some (.lrem, 1)) none))))) (cond (Nat.blt n 128) (cond (Nat.blt n 123) (cond (Nat.blt n 121) (cond (Nat.beq n 120) (some (.ishl, 1)) none) (cond (Nat.blt n 122) (cond (Nat.beq n 121) (some (.lshl, 1)) none) (cond (Nat.beq n 122) (some (.ishr, 1)) none))) (cond (Nat.blt n 125) (cond (Nat.beq n 123) (some (.lshr, 1)) none) (cond (Nat.blt n 126) (cond (Nat.beq n 125) (some (.lushr, 1)) none) (cond (Nat.beq n 126) (some (.iand, 1)) none)))) (cond (Nat.blt n 132) (cond (Nat.blt n 129) (cond (Nat.beq n 128) (some (.ior, 1)) none) (cond (Nat.blt n 130) (cond (Nat.beq n 129) (some (.lor, 1)) none) (cond (Nat.beq n 130) (some (.ixor, 1)) none))) (cond (Nat.blt n 136) (cond (Nat.blt n 133) (cond (Nat.beq n 132) (fd_ii l) none) (cond (Nat.beq n 133) (some (.i2l, 1)) none)) (cond (Nat.blt n 145) (cond (Nat.beq n 136) (some (.l2i, 1)) none) (cond (Nat.beq n 145) (some (.i2b, 1)) none)))))) (cond (Nat.blt n 167) (cond (Nat.blt n 158) (cond (Nat.blt n 155) (cond (Nat.blt n 153) (cond (Nat.beq n 148) (some (.lcmp, 1)) none) (cond (Nat.blt n 154) (cond (Nat.beq n 153) (fd_z2 (.ifCond .eq) l) none) (cond (Nat.beq n 154) (fd_z2 (.ifCond .ne) l) none))) (cond (Nat.blt n 156) (cond (Nat.beq n 155) (fd_z2 (.ifCond .lt) l) none) (cond (Nat.blt n 157) (cond (Nat.beq n 156) (fd_z2 (.ifCond .ge) l) none) (cond (Nat.beq n 157) (fd_z2 (.ifCond .gt) l) none)))) (cond (Nat.blt n 161) (cond (Nat.blt n 159) (cond (Nat.beq n 158) (fd_z2 (.ifCond .le) l) none) (cond (Nat.blt n 160) (cond (Nat.beq n 159) (fd_z2 (.if_icmp .eq) l) none) (cond (Nat.beq n 160) (fd_z2 (.if_icmp .ne) l) none))) (cond (Nat.blt n 163) (cond (Nat.blt n 162) (cond (Nat.beq n 161) (fd_z2 (.if_icmp .lt) l) none) (cond (Nat.beq n 162) (fd_z2 (.if_icmp .ge) l) none)) (cond (Nat.blt n 164) (cond (Nat.beq n 163) (fd_z2 (.if_icmp .gt) l) none) (cond (Nat.beq n 164) (fd_z2 (.if_icmp .le) l) none))))) (cond (Nat.blt n 181) (cond (Nat.blt n 176) (cond (Nat.blt n 172) (cond (Nat.beq n 167) (fd_z2 .goto l) none) (cond (Nat.blt n 173) (cond (Nat.beq n 172) (some (.ireturn, 1)) none) (cond (Nat.beq n 173) (some (.lreturn, 1)) none))) (cond (Nat.blt n 177) (cond (Nat.beq n 176) (some (.areturn, 1)) none) (cond (Nat.blt n 180) (cond (Nat.beq n 177) (some (.return_, 1)) none) (cond (Nat.beq n 180) (fd_o2 .getfield l) none)))) (cond (Nat.blt n 184) (cond (Nat.blt n 182) (cond (Nat.beq n 181) (fd_o2 .putfield l) none) (cond (Nat.blt n 183) (cond (Nat.beq n 182) (fd_o2 .invokevirtual l) none) (cond (Nat.beq n 183) (fd_o2 .invokespecial l) none))) (cond (Nat.blt n 190) (cond (Nat.blt n 187) (cond (Nat.beq n 184) (fd_o2 .invokestatic l) none) (cond (Nat.beq n 187) (fd_o2 .new l) none)) (cond (Nat.blt n 198) (cond (Nat.beq n 190) (some (.arraylength, 1)) none) (cond (Nat.beq n 198) (fd_z2 .ifnull l) none)))))))
theorem fd_tq {A : ByteArray} {p : Nat} {b : UInt8} {l : List UInt8} (hA : fd_A A p (b :: l)) : fd_Q A p (fd_t b.toNat l) := fd_c (fd_c (fd_c (fd_c (fd_c (fd_c (fd_l (fun e => fd_2 hA e)) (fd_c (fd_l (fun e => fd_3 hA e)) (fd_l (fun e => fd_4 hA e)))) (fd_c (fd_l (fun e => fd_5 hA e)) (fd_c (fd_l (fun e => fd_6 hA e)) (fd_l (fun e => fd_7 hA e))))) (fd_c (fd_c (fd_l (fun e => fd_8 hA e)) (fd_c (fd_l (fun e => fd_9 hA e)) (fd_l (fun e => fd_10 hA e)))) (fd_c (fd_l (fun e => fd_16 hA e)) (fd_c (fd_l (fun e => fd_17 hA e)) (fd_l (fun e => fd_18 hA e)))))) (fd_c (fd_c (fd_c (fd_l (fun e => fd_19 hA e)) (fd_c (fd_l (fun e => fd_20 hA e)) (fd_l (fun e => fd_21 hA e)))) (fd_c (fd_l (fun e => fd_22 hA e)) (fd_c (fd_l (fun e => fd_25 hA e)) (fd_l (fun e => fd_26 hA e))))) (fd_c (fd_c (fd_l (fun e => fd_27 hA e)) (fd_c (fd_l (fun e => fd_28 hA e)) (fd_l (fun e => fd_29 hA e)))) (fd_c (fd_c (fd_l (fun e => fd_30 hA e)) (fd_l (fun e => fd_31 hA e))) (fd_c (fd_l (fun e => fd_32 hA e)) (fd_l (fun e => fd_33 hA e))))))) (fd_c (fd_c (fd_c (fd_c (fd_l (fun e => fd_42 hA e)) (fd_c (fd_l (fun e => fd_43 hA e)) (fd_l (fun e => fd_44 hA e)))) (fd_c (fd_l (fun e => fd_45 hA e)) (fd_c (fd_l (fun e => fd_46 hA e)) (fd_l (fun e => fd_47 hA e))))) (fd_c (fd_c (fd_l (fun e => fd_51 hA e)) (fd_c (fd_l (fun e => fd_54 hA e)) (fd_l (fun e => fd_55 hA e)))) (fd_c (fd_l (fun e => fd_58 hA e)) (fd_c (fd_l (fun e => fd_59 hA e)) (fd_l (fun e => fd_60 hA e)))))) (fd_c (fd_c (fd_c (fd_l (fun e => fd_61 hA e)) (fd_c (fd_l (fun e => fd_62 hA e)) (fd_l (fun e => fd_63 hA e)))) (fd_c (fd_l (fun e => fd_64 hA e)) (fd_c (fd_l (fun e => fd_65 hA e)) (fd_l (fun e => fd_66 hA e))))) (fd_c (fd_c (fd_l (fun e => fd_75 hA e)) (fd_c (fd_l (fun e => fd_76 hA e)) (fd_l (fun e => fd_77 hA e)))) (fd_c (fd_c (fd_l (fun e => fd_78 hA e)) (fd_l (fun e => fd_79 hA e))) (fd_c (fd_l (fun e => fd_80 hA e)) (fd_l (fun e => fd_84 hA e)))))))) (fd_c (fd_c (fd_c (fd_c (fd_c (fd_l (fun e => fd_87 hA e)) (fd_c (fd_l (fun e => fd_89 hA e)) (fd_l (fun e => fd_92 hA e)))) (fd_c (fd_l (fun e => fd_96 hA e)) (fd_c (fd_l (fun e => fd_97 hA e)) (fd_l (fun e => fd_100 hA e))))) (fd_c (fd_c (fd_l (fun e => fd_104 hA e)) (fd_c (fd_l (fun e => fd_105 hA e)) (fd_l (fun e => fd_108 hA e)))) (fd_c (fd_l (fun e => fd_109 hA e)) (fd_c (fd_l (fun e => fd_112 hA e)) (fd_l (fun e => fd_113 hA e)))))) (fd_c (fd_c (fd_c (fd_l (fun e => fd_120 hA e)) (fd_c (fd_l (fun e => fd_121 hA e)) (fd_l (fun e => fd_122 hA e)))) (fd_c (fd_l (fun e => fd_123 hA e)) (fd_c (fd_l (fun e => fd_125 hA e)) (fd_l (fun e => fd_126 hA e))))) (fd_c (fd_c (fd_l (fun e => fd_128 hA e)) (fd_c (fd_l (fun e => fd_129 hA e)) (fd_l (fun e => fd_130 hA e)))) (fd_c (fd_c (fd_l (fun e => fd_132 hA e)) (fd_l (fun e => fd_133 hA e))) (fd_c (fd_l (fun e => fd_136 hA e)) (fd_l (fun e => fd_145 hA e))))))) (fd_c (fd_c (fd_c (fd_c (fd_l (fun e => fd_148 hA e)) (fd_c (fd_l (fun e => fd_153 hA e)) (fd_l (fun e => fd_154 hA e)))) (fd_c (fd_l (fun e => fd_155 hA e)) (fd_c (fd_l (fun e => fd_156 hA e)) (fd_l (fun e => fd_157 hA e))))) (fd_c (fd_c (fd_l (fun e => fd_158 hA e)) (fd_c (fd_l (fun e => fd_159 hA e)) (fd_l (fun e => fd_160 hA e)))) (fd_c (fd_c (fd_l (fun e => fd_161 hA e)) (fd_l (fun e => fd_162 hA e))) (fd_c (fd_l (fun e => fd_163 hA e)) (fd_l (fun e => fd_164 hA e)))))) (fd_c (fd_c (fd_c (fd_l (fun e => fd_167 hA e)) (fd_c (fd_l (fun e => fd_172 hA e)) (fd_l (fun e => fd_173 hA e)))) (fd_c (fd_l (fun e => fd_176 hA e)) (fd_c (fd_l (fun e => fd_177 hA e)) (fd_l (fun e => fd_180 hA e))))) (fd_c (fd_c (fd_l (fun e => fd_181 hA e)) (fd_c (fd_l (fun e => fd_182 hA e)) (fd_l (fun e => fd_183 hA e)))) (fd_c (fd_c (fd_l (fun e => fd_184 hA e)) (fd_l (fun e => fd_187 hA e))) (fd_c (fd_l (fun e => fd_190 hA e)) (fd_l (fun e => fd_198 hA e))))))))
def fd_q : List UInt8 → Option (Instr × Nat)
  | [] => none
  | b :: l => fd_t b.toNat l
theorem fd_qq {A : ByteArray} {p : Nat} : ∀ {l : List UInt8}, fd_A A p l → fd_Q A p (fd_q l)
  | [], _ => fun i n z => by cases z
  | _ :: _, h => fd_tq h
def fd_one (m j p q : Nat) (ins : Instr) : Option (Instr × Nat) → Bool
  | some (raw, len) => band (band (Nat.beq q (p + len)) (cond (Nat.beq (lenOf raw) 0) true (Nat.beq len (lenOf raw)))) (rz m p raw ins)
  | none => okI m j ins
/-- one instruction after another: its places, the bytes that are left -/
def fd_s (m : Nat) : Nat → List Nat → List UInt8 → List Instr → Bool
  | _, _, _, [] => true
  | j, p :: q :: ps, l, ins :: is => band (band (Nat.ble p q) (fd_one m j p q ins (fd_q l))) (fd_s m (j + 1) (q :: ps) (l.drop (q - p)) is)
  | _, _, _, _ => false
theorem nthD_drop : ∀ (L : List Nat) (j p : Nat) (t : List Nat), L.drop j = p :: t → nthD L j = p
  | [], j, p, t, h => by simp at h
  | a :: L, 0, p, t, h => by
    simp only [List.drop_zero, List.cons.injEq] at h
    simp only [nthD]
    exact h.1
  | a :: L, j + 1, p, t, h => by
    simp only [List.drop_succ_cons] at h
    simp only [nthD]
    exact nthD_drop L j p t h
theorem drop_nx {α : Type} {L : List α} {j : Nat} {p : α} {t : List α} (h : L.drop j = p :: t) : L.drop (j + 1) = t := by
  have := congrArg List.tail h
  rw [List.tail_drop] at this
  exact this
theorem fd_s_at (m : Nat) : ∀ (is : List Instr) (j : Nat) (ps : List Nat) (l : List UInt8), fd_s m j ps l is = true → (bpcs m).drop j = ps → fd_A (mCode m) (bpc m j) l → ∀ k ins, nth is k = some ins → okI m (j + k) ins = true
  | [], j, ps, l, _, _, _, k, ins, h => by simp [nth] at h
  | i0 :: is, j, ps, l, hs, hp, hl, k, ins, h => by
    match ps, hs, hp with
    | p :: q :: t, hs, hp =>
      unfold fd_s at hs
      obtain ⟨h1, h2⟩ := band_t hs
      obtain ⟨h0, h1⟩ := band_t h1
      have e1 : bpc m j = p := nthD_drop _ _ _ _ hp
      have hp2 : (bpcs m).drop (j + 1) = q :: t := drop_nx hp
      have e2 : bpc m (j + 1) = q := nthD_drop _ _ _ _ hp2
      have hle : p ≤ q := Nat.le_of_ble_eq_true h0
      match k, h with
      | 0, h =>
        simp only [nth, Option.some.injEq] at h
        subst h
        cases hq : fd_q l with
        | none =>
          rw [hq] at h1
          exact h1
        | some r =>
          obtain ⟨raw, len⟩ := r
          rw [hq] at h1
          have hd := fd_qq hl raw len hq
          show okI m j i0 = true
          unfold okI
          rw [hd, e2, e1]
          exact h1
      | k + 1, h =>
        have hl2 : fd_A (mCode m) (bpc m (j + 1)) (l.drop (q - p)) := by
          unfold fd_A at hl ⊢
          rw [e2, ← hl, e1, List.drop_drop]
          congr 1
          omega
        have := fd_s_at m is (j + 1) (q :: t) (l.drop (q - p)) h2 hp2 hl2 k ins (by simpa [nth] using h)
        rw [show j + (k + 1) = j + 1 + k by omega]
        exact this
theorem nth_drop {α : Type} : ∀ (L : List α) (a k : Nat), nth (L.drop a) k = nth L (a + k)
  | [], a, k => by simp [nth]
  | x :: L, 0, k => by rw [Nat.zero_add]; rfl
  | x :: L, a + 1, k => by
    rw [List.drop_succ_cons, nth_drop L a k, show a + 1 + k = a + k + 1 by omega]
    rfl
theorem nth_take {α : Type} : ∀ (L : List α) (c k : Nat), k < c → nth (L.take c) k = nth L k
  | [], c, k, h => by simp [nth]
  | x :: L, 0, k, h => absurd h (Nat.not_lt_zero _)
  | x :: L, c + 1, 0, h => rfl
  | x :: L, c + 1, k + 1, h => by
    rw [List.take_succ_cons]
    show nth (L.take c) k = nth L k
    exact nth_take L c k (by omega)
def fd_f (m a c : Nat) : Bool := fd_s m a ((bpcs m).drop a) ((mCode m).data.toList.drop (bpc m a)) (((cod m).drop a).take c)
theorem fd_f_at {m a c j : Nat} {ins : Instr} (h : fd_f m a c = true) (h1 : a ≤ j) (h2 : j < a + c) (hj : nth (cod m) j = some ins) : okI m j ins = true := by
  have := fd_s_at m _ a _ _ h rfl rfl (j - a) ins (by
    rw [nth_take _ _ _ (by omega), nth_drop, show a + (j - a) = j by omega]
    exact hj)
  rw [show a + (j - a) = j by omega] at this
  exact this
def fd_m (m : Nat) : Bool := fd_s m 0 (bpcs m) ((mCode m).data.toList.drop (bpc m 0)) (cod m)
theorem fd_m_at {m j : Nat} {ins : Instr} (h : fd_m m = true) (hj : nth (cod m) j = some ins) : okI m j ins = true := by
  have := fd_s_at m _ 0 _ _ h rfl rfl j ins hj
  rw [Nat.zero_add] at this
  exact this
