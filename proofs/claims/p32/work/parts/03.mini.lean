/-! THE SMALL MACHINE: values, store, one step, runs with fuel; 'cod' and the other tables stand ahead. -/
abbrev MV : Type := Int ⊕ (Int ⊕ ((Nat × Nat) ⊕ Unit))
abbrev vI (x : Int) : MV := .inl x
abbrev vJ (x : Int) : MV := .inr (.inl x)
abbrev vR (k i : Nat) : MV := .inr (.inr (.inl (k, i)))
abbrev vX : MV := .inr (.inr (.inr ()))
abbrev Sto : Type := Nat → Nat → Nat → Int
/-- cells made so far; fields of references that are not put yet; what stands in the cells -/
abbrev MS : Type := Nat × List (Nat × Nat × Nat) × Sto
abbrev Out : Type := Option MV × MS
def w32 (x : Int) : Int := (x + 2147483648) % 4294967296 - 2147483648
def w64 (x : Int) : Int := (x + 9223372036854775808) % 18446744073709551616 - 9223372036854775808
def w8 (x : Int) : Int := (x + 128) % 256 - 128
def bAnd (a b : Int) : Int := (Int32.ofInt a &&& Int32.ofInt b).toInt
def bOr (a b : Int) : Int := (Int32.ofInt a ||| Int32.ofInt b).toInt
def bXor (a b : Int) : Int := (Int32.ofInt a ^^^ Int32.ofInt b).toInt
def jOr (a b : Int) : Int := (Int64.ofInt a ||| Int64.ofInt b).toInt
def shl32 (a b : Int) : Int := (Int32.ofInt a <<< (Int32.ofInt b &&& 31)).toInt
def shr32 (a b : Int) : Int := (Int32.ofInt a >>> (Int32.ofInt b &&& 31)).toInt
def shl64 (a b : Int) : Int := (Int64.ofInt a <<< ((Int32.ofInt b).toInt64 &&& 63)).toInt
def shr64 (a b : Int) : Int := (Int64.ofInt a >>> ((Int32.ofInt b).toInt64 &&& 63)).toInt
def ushr64 (a b : Int) : Int := ((Int64.ofInt a).toUInt64 >>> ((Int32.ofInt b).toInt64.toUInt64 &&& Int64.toUInt64 63)).toInt64.toInt
def nth {α : Type} : List α → Nat → Option α
  | [], _ => none
  | a :: _, 0 => some a
  | _ :: l, n + 1 => nth l n
def setn {α : Type} : List α → Nat → α → List α
  | [], _, _ => []
  | _ :: l, 0, v => v :: l
  | a :: l, n + 1, v => a :: setn l n v
def isJ : MV → Bool
  | .inr (.inl _) => true
  | _ => false
/-- a long ahead of a place that is written is no value any more -/
def clr (L : List MV) : Nat → List MV
  | 0 => L
  | i + 1 => match nth L i with
    | some v => cond (isJ v) (setn L i vX) L
    | none => L
def sup (σ : Sto) (k i j : Nat) (v : Int) : Sto := fun k' i' j' => if k' = k ∧ i' = i ∧ j' = j then v else σ k' i' j'
def zro (σ : Sto) (k i : Nat) : Sto := fun k' i' j' => if k' = k ∧ i' = i then 0 else σ k' i' j'
def cpy (σ : Sto) (k i sp k2 i2 dp n : Nat) : Sto := fun k' i' j' => if k' = k2 ∧ i' = i2 ∧ dp ≤ j' ∧ j' < dp + n then σ k i (sp + (j' - dp)) else σ k' i' j'
def elemN (a : Nat) : List Nat → Bool
  | [] => false
  | b :: l => cond (Nat.beq a b) true (elemN a l)
def elem3 (a : Nat × Nat × Nat) : List (Nat × Nat × Nat) → Bool
  | [] => false
  | b :: l => cond (Nat.beq a.1 b.1) (cond (Nat.beq a.2.1 b.2.1) (cond (Nat.beq a.2.2 b.2.2) true (elem3 a l)) (elem3 a l)) (elem3 a l)
def rem3 (a : Nat × Nat × Nat) : List (Nat × Nat × Nat) → List (Nat × Nat × Nat)
  | [] => []
  | b :: l => cond (Nat.beq a.1 b.1) (cond (Nat.beq a.2.1 b.2.1) (cond (Nat.beq a.2.2 b.2.2) (rem3 a l) (b :: rem3 a l)) (b :: rem3 a l)) (b :: rem3 a l)
/-- length of a row: the script's is a number of its own -/
def kLenN (N k : Nat) : Int := cond (Nat.beq k 999) (N : Int) (kLenZ k)
def wordsOf : List MV → Nat
  | [] => 0
  | .inr (.inl _) :: l => wordsOf l + 2
  | .inl _ :: l => wordsOf l + 1
  | .inr (.inr _) :: l => wordsOf l + 1
abbrev KT (β : Type) : Type := Nat → List MV → List MV → MS → β
section XS
variable {β : Type}
def x_iload (i pc : Nat) (L st : List MV) (S : MS) (K : KT β) (z : β) : β := match nth L i with
  | some (.inl x) => K (pc + 1) L (vI x :: st) S
  | _ => z
def x_lload (i pc : Nat) (L st : List MV) (S : MS) (K : KT β) (z : β) : β := match nth L i with
  | some (.inr (.inl x)) => K (pc + 1) L (vJ x :: st) S
  | _ => z
def x_aload (i pc : Nat) (L st : List MV) (S : MS) (K : KT β) (z : β) : β := match nth L i with
  | some (.inr (.inr (.inl q))) => K (pc + 1) L (.inr (.inr (.inl q)) :: st) S
  | _ => z
def x_istore (i pc : Nat) (L st : List MV) (S : MS) (K : KT β) (z : β) : β := match st with
  | .inl x :: st => K (pc + 1) (setn L i (vI x)) st S
  | _ => z
def x_astore (i pc : Nat) (L st : List MV) (S : MS) (K : KT β) (z : β) : β := match st with
  | .inr (.inr (.inl q)) :: st => K (pc + 1) (setn L i (.inr (.inr (.inl q)))) st S
  | _ => z
def x_lstore (i pc : Nat) (L st : List MV) (S : MS) (K : KT β) (z : β) : β := match st with
  | .inr (.inl x) :: st => K (pc + 1) (setn (setn (clr L i) i (vJ x)) (i + 1) vX) st S
  | _ => z
def x_iinc (i : Nat) (c : Int) (pc : Nat) (L st : List MV) (S : MS) (K : KT β) (z : β) : β := match nth L i with
  | some (.inl x) => K (pc + 1) (setn L i (vI (w32 (x + c)))) st S
  | _ => z
def x_iop (f : Int → Int → Int) (pc : Nat) (L st : List MV) (S : MS) (K : KT β) (z : β) : β := match st with
  | .inl b :: .inl a :: st => K (pc + 1) L (vI (f a b) :: st) S
  | _ => z
def x_iopc (f : Int → Int → Int) (pc : Nat) (L st : List MV) (S : MS) (K : KT β) (z : β) : β := match st with
  | .inl b :: .inl a :: st => cond (Nat.ble (wordsOf st) 8) (K (pc + 1) L (vI (f a b) :: st) S) z
  | _ => z
def x_idv (f : Int → Int → Int) (pc : Nat) (L st : List MV) (S : MS) (K : KT β) (z : β) : β := match st with
  | .inl b :: .inl a :: st => if b = 0 then z else K (pc + 1) L (vI (f a b) :: st) S
  | _ => z
def x_lop (f : Int → Int → Int) (pc : Nat) (L st : List MV) (S : MS) (K : KT β) (z : β) : β := match st with
  | .inr (.inl b) :: .inr (.inl a) :: st => K (pc + 1) L (vJ (f a b) :: st) S
  | _ => z
def x_ldv (f : Int → Int → Int) (pc : Nat) (L st : List MV) (S : MS) (K : KT β) (z : β) : β := match st with
  | .inr (.inl b) :: .inr (.inl a) :: st => if b = 0 then z else K (pc + 1) L (vJ (f a b) :: st) S
  | _ => z
def x_lsh (f : Int → Int → Int) (pc : Nat) (L st : List MV) (S : MS) (K : KT β) (z : β) : β := match st with
  | .inl b :: .inr (.inl a) :: st => K (pc + 1) L (vJ (f a b) :: st) S
  | _ => z
def x_lcmp (pc : Nat) (L st : List MV) (S : MS) (K : KT β) (z : β) : β := match st with
  | .inr (.inl b) :: .inr (.inl a) :: st => if a < b then K (pc + 1) L (vI (-1) :: st) S else if a = b then K (pc + 1) L (vI 0 :: st) S else K (pc + 1) L (vI 1 :: st) S
  | _ => z
def x_i2l (pc : Nat) (L st : List MV) (S : MS) (K : KT β) (z : β) : β := match st with
  | .inl a :: st => K (pc + 1) L (vJ a :: st) S
  | _ => z
def x_l2i (pc : Nat) (L st : List MV) (S : MS) (K : KT β) (z : β) : β := match st with
  | .inr (.inl a) :: st => K (pc + 1) L (vI (w32 a) :: st) S
  | _ => z
def x_i2b (pc : Nat) (L st : List MV) (S : MS) (K : KT β) (z : β) : β := match st with
  | .inl a :: st => K (pc + 1) L (vI (w8 a) :: st) S
  | _ => z
def x_dup (pc : Nat) (L st : List MV) (S : MS) (K : KT β) (z : β) : β := match st with
  | v :: st => cond (isJ v) z (K (pc + 1) L (v :: v :: st) S)
  | _ => z
def x_dup2 (pc : Nat) (L st : List MV) (S : MS) (K : KT β) (z : β) : β := match st with
  | v :: u :: st => cond (isJ v) z (cond (isJ u) z (K (pc + 1) L (v :: u :: v :: u :: st) S))
  | _ => z
def x_pop (pc : Nat) (L st : List MV) (S : MS) (K : KT β) (z : β) : β := match st with
  | v :: st => cond (isJ v) z (K (pc + 1) L st S)
  | _ => z
def x_icmp (c : Jvm.ClassFile.Cond) (t pc : Nat) (L st : List MV) (S : MS) (K : KT β) (z : β) : β := match st with
  | .inl b :: .inl a :: st => match c with
    | .lt => if a < b then K t L st S else K (pc + 1) L st S
    | .ge => if a < b then K (pc + 1) L st S else K t L st S
    | .gt => if b < a then K t L st S else K (pc + 1) L st S
    | .le => if b < a then K (pc + 1) L st S else K t L st S
    | .eq => if a = b then K t L st S else K (pc + 1) L st S
    | .ne => if a = b then K (pc + 1) L st S else K t L st S
  | _ => z
def x_if (c : Jvm.ClassFile.Cond) (t pc : Nat) (L st : List MV) (S : MS) (K : KT β) (z : β) : β := match st with
  | .inl a :: st => match c with
    | .lt => if a < 0 then K t L st S else K (pc + 1) L st S
    | .ge => if a < 0 then K (pc + 1) L st S else K t L st S
    | .gt => if 0 < a then K t L st S else K (pc + 1) L st S
    | .le => if 0 < a then K (pc + 1) L st S else K t L st S
    | .eq => if a = 0 then K t L st S else K (pc + 1) L st S
    | .ne => if a = 0 then K (pc + 1) L st S else K t L st S
  | _ => z
def x_ifnull (pc : Nat) (L st : List MV) (S : MS) (K : KT β) (z : β) : β := match st with
  | .inr (.inr (.inl _)) :: st => K (pc + 1) L st S
  | _ => z
/-- a switch over low .. : one test a place, from the first on -/
def x_sw (L st : List MV) (S : MS) (K : KT β) (d : Nat) (a : Int) : Int → List Int → β
  | _, [] => K d L st S
  | lo, t :: ts => if a = lo then K t.toNat L st S else x_sw L st S K d a (lo + 1) ts
def x_switch (d : Nat) (lo : Int) (ts : List Int) (L st : List MV) (S : MS) (K : KT β) (z : β) : β := match st with
  | .inl a :: st => x_sw L st S K d a lo ts
  | _ => z
/-- n: the object's kind of class * 100 and the field's place -/
def x_get (n pc : Nat) (L st : List MV) (S : MS) (K : KT β) (z : β) : β := match st with
  | .inr (.inr (.inl (k, i))) :: st => cond (Nat.beq (kCls k) (n / 100)) (match fTy (n / 100) (n % 100) with
    | 0 => K (pc + 1) L (vI (S.2.2 k i (n % 100)) :: st) S
    | 1 => K (pc + 1) L (vI (S.2.2 k i (n % 100)) :: st) S
    | 2 => K (pc + 1) L (vJ (S.2.2 k i (n % 100)) :: st) S
    | 3 => cond (elem3 (k, i, n % 100) S.2.1) z (K (pc + 1) L (.inr (.inr (.inl (fRef k i (n % 100)))) :: st) S)
    | _ => z) z
  | _ => z
def x_put (n pc : Nat) (L st : List MV) (S : MS) (K : KT β) (z : β) : β := match st with
  | v :: .inr (.inr (.inl (k, i))) :: st => cond (Nat.beq (kCls k) (n / 100)) (match fTy (n / 100) (n % 100), v with
    | 0, .inl x => K (pc + 1) L st (S.1, S.2.1, sup S.2.2 k i (n % 100) x)
    | 1, .inl x => if x = 0 then K (pc + 1) L st (S.1, S.2.1, sup S.2.2 k i (n % 100) x) else if x = 1 then K (pc + 1) L st (S.1, S.2.1, sup S.2.2 k i (n % 100) x) else z
    | 2, .inr (.inl x) => K (pc + 1) L st (S.1, S.2.1, sup S.2.2 k i (n % 100) x)
    | 3, .inr (.inr (.inl q)) => cond (Nat.beq q.1 (fRef k i (n % 100)).1) (cond (Nat.beq q.2 (fRef k i (n % 100)).2) (K (pc + 1) L st (S.1, rem3 (k, i, n % 100) S.2.1, S.2.2)) z) z
    | _, _ => z) z
  | _ => z
def x_alen (N pc : Nat) (L st : List MV) (S : MS) (K : KT β) (z : β) : β := match st with
  | .inr (.inr (.inl (k, _))) :: st => match kTag k with
    | 1 => K (pc + 1) L (vI (kLenN N k) :: st) S
    | 2 => K (pc + 1) L (vI (kLenN N k) :: st) S
    | 3 => K (pc + 1) L (vI (kLenN N k) :: st) S
    | 4 => K (pc + 1) L (vI (kLenN N k) :: st) S
    | _ => z
  | _ => z
def x_iald (N pc : Nat) (L st : List MV) (S : MS) (K : KT β) (z : β) : β := match st with
  | .inl j :: .inr (.inr (.inl (k, i))) :: st => match kTag k with
    | 1 => if j < 0 then z else if j < kLenN N k then K (pc + 1) L (vI (S.2.2 k i j.toNat) :: st) S else z
    | 4 => if j < 0 then z else if j < kLenN N k then K (pc + 1) L (vI (S.2.2 k i j.toNat) :: st) S else z
    | _ => z
  | _ => z
def x_bald (N pc : Nat) (L st : List MV) (S : MS) (K : KT β) (z : β) : β := match st with
  | .inl j :: .inr (.inr (.inl (k, i))) :: st => match kTag k with
    | 2 => if j < 0 then z else if j < kLenN N k then K (pc + 1) L (vI (S.2.2 k i j.toNat) :: st) S else z
    | _ => z
  | _ => z
def x_lald (N pc : Nat) (L st : List MV) (S : MS) (K : KT β) (z : β) : β := match st with
  | .inl j :: .inr (.inr (.inl (k, i))) :: st => match kTag k with
    | 3 => if j < 0 then z else if j < kLenN N k then K (pc + 1) L (vJ (S.2.2 k i j.toNat) :: st) S else z
    | _ => z
  | _ => z
def x_iast (N pc : Nat) (L st : List MV) (S : MS) (K : KT β) (z : β) : β := match st with
  | .inl x :: .inl j :: .inr (.inr (.inl (k, i))) :: st => match kTag k with
    | 1 => if j < 0 then z else if j < kLenN N k then K (pc + 1) L st (S.1, S.2.1, sup S.2.2 k i j.toNat x) else z
    | _ => z
  | _ => z
def x_bast (N pc : Nat) (L st : List MV) (S : MS) (K : KT β) (z : β) : β := match st with
  | .inl x :: .inl j :: .inr (.inr (.inl (k, i))) :: st => match kTag k with
    | 2 => if j < 0 then z else if j < kLenN N k then K (pc + 1) L st (S.1, S.2.1, sup S.2.2 k i j.toNat (w8 x)) else z
    | _ => z
  | _ => z
def x_last (N pc : Nat) (L st : List MV) (S : MS) (K : KT β) (z : β) : β := match st with
  | .inr (.inl x) :: .inl j :: .inr (.inr (.inl (k, i))) :: st => match kTag k with
    | 3 => if j < 0 then z else if j < kLenN N k then K (pc + 1) L st (S.1, S.2.1, sup S.2.2 k i j.toNat x) else z
    | _ => z
  | _ => z
def x_new (ci pc : Nat) (L st : List MV) (S : MS) (K : KT β) (z : β) : β := match nth ords S.1 with
  | some (k, i) => cond (Nat.beq (kTag k) 0) (cond (Nat.beq (kCls k) ci) (K (pc + 1) L (vR k i :: st) (S.1 + 1, S.2.1 ++ refSlots k i, zro S.2.2 k i)) z) z
  | none => z
def tagOf : ArrayType → Nat
  | .int => 1
  | .byte => 2
  | .long => 3
  | _ => 0
def x_newa (t pc : Nat) (L st : List MV) (S : MS) (K : KT β) (z : β) : β := match st with
  | .inl n :: st => match nth ords S.1 with
    | some (k, i) => cond (Nat.beq (kTag k) t) (cond (Nat.beq t 0) z (if n = kLenZ k then K (pc + 1) L (vR k i :: st) (S.1 + 1, S.2.1, zro S.2.2 k i) else z)) z
    | none => z
  | _ => z
def x_copy (N pc : Nat) (L st : List MV) (S : MS) (K : KT β) (z : β) : β := match st with
  | .inl n :: .inl dp :: .inr (.inr (.inl (k2, i2))) :: .inl sp :: .inr (.inr (.inl (k, i))) :: st => cond (Nat.beq (kTag k) 1) (cond (Nat.beq (kTag k2) 1)
     (if n < 0 then z else if sp < 0 then z else if dp < 0 then z else if kLenN N k < sp + n then z else if kLenN N k2 < dp + n then z else
       cond (Nat.ble (wordsOf st) 8) (K (pc + 1) L st (S.1, S.2.1, cpy S.2.2 k i sp.toNat k2 i2 dp.toNat n.toNat)) z) z) z
  | _ => z
def x_slen (pc : Nat) (L st : List MV) (S : MS) (K : KT β) (z : β) : β := match st with
  | .inr (.inr (.inl (k, i))) :: st => cond (Nat.beq k 1000) (cond (Nat.ble (wordsOf st) 8) (K (pc + 1) L (vI (sLen i) :: st) S) z) z
  | _ => z
def x_schr (pc : Nat) (L st : List MV) (S : MS) (K : KT β) (z : β) : β := match st with
  | .inl j :: .inr (.inr (.inl (k, i))) :: st => cond (Nat.beq k 1000) (if j < 0 then z else if j < sLen i then cond (Nat.ble (wordsOf st) 8) (K (pc + 1) L (vI (sChr i j.toNat) :: st) S) z else z) z
  | _ => z
def x_obj (pc : Nat) (L st : List MV) (S : MS) (K : KT β) (z : β) : β := match st with
  | .inr (.inr (.inl (_, _))) :: st => cond (Nat.ble (wordsOf st) 8) (K (pc + 1) L st S) z
  | _ => z
/-- one step of what is neither a call nor an end -/
def stp (N : Nat) (ins : Instr) (pc : Nat) (L st : List MV) (S : MS) (K : KT β) (z : β) : β := match ins with
  | .iload i => x_iload i pc L st S K z
  | .aload i => x_aload i pc L st S K z
  | .lload i => x_lload i pc L st S K z
  | .istore i => x_istore i pc L st S K z
  | .astore i => x_astore i pc L st S K z
  | .lstore i => x_lstore i pc L st S K z
  | .fstore i => x_istore i pc (clr L i) st S K z
  | .dstore i => x_astore i pc (clr L i) st S K z
  | .iconst v => K (pc + 1) L (vI v :: st) S
  | .jsr_w v => K (pc + 1) L (vJ v :: st) S
  | .ldc i => K (pc + 1) L (vR 1000 i :: st) S
  | .iinc i c => x_iinc i c pc L st S K z
  | .iadd => x_iop (fun a b => w32 (a + b)) pc L st S K z
  | .isub => x_iop (fun a b => w32 (a - b)) pc L st S K z
  | .imul => x_iop (fun a b => w32 (a * b)) pc L st S K z
  | .iand => x_iop bAnd pc L st S K z
  | .ior => x_iop bOr pc L st S K z
  | .ixor => x_iop bXor pc L st S K z
  | .ishl => x_iop shl32 pc L st S K z
  | .ishr => x_iop shr32 pc L st S K z
  | .idiv => x_idv (fun a b => w32 (a.tdiv b)) pc L st S K z
  | .irem => x_idv Int.tmod pc L st S K z
  | .dadd => x_iopc (fun a b => min a b) pc L st S K z
  | .dsub => x_iopc (fun a b => max a b) pc L st S K z
  | .ladd => x_lop (fun a b => w64 (a + b)) pc L st S K z
  | .lmul => x_lop (fun a b => w64 (a * b)) pc L st S K z
  | .lor => x_lop jOr pc L st S K z
  | .ldiv => x_ldv (fun a b => w64 (a.tdiv b)) pc L st S K z
  | .lrem => x_ldv Int.tmod pc L st S K z
  | .lshl => x_lsh shl64 pc L st S K z
  | .lshr => x_lsh shr64 pc L st S K z
  | .lushr => x_lsh ushr64 pc L st S K z
  | .lcmp => x_lcmp pc L st S K z
  | .i2l => x_i2l pc L st S K z
  | .l2i => x_l2i pc L st S K z
  | .i2b => x_i2b pc L st S K z
  | .dup => x_dup pc L st S K z
  | .dup2 => x_dup2 pc L st S K z
  | .pop => x_pop pc L st S K z
  | .goto t => K t.toNat L st S
  | .if_icmp c t => x_icmp c t.toNat pc L st S K z
  | .ifCond c t => x_if c t.toNat pc L st S K z
  | .ifnull _ => x_ifnull pc L st S K z
  | .tableswitch d lo _ ts => x_switch d.toNat lo ts.toList L st S K z
  | .getfield n => x_get n pc L st S K z
  | .putfield n => x_put n pc L st S K z
  | .arraylength => x_alen N pc L st S K z
  | .iaload => x_iald N pc L st S K z
  | .baload => x_bald N pc L st S K z
  | .laload => x_lald N pc L st S K z
  | .iastore => x_iast N pc L st S K z
  | .bastore => x_bast N pc L st S K z
  | .lastore => x_last N pc L st S K z
  | .new ci => x_new ci pc L st S K z
  | .newarray t => x_newa (tagOf t) pc L st S K z
  | .dmul => x_copy N pc L st S K z
  | .ddiv => x_slen pc L st S K z
  | .drem => x_schr pc L st S K z
  | .dneg => x_obj pc L st S K z
  | _ => z
end XS
def push : Option MV → List MV → List MV
  | none, st => st
  | some v, st => v :: st
/-- the n topmost values, the deepest first, and what is below them -/
def takeR : Nat → List MV → List MV → Option (List MV × List MV)
  | 0, st, acc => some (acc, st)
  | _ + 1, [], _ => none
  | n + 1, v :: st, acc => takeR n st (v :: acc)
def spread : List MV → List MV
  | [] => []
  | .inr (.inl x) :: l => vJ x :: vX :: spread l
  | .inl x :: l => vI x :: spread l
  | .inr (.inr x) :: l => .inr (.inr x) :: spread l
def padX : Nat → List MV → List MV
  | 0, _ => []
  | n + 1, [] => vX :: padX n []
  | n + 1, v :: l => v :: padX n l
def mkL (m : Nat) (as : List MV) : List MV := padX (mMaxL m) (spread as)
/-- the receiver of a method that is not static is an object of its class -/
def noJ : List MV → Bool
  | [] => true
  | v :: l => cond (isJ v) false (noJ l)
/-- the arguments have room among the locals, and are longs only where the method may hold such -/
def argOk (m : Nat) (as : List MV) : Bool := cond (Nat.ble (spread as).length (mMaxL m)) (cond (mLong m) true (noJ as)) false
def recvC (m : Nat) : List MV → Bool
  | .inr (.inr (.inl (k, _))) :: _ => Nat.beq (kCls k) (mCls m)
  | _ => false
def recvOk (m : Nat) (as : List MV) : Bool := cond (argOk m as) (cond (mSt m) true (recvC m as)) false
def bnd (o : Option Out) (f : Option MV → MS → Option Out) : Option Out := match o with
  | some (r, S) => f r S
  | none => none
/-- a call: inv is what the callee does -/
def xcall (inv : Nat → List MV → MS → Option Out) (m pc : Nat) (L st : List MV) (S : MS) (K : KT (Option Out)) : Option Out := match takeR (mArg m) st [] with
  | some (as, rest) => cond (recvOk m as) (cond (Nat.ble (wordsOf rest) 8) (bnd (inv m as S) (fun r S' => K (pc + 1) L (push r rest) S')) none) none
  | none => none
def xret (m : Nat) (st : List MV) (S : MS) : Option Out := match st with
  | [.inl v] => match mRet m with
    | 1 => some (some (vI v), S)
    | 2 => if v = 0 then some (some (vI v), S) else if v = 1 then some (some (vI v), S) else none
    | _ => none
  | [.inr (.inl v)] => match mRet m with
    | 3 => some (some (vJ v), S)
    | _ => none
  | [.inr (.inr (.inl q))] => match mRet m with
    | 4 => some (some (.inr (.inr (.inl q))), S)
    | _ => none
  | [] => match mRet m with
    | 0 => some (none, S)
    | _ => none
  | _ => none
def one (N m : Nat) (inv : Nat → List MV → MS → Option Out) (ins : Instr) (pc : Nat) (L st : List MV) (S : MS) (K : KT (Option Out)) : Option Out := match ins with
  | .ireturn => xret m st S
  | .lreturn => xret m st S
  | .areturn => xret m st S
  | .return_ => xret m st S
  | .invokestatic k => xcall inv k pc L st S K
  | .invokevirtual k => xcall inv k pc L st S K
  | .invokespecial k => xcall inv k pc L st S K
  | ins => stp N ins pc L st S K none
def exec (N : Nat) : Nat → Nat → Nat → List MV → List MV → MS → Option Out
  | 0, _, _, _, _, _ => none
  | F + 1, m, pc, L, st, S => match nth (cod m) pc with
    | none => none
    | some ins => one N m (fun k as S => exec N F k 0 (mkL k as) [] S) ins pc L st S (exec N F m)
