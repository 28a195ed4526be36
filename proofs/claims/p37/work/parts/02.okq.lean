section
def elem4 (a : Nat × Nat × Nat × Nat) : List (Nat × Nat × Nat × Nat) → Bool
  | [] => false
  | b :: l => cond (Nat.beq a.1 b.1) (cond (Nat.beq a.2.1 b.2.1) (cond (Nat.beq a.2.2.1 b.2.2.1) (cond (Nat.beq a.2.2.2 b.2.2.2) true (elem4 a l)) (elem4 a l)) (elem4 a l)) (elem4 a l)
theorem elem4_in : ∀ (l : List (Nat × Nat × Nat × Nat)) (a : Nat × Nat × Nat × Nat), elem4 a l = true → a ∈ l
  | [], a, h => by simp [elem4] at h
  | b :: l, a, h => by
    by_cases e : a = b
    · exact List.mem_cons.mpr (Or.inl e)
    · refine List.mem_cons.mpr (Or.inr (elem4_in l a ?_))
      obtain ⟨a1, a2, a3, a4⟩ := a
      obtain ⟨b1, b2, b3, b4⟩ := b
      unfold elem4 at h
      dsimp only at h
      cases h1 : Nat.beq a1 b1 <;> cases h2 : Nat.beq a2 b2 <;> cases h3 : Nat.beq a3 b3 <;> cases h4 : Nat.beq a4 b4 <;> simp only [h1, h2, h3, h4, cond_true, cond_false] at h <;> first | exact h | skip
      have e1 := Nat.eq_of_beq_eq_true h1
      have e2 := Nat.eq_of_beq_eq_true h2
      have e3 := Nat.eq_of_beq_eq_true h3
      have e4 := Nat.eq_of_beq_eq_true h4
      subst e1; subst e2; subst e3; subst e4
      exact absurd rfl e
def eq4 (a b : Nat × Nat × Nat × Nat) : Bool := cond (Nat.beq a.1 b.1) (cond (Nat.beq a.2.1 b.2.1) (cond (Nat.beq a.2.2.1 b.2.2.1) (Nat.beq a.2.2.2 b.2.2.2) false) false) false
theorem eq4_eq {a b : Nat × Nat × Nat × Nat} (h : eq4 a b = true) : a = b := by
  obtain ⟨a1, a2, a3, a4⟩ := a
  obtain ⟨b1, b2, b3, b4⟩ := b
  unfold eq4 at h
  simp only at h
  cases e1 : Nat.beq a1 b1 <;> simp only [e1, cond_true, cond_false] at h <;> first | exact absurd h (by decide) | skip
  cases e2 : Nat.beq a2 b2 <;> simp only [e2, cond_true, cond_false] at h <;> first | exact absurd h (by decide) | skip
  cases e3 : Nat.beq a3 b3 <;> simp only [e3, cond_true, cond_false] at h <;> first | exact absurd h (by decide) | skip
  rw [Nat.eq_of_beq_eq_true e1, Nat.eq_of_beq_eq_true e2, Nat.eq_of_beq_eq_true e3, Nat.eq_of_beq_eq_true h]
def eqTab : Nat → List (Nat × Nat × Nat × Nat) → Bool
  | _, [] => true
  | i, b :: l => cond (eq4 (wAt i) b) (eqTab (i + 1) l) false
theorem eqTab_in : ∀ (l : List (Nat × Nat × Nat × Nat)) (i : Nat), eqTab i l = true → ∀ j, j < l.length → wAt (i + j) ∈ l
  | [], i, h, j, hj => absurd hj (by simp)
  | b :: l, i, h, j, hj => by
    unfold eqTab at h
    cases e : eq4 (wAt i) b <;> simp only [e, cond_true, cond_false] at h
    · exact absurd h (by decide)
    · cases j with
      | zero => exact List.mem_cons.mpr (Or.inl (eq4_eq e))
      | succ j =>
        refine List.mem_cons.mpr (Or.inr ?_)
        have t := eqTab_in l (i + 1) h j (by simpa using hj)
        rw [show i + (j + 1) = i + 1 + j by omega]
        exact t
set_option maxRecDepth 100000 in
theorem wTab : eqTab 0 wcs = true := by decide +kernel
set_option maxRecDepth 100000 in
theorem wLen : wcs.length = nW := by decide +kernel
def elemP (a : Nat × Nat × Nat × Nat) (p : Nat) : Bool := cond (Nat.blt p nW) (eq4 (wAt p) a) false
def elemW (a : Nat × Nat × Nat × Nat) : Bool := elemP a (wPos ((a.1 * 1000 + a.2.1) * 10000 + a.2.2.1))
theorem elemW_in {a : Nat × Nat × Nat × Nat} (h : elemW a = true) : a ∈ wcs := by
  unfold elemW elemP at h
  cases e : Nat.blt (wPos ((a.1 * 1000 + a.2.1) * 10000 + a.2.2.1)) nW <;> simp only [e, cond_true, cond_false] at h
  · exact absurd h (by decide)
  · have hl : wPos ((a.1 * 1000 + a.2.1) * 10000 + a.2.2.1) < wcs.length := by
      rw [wLen]
      exact Nat.le_of_ble_eq_true e
    have t := eqTab_in wcs 0 wTab _ hl
    rw [Nat.zero_add, eq4_eq h] at t
    exact t
def allL {α : Type} (f : α → Bool) : List α → Bool
  | [] => true
  | a :: l => cond (f a) (allL f l) false
theorem allL_in {α : Type} {f : α → Bool} : ∀ {l : List α}, allL f l = true → ∀ a ∈ l, f a = true
  | [], _, a, h => absurd h List.not_mem_nil
  | b :: l, h, a, ha => by
    unfold allL at h
    cases hb : f b <;> simp only [hb, cond_true, cond_false] at h
    · exact absurd h (by decide)
    · rcases List.mem_cons.mp ha with e | e
      · rw [e]; exact hb
      · exact allL_in h a e
/-- a private method of a class that the tables say can be made, by its rows of tables_1 -/
def lw_okq (q : MethodName × Nat) : Prop := (q.1.cls ≠ "java/lang/invoke/MethodHandle" ∧ q.1.cls ≠ "java/lang/invoke/VarHandle") ∧ Cond.instantiable q.1.cls q.2 ∈ tables_1 ∧ Cond.privateMethod q.1 ∈ tables_1 ∧ Cond.instanceMethod q.1 ∈ tables_1
def lw_privs : List (MethodName × Nat) := pvs.map fun m => (mN m, nF (mCls m))
def lw_tbl : List Cond := k2_sels lw_privs ++ tables_1
theorem cN_plain : ∀ a, a < 60 → cN a ≠ "java/lang/invoke/MethodHandle" ∧ cN a ≠ "java/lang/invoke/VarHandle" := by decide +kernel
theorem mOwn_all : allL (fun m => Nat.blt (mOwn m) 60) (List.range 264) = true := by decide +kernel
theorem pvs_all : allL (fun m => cond (Nat.beq (mOwn m) (mCls m)) (cond (Nat.blt (mOwn m) 9) (cond (elemW (7, mCls m, 0, 0)) (cond (elemW (5, m, 0, 0)) (elemW (2, m, 0, 0)) false) false) false) false) pvs = true := by decide +kernel
theorem wd_7 (c : Nat) : wd (7, c, 0, 0) = Cond.instantiable (cN c) (nF c) := rfl
theorem wd_5 (m : Nat) : wd (5, m, 0, 0) = Cond.privateMethod (mN m) := rfl
theorem wd_2 (m : Nat) : wd (2, m, 0, 0) = Cond.instanceMethod (mN m) := rfl
theorem band5 {a b c d e : Bool} (h : cond a (cond b (cond c (cond d e false) false) false) false = true) : a = true ∧ b = true ∧ c = true ∧ d = true ∧ e = true := by
  cases a <;> cases b <;> cases c <;> cases d <;> cases e <;> first | exact ⟨rfl, rfl, rfl, rfl, rfl⟩ | exact absurd h (by decide)
theorem lw_okq_of {m : Nat} (h1 : mOwn m = mCls m) (l1 : mOwn m < 60) (h3 : Cond.instantiable (cN (mCls m)) (nF (mCls m)) ∈ tables_1) (h4 : Cond.privateMethod (mN m) ∈ tables_1) (h5 : Cond.instanceMethod (mN m) ∈ tables_1) : lw_okq (mN m, nF (mCls m)) :=
  ⟨cN_plain _ l1, by rw [← h1] at h3; rw [← h1]; exact h3, h4, h5⟩
theorem lw_privs_ok : ∀ q ∈ lw_privs, lw_okq q := by
  intro q hq
  obtain ⟨m, hm, rfl⟩ := List.mem_map.mp hq
  have h := allL_in pvs_all m hm
  obtain ⟨h1, h2, h3, h4, h5⟩ := band5 h
  have z : mOwn m + 1 ≤ 9 := Nat.le_of_ble_eq_true h2
  have k3 := wcs_in (7, mCls m, 0, 0) (elemW_in h3)
  have k4 := wcs_in (5, m, 0, 0) (elemW_in h4)
  have k5 := wcs_in (2, m, 0, 0) (elemW_in h5)
  rw [wd_7] at k3
  rw [wd_5] at k4
  rw [wd_2] at k5
  exact lw_okq_of (Nat.eq_of_beq_eq_true h1) (by omega) k3 k4 k5
/-- the words that every method is given: all but those of the private methods, which have given their 'selects' -/
def wcg : List (Nat × Nat × Nat × Nat) := wcs.filter fun q => !(Nat.beq q.1 5)
def gw : List Cond := k2_sels lw_privs ++ wcg.map wd
theorem gw_good : gw.all goodWord = true := by decide +kernel
theorem gw_in : ∀ w ∈ gw, w ∈ lw_tbl := by
  intro w h
  rcases List.mem_append.mp h with h | h
  · exact List.mem_append_left _ h
  · obtain ⟨q, hq, e⟩ := List.mem_map.mp h
    subst e
    exact List.mem_append_right _ (wcs_in q (List.mem_filter.mp hq).1)
theorem gw_of {q : Nat × Nat × Nat × Nat} (h : elemW q = true) (h5 : Nat.beq q.1 5 = false) : wd q ∈ gw :=
  List.mem_append_right _ (List.mem_map_of_mem (List.mem_filter.mpr ⟨elemW_in h, by rw [h5]; rfl⟩))
theorem gw_sel {m : Nat} (h : m ∈ pvs) : Cond.selects (cN (mOwn m)) (mN m) (mN m) ∈ gw :=
  List.mem_append_left _ (List.mem_map_of_mem (f := fun q : MethodName × Nat => Cond.selects q.1.cls q.1 q.1) (List.mem_map_of_mem (f := fun m => (mN m, nF (mCls m))) h))
theorem gw_GoodIn : GoodIn gw gw := fun w h => ⟨h, good_of_word (List.all_eq_true.mp gw_good w h)⟩
theorem wd_0 (a i n : Nat) : wd (0, a, i, n) = Cond.fieldLink (cN a) i (nthF (ffs (n / 100)) (n % 100)).1 (nthF (ffs (n / 100)) (n % 100)).2.1 (nthF (ffs (n / 100)) (n % 100)).2.2.1 := rfl
theorem wd_1 (a i m : Nat) : wd (1, a, i, m) = Cond.methodLink (cN a) i (mN m) := rfl
theorem wd_3 (m : Nat) : wd (3, m, 0, 0) = Cond.code (mN m) (mCode m) (mMaxL m) (mRetT m) := rfl
theorem wd_4 (m : Nat) : wd (4, m, 0, 0) = Cond.static (mN m) := rfl
theorem wd_6 (a i c : Nat) : wd (6, a, i, c) = Cond.classLink (cN a) i (cN c) := rfl
theorem wd_8 (a : Nat) : wd (8, a, 0, 0) = Cond.initialized (cN a) := rfl
theorem wd_9 (c f : Nat) : wd (9, c, f, 0) = u_lay (cN c) (cTb c) f := rfl
theorem wd_10 (a i j : Nat) : wd (10, a, i, j) = Cond.constant (cN a) i (Int32.ofInt (kCon j)) := rfl
theorem wd_11 (a i j : Nat) : wd (11, a, i, j) = Cond.constantLong (cN a) i (Int64.ofInt (kConL j)) := rfl
theorem wd_12 (j : Nat) : wd (12, j, 0, 0) = Cond.arrayClass (aT j) := rfl
theorem wd_13 (m : Nat) : wd (13, m, 0, 0) = Cond.selects (cN (mOwn m)) (mN m) (mN m) := rfl
theorem wd_20 (a i : Nat) : wd (20, a, i, 0) = Cond.methodLink (cN a) i objectInit := rfl
theorem wd_21 (a i : Nat) : wd (21, a, i, 0) = Cond.methodLink (cN a) i arraycopyName := rfl
theorem wd_22 (a i : Nat) : wd (22, a, i, 0) = Cond.methodLink (cN a) i Lib.Math.min.name := rfl
theorem wd_23 (a i : Nat) : wd (23, a, i, 0) = Cond.methodLink (cN a) i Lib.Math.max.name := rfl
theorem wd_24 (a i : Nat) : wd (24, a, i, 0) = Cond.methodLink (cN a) i ⟨"java/lang/String", "length", "()I"⟩ := rfl
theorem wd_25 (a i : Nat) : wd (25, a, i, 0) = Cond.methodLink (cN a) i ⟨"java/lang/String", "charAt", "(I)C"⟩ := rfl
end
section
/-! THE SMALL MACHINE: values, store, one step, runs with fuel; 'cod' and the other tables stand ahead. -/
abbrev MV : Type := Int ⊕ (Int ⊕ ((Nat × Nat) ⊕ Unit))
abbrev vI (x : Int) : MV := .inl x
abbrev vJ (x : Int) : MV := .inr (.inl x)
abbrev vR (k i : Nat) : MV := .inr (.inr (.inl (k, i)))
abbrev vX : MV := .inr (.inr (.inr ()))
abbrev Sto : Type := Nat → Nat → Nat → Int
/-- cells made so far; fields of references that are not put yet; what stands in the cells -/
abbrev MS : Type := Nat × List (Nat × Nat × Nat) × Sto
abbrev Out : Type := Option MV × MS
def w32 (x : Int) : Int := (x + 2147483648) % 4294967296 - 2147483648
def w64 (x : Int) : Int := (x + 9223372036854775808) % 18446744073709551616 - 9223372036854775808
def w8 (x : Int) : Int := (x + 128) % 256 - 128
def bAnd (a b : Int) : Int := (Int32.ofInt a &&& Int32.ofInt b).toInt
def bOr (a b : Int) : Int := (Int32.ofInt a ||| Int32.ofInt b).toInt
def bXor (a b : Int) : Int := (Int32.ofInt a ^^^ Int32.ofInt b).toInt
def jOr (a b : Int) : Int := (Int64.ofInt a ||| Int64.ofInt b).toInt
def shl32 (a b : Int) : Int := (Int32.ofInt a <<< (Int32.ofInt b &&& 31)).toInt
def shr32 (a b : Int) : Int := (Int32.ofInt a >>> (Int32.ofInt b &&& 31)).toInt
def shl64 (a b : Int) : Int := (Int64.ofInt a <<< ((Int32.ofInt b).toInt64 &&& 63)).toInt
def shr64 (a b : Int) : Int := (Int64.ofInt a >>> ((Int32.ofInt b).toInt64 &&& 63)).toInt
def ushr64 (a b : Int) : Int := ((Int64.ofInt a).toUInt64 >>> ((Int32.ofInt b).toInt64.toUInt64 &&& Int64.toUInt64 63)).toInt64.toInt
def nth {α : Type} : List α → Nat → Option α
  | [], _ => none
  | a :: _, 0 => some a
  | _ :: l, n + 1 => nth l n
def setn {α : Type} : List α → Nat → α → List α
  | [], _, _ => []
  | _ :: l, 0, v => v :: l
  | a :: l, n + 1, v => a :: setn l n v
def isJ : MV → Bool
  | .inr (.inl _) => true
  | _ => false
/-- a long ahead of a place that is written is no value any more -/
def clr (L : List MV) : Nat → List MV
  | 0 => L
  | i + 1 => match nth L i with
    | some v => cond (isJ v) (setn L i vX) L
    | none => L
def sup (σ : Sto) (k i j : Nat) (v : Int) : Sto := fun k' i' j' => if k' = k ∧ i' = i ∧ j' = j then v else σ k' i' j'
def zro (σ : Sto) (k i : Nat) : Sto := fun k' i' j' => if k' = k ∧ i' = i then 0 else σ k' i' j'
def cpy (σ : Sto) (k i sp k2 i2 dp n : Nat) : Sto := fun k' i' j' => if k' = k2 ∧ i' = i2 ∧ dp ≤ j' ∧ j' < dp + n then σ k i (sp + (j' - dp)) else σ k' i' j'
def elemN (a : Nat) : List Nat → Bool
  | [] => false
  | b :: l => cond (Nat.beq a b) true (elemN a l)
def elem3 (a : Nat × Nat × Nat) : List (Nat × Nat × Nat) → Bool
  | [] => false
  | b :: l => cond (Nat.beq a.1 b.1) (cond (Nat.beq a.2.1 b.2.1) (cond (Nat.beq a.2.2 b.2.2) true (elem3 a l)) (elem3 a l)) (elem3 a l)
def rem3 (a : Nat × Nat × Nat) : List (Nat × Nat × Nat) → List (Nat × Nat × Nat)
  | [] => []
  | b :: l => cond (Nat.beq a.1 b.1) (cond (Nat.beq a.2.1 b.2.1) (cond (Nat.beq a.2.2 b.2.2) (rem3 a l) (b :: rem3 a l)) (b :: rem3 a l)) (b :: rem3 a l)
/-- length of a row: the script's is a number of its own -/
def kLenN (N k : Nat) : Int := cond (Nat.beq k 999) (N : Int) (kLenZ k)
def wordsOf : List MV → Nat
  | [] => 0
  | .inr (.inl _) :: l => wordsOf l + 2
  | .inl _ :: l => wordsOf l + 1
  | .inr (.inr _) :: l => wordsOf l + 1
abbrev KT (β : Type) : Type := Nat → List MV → List MV → MS → β
section XS
variable {β : Type}
def x_iload (i pc : Nat) (L st : List MV) (S : MS) (K : KT β) (z : β) : β := match nth L i with
  | some (.inl x) => K (pc + 1) L (vI x :: st) S
  | _ => z
def x_lload (i pc : Nat) (L st : List MV) (S : MS) (K : KT β) (z : β) : β := match nth L i with
  | some (.inr (.inl x)) => K (pc + 1) L (vJ x :: st) S
  | _ => z
def x_aload (i pc : Nat) (L st : List MV) (S : MS) (K : KT β) (z : β) : β := match nth L i with
  | some (.inr (.inr (.inl q))) => K (pc + 1) L (.inr (.inr (.inl q)) :: st) S
  | _ => z
def x_istore (i pc : Nat) (L st : List MV) (S : MS) (K : KT β) (z : β) : β := match st with
  | .inl x :: st => K (pc + 1) (setn L i (vI x)) st S
  | _ => z
def x_astore (i pc : Nat) (L st : List MV) (S : MS) (K : KT β) (z : β) : β := match st with
  | .inr (.inr (.inl q)) :: st => K (pc + 1) (setn L i (.inr (.inr (.inl q)))) st S
  | _ => z
def x_lstore (i pc : Nat) (L st : List MV) (S : MS) (K : KT β) (z : β) : β := match st with
  | .inr (.inl x) :: st => K (pc + 1) (setn (setn (clr L i) i (vJ x)) (i + 1) vX) st S
  | _ => z
def x_iinc (i : Nat) (c : Int) (pc : Nat) (L st : List MV) (S : MS) (K : KT β) (z : β) : β := match nth L i with
  | some (.inl x) => K (pc + 1) (setn L i (vI (w32 (x + c)))) st S
  | _ => z
def x_iop (f : Int → Int → Int) (pc : Nat) (L st : List MV) (S : MS) (K : KT β) (z : β) : β := match st with
  | .inl b :: .inl a :: st => K (pc + 1) L (vI (f a b) :: st) S
  | _ => z
def x_iopc (f : Int → Int → Int) (pc : Nat) (L st : List MV) (S : MS) (K : KT β) (z : β) : β := match st with
  | .inl b :: .inl a :: st => cond (Nat.ble (wordsOf st) 8) (K (pc + 1) L (vI (f a b) :: st) S) z
  | _ => z
def x_idv (f : Int → Int → Int) (pc : Nat) (L st : List MV) (S : MS) (K : KT β) (z : β) : β := match st with
  | .inl b :: .inl a :: st => if b = 0 then z else K (pc + 1) L (vI (f a b) :: st) S
  | _ => z
def x_lop (f : Int → Int → Int) (pc : Nat) (L st : List MV) (S : MS) (K : KT β) (z : β) : β := match st with
  | .inr (.inl b) :: .inr (.inl a) :: st => K (pc + 1) L (vJ (f a b) :: st) S
  | _ => z
def x_ldv (f : Int → Int → Int) (pc : Nat) (L st : List MV) (S : MS) (K : KT β) (z : β) : β := match st with
  | .inr (.inl b) :: .inr (.inl a) :: st => if b = 0 then z else K (pc + 1) L (vJ (f a b) :: st) S
  | _ => z
def x_lsh (f : Int → Int → Int) (pc : Nat) (L st : List MV) (S : MS) (K : KT β) (z : β) : β := match st with
  | .inl b :: .inr (.inl a) :: st => K (pc + 1) L (vJ (f a b) :: st) S
  | _ => z
def x_lcmp (pc : Nat) (L st : List MV) (S : MS) (K : KT β) (z : β) : β := match st with
  | .inr (.inl b) :: .inr (.inl a) :: st => if a < b then K (pc + 1) L (vI (-1) :: st) S else if a = b then K (pc + 1) L (vI 0 :: st) S else K (pc + 1) L (vI 1 :: st) S
  | _ => z
def x_i2l (pc : Nat) (L st : List MV) (S : MS) (K : KT β) (z : β) : β := match st with
  | .inl a :: st => K (pc + 1) L (vJ a :: st) S
  | _ => z
def x_l2i (pc : Nat) (L st : List MV) (S : MS) (K : KT β) (z : β) : β := match st with
  | .inr (.inl a) :: st => K (pc + 1) L (vI (w32 a) :: st) S
  | _ => z
def x_i2b (pc : Nat) (L st : List MV) (S : MS) (K : KT β) (z : β) : β := match st with
  | .inl a :: st => K (pc + 1) L (vI (w8 a) :: st) S
  | _ => z
def x_dup (pc : Nat) (L st : List MV) (S : MS) (K : KT β) (z : β) : β := match st with
  | v :: st => cond (isJ v) z (K (pc + 1) L (v :: v :: st) S)
  | _ => z
def x_dup2 (pc : Nat) (L st : List MV) (S : MS) (K : KT β) (z : β) : β := match st with
  | v :: u :: st => cond (isJ v) z (cond (isJ u) z (K (pc + 1) L (v :: u :: v :: u :: st) S))
  | _ => z
def x_pop (pc : Nat) (L st : List MV) (S : MS) (K : KT β) (z : β) : β := match st with
  | v :: st => cond (isJ v) z (K (pc + 1) L st S)
  | _ => z
def x_icmp (c : Jvm.ClassFile.Cond) (t pc : Nat) (L st : List MV) (S : MS) (K : KT β) (z : β) : β := match st with
  | .inl b :: .inl a :: st => match c with
    | .lt => if a < b then K t L st S else K (pc + 1) L st S
    | .ge => if a < b then K (pc + 1) L st S else K t L st S
    | .gt => if b < a then K t L st S else K (pc + 1) L st S
    | .le => if b < a then K (pc + 1) L st S else K t L st S
    | .eq => if a = b then K t L st S else K (pc + 1) L st S
    | .ne => if a = b then K (pc + 1) L st S else K t L st S
  | _ => z
def x_if (c : Jvm.ClassFile.Cond) (t pc : Nat) (L st : List MV) (S : MS) (K : KT β) (z : β) : β := match st with
  | .inl a :: st => match c with
    | .lt => if a < 0 then K t L st S else K (pc + 1) L st S
    | .ge => if a < 0 then K (pc + 1) L st S else K t L st S
    | .gt => if 0 < a then K t L st S else K (pc + 1) L st S
    | .le => if 0 < a then K (pc + 1) L st S else K t L st S
    | .eq => if a = 0 then K t L st S else K (pc + 1) L st S
    | .ne => if a = 0 then K (pc + 1) L st S else K t L st S
  | _ => z
def x_ifnull (pc : Nat) (L st : List MV) (S : MS) (K : KT β) (z : β) : β := match st with
  | .inr (.inr (.inl _)) :: st => K (pc + 1) L st S
  | _ => z
/-- a switch over low .. : one test a place, from the first on -/
def x_sw (L st : List MV) (S : MS) (K : KT β) (d : Nat) (a : Int) : Int → List Int → β
  | _, [] => K d L st S
  | lo, t :: ts => if a = lo then K t.toNat L st S else x_sw L st S K d a (lo + 1) ts
def x_switch (d : Nat) (lo : Int) (ts : List Int) (L st : List MV) (S : MS) (K : KT β) (z : β) : β := match st with
  | .inl a :: st => x_sw L st S K d a lo ts
  | _ => z
/-- n: the object's kind of class * 100 and the field's place -/
def x_get (n pc : Nat) (L st : List MV) (S : MS) (K : KT β) (z : β) : β := match st with
  | .inr (.inr (.inl (k, i))) :: st => cond (Nat.beq (kCls k) (n / 100)) (match fTy (n / 100) (n % 100) with
    | 0 => K (pc + 1) L (vI (S.2.2 k i (n % 100)) :: st) S
    | 1 => K (pc + 1) L (vI (S.2.2 k i (n % 100)) :: st) S
    | 2 => K (pc + 1) L (vJ (S.2.2 k i (n % 100)) :: st) S
    | 3 => cond (elem3 (k, i, n % 100) S.2.1) z (K (pc + 1) L (.inr (.inr (.inl (fRef k i (n % 100)))) :: st) S)
    | _ => z) z
  | _ => z
def x_put (n pc : Nat) (L st : List MV) (S : MS) (K : KT β) (z : β) : β := match st with
  | v :: .inr (.inr (.inl (k, i))) :: st => cond (Nat.beq (kCls k) (n / 100)) (match fTy (n / 100) (n % 100), v with
    | 0, .inl x => K (pc + 1) L st (S.1, S.2.1, sup S.2.2 k i (n % 100) x)
    | 1, .inl x => if x = 0 then K (pc + 1) L st (S.1, S.2.1, sup S.2.2 k i (n % 100) x) else if x = 1 then K (pc + 1) L st (S.1, S.2.1, sup S.2.2 k i (n % 100) x) else z
    | 2, .inr (.inl x) => K (pc + 1) L st (S.1, S.2.1, sup S.2.2 k i (n % 100) x)
    | 3, .inr (.inr (.inl q)) => cond (Nat.beq q.1 (fRef k i (n % 100)).1) (cond (Nat.beq q.2 (fRef k i (n % 100)).2) (K (pc + 1) L st (S.1, rem3 (k, i, n % 100) S.2.1, S.2.2)) z) z
    | _, _ => z) z
  | _ => z
def x_alen (N pc : Nat) (L st : List MV) (S : MS) (K : KT β) (z : β) : β := match st with
  | .inr (.inr (.inl (k, _))) :: st => match kTag k with
    | 1 => K (pc + 1) L (vI (kLenN N k) :: st) S
    | 2 => K (pc + 1) L (vI (kLenN N k) :: st) S
    | 3 => K (pc + 1) L (vI (kLenN N k) :: st) S
    | 4 => K (pc + 1) L (vI (kLenN N k) :: st) S
    | _ => z
  | _ => z
def x_iald (N pc : Nat) (L st : List MV) (S : MS) (K : KT β) (z : β) : β := match st with
  | .inl j :: .inr (.inr (.inl (k, i))) :: st => match kTag k with
    | 1 => if j < 0 then z else if j < kLenN N k then K (pc + 1) L (vI (S.2.2 k i j.toNat) :: st) S else z
    | 4 => if j < 0 then z else if j < kLenN N k then K (pc + 1) L (vI (S.2.2 k i j.toNat) :: st) S else z
    | _ => z
  | _ => z
def x_bald (N pc : Nat) (L st : List MV) (S : MS) (K : KT β) (z : β) : β := match st with
  | .inl j :: .inr (.inr (.inl (k, i))) :: st => match kTag k with
    | 2 => if j < 0 then z else if j < kLenN N k then K (pc + 1) L (vI (S.2.2 k i j.toNat) :: st) S else z
    | _ => z
  | _ => z
def x_lald (N pc : Nat) (L st : List MV) (S : MS) (K : KT β) (z : β) : β := match st with
  | .inl j :: .inr (.inr (.inl (k, i))) :: st => match kTag k with
    | 3 => if j < 0 then z else if j < kLenN N k then K (pc + 1) L (vJ (S.2.2 k i j.toNat) :: st) S else z
    | _ => z
  | _ => z
def x_iast (N pc : Nat) (L st : List MV) (S : MS) (K : KT β) (z : β) : β := match st with
  | .inl x :: .inl j :: .inr (.inr (.inl (k, i))) :: st => match kTag k with
    | 1 => if j < 0 then z else if j < kLenN N k then K (pc + 1) L st (S.1, S.2.1, sup S.2.2 k i j.toNat x) else z
    | _ => z
  | _ => z
def x_bast (N pc : Nat) (L st : List MV) (S : MS) (K : KT β) (z : β) : β := match st with
  | .inl x :: .inl j :: .inr (.inr (.inl (k, i))) :: st => match kTag k with
    | 2 => if j < 0 then z else if j < kLenN N k then K (pc + 1) L st (S.1, S.2.1, sup S.2.2 k i j.toNat (w8 x)) else z
    | _ => z
  | _ => z
def x_last (N pc : Nat) (L st : List MV) (S : MS) (K : KT β) (z : β) : β := match st with
  | .inr (.inl x) :: .inl j :: .inr (.inr (.inl (k, i))) :: st => match kTag k with
    | 3 => if j < 0 then z else if j < kLenN N k then K (pc + 1) L st (S.1, S.2.1, sup S.2.2 k i j.toNat x) else z
    | _ => z
  | _ => z
def x_new (ci pc : Nat) (L st : List MV) (S : MS) (K : KT β) (z : β) : β := match nth ords S.1 with
  | some (k, i) => cond (Nat.beq (kTag k) 0) (cond (Nat.beq (kCls k) ci) (K (pc + 1) L (vR k i :: st) (S.1 + 1, S.2.1 ++ refSlots k i, zro S.2.2 k i)) z) z
  | none => z
def tagOf : ArrayType → Nat
  | .int => 1
  | .byte => 2
  | .long => 3
  | _ => 0
def x_newa (t pc : Nat) (L st : List MV) (S : MS) (K : KT β) (z : β) : β := match st with
  | .inl n :: st => match nth ords S.1 with
    | some (k, i) => cond (Nat.beq (kTag k) t) (cond (Nat.beq t 0) z (if n = kLenZ k then K (pc + 1) L (vR k i :: st) (S.1 + 1, S.2.1, zro S.2.2 k i) else z)) z
    | none => z
  | _ => z
def x_copy (N pc : Nat) (L st : List MV) (S : MS) (K : KT β) (z : β) : β := match st with
  | .inl n :: .inl dp :: .inr (.inr (.inl (k2, i2))) :: .inl sp :: .inr (.inr (.inl (k, i))) :: st => cond (Nat.beq (kTag k) 1) (cond (Nat.beq (kTag k2) 1)
     (if n < 0 then z else if sp < 0 then z else if dp < 0 then z else if kLenN N k < sp + n then z else if kLenN N k2 < dp + n then z else
       cond (Nat.ble (wordsOf st) 8) (K (pc + 1) L st (S.1, S.2.1, cpy S.2.2 k i sp.toNat k2 i2 dp.toNat n.toNat)) z) z) z
  | _ => z
def x_slen (pc : Nat) (L st : List MV) (S : MS) (K : KT β) (z : β) : β := match st with
  | .inr (.inr (.inl (k, i))) :: st => cond (Nat.beq k 1000) (cond (Nat.ble (wordsOf st) 8) (K (pc + 1) L (vI (sLen i) :: st) S) z) z
  | _ => z
def x_schr (pc : Nat) (L st : List MV) (S : MS) (K : KT β) (z : β) : β := match st with
  | .inl j :: .inr (.inr (.inl (k, i))) :: st => cond (Nat.beq k 1000) (if j < 0 then z else if j < sLen i then cond (Nat.ble (wordsOf st) 8) (K (pc + 1) L (vI (sChr i j.toNat) :: st) S) z else z) z
  | _ => z
def x_obj (pc : Nat) (L st : List MV) (S : MS) (K : KT β) (z : β) : β := match st with
  | .inr (.inr (.inl (_, _))) :: st => cond (Nat.ble (wordsOf st) 8) (K (pc + 1) L st S) z
  | _ => z
/-- one step of what is neither a call nor an end -/
def stp (N : Nat) (ins : Instr) (pc : Nat) (L st : List MV) (S : MS) (K : KT β) (z : β) : β := match ins with
  | .iload i => x_iload i pc L st S K z
  | .aload i => x_aload i pc L st S K z
  | .lload i => x_lload i pc L st S K z
  | .istore i => x_istore i pc L st S K z
  | .astore i => x_astore i pc L st S K z
  | .lstore i => x_lstore i pc L st S K z
  | .fstore i => x_istore i pc (clr L i) st S K z
  | .dstore i => x_astore i pc (clr L i) st S K z
  | .iconst v => K (pc + 1) L (vI v :: st) S
  | .jsr_w v => K (pc + 1) L (vJ v :: st) S
  | .ldc i => K (pc + 1) L (vR 1000 i :: st) S
  | .iinc i c => x_iinc i c pc L st S K z
  | .iadd => x_iop (fun a b => w32 (a + b)) pc L st S K z
  | .isub => x_iop (fun a b => w32 (a - b)) pc L st S K z
  | .imul => x_iop (fun a b => w32 (a * b)) pc L st S K z
  | .iand => x_iop bAnd pc L st S K z
  | .ior => x_iop bOr pc L st S K z
  | .ixor => x_iop bXor pc L st S K z
  | .ishl => x_iop shl32 pc L st S K z
  | .ishr => x_iop shr32 pc L st S K z
  | .idiv => x_idv (fun a b => w32 (a.tdiv b)) pc L st S K z
  | .irem => x_idv Int.tmod pc L st S K z
  | .dadd => x_iopc (fun a b => min a b) pc L st S K z
  | .dsub => x_iopc (fun a b => max a b) pc L st S K z
  | .ladd => x_lop (fun a b => w64 (a + b)) pc L st S K z
  | .lmul => x_lop (fun a b => w64 (a * b)) pc L st S K z
  | .lor => x_lop jOr pc L st S K z
  | .ldiv => x_ldv (fun a b => w64 (a.tdiv b)) pc L st S K z
  | .lrem => x_ldv Int.tmod pc L st S K z
  | .lshl => x_lsh shl64 pc L st S K z
  | .lshr => x_lsh shr64 pc L st S K z
  | .lushr => x_lsh ushr64 pc L st S K z
  | .lcmp => x_lcmp pc L st S K z
  | .i2l => x_i2l pc L st S K z
  | .l2i => x_l2i pc L st S K z
  | .i2b => x_i2b pc L st S K z
  | .dup => x_dup pc L st S K z
  | .dup2 => x_dup2 pc L st S K z
  | .pop => x_pop pc L st S K z
  | .goto t => K t.toNat L st S
  | .if_icmp c t => x_icmp c t.toNat pc L st S K z
  | .ifCond c t => x_if c t.toNat pc L st S K z
  | .ifnull _ => x_ifnull pc L st S K z
  | .tableswitch d lo _ ts => x_switch d.toNat lo ts.toList L st S K z
  | .getfield n => x_get n pc L st S K z
  | .putfield n => x_put n pc L st S K z
  | .arraylength => x_alen N pc L st S K z
  | .iaload => x_iald N pc L st S K z
  | .baload => x_bald N pc L st S K z
  | .laload => x_lald N pc L st S K z
  | .iastore => x_iast N pc L st S K z
  | .bastore => x_bast N pc L st S K z
  | .lastore => x_last N pc L st S K z
  | .new ci => x_new ci pc L st S K z
  | .newarray t => x_newa (tagOf t) pc L st S K z
  | .dmul => x_copy N pc L st S K z
  | .ddiv => x_slen pc L st S K z
  | .drem => x_schr pc L st S K z
  | .dneg => x_obj pc L st S K z
  | _ => z
end XS
def push : Option MV → List MV → List MV
  | none, st => st
  | some v, st => v :: st
/-- the n topmost values, the deepest first, and what is below them -/
def takeR : Nat → List MV → List MV → Option (List MV × List MV)
  | 0, st, acc => some (acc, st)
  | _ + 1, [], _ => none
  | n + 1, v :: st, acc => takeR n st (v :: acc)
def spread : List MV → List MV
  | [] => []
  | .inr (.inl x) :: l => vJ x :: vX :: spread l
  | .inl x :: l => vI x :: spread l
  | .inr (.inr x) :: l => .inr (.inr x) :: spread l
def padX : Nat → List MV → List MV
  | 0, _ => []
  | n + 1, [] => vX :: padX n []
  | n + 1, v :: l => v :: padX n l
def mkL (m : Nat) (as : List MV) : List MV := padX (mMaxL m) (spread as)
/-- the receiver of a method that is not static is an object of its class -/
def noJ : List MV → Bool
  | [] => true
  | v :: l => cond (isJ v) false (noJ l)
/-- the arguments have room among the locals, and are longs only where the method may hold such -/
def argOk (m : Nat) (as : List MV) : Bool := cond (Nat.ble (spread as).length (mMaxL m)) (cond (mLong m) true (noJ as)) false
def recvC (m : Nat) : List MV → Bool
  | .inr (.inr (.inl (k, _))) :: _ => Nat.beq (kCls k) (mCls m)
  | _ => false
def recvOk (m : Nat) (as : List MV) : Bool := cond (argOk m as) (cond (mSt m) true (recvC m as)) false
def bnd (o : Option Out) (f : Option MV → MS → Option Out) : Option Out := match o with
  | some (r, S) => f r S
  | none => none
/-- a call: inv is what the callee does -/
def xcall (inv : Nat → List MV → MS → Option Out) (m pc : Nat) (L st : List MV) (S : MS) (K : KT (Option Out)) : Option Out := match takeR (mArg m) st [] with
  | some (as, rest) => cond (recvOk m as) (cond (Nat.ble (wordsOf rest) 8) (bnd (inv m as S) (fun r S' => K (pc + 1) L (push r rest) S')) none) none
  | none => none
def xret (m : Nat) (st : List MV) (S : MS) : Option Out := match st with
  | [.inl v] => match mRet m with
    | 1 => some (some (vI v), S)
    | 2 => if v = 0 then some (some (vI v), S) else if v = 1 then some (some (vI v), S) else none
    | _ => none
  | [.inr (.inl v)] => match mRet m with
    | 3 => some (some (vJ v), S)
    | _ => none
  | [.inr (.inr (.inl q))] => match mRet m with
    | 4 => some (some (.inr (.inr (.inl q))), S)
    | _ => none
  | [] => match mRet m with
    | 0 => some (none, S)
    | _ => none
  | _ => none
def one (N m : Nat) (inv : Nat → List MV → MS → Option Out) (ins : Instr) (pc : Nat) (L st : List MV) (S : MS) (K : KT (Option Out)) : Option Out := match ins with
  | .ireturn => xret m st S
  | .lreturn => xret m st S
  | .areturn => xret m st S
  | .return_ => xret m st S
  | .invokestatic k => xcall inv k pc L st S K
  | .invokevirtual k => xcall inv k pc L st S K
  | .invokespecial k => xcall inv k pc L st S K
  | ins => stp N ins pc L st S K none
def exec (N : Nat) : Nat → Nat → Nat → List MV → List MV → MS → Option Out
  | 0, _, _, _, _, _ => none
  | F + 1, m, pc, L, st, S => match nth (cod m) pc with
    | none => none
    | some ins => one N m (fun k as S => exec N F k 0 (mkL k as) [] S) ins pc L st S (exec N F m)
end
section
/-! WHAT A METHOD COMES TO, without fuel -/
def NF (n0 : Nat) (f : ∀ (β : Type), KT β → β → β) : Prop := (∃ (pc' : Nat) (L' st' : List MV) (S' : MS), n0 ≤ S'.1 ∧ ∀ (β : Type) (K : KT β) (z : β), f β K z = K pc' L' st' S') ∨ (∀ (β : Type) (K : KT β) (z : β), f β K z = z)
theorem NF.k {n0 : Nat} (pc : Nat) (L st : List MV) (S : MS) (h : n0 ≤ S.1 := by first | exact Nat.le_refl _ | exact Nat.le_succ _) : NF n0 (fun _ K _ => K pc L st S) := Or.inl ⟨pc, L, st, S, h, fun _ _ _ => rfl⟩
theorem NF.z {n0 : Nat} : NF n0 (fun _ _ z => z) := Or.inr fun _ _ _ => rfl
theorem NF.ite {n0 : Nat} {p : Prop} [d : Decidable p] {f g : ∀ (β : Type), KT β → β → β} (hf : NF n0 f) (hg : NF n0 g) : NF n0 (fun β K z => if p then f β K z else g β K z) := by
  by_cases h : p
  · simp only [h, if_true]; exact hf
  · simp only [h, if_false]; exact hg
theorem NF.cond {n0 : Nat} {b : Bool} {f g : ∀ (β : Type), KT β → β → β} (hf : NF n0 f) (hg : NF n0 g) : NF n0 (fun β K z => cond b (f β K z) (g β K z)) := by
  cases b
  · exact hg
  · exact hf
theorem NF.sw (L st : List MV) (S : MS) (d : Nat) (a : Int) : ∀ (ts : List Int) (lo : Int), NF S.1 (fun _ K _ => x_sw L st S K d a lo ts)
  | [], lo => NF.k d L st S
  | t :: ts, lo => NF.ite (NF.k t.toNat L st S) (NF.sw L st S d a ts (lo + 1))
section NFS
variable {N i pc n : Nat} {L st : List MV} {S : MS}
theorem nf_iload : NF S.1 (fun _ K z => x_iload i pc L st S K z) := by
  unfold x_iload; rcases nth L i with _ | (x | (x | (x | x))) <;> first | exact NF.z | exact NF.k _ _ _ _
theorem nf_lload : NF S.1 (fun _ K z => x_lload i pc L st S K z) := by
  unfold x_lload; rcases nth L i with _ | (x | (x | (x | x))) <;> first | exact NF.z | exact NF.k _ _ _ _
theorem nf_aload : NF S.1 (fun _ K z => x_aload i pc L st S K z) := by
  unfold x_aload; rcases nth L i with _ | (x | (x | (x | x))) <;> first | exact NF.z | exact NF.k _ _ _ _
theorem nf_istore : NF S.1 (fun _ K z => x_istore i pc L st S K z) := by
  unfold x_istore; rcases st with _ | ⟨(x | (x | (x | x))), st⟩ <;> first | exact NF.z | exact NF.k _ _ _ _
theorem nf_astore : NF S.1 (fun _ K z => x_astore i pc L st S K z) := by
  unfold x_astore; rcases st with _ | ⟨(x | (x | (x | x))), st⟩ <;> first | exact NF.z | exact NF.k _ _ _ _
theorem nf_lstore : NF S.1 (fun _ K z => x_lstore i pc L st S K z) := by
  unfold x_lstore; rcases st with _ | ⟨(x | (x | (x | x))), st⟩ <;> first | exact NF.z | exact NF.k _ _ _ _
theorem nf_iinc {c : Int} : NF S.1 (fun _ K z => x_iinc i c pc L st S K z) := by
  unfold x_iinc; rcases nth L i with _ | (x | (x | (x | x))) <;> first | exact NF.z | exact NF.k _ _ _ _
theorem nf_iop {f : Int → Int → Int} : NF S.1 (fun _ K z => x_iop f pc L st S K z) := by
  unfold x_iop; rcases st with _ | ⟨(x | (x | (x | x))), _ | ⟨(y | (y | (y | y))), st⟩⟩ <;> first | exact NF.z | exact NF.k _ _ _ _
theorem nf_iopc {f : Int → Int → Int} : NF S.1 (fun _ K z => x_iopc f pc L st S K z) := by
  unfold x_iopc; rcases st with _ | ⟨(x | (x | (x | x))), _ | ⟨(y | (y | (y | y))), st⟩⟩ <;> first | exact NF.z | exact NF.cond (NF.k _ _ _ _) NF.z
theorem nf_idv {f : Int → Int → Int} : NF S.1 (fun _ K z => x_idv f pc L st S K z) := by
  unfold x_idv; rcases st with _ | ⟨(x | (x | (x | x))), _ | ⟨(y | (y | (y | y))), st⟩⟩ <;> first | exact NF.z | exact NF.k _ _ _ _ | exact NF.ite NF.z (NF.k _ _ _ _)
theorem nf_lop {f : Int → Int → Int} : NF S.1 (fun _ K z => x_lop f pc L st S K z) := by
  unfold x_lop; rcases st with _ | ⟨(x | (x | (x | x))), _ | ⟨(y | (y | (y | y))), st⟩⟩ <;> first | exact NF.z | exact NF.k _ _ _ _
theorem nf_ldv {f : Int → Int → Int} : NF S.1 (fun _ K z => x_ldv f pc L st S K z) := by
  unfold x_ldv; rcases st with _ | ⟨(x | (x | (x | x))), _ | ⟨(y | (y | (y | y))), st⟩⟩ <;> first | exact NF.z | exact NF.k _ _ _ _ | exact NF.ite NF.z (NF.k _ _ _ _)
theorem nf_lsh {f : Int → Int → Int} : NF S.1 (fun _ K z => x_lsh f pc L st S K z) := by
  unfold x_lsh; rcases st with _ | ⟨(x | (x | (x | x))), _ | ⟨(y | (y | (y | y))), st⟩⟩ <;> first | exact NF.z | exact NF.k _ _ _ _
theorem nf_lcmp : NF S.1 (fun _ K z => x_lcmp pc L st S K z) := by
  unfold x_lcmp; rcases st with _ | ⟨(x | (x | (x | x))), _ | ⟨(y | (y | (y | y))), st⟩⟩ <;> first | exact NF.z | exact NF.ite (NF.k _ _ _ _) (NF.ite (NF.k _ _ _ _) (NF.k _ _ _ _))
theorem nf_i2l : NF S.1 (fun _ K z => x_i2l pc L st S K z) := by
  unfold x_i2l; rcases st with _ | ⟨(x | (x | (x | x))), st⟩ <;> first | exact NF.z | exact NF.k _ _ _ _
theorem nf_l2i : NF S.1 (fun _ K z => x_l2i pc L st S K z) := by
  unfold x_l2i; rcases st with _ | ⟨(x | (x | (x | x))), st⟩ <;> first | exact NF.z | exact NF.k _ _ _ _
theorem nf_i2b : NF S.1 (fun _ K z => x_i2b pc L st S K z) := by
  unfold x_i2b; rcases st with _ | ⟨(x | (x | (x | x))), st⟩ <;> first | exact NF.z | exact NF.k _ _ _ _
theorem nf_dup : NF S.1 (fun _ K z => x_dup pc L st S K z) := by
  unfold x_dup; rcases st with _ | ⟨v, st⟩
  · exact NF.z
  · exact NF.cond NF.z (NF.k _ _ _ _)
theorem nf_dup2 : NF S.1 (fun _ K z => x_dup2 pc L st S K z) := by
  unfold x_dup2; rcases st with _ | ⟨v, _ | ⟨u, st⟩⟩
  · exact NF.z
  · exact NF.z
  · exact NF.cond NF.z (NF.cond NF.z (NF.k _ _ _ _))
theorem nf_pop : NF S.1 (fun _ K z => x_pop pc L st S K z) := by
  unfold x_pop; rcases st with _ | ⟨v, st⟩
  · exact NF.z
  · exact NF.cond NF.z (NF.k _ _ _ _)
theorem nf_icmp {c : Jvm.ClassFile.Cond} : NF S.1 (fun _ K z => x_icmp c n pc L st S K z) := by
  unfold x_icmp; rcases st with _ | ⟨(x | (x | (x | x))), _ | ⟨(y | (y | (y | y))), st⟩⟩ <;> first | exact NF.z | (cases c <;> exact NF.ite (NF.k _ _ _ _) (NF.k _ _ _ _))
theorem nf_if {c : Jvm.ClassFile.Cond} : NF S.1 (fun _ K z => x_if c n pc L st S K z) := by
  unfold x_if; rcases st with _ | ⟨(x | (x | (x | x))), st⟩ <;> first | exact NF.z | (cases c <;> exact NF.ite (NF.k _ _ _ _) (NF.k _ _ _ _))
theorem nf_ifnull : NF S.1 (fun _ K z => x_ifnull pc L st S K z) := by
  unfold x_ifnull; rcases st with _ | ⟨(x | (x | (x | x))), st⟩ <;> first | exact NF.z | exact NF.k _ _ _ _
theorem nf_switch {lo : Int} {ts : List Int} : NF S.1 (fun _ K z => x_switch n lo ts L st S K z) := by
  unfold x_switch; rcases st with _ | ⟨(x | (x | (x | x))), st⟩ <;> first | exact NF.z | exact NF.sw _ _ _ _ _ _ _
theorem nf_get : NF S.1 (fun _ K z => x_get n pc L st S K z) := by
  unfold x_get; rcases st with _ | ⟨(x | (x | (x | x))), st⟩ <;> first | exact NF.z | skip
  refine NF.cond ?_ NF.z
  rcases fTy (n / 100) (n % 100) with _ | _ | _ | _ | _ <;> first | exact NF.z | exact NF.k _ _ _ _ | exact NF.cond NF.z (NF.k _ _ _ _)
theorem nf_put : NF S.1 (fun _ K z => x_put n pc L st S K z) := by
  unfold x_put; rcases st with _ | ⟨v, _ | ⟨(y | (y | (y | y))), st⟩⟩ <;> first | exact NF.z | skip
  refine NF.cond ?_ NF.z
  rcases fTy (n / 100) (n % 100) with _ | _ | _ | _ | _ <;> rcases v with (x | (x | (x | x))) <;> first | exact NF.z | exact NF.k _ _ _ _ | exact NF.cond (NF.cond (NF.k _ _ _ _) NF.z) NF.z | exact NF.ite (NF.k _ _ _ _) (NF.ite (NF.k _ _ _ _) NF.z)
theorem nf_alen : NF S.1 (fun _ K z => x_alen N pc L st S K z) := by
  unfold x_alen; rcases st with _ | ⟨(x | (x | (⟨k, j⟩ | x))), st⟩ <;> first | exact NF.z | skip
  dsimp only
  rcases kTag k with _ | _ | _ | _ | _ | _ <;> first | exact NF.z | exact NF.k _ _ _ _
theorem nf_iald : NF S.1 (fun _ K z => x_iald N pc L st S K z) := by
  unfold x_iald; rcases st with _ | ⟨(x | (x | (x | x))), _ | ⟨(y | (y | (⟨k, j⟩ | y))), st⟩⟩ <;> first | exact NF.z | skip
  dsimp only
  rcases kTag k with _ | _ | _ | _ | _ | _ <;> first | exact NF.z | exact NF.ite NF.z (NF.ite (NF.k _ _ _ _) NF.z)
theorem nf_bald : NF S.1 (fun _ K z => x_bald N pc L st S K z) := by
  unfold x_bald; rcases st with _ | ⟨(x | (x | (x | x))), _ | ⟨(y | (y | (⟨k, j⟩ | y))), st⟩⟩ <;> first | exact NF.z | skip
  dsimp only
  rcases kTag k with _ | _ | _ | _ | _ | _ <;> first | exact NF.z | exact NF.ite NF.z (NF.ite (NF.k _ _ _ _) NF.z)
theorem nf_lald : NF S.1 (fun _ K z => x_lald N pc L st S K z) := by
  unfold x_lald; rcases st with _ | ⟨(x | (x | (x | x))), _ | ⟨(y | (y | (⟨k, j⟩ | y))), st⟩⟩ <;> first | exact NF.z | skip
  dsimp only
  rcases kTag k with _ | _ | _ | _ | _ | _ <;> first | exact NF.z | exact NF.ite NF.z (NF.ite (NF.k _ _ _ _) NF.z)
theorem nf_iast : NF S.1 (fun _ K z => x_iast N pc L st S K z) := by
  unfold x_iast; rcases st with _ | ⟨(v | (v | (v | v))), _ | ⟨(x | (x | (x | x))), _ | ⟨(y | (y | (⟨k, j⟩ | y))), st⟩⟩⟩ <;> first | exact NF.z | skip
  dsimp only
  rcases kTag k with _ | _ | _ | _ | _ | _ <;> first | exact NF.z | exact NF.ite NF.z (NF.ite (NF.k _ _ _ _) NF.z)
theorem nf_bast : NF S.1 (fun _ K z => x_bast N pc L st S K z) := by
  unfold x_bast; rcases st with _ | ⟨(v | (v | (v | v))), _ | ⟨(x | (x | (x | x))), _ | ⟨(y | (y | (⟨k, j⟩ | y))), st⟩⟩⟩ <;> first | exact NF.z | skip
  dsimp only
  rcases kTag k with _ | _ | _ | _ | _ | _ <;> first | exact NF.z | exact NF.ite NF.z (NF.ite (NF.k _ _ _ _) NF.z)
theorem nf_last : NF S.1 (fun _ K z => x_last N pc L st S K z) := by
  unfold x_last; rcases st with _ | ⟨(v | (v | (v | v))), _ | ⟨(x | (x | (x | x))), _ | ⟨(y | (y | (⟨k, j⟩ | y))), st⟩⟩⟩ <;> first | exact NF.z | skip
  dsimp only
  rcases kTag k with _ | _ | _ | _ | _ | _ <;> first | exact NF.z | exact NF.ite NF.z (NF.ite (NF.k _ _ _ _) NF.z)
theorem nf_new : NF S.1 (fun _ K z => x_new n pc L st S K z) := by
  unfold x_new; rcases nth ords S.1 with _ | ⟨k, j⟩
  · exact NF.z
  · exact NF.cond (NF.cond (NF.k _ _ _ _) NF.z) NF.z
theorem nf_newa : NF S.1 (fun _ K z => x_newa n pc L st S K z) := by
  unfold x_newa; rcases st with _ | ⟨(x | (x | (x | x))), st⟩ <;> first | exact NF.z | skip
  dsimp only
  rcases nth ords S.1 with _ | ⟨k, j⟩
  · exact NF.z
  · exact NF.cond (NF.cond NF.z (NF.ite (NF.k _ _ _ _) NF.z)) NF.z
theorem nf_slen : NF S.1 (fun _ K z => x_slen pc L st S K z) := by
  unfold x_slen; rcases st with _ | ⟨(x | (x | (x | x))), st⟩ <;> first | exact NF.z | exact NF.cond (NF.cond (NF.k _ _ _ _) NF.z) NF.z
theorem nf_schr : NF S.1 (fun _ K z => x_schr pc L st S K z) := by
  unfold x_schr; rcases st with _ | ⟨(x | (x | (x | x))), _ | ⟨(y | (y | (⟨k, j⟩ | y))), st⟩⟩ <;> first | exact NF.z | exact NF.cond (NF.ite NF.z (NF.ite (NF.cond (NF.k _ _ _ _) NF.z) NF.z)) NF.z
theorem nf_obj : NF S.1 (fun _ K z => x_obj pc L st S K z) := by
  unfold x_obj; rcases st with _ | ⟨(x | (x | (x | x))), st⟩ <;> first | exact NF.z | exact NF.cond (NF.k _ _ _ _) NF.z
theorem nf_copy : NF S.1 (fun _ K z => x_copy N pc L st S K z) := by
  unfold x_copy
  rcases st with _ | ⟨(a1 | (a1 | (a1 | a1))), _ | ⟨(a2 | (a2 | (a2 | a2))), st⟩⟩ <;> first | exact NF.z | skip
  rcases st with _ | ⟨(a3 | (a3 | (⟨k, j⟩ | a3))), _ | ⟨(a4 | (a4 | (a4 | a4))), st⟩⟩ <;> first | exact NF.z | skip
  rcases st with _ | ⟨(a5 | (a5 | (⟨k2, j2⟩ | a5))), st⟩ <;> first | exact NF.z | skip
  exact NF.cond (NF.cond (NF.ite NF.z (NF.ite NF.z (NF.ite NF.z (NF.ite NF.z (NF.ite NF.z (NF.cond (NF.k _ _ _ _) NF.z)))))) NF.z) NF.z
theorem stp_nf (ins : Instr) : NF S.1 (fun _ K z => stp N ins pc L st S K z) := by
  cases ins <;> first | exact NF.z | exact NF.k _ _ _ _ | exact nf_iload | exact nf_lload | exact nf_aload | exact nf_istore | exact nf_astore | exact nf_lstore | exact nf_iinc | exact nf_iop | exact nf_iopc | exact nf_idv | exact nf_lop | exact nf_ldv | exact nf_lsh | exact nf_lcmp | exact nf_i2l | exact nf_l2i | exact nf_i2b | exact nf_dup | exact nf_dup2 | exact nf_pop | exact nf_icmp | exact nf_if | exact nf_ifnull | exact nf_switch | exact nf_get | exact nf_put | exact nf_alen | exact nf_iald | exact nf_bald | exact nf_lald | exact nf_iast | exact nf_bast | exact nf_last | exact nf_new | exact nf_newa | exact nf_slen | exact nf_schr | exact nf_obj | exact nf_copy
end NFS
section EV
variable {N : Nat}
theorem bnd_some {o : Option Out} {f : Option MV → MS → Option Out} {x : Out} (h : bnd o f = some x) : ∃ y : Out, o = some y ∧ f y.1 y.2 = some x := by
  rcases o with _ | ⟨r, S⟩
  · exact absurd h (by simp [bnd])
  · exact ⟨(r, S), rfl, h⟩
/-- what a step that is a call, or an end, or neither, comes to, over what goes on -/
def OneOr (N m : Nat) (ins : Instr) (pc : Nat) (L st : List MV) (S : MS) : Prop :=
    (∃ (k : Nat) (as rest : List MV), ∀ inv K, one N m inv ins pc L st S K = bnd (inv k as S) (fun r S' => K (pc + 1) L (push r rest) S')) ∨
    (∃ (pc' : Nat) (L' st' : List MV) (S' : MS), S.1 ≤ S'.1 ∧ ∀ inv K, one N m inv ins pc L st S K = K pc' L' st' S') ∨ (∃ o : Option Out, (∀ x, o = some x → S.1 ≤ x.2.1) ∧ ∀ inv K, one N m inv ins pc L st S K = o)
theorem one_s {m : Nat} {ins : Instr} {pc : Nat} {L st : List MV} {S : MS} (h : ∀ inv K, one N m inv ins pc L st S K = stp N ins pc L st S K none) : OneOr N m ins pc L st S := by
  rcases stp_nf (N := N) (pc := pc) (L := L) (st := st) (S := S) ins with ⟨a, b, c, d, hl, e⟩ | e
  · exact Or.inr (Or.inl ⟨a, b, c, d, hl, fun inv K => (h inv K).trans (e _ K none)⟩)
  · exact Or.inr (Or.inr ⟨none, (fun _ h => by cases h), fun inv K => (h inv K).trans (e _ K none)⟩)
theorem one_c {m : Nat} {ins : Instr} {pc : Nat} {L st : List MV} {S : MS} (k : Nat) (h : ∀ inv K, one N m inv ins pc L st S K = xcall inv k pc L st S K) : OneOr N m ins pc L st S := by
  rcases e : takeR (mArg k) st [] with _ | ⟨as, rest⟩
  · exact Or.inr (Or.inr ⟨none, (fun _ h => by cases h), fun inv K => (h inv K).trans (by simp only [xcall, e])⟩)
  · rcases e2 : recvOk k as with _ | _
    · exact Or.inr (Or.inr ⟨none, (fun _ h => by cases h), fun inv K => (h inv K).trans (by simp only [xcall, e, e2, cond_false])⟩)
    · rcases e3 : Nat.ble (wordsOf rest) 8 with _ | _
      · exact Or.inr (Or.inr ⟨none, (fun _ h => by cases h), fun inv K => (h inv K).trans (by simp only [xcall, e, e2, e3, cond_true, cond_false])⟩)
      · exact Or.inl ⟨k, as, rest, fun inv K => (h inv K).trans (by simp only [xcall, e, e2, e3, cond_true])⟩
theorem xret_n {m : Nat} {st : List MV} {S : MS} {x : Out} (h : xret m st S = some x) : S.1 ≤ x.2.1 := by
  unfold xret at h
  split at h <;> (try split at h) <;> (try split at h) <;> (try split at h) <;> first | (cases h; exact Nat.le_refl _) | cases h
theorem one_or (m : Nat) (ins : Instr) (pc : Nat) (L st : List MV) (S : MS) : OneOr N m ins pc L st S := by
  cases ins <;> first | exact one_s (fun _ _ => rfl) | exact one_c _ (fun _ _ => rfl) | exact Or.inr (Or.inr ⟨_, fun _ h => xret_n h, fun _ _ => rfl⟩)
theorem exec_mono : ∀ (F : Nat) (m pc : Nat) (L st : List MV) (S : MS) (o : Out), exec N F m pc L st S = some o → exec N (F + 1) m pc L st S = some o := by
  intro F
  induction F with
  | zero => intro m pc L st S o h; exact absurd h (by simp [exec])
  | succ F ih =>
    intro m pc L st S o h
    rw [exec] at h ⊢
    rcases e : nth (cod m) pc with _ | ins
    · rw [e] at h; exact absurd h (by simp)
    rw [e] at h
    dsimp only at h ⊢
    rcases one_or (N := N) m ins pc L st S with ⟨k, as, rest, hc⟩ | ⟨a, b, c, d, -, hc⟩ | ⟨o', -, hc⟩
    · rw [hc] at h ⊢
      obtain ⟨y, h1, h2⟩ := bnd_some h
      rw [ih _ _ _ _ _ _ h1]
      exact ih _ _ _ _ _ _ h2
    · rw [hc] at h ⊢
      exact ih _ _ _ _ _ _ h
    · rw [hc] at h ⊢
      exact h
theorem exec_le {F G m pc : Nat} {L st : List MV} {S : MS} {o : Out} (hFG : F ≤ G) (h : exec N F m pc L st S = some o) : exec N G m pc L st S = some o := by
  induction hFG with
  | refl => exact h
  | step _ ih => exact exec_mono _ _ _ _ _ _ _ ih
/-- cells are only ever made -/
theorem exec_n : ∀ (F : Nat) (m pc : Nat) (L st : List MV) (S : MS) (o : Out), exec N F m pc L st S = some o → S.1 ≤ o.2.1 := by
  intro F
  induction F with
  | zero => intro m pc L st S o h; exact absurd h (by simp [exec])
  | succ F ih =>
    intro m pc L st S o h
    rw [exec] at h
    rcases e : nth (cod m) pc with _ | ins
    · rw [e] at h; exact absurd h (by simp)
    rw [e] at h
    dsimp only at h
    rcases one_or (N := N) m ins pc L st S with ⟨k, as, rest, hc⟩ | ⟨a, b, c, d, hl, hc⟩ | ⟨o', hl, hc⟩
    · rw [hc] at h
      obtain ⟨y, h1, h2⟩ := bnd_some h
      exact Nat.le_trans (ih _ _ _ _ _ _ h1) (ih _ _ _ _ _ _ h2)
    · rw [hc] at h
      exact Nat.le_trans hl (ih _ _ _ _ _ _ h)
    · rw [hc] at h
      exact hl o h
noncomputable def ev (N m pc : Nat) (L st : List MV) (S : MS) : Option Out :=
  @dite _ (∃ o : Out, ∃ F, exec N F m pc L st S = some o) (Classical.propDecidable _) (fun h => some (Classical.choose h)) (fun _ => none)
theorem ev_of {F m pc : Nat} {L st : List MV} {S : MS} {o : Out} (h : exec N F m pc L st S = some o) : ev N m pc L st S = some o := by
  have hx : ∃ o : Out, ∃ F, exec N F m pc L st S = some o := ⟨o, F, h⟩
  unfold ev
  rw [dif_pos hx]
  obtain ⟨G, hG⟩ := Classical.choose_spec hx
  have a := exec_le (Nat.le_max_left F G) h
  have b := exec_le (Nat.le_max_right F G) hG
  rw [a] at b
  exact b.symm
theorem ev_to {m pc : Nat} {L st : List MV} {S : MS} {o : Out} (h : ev N m pc L st S = some o) : ∃ F, exec N F m pc L st S = some o := by
  unfold ev at h
  split at h
  · rename_i hx
    obtain ⟨F, hF⟩ := Classical.choose_spec hx
    exact ⟨F, by rw [hF, h]⟩
  · cases h
theorem ev_ext {m pc : Nat} {L st : List MV} {S : MS} {x : Option Out} (h1 : ∀ o, ev N m pc L st S = some o → x = some o) (h2 : ∀ o, x = some o → ev N m pc L st S = some o) : ev N m pc L st S = x := by
  rcases e : ev N m pc L st S with _ | o
  · rcases x with _ | o
    · rfl
    · rw [h2 o rfl] at e; cases e
  · exact (h1 o e).symm
noncomputable def inv (N k : Nat) (as : List MV) (S : MS) : Option Out := ev N k 0 (mkL k as) [] S
theorem ev_step {m pc : Nat} {ins : Instr} (L st : List MV) (S : MS) (e : nth (cod m) pc = some ins) : ev N m pc L st S = one N m (inv N) ins pc L st S (ev N m) := by
  refine ev_ext (fun o h => ?_) (fun o h => ?_)
  · obtain ⟨F, hF⟩ := ev_to h
    rcases F with _ | F
    · exact absurd hF (by simp [exec])
    rw [exec, e] at hF
    dsimp only at hF
    rcases one_or (N := N) m ins pc L st S with ⟨k, as, rest, hc⟩ | ⟨a, b, c, d, -, hc⟩ | ⟨o', -, hc⟩
    · rw [hc] at hF ⊢
      obtain ⟨y, h1, h2⟩ := bnd_some hF
      rw [show inv N k as S = some y from ev_of h1]
      exact ev_of h2
    · rw [hc] at hF ⊢
      exact ev_of hF
    · rw [hc] at hF ⊢
      exact hF
  · rcases one_or (N := N) m ins pc L st S with ⟨k, as, rest, hc⟩ | ⟨a, b, c, d, -, hc⟩ | ⟨o', -, hc⟩
    · rw [hc] at h
      obtain ⟨y, h1, h2⟩ := bnd_some h
      obtain ⟨F, hF⟩ := ev_to h1
      obtain ⟨G, hG⟩ := ev_to h2
      refine ev_of (F := max F G + 1) ?_
      rw [exec, e]
      dsimp only
      rw [hc]
      rw [exec_le (Nat.le_max_left F G) hF]
      exact exec_le (Nat.le_max_right F G) hG
    · rw [hc] at h
      obtain ⟨G, hG⟩ := ev_to h
      refine ev_of (F := G + 1) ?_
      rw [exec, e]
      dsimp only
      rw [hc]
      exact hG
    · rw [hc] at h
      refine ev_of (F := 1) ?_
      rw [exec, e]
      dsimp only
      rw [hc]
      exact h
theorem ev_no {m pc : Nat} (L st : List MV) (S : MS) (e : nth (cod m) pc = none) : ev N m pc L st S = none := by
  refine ev_ext (fun o h => ?_) (fun o h => by cases h)
  obtain ⟨F, hF⟩ := ev_to h
  rcases F with _ | F
  · exact absurd hF (by simp [exec])
  · rw [exec, e] at hF
    cases hF
/-- a walk of at most so many steps, that ends at the places told -/
noncomputable def runK (N m : Nat) (stops : List Nat) : Nat → Nat → List MV → List MV → MS → Option Out
  | 0, pc, L, st, S => ev N m pc L st S
  | k + 1, pc, L, st, S => match nth (cod m) pc with
    | none => none
    | some ins => one N m (inv N) ins pc L st S (fun pc' L' st' S' => cond (elemN pc' stops) (ev N m pc' L' st' S') (runK N m stops k pc' L' st' S'))
theorem run_eq (m : Nat) (stops : List Nat) : ∀ (k pc : Nat) (L st : List MV) (S : MS), ev N m pc L st S = runK N m stops k pc L st S := by
  intro k
  induction k with
  | zero => intro pc L st S; rfl
  | succ k ih =>
    intro pc L st S
    rw [runK]
    rcases e : nth (cod m) pc with _ | ins
    · exact ev_no L st S e
    · rw [ev_step L st S e]
      dsimp only
      congr 1
      funext pc' L' st' S'
      rcases elemN pc' stops with _ | _
      · exact ih _ _ _ _
      · rfl
end EV
/-- all is made: 55 cells, every reference put -/
abbrev P (σ : Sto) : MS := (55, [], σ)
theorem bnd_s (r : Option MV) (S : MS) (f : Option MV → MS → Option Out) : bnd (some (r, S)) f = f r S := rfl
theorem bnd_n (f : Option MV → MS → Option Out) : bnd none f = none := rfl
theorem push_s (v : MV) (st : List MV) : push (some v) st = v :: st := rfl
theorem push_n (st : List MV) : push none st = st := rfl
end
