def elem4 (a : Nat × Nat × Nat × Nat) : List (Nat × Nat × Nat × Nat) → Bool
  | [] => false
  | b :: l => cond (Nat.beq a.1 b.1) (cond (Nat.beq a.2.1 b.2.1) (cond (Nat.beq a.2.2.1 b.2.2.1) (cond (Nat.beq a.2.2.2 b.2.2.2) true (elem4 a l)) (elem4 a l)) (elem4 a l)) (elem4 a l)
theorem elem4_in : ∀ (l : List (Nat × Nat × Nat × Nat)) (a : Nat × Nat × Nat × Nat), elem4 a l = true → a ∈ l
  | [], a, h => by simp [elem4] at h
  | b :: l, a, h => by
    by_cases e : a = b
    · exact List.mem_cons.mpr (Or.inl e)
    · refine List.mem_cons.mpr (Or.inr (elem4_in l a ?_))
      obtain ⟨a1, a2, a3, a4⟩ := a
      obtain ⟨b1, b2, b3, b4⟩ := b
      unfold elem4 at h
      dsimp only at h
      cases h1 : Nat.beq a1 b1 <;> cases h2 : Nat.beq a2 b2 <;> cases h3 : Nat.beq a3 b3 <;> cases h4 : Nat.beq a4 b4 <;> simp only [h1, h2, h3, h4, cond_true, cond_false] at h <;> first | exact h | skip
      have e1 := Nat.eq_of_beq_eq_true h1
      have e2 := Nat.eq_of_beq_eq_true h2
      have e3 := Nat.eq_of_beq_eq_true h3
      have e4 := Nat.eq_of_beq_eq_true h4
      subst e1; subst e2; subst e3; subst e4
      exact absurd rfl e
def eq4 (a b : Nat × Nat × Nat × Nat) : Bool := cond (Nat.beq a.1 b.1) (cond (Nat.beq a.2.1 b.2.1) (cond (Nat.beq a.2.2.1 b.2.2.1) (Nat.beq a.2.2.2 b.2.2.2) false) false) false
theorem eq4_eq {a b : Nat × Nat × Nat × Nat} (h : eq4 a b = true) : a = b := by
  obtain ⟨a1, a2, a3, a4⟩ := a
  obtain ⟨b1, b2, b3, b4⟩ := b
  unfold eq4 at h
  simp only at h
  cases e1 : Nat.beq a1 b1 <;> simp only [e1, cond_true, cond_false] at h <;> first | exact absurd h (by decide) | skip
  cases e2 : Nat.beq a2 b2 <;> simp only [e2, cond_true, cond_false] at h <;> first | exact absurd h (by decide) | skip
  cases e3 : Nat.beq a3 b3 <;> simp only [e3, cond_true, cond_false] at h <;> first | exact absurd h (by decide) | skip
  rw [Nat.eq_of_beq_eq_true e1, Nat.eq_of_beq_eq_true e2, Nat.eq_of_beq_eq_true e3, Nat.eq_of_beq_eq_true h]
def eqTab : Nat → List (Nat × Nat × Nat × Nat) → Bool
  | _, [] => true
  | i, b :: l => cond (eq4 (wAt i) b) (eqTab (i + 1) l) false
theorem eqTab_in : ∀ (l : List (Nat × Nat × Nat × Nat)) (i : Nat), eqTab i l = true → ∀ j, j < l.length → wAt (i + j) ∈ l
  | [], i, h, j, hj => absurd hj (by simp)
  | b :: l, i, h, j, hj => by
    unfold eqTab at h
    cases e : eq4 (wAt i) b <;> simp only [e, cond_true, cond_false] at h
    · exact absurd h (by decide)
    · cases j with
      | zero => exact List.mem_cons.mpr (Or.inl (eq4_eq e))
      | succ j =>
        refine List.mem_cons.mpr (Or.inr ?_)
        have t := eqTab_in l (i + 1) h j (by simpa using hj)
        rw [show i + (j + 1) = i + 1 + j by omega]
        exact t
set_option maxRecDepth 100000 in
theorem wTab : eqTab 0 wcs = true := by decide +kernel
set_option maxRecDepth 100000 in
theorem wLen : wcs.length = nW := by decide +kernel
def elemP (a : Nat × Nat × Nat × Nat) (p : Nat) : Bool := cond (Nat.blt p nW) (eq4 (wAt p) a) false
def elemW (a : Nat × Nat × Nat × Nat) : Bool := elemP a (wPos ((a.1 * 1000 + a.2.1) * 10000 + a.2.2.1))
theorem elemW_in {a : Nat × Nat × Nat × Nat} (h : elemW a = true) : a ∈ wcs := by
  unfold elemW elemP at h
  cases e : Nat.blt (wPos ((a.1 * 1000 + a.2.1) * 10000 + a.2.2.1)) nW <;> simp only [e, cond_true, cond_false] at h
  · exact absurd h (by decide)
  · have hl : wPos ((a.1 * 1000 + a.2.1) * 10000 + a.2.2.1) < wcs.length := by
      rw [wLen]
      exact Nat.le_of_ble_eq_true e
    have t := eqTab_in wcs 0 wTab _ hl
    rw [Nat.zero_add, eq4_eq h] at t
    exact t
def allL {α : Type} (f : α → Bool) : List α → Bool
  | [] => true
  | a :: l => cond (f a) (allL f l) false
theorem allL_in {α : Type} {f : α → Bool} : ∀ {l : List α}, allL f l = true → ∀ a ∈ l, f a = true
  | [], _, a, h => absurd h List.not_mem_nil
  | b :: l, h, a, ha => by
    unfold allL at h
    cases hb : f b <;> simp only [hb, cond_true, cond_false] at h
    · exact absurd h (by decide)
    · rcases List.mem_cons.mp ha with e | e
      · rw [e]; exact hb
      · exact allL_in h a e
/-- a private method of a class that the tables say can be made, by its rows of tables_1 -/
def lw_okq (q : MethodName × Nat) : Prop := (q.1.cls ≠ "java/lang/invoke/MethodHandle" ∧ q.1.cls ≠ "java/lang/invoke/VarHandle") ∧ Cond.instantiable q.1.cls q.2 ∈ tables_1 ∧ Cond.privateMethod q.1 ∈ tables_1 ∧ Cond.instanceMethod q.1 ∈ tables_1
def lw_privs : List (MethodName × Nat) := pvs.map fun m => (mN m, nF (mCls m))
def lw_tbl : List Cond := k2_sels lw_privs ++ tables_1
theorem cN_plain : ∀ a, a < 60 → cN a ≠ "java/lang/invoke/MethodHandle" ∧ cN a ≠ "java/lang/invoke/VarHandle" := by decide +kernel
theorem mOwn_all : allL (fun m => Nat.blt (mOwn m) 60) (List.range 264) = true := by decide +kernel
theorem pvs_all : allL (fun m => cond (Nat.beq (mOwn m) (mCls m)) (cond (Nat.blt (mOwn m) 9) (cond (elemW (7, mCls m, 0, 0)) (cond (elemW (5, m, 0, 0)) (elemW (2, m, 0, 0)) false) false) false) false) pvs = true := by decide +kernel
theorem wd_7 (c : Nat) : wd (7, c, 0, 0) = Cond.instantiable (cN c) (nF c) := rfl
theorem wd_5 (m : Nat) : wd (5, m, 0, 0) = Cond.privateMethod (mN m) := rfl
theorem wd_2 (m : Nat) : wd (2, m, 0, 0) = Cond.instanceMethod (mN m) := rfl
theorem band5 {a b c d e : Bool} (h : cond a (cond b (cond c (cond d e false) false) false) false = true) : a = true ∧ b = true ∧ c = true ∧ d = true ∧ e = true := by
  cases a <;> cases b <;> cases c <;> cases d <;> cases e <;> first | exact ⟨rfl, rfl, rfl, rfl, rfl⟩ | exact absurd h (by decide)
theorem lw_okq_of {m : Nat} (h1 : mOwn m = mCls m) (l1 : mOwn m < 60) (h3 : Cond.instantiable (cN (mCls m)) (nF (mCls m)) ∈ tables_1) (h4 : Cond.privateMethod (mN m) ∈ tables_1) (h5 : Cond.instanceMethod (mN m) ∈ tables_1) : lw_okq (mN m, nF (mCls m)) :=
  ⟨cN_plain _ l1, by rw [← h1] at h3; rw [← h1]; exact h3, h4, h5⟩
theorem lw_privs_ok : ∀ q ∈ lw_privs, lw_okq q := by
  intro q hq
  obtain ⟨m, hm, rfl⟩ := List.mem_map.mp hq
  have h := allL_in pvs_all m hm
  obtain ⟨h1, h2, h3, h4, h5⟩ := band5 h
  have z : mOwn m + 1 ≤ 9 := Nat.le_of_ble_eq_true h2
  have k3 := wcs_in (7, mCls m, 0, 0) (elemW_in h3)
  have k4 := wcs_in (5, m, 0, 0) (elemW_in h4)
  have k5 := wcs_in (2, m, 0, 0) (elemW_in h5)
  rw [wd_7] at k3
  rw [wd_5] at k4
  rw [wd_2] at k5
  exact lw_okq_of (Nat.eq_of_beq_eq_true h1) (by omega) k3 k4 k5
/-- the words that every method is given: all but those of the private methods, which have given their 'selects' -/
def wcg : List (Nat × Nat × Nat × Nat) := wcs.filter fun q => !(Nat.beq q.1 5)
def gw : List Cond := k2_sels lw_privs ++ wcg.map wd
theorem gw_good : gw.all goodWord = true := by decide +kernel
theorem gw_in : ∀ w ∈ gw, w ∈ lw_tbl := by
  intro w h
  rcases List.mem_append.mp h with h | h
  · exact List.mem_append_left _ h
  · obtain ⟨q, hq, e⟩ := List.mem_map.mp h
    subst e
    exact List.mem_append_right _ (wcs_in q (List.mem_filter.mp hq).1)
theorem gw_of {q : Nat × Nat × Nat × Nat} (h : elemW q = true) (h5 : Nat.beq q.1 5 = false) : wd q ∈ gw :=
  List.mem_append_right _ (List.mem_map_of_mem (List.mem_filter.mpr ⟨elemW_in h, by rw [h5]; rfl⟩))
theorem gw_sel {m : Nat} (h : m ∈ pvs) : Cond.selects (cN (mOwn m)) (mN m) (mN m) ∈ gw :=
  List.mem_append_left _ (List.mem_map_of_mem (f := fun q : MethodName × Nat => Cond.selects q.1.cls q.1 q.1) (List.mem_map_of_mem (f := fun m => (mN m, nF (mCls m))) h))
theorem gw_GoodIn : GoodIn gw gw := fun w h => ⟨h, good_of_word (List.all_eq_true.mp gw_good w h)⟩
theorem wd_0 (a i n : Nat) : wd (0, a, i, n) = Cond.fieldLink (cN a) i (nthF (ffs (n / 100)) (n % 100)).1 (nthF (ffs (n / 100)) (n % 100)).2.1 (nthF (ffs (n / 100)) (n % 100)).2.2.1 := rfl
theorem wd_1 (a i m : Nat) : wd (1, a, i, m) = Cond.methodLink (cN a) i (mN m) := rfl
theorem wd_3 (m : Nat) : wd (3, m, 0, 0) = Cond.code (mN m) (mCode m) (mMaxL m) (mRetT m) := rfl
theorem wd_4 (m : Nat) : wd (4, m, 0, 0) = Cond.static (mN m) := rfl
theorem wd_6 (a i c : Nat) : wd (6, a, i, c) = Cond.classLink (cN a) i (cN c) := rfl
theorem wd_8 (a : Nat) : wd (8, a, 0, 0) = Cond.initialized (cN a) := rfl
theorem wd_9 (c f : Nat) : wd (9, c, f, 0) = u_lay (cN c) (cTb c) f := rfl
theorem wd_10 (a i j : Nat) : wd (10, a, i, j) = Cond.constant (cN a) i (Int32.ofInt (kCon j)) := rfl
theorem wd_11 (a i j : Nat) : wd (11, a, i, j) = Cond.constantLong (cN a) i (Int64.ofInt (kConL j)) := rfl
theorem wd_12 (j : Nat) : wd (12, j, 0, 0) = Cond.arrayClass (aT j) := rfl
theorem wd_13 (m : Nat) : wd (13, m, 0, 0) = Cond.selects (cN (mOwn m)) (mN m) (mN m) := rfl
theorem wd_20 (a i : Nat) : wd (20, a, i, 0) = Cond.methodLink (cN a) i objectInit := rfl
theorem wd_21 (a i : Nat) : wd (21, a, i, 0) = Cond.methodLink (cN a) i arraycopyName := rfl
theorem wd_22 (a i : Nat) : wd (22, a, i, 0) = Cond.methodLink (cN a) i Lib.Math.min.name := rfl
theorem wd_23 (a i : Nat) : wd (23, a, i, 0) = Cond.methodLink (cN a) i Lib.Math.max.name := rfl
theorem wd_24 (a i : Nat) : wd (24, a, i, 0) = Cond.methodLink (cN a) i ⟨"java/lang/String", "length", "()I"⟩ := rfl
theorem wd_25 (a i : Nat) : wd (25, a, i, 0) = Cond.methodLink (cN a) i ⟨"java/lang/String", "charAt", "(I)C"⟩ := rfl
