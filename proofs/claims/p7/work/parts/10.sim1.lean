/-! THE WORLD of the small machine's cells in the JVM's heap -/
abbrev GT : Type := va_G × (Nat → ClassId) × (Nat → Nat)
abbrev AdT : Type := Nat → Nat → Nat
def toV (ad : AdT) : MV → Value
  | .inl x => .int (Int32.ofInt x)
  | .inr (.inl x) => .long (Int64.ofInt x)
  | .inr (.inr (.inl q)) => .ref (ad q.1 q.2)
  | .inr (.inr (.inr _)) => .null
def fval (ad : AdT) (S : MS) (k i f : Nat) : Value := match fTy (kCls k) f with
  | 2 => .long (Int64.ofInt (S.2.2 k i f))
  | 3 => cond (elem3 (k, i, f) S.2.1) .null (.ref (ad (fRef k i f).1 (fRef k i f).2))
  | _ => .int (Int32.ofInt (S.2.2 k i f))
def ent (G : GT) (ad : AdT) (S : MS) (q : Nat × Nat) : va_E := match kTag q.1 with
  | 0 => .inr (kCls q.1, (List.range (nF (kCls q.1))).map (fval ad S q.1 q.2))
  | 3 => .inl (G.2.1 3, kLen q.1, .inr (.inl (fun j => Int64.ofInt (S.2.2 q.1 q.2 j))))
  | t => .inl (G.2.1 t, kLen q.1, .inl (fun j => Int32.ofInt (S.2.2 q.1 q.2 j)))
def wl (G : GT) (ad : AdT) (S : MS) : va_W := (ords.take S.1).map fun q => (ad q.1 q.2, ent G ad S q)
abbrev tys0 (G : GT) : List (ClassId × FieldType) := [(G.2.1 1, .int), (G.2.1 2, .byte), (G.2.1 3, .long)]
/-- a cell that is made -/
def vld (n : Nat) (q : Nat × Nat) : Prop := ∃ a, a < n ∧ nth ords a = some q
def okV (n : Nat) : MV → Prop
  | .inl x => in32 x
  | .inr (.inl x) => in64 x
  | .inr (.inr (.inl q)) => vld n q ∨ q = (999, 0) ∨ (q.1 = 1000 ∧ q.2 < 16)
  | .inr (.inr (.inr _)) => True
def isL (k j : Nat) : Bool := cond (Nat.beq (kTag k) 3) true (cond (Nat.beq (kTag k) 0) (Nat.beq (fTy (kCls k) j) 2) false)
def okS (σ : Sto) : Prop := ∀ k i j, in64 (σ k i j) ∧ (isL k j = false → in32 (σ k i j))
def RK (S : MS) : Prop := ∀ q, vld S.1 q → kTag q.1 = 0 → ∀ f, f < nF (kCls q.1) → fTy (kCls q.1) f = 3 → elem3 (q.1, q.2, f) S.2.1 = false → vld S.1 (fRef q.1 q.2 f)
def szOf (q : Nat × Nat) : Nat := cond (Nat.beq (kTag q.1) 0) (nF (kCls q.1)) (kLen q.1)
def slN (n : Nat) : Nat := ((ords.take n).map szOf).sum
theorem nth_get {α : Type} : ∀ (l : List α) (i : Nat), nth l i = l[i]?
  | [], i => by simp [nth]
  | a :: l, 0 => by simp [nth]
  | a :: l, i + 1 => by simp [nth, nth_get l i]
theorem setn_set {α : Type} : ∀ (l : List α) (i : Nat) (v : α), setn l i v = l.set i v
  | [], i, v => by simp [setn]
  | a :: l, 0, v => by simp [setn]
  | a :: l, i + 1, v => by simp [setn, setn_set l i v]
theorem slN_succ {n : Nat} {q : Nat × Nat} (h : nth ords n = some q) : slN (n + 1) = slN n + szOf q := by
  rw [nth_get] at h
  unfold slN
  rw [List.take_add_one, h]
  simp
theorem ords_inj {a b : Nat} {q : Nat × Nat} (ha : nth ords a = some q) (hb : nth ords b = some q) : a = b := by
  have e : allR (fun a => allR (fun b => cond (Nat.beq a b) true (decide (nth ords a ≠ nth ords b))) 0 55) 0 55 = true := by decide +kernel
  have h1 : a < 55 := nth_lt _ _ _ ha
  have h2 : b < 55 := nth_lt _ _ _ hb
  have e1 := allR_at 55 0 b (allR_at 55 0 a e (by omega) (by omega)) (by omega) (by omega)
  rcases z : Nat.beq a b with _ | _
  · rw [z] at e1
    exact absurd (ha.trans hb.symm) (of_decide_eq_true e1)
  · exact Nat.eq_of_beq_eq_true z
/-- of a cell: its kind is one of the tables' -/
theorem ords_kd {a : Nat} {q : Nat × Nat} (ha : nth ords a = some q) : q.1 < 999 ∧ (kTag q.1 = 0 → kCls q.1 < 9 ∧ cls0[kCls q.1]? = some (cN (kCls q.1), cTb (kCls q.1), nF (kCls q.1))) ∧ kTag q.1 < 4 ∧ kLenZ q.1 = (kLen q.1 : Int) ∧ kLen q.1 < 100000 ∧ (kCls q.1 < 9 → kTag q.1 = 0) := by
  have e : allR (fun a => match nth ords a with
    | some q => band (Nat.blt q.1 999) (band (Nat.blt (kTag q.1) 4) (band (decide (kLenZ q.1 = (kLen q.1 : Int))) (band (Nat.blt (kLen q.1) 100000) (cond (Nat.beq (kTag q.1) 0) (Nat.blt (kCls q.1) 9) (Nat.ble 9 (kCls q.1))))))
    | none => true) 0 55 = true := by decide +kernel
  have h1 : a < 55 := nth_lt _ _ _ ha
  have e1 := allR_at 55 0 a e (by omega) (by omega)
  rw [ha] at e1
  obtain ⟨b1, b2⟩ := band_t e1
  obtain ⟨b2, b3⟩ := band_t b2
  obtain ⟨b3, b4⟩ := band_t b3
  obtain ⟨b4, b5⟩ := band_t b4
  have c1 : q.1 + 1 ≤ 999 := Nat.le_of_ble_eq_true b1
  have c2 : kTag q.1 + 1 ≤ 4 := Nat.le_of_ble_eq_true b2
  have c4 : kLen q.1 + 1 ≤ 100000 := Nat.le_of_ble_eq_true b4
  refine ⟨by omega, fun h0 => ?_, by omega, of_decide_eq_true b3, by omega, fun h9 => ?_⟩
  case refine_2 =>
    rcases z : Nat.beq (kTag q.1) 0 with _ | _
    · rw [z] at b5
      have := Nat.le_of_ble_eq_true b5
      omega
    · exact Nat.eq_of_beq_eq_true z
  rw [h0] at b5
  have c3 : kCls q.1 + 1 ≤ 9 := Nat.le_of_ble_eq_true b5
  refine ⟨by omega, ?_⟩
  generalize kCls q.1 = c at c3
  rcases (by omega : c = 0 ∨ c = 1 ∨ c = 2 ∨ c = 3 ∨ c = 4 ∨ c = 5 ∨ c = 6 ∨ c = 7 ∨ c = 8) with rfl | rfl | rfl | rfl | rfl | rfl | rfl | rfl | rfl <;> rfl
theorem wl_at {G : GT} {ad : AdT} {S : MS} {a : Nat} {q : Nat × Nat} (ha : a < S.1) (h : nth ords a = some q) : (wl G ad S)[a]? = some (ad q.1 q.2, ent G ad S q) := by
  rw [nth_get] at h
  unfold wl
  rw [List.getElem?_map, List.getElem?_take, if_pos ha, h]
  rfl
theorem wl_to {G : GT} {ad : AdT} {S : MS} {a : Nat} {x : Nat × va_E} (h : (wl G ad S)[a]? = some x) : ∃ q, a < S.1 ∧ nth ords a = some q ∧ x = (ad q.1 q.2, ent G ad S q) := by
  unfold wl at h
  rw [List.getElem?_map, List.getElem?_take] at h
  split at h
  · rename_i ha
    rcases e : ords[a]? with _ | q
    · rw [e] at h; cases h
    · rw [e] at h
      cases h
      exact ⟨q, ha, by rw [nth_get]; exact e, rfl⟩
  · cases h
/-- one cell is written -/
theorem wl_set {G : GT} {ad : AdT} {S S' : MS} {a : Nat} {q : Nat × Nat} (ha : a < S.1) (h : nth ords a = some q) (hn : S'.1 = S.1) (ho : ∀ q', q' ≠ q → ent G ad S' q' = ent G ad S q') :
    (wl G ad S).set a (ad q.1 q.2, ent G ad S' q) = wl G ad S' := by
  apply List.ext_getElem?
  intro j
  rw [List.getElem?_set]
  by_cases hj : a = j
  · subst hj
    rw [if_pos rfl, if_pos (List.getElem?_eq_some_iff.mp (wl_at (G := G) (ad := ad) ha h)).1, wl_at (S := S') (by omega) h]
  · rw [if_neg hj]
    rcases e : (wl G ad S)[j]? with _ | x
    · rcases e2 : (wl G ad S')[j]? with _ | y
      · rfl
      · obtain ⟨q2, h1, h2, h3⟩ := wl_to e2
        rw [wl_at (S := S) (by omega) h2] at e
        cases e
    · obtain ⟨q2, h1, h2, rfl⟩ := wl_to e
      rw [wl_at (S := S') (by omega) h2, ho q2 (fun z => hj (ords_inj (z ▸ h) h2))]
theorem ent_sup {G : GT} {ad : AdT} {n : Nat} {un : List (Nat × Nat × Nat)} {σ : Sto} {k i j : Nat} {v : Int} {q : Nat × Nat} (h : q ≠ (k, i)) : ent G ad (n, un, sup σ k i j v) q = ent G ad (n, un, σ) q := by
  have e : ∀ j', sup σ k i j v q.1 q.2 j' = σ q.1 q.2 j' := fun j' => by
    unfold sup
    rw [if_neg]
    rintro ⟨h1, h2, -⟩
    exact h (Prod.ext h1 h2)
  unfold ent
  split
  · congr 2
    apply List.map_congr_left
    intro f _
    unfold fval
    simp only [e]
  · simp only [e]
  · simp only [e]
