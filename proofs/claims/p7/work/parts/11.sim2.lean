/-! THE WALK: what holds at a place of a method, and one row a kind of instruction -/
theorem ent_un {G : GT} {ad : AdT} {n n' : Nat} {un un' : List (Nat × Nat × Nat)} {σ σ' : Sto} {q : Nat × Nat} (hs : ∀ j, σ' q.1 q.2 j = σ q.1 q.2 j) (hu : ∀ f, elem3 (q.1, q.2, f) un' = elem3 (q.1, q.2, f) un) : ent G ad (n', un', σ') q = ent G ad (n, un, σ) q := by
  unfold ent
  split
  · congr 2
    apply List.map_congr_left
    intro f _
    unfold fval
    simp only [hs, hu]
  · simp only [hs]
  · simp only [hs]
def Locs (ad : AdT) (L : List MV) (ls : Array Slot) : Prop := ls.size = L.length ∧ lv_wf ls ∧ ∀ i v, nth L i = some v → v ≠ vX → ls[i]? = some (.val (toV ad v))
/-- the texts' own cells: given by the Statement, outside what is written -/
def TX1 (len : Nat) (byt : List Int32) (a v : Nat) (A : Nat → Prop) (U : State) (H : Heap) : Prop := va_O "java/lang/String" a A U H ∧ va_OF "java/lang/String" "coder" "B" (.int 0) a A U H ∧ va_OF "java/lang/String" "value" "[B" (.ref v) a A U H ∧ va_T .byte v len (fun j => .int (byt.getD j 0)) A U H
def TXc (G : GT) (A : Nat → Prop) (U : State) (H : Heap) : Prop := (∃ adV : Nat → Nat, ∀ i, i < 16 → TX1 (lenS.getD i 0) (bytS.getD i []) (G.2.2 i) (adV i) A U H) ∧ va_Z "java/lang/String" "COMPACT_STRINGS" "Z" (.int 1) A U H ∧ va_Zq "jdk/internal/util/Preconditions" "SIOOBE_FORMATTER" "Ljava/util/function/BiFunction;" A U H
theorem TXc.moved {G : GT} {A : Nat → Prop} {u U : State} {H : Heap} (hvm : u.vm.Alike U.vm) (h : TXc G A u H) : TXc G A U H := by
  obtain ⟨⟨adV, h1⟩, h2, h3⟩ := h
  exact ⟨⟨adV, fun i hi => ⟨va_O.moved hvm (h1 i hi).1, va_OF.moved hvm (h1 i hi).2.1, va_OF.moved hvm (h1 i hi).2.2.1, va_T.moved hvm (h1 i hi).2.2.2⟩⟩, va_Z.moved hvm h2, va_Zq.moved hvm h3⟩
theorem TXc.kept {G : GT} {A : Nat → Prop} {U : State} {H H1 : Heap} (h : TXc G A U H) (hq : ∀ a : Nat, a < H.size → ¬ A a → H1[a]? = H[a]?) : TXc G A U H1 := by
  obtain ⟨⟨adV, h1⟩, h2, h3⟩ := h
  exact ⟨⟨adV, fun i hi => ⟨(h1 i hi).1.kept hq, (h1 i hi).2.1.kept hq, (h1 i hi).2.2.1.kept hq, (h1 i hi).2.2.2.kept hq⟩⟩, h2.kept hq, h3.kept hq⟩
theorem TXc.narrow {G : GT} {A B : Nat → Prop} {U : State} {H : Heap} (h : TXc G A U H) (hAB : ∀ q, B q → A q) : TXc G B U H := by
  obtain ⟨⟨adV, h1⟩, h2, h3⟩ := h
  exact ⟨⟨adV, fun i hi => ⟨(h1 i hi).1.narrow hAB, (h1 i hi).2.1.narrow hAB, (h1 i hi).2.2.1.narrow hAB, (h1 i hi).2.2.2.narrow hAB⟩⟩, h2.narrow hAB, h3.narrow hAB⟩
/-- what the tables say, wherever the run stands -/
def GS (G : GT) (U : State) : Prop := va_K G.1 cls0 (tys0 G) U ∧ (∀ a i k, nestOk a i k = true → va_Nw (.methodLinkNest (cN a) i (mN k) "TwinSlots") U) ∧ (∀ a i k, strOk a i k = true → vk_R (cN a) i (sTxt k) (G.2.2 k) U)
section WALK
variable {N m : Nat} {G : GT} {b : Nat} {xs : Nat → Int32} {out : Out}
variable {p : Program} {l : Launch} {e : Env} {R : Room} {s : State} {mid : MethodId} {args : Array Value} {below : List Frame} {meth : Method} {c : Code} {A : Nat → Prop} {H0 : Heap} {Q : State → Prop}
def Cx (N m : Nat) (G : GT) (b : Nat) (xs : Nat → Int32) (p : Program) (R : Room) (s : State) (mid : MethodId) (args : Array Value) (meth : Method) (c : Code) (A : Nat → Prop) (H0 : Heap) : Prop :=
  m < 264 ∧ p.tables.exec = Jvm.exec ∧ c.code = mCode m ∧ c.maxLocals = mMaxL m ∧ s.vm.findClass (cN (mOwn m)) = some mid.cls ∧ (∀ w ∈ gw, w.before args s = true) ∧ (mInit m = true → meth.name = "<init>") ∧ mFr m ≤ R.frames ∧ mLo m ≤ R.locals ∧ GS G s ∧
  (∀ q, H0.size ≤ q → A q) ∧ va_X b N xs s H0 ∧ b < H0.size ∧ ¬ A b ∧ TXc G A s H0 ∧ N < 2147483648
/-- the world as it stands -/
def Wd (N : Nat) (G : GT) (b : Nat) (xs : Nat → Int32) (A : Nat → Prop) (H0 : Heap) (S : MS) (ad : AdT) (H : Heap) (locs : List Loc) : Prop :=
  va_P G.1 cls0 (wl G ad S) H ∧ va_D A (wl G ad S) ∧ va_S A H0 H locs ∧ ad 999 0 = b ∧ (∀ i, i < 16 → ad 1000 i = G.2.2 i) ∧ okS S.2.2 ∧ RK S ∧ (∀ j, j < N → Int32.ofInt (S.2.2 999 0 j) = xs j)
def retV (ad : AdT) : Option MV → List Value
  | none => []
  | some v => [toV ad v]
/-- the place is an end, of the kind that the answer has -/
def EndAt (m pc : Nat) : Option MV → Prop
  | none => decode (mCode m) (bpc m pc) = .ok (.return_, 1) ∧ mRet m = 0
  | some (.inl x) => decode (mCode m) (bpc m pc) = .ok (.ireturn, 1) ∧ (mRet m = 1 ∨ (mRet m = 2 ∧ (x = 0 ∨ x = 1))) ∧ in32 x
  | some (.inr (.inl x)) => decode (mCode m) (bpc m pc) = .ok (.lreturn, 1) ∧ mRet m = 3 ∧ in64 x
  | some (.inr (.inr (.inl _))) => decode (mCode m) (bpc m pc) = .ok (.areturn, 1) ∧ mRet m = 4
  | some (.inr (.inr (.inr _))) => False
/-- what is to be shown at the end -/
def KK (N m : Nat) (G : GT) (b : Nat) (xs : Nat → Int32) (out : Out) (p : Program) (l : Launch) (e : Env) (R : Room) (s : State) (mid : MethodId) (args : Array Value) (below : List Frame) (meth : Method) (c : Code) (A : Nat → Prop) (H0 : Heap) (Q : State → Prop) (cells slots n : Nat) (ad : AdT) : Prop :=
  ∀ (ad1 : AdT) (H1 : Heap) (locs1 : List Loc) (cells1 slots1 pc1 : Nat) (ls1 : Array Slot), (∀ q, vld n q → ad1 q.1 q.2 = ad q.1 q.2) → Wd N G b xs A H0 out.2 ad1 H1 locs1 → cells1 + n = cells + out.2.1 → slots1 + slN n = slots + slN out.2.1 → EndAt m pc1 out.1 → (∀ v, out.1 = some v → okV out.2.1 v) →
    W p l e R s mid args below meth c H1 locs1 cells1 slots1 Q (F0 mid (bpc m pc1) ls1 (retV ad1 out.1))
def Here (N m : Nat) (G : GT) (b : Nat) (xs : Nat → Int32) (out : Out) (p : Program) (l : Launch) (e : Env) (R : Room) (s : State) (mid : MethodId) (args : Array Value) (below : List Frame) (meth : Method) (c : Code) (A : Nat → Prop) (H0 : Heap) (Q : State → Prop) (L st : List MV) (S : MS) (ad : AdT) (H : Heap) (locs : List Loc) (cells slots : Nat) (ls : Array Slot) : Prop :=
  Wd N G b xs A H0 S ad H locs ∧ (∀ v ∈ L, okV S.1 v) ∧ (∀ v ∈ st, okV S.1 v) ∧ (mLong m = false → ∀ v ∈ L, isJ v = false) ∧ Locs ad L ls ∧ L.length = mMaxL m ∧ cells + out.2.1 ≤ R.cells + S.1 ∧ slots + slN out.2.1 ≤ R.slots + slN S.1 ∧ KK N m G b xs out p l e R s mid args below meth c A H0 Q cells slots S.1 ad
/-- going on from a place is settled -/
def IH (N F m : Nat) (G : GT) (b : Nat) (xs : Nat → Int32) (out : Out) (p : Program) (l : Launch) (e : Env) (R : Room) (s : State) (mid : MethodId) (args : Array Value) (below : List Frame) (meth : Method) (c : Code) (A : Nat → Prop) (H0 : Heap) (Q : State → Prop) : Prop :=
  ∀ (pc : Nat) (L st : List MV) (S : MS) (ad : AdT) (H : Heap) (locs : List Loc) (cells slots : Nat) (ls : Array Slot), exec N F m pc L st S = some out → Here N m G b xs out p l e R s mid args below meth c A H0 Q L st S ad H locs cells slots ls → W p l e R s mid args below meth c H locs cells slots Q (F0 mid (bpc m pc) ls (st.map (toV ad)))
variable {F pc : Nat} {L st : List MV} {S : MS} {ad : AdT} {H : Heap} {locs : List Loc} {cells slots : Nat} {ls : Array Slot}
theorem nth_mem {α : Type} : ∀ (l : List α) (i : Nat) (a : α), nth l i = some a → a ∈ l
  | [], i, a, h => by simp [nth] at h
  | b :: l, 0, a, h => by simp only [nth, Option.some.injEq] at h; rw [h]; exact List.mem_cons_self
  | b :: l, i + 1, a, h => List.mem_cons_of_mem _ (nth_mem l i a (by simpa [nth] using h))
theorem mem_setn {α : Type} : ∀ (l : List α) (i : Nat) (v a : α), a ∈ setn l i v → a = v ∨ a ∈ l
  | [], i, v, a, h => by simp [setn] at h
  | b :: l, 0, v, a, h => by
    rcases List.mem_cons.mp (by simpa [setn] using h) with h | h
    · exact Or.inl h
    · exact Or.inr (List.mem_cons_of_mem _ h)
  | b :: l, i + 1, v, a, h => by
    have h2 : a = b ∨ a ∈ setn l i v := List.mem_cons.mp (by simpa [setn] using h)
    rcases h2 with h | h
    · exact Or.inr (by rw [h]; exact List.mem_cons_self)
    · rcases mem_setn l i v a h with h | h
      · exact Or.inl h
      · exact Or.inr (List.mem_cons_of_mem _ h)
/-- the locals as a list of pairs, for the kit's rows -/
def lvOf (ad : AdT) (L : List MV) : List (Nat × Value) := (List.range L.length).filterMap fun i => match nth L i with
  | some (.inr (.inr (.inr _))) => none
  | some v => some (i, toV ad v)
  | none => none
theorem lvOf_mem {i : Nat} {v : MV} (h : nth L i = some v) (hx : v ≠ vX) : (i, toV ad v) ∈ lvOf ad L := by
  refine List.mem_filterMap.mpr ⟨i, List.mem_range.mpr (nth_lt _ _ _ h), ?_⟩
  rw [h]
  rcases v with v | v | v | v
  · rfl
  · rfl
  · rfl
  · exact absurd rfl hx
theorem lvOf_has (h : Locs ad L ls) : lv_has ls L.length (lvOf ad L) := by
  refine ⟨h.1, h.2.1, fun q hq => ?_⟩
  obtain ⟨i, -, hi⟩ := List.mem_filterMap.mp hq
  rcases e : nth L i with _ | v
  · rw [e] at hi; cases hi
  · rw [e] at hi
    rcases v with v | v | v | v
    · cases hi; exact h.2.2 i _ e (by intro z; cases z)
    · cases hi; exact h.2.2 i _ e (by intro z; cases z)
    · cases hi; exact h.2.2 i _ e (by intro z; cases z)
    · cases hi
end WALK
