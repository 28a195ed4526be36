/-! CALLS: a method's contract out of its run -/
theorem takeR_spec : ∀ (n : Nat) (st acc as rest : List MV), takeR n st acc = some (as, rest) → ∃ ts : List MV, ts.length = n ∧ st = ts ++ rest ∧ as = ts.reverse ++ acc
  | 0, st, acc, as, rest, h => by
    simp only [takeR, Option.some.injEq, Prod.mk.injEq] at h
    exact ⟨[], rfl, by rw [h.2]; rfl, by rw [← h.1]; rfl⟩
  | n + 1, [], acc, as, rest, h => by simp [takeR] at h
  | n + 1, v :: st, acc, as, rest, h => by
    obtain ⟨ts, h1, h2, h3⟩ := takeR_spec n st (v :: acc) as rest (by simpa [takeR] using h)
    exact ⟨v :: ts, by simp [h1], by rw [h2]; rfl, by rw [h3]; simp⟩
theorem lg_len (ad : AdT) : ∀ as : List MV, (lg_sl (as.map (toV ad))).length = (spread as).length
  | [] => rfl
  | .inl x :: as => by
    have h := lg_len ad as
    show (lg_sl (Value.int (Int32.ofInt x) :: as.map (toV ad))).length = (spread as).length + 1
    unfold lg_sl at h ⊢
    rw [List.flatMap_cons, List.length_append]
    show 1 + _ = _
    omega
  | .inr (.inl x) :: as => by
    have h := lg_len ad as
    show (lg_sl (Value.long (Int64.ofInt x) :: as.map (toV ad))).length = (spread as).length + 1 + 1
    unfold lg_sl at h ⊢
    rw [List.flatMap_cons, List.length_append]
    show 2 + _ = _
    omega
  | .inr (.inr (.inl q)) :: as => by
    have h := lg_len ad as
    show (lg_sl (Value.ref (ad q.1 q.2) :: as.map (toV ad))).length = (spread as).length + 1
    unfold lg_sl at h ⊢
    rw [List.flatMap_cons, List.length_append]
    show 1 + _ = _
    omega
  | .inr (.inr (.inr u)) :: as => by
    have h := lg_len ad as
    show (lg_sl (Value.null :: as.map (toV ad))).length = (spread as).length + 1
    unfold lg_sl at h ⊢
    rw [List.flatMap_cons, List.length_append]
    show 1 + _ = _
    omega
theorem spr_at (ad : AdT) : ∀ (as : List MV) (j i : Nat) (v : MV), nth (spread as) i = some v → v ≠ vX → (j + i, toV ad v) ∈ lv_args j (as.map (toV ad))
  | [], j, i, v, h, _ => by simp [spread, nth] at h
  | .inl x :: as, j, 0, v, h, hx => by
    cases (show some (vI x) = some v from h)
    exact List.mem_cons_self
  | .inl x :: as, j, i + 1, v, h, hx => by
    have k := spr_at ad as (j + 1) i v h hx
    rw [show j + (i + 1) = j + 1 + i by omega]
    exact List.mem_cons_of_mem _ k
  | .inr (.inl x) :: as, j, 0, v, h, hx => by
    cases (show some (vJ x) = some v from h)
    exact List.mem_cons_self
  | .inr (.inl x) :: as, j, 1, v, h, hx => by
    cases (show some vX = some v from h)
    exact absurd rfl hx
  | .inr (.inl x) :: as, j, i + 2, v, h, hx => by
    have k := spr_at ad as (j + 2) i v h hx
    rw [show j + (i + 2) = j + 2 + i by omega]
    exact List.mem_cons_of_mem _ k
  | .inr (.inr (.inl q)) :: as, j, 0, v, h, hx => by
    cases (show some (.inr (.inr (.inl q))) = some v from h)
    exact List.mem_cons_self
  | .inr (.inr (.inl q)) :: as, j, i + 1, v, h, hx => by
    have k := spr_at ad as (j + 1) i v h hx
    rw [show j + (i + 1) = j + 1 + i by omega]
    exact List.mem_cons_of_mem _ k
  | .inr (.inr (.inr u)) :: as, j, 0, v, h, hx => by
    cases (show some (.inr (.inr (.inr u))) = some v from h)
    exact absurd rfl hx
  | .inr (.inr (.inr u)) :: as, j, i + 1, v, h, hx => by
    have k := spr_at ad as (j + 1) i v h hx
    rw [show j + (i + 1) = j + 1 + i by omega]
    exact List.mem_cons_of_mem _ k
theorem padX_at : ∀ (n : Nat) (l : List MV) (i : Nat) (v : MV), nth (padX n l) i = some v → v ≠ vX → nth l i = some v
  | 0, l, i, v, h, _ => by simp [padX, nth] at h
  | n + 1, [], 0, v, h, hx => by
    cases (show some vX = some v from h)
    exact absurd rfl hx
  | n + 1, [], i + 1, v, h, hx => by
    have k := padX_at n [] i v h hx
    simp [nth] at k
  | n + 1, a :: l, 0, v, h, hx => h
  | n + 1, a :: l, i + 1, v, h, hx => padX_at n l i v h hx
theorem padX_len : ∀ (n : Nat) (l : List MV), (padX n l).length = n
  | 0, l => rfl
  | n + 1, [] => by
    show (padX n []).length + 1 = n + 1
    rw [padX_len n []]
  | n + 1, a :: l => by
    show (padX n l).length + 1 = n + 1
    rw [padX_len n l]
theorem padX_mem : ∀ (n : Nat) (l : List MV) (v : MV), v ∈ padX n l → v = vX ∨ v ∈ l
  | 0, l, v, h => absurd h List.not_mem_nil
  | n + 1, [], v, h => by
    rcases List.mem_cons.mp (show v ∈ vX :: padX n [] from h) with h | h
    · exact Or.inl h
    · exact padX_mem n [] v h
  | n + 1, a :: l, v, h => by
    rcases List.mem_cons.mp (show v ∈ a :: padX n l from h) with h | h
    · exact Or.inr (by rw [h]; exact List.mem_cons_self)
    · rcases padX_mem n l v h with h | h
      · exact Or.inl h
      · exact Or.inr (List.mem_cons_of_mem _ h)
theorem spread_mem : ∀ (l : List MV) (v : MV), v ∈ spread l → v = vX ∨ v ∈ l
  | [], v, h => absurd h List.not_mem_nil
  | .inl x :: l, v, h => by
    rcases List.mem_cons.mp (show v ∈ vI x :: spread l from h) with h | h
    · exact Or.inr (by rw [h]; exact List.mem_cons_self)
    · rcases spread_mem l v h with h | h
      · exact Or.inl h
      · exact Or.inr (List.mem_cons_of_mem _ h)
  | .inr (.inl x) :: l, v, h => by
    rcases List.mem_cons.mp (show v ∈ vJ x :: vX :: spread l from h) with h | h
    · exact Or.inr (by rw [h]; exact List.mem_cons_self)
    rcases List.mem_cons.mp h with h | h
    · exact Or.inl h
    · rcases spread_mem l v h with h | h
      · exact Or.inl h
      · exact Or.inr (List.mem_cons_of_mem _ h)
  | .inr (.inr r) :: l, v, h => by
    rcases List.mem_cons.mp (show v ∈ .inr (.inr r) :: spread l from h) with h | h
    · exact Or.inr (by rw [h]; exact List.mem_cons_self)
    · rcases spread_mem l v h with h | h
      · exact Or.inl h
      · exact Or.inr (List.mem_cons_of_mem _ h)
theorem noJ_at : ∀ (l : List MV), noJ l = true → ∀ v ∈ l, isJ v = false
  | [], _, v, h => absurd h List.not_mem_nil
  | a :: l, h, v, hv => by
    unfold noJ at h
    cases z : isJ a <;> rw [z] at h
    · rcases List.mem_cons.mp hv with q | q
      · rw [q]; exact z
      · exact noJ_at l h v q
    · cases h
theorem mkL_mem {k : Nat} {as : List MV} {v : MV} (h : v ∈ mkL k as) : v = vX ∨ v ∈ as := by
  rcases padX_mem _ _ _ h with h | h
  · exact Or.inl h
  · exact spread_mem _ _ h
theorem argOk_t {k : Nat} {as : List MV} (h : recvOk k as = true) : (spread as).length ≤ mMaxL k ∧ (mLong k = false → ∀ v ∈ as, isJ v = false) ∧ cond (mSt k) true (recvC k as) = true := by
  unfold recvOk at h
  cases z : argOk k as <;> rw [z] at h
  · cases h
  · unfold argOk at z
    cases z1 : Nat.ble (spread as).length (mMaxL k) <;> rw [z1] at z
    · cases z
    · refine ⟨Nat.le_of_ble_eq_true z1, fun hl => ?_, h⟩
      rw [cond_true, hl, cond_false] at z
      exact noJ_at as z
theorem locs_entry {ad : AdT} {k : Nat} {as : List MV} {ls : Array Slot} (h : lv_has ls (mMaxL k) (lv_args 0 (as.map (toV ad)))) : Locs ad (mkL k as) ls := by
  refine ⟨by rw [h.1]; exact (padX_len _ _).symm, h.2.1, fun i v hi hv => ?_⟩
  have h1 := spr_at ad as 0 i v (padX_at _ _ _ _ hi hv) hv
  rw [Nat.zero_add] at h1
  exact h.2.2 _ h1
theorem bpc0_all : allR (fun k => Nat.beq (bpc k 0) 0) 0 264 = true := by decide +kernel
theorem bpc0 {k : Nat} (h : k < 264) : bpc k 0 = 0 := Nat.eq_of_beq_eq_true (allR_at 264 0 k bpc0_all (by omega) (by omega))
theorem plain_all : allR (fun k => plainName (cN (mOwn k))) 1 263 = true := by decide +kernel
theorem plain_k {k : Nat} (h0 : 0 < k) (h : k < 264) : plainName (mN k).cls = true := allR_at 263 1 k plain_all (by omega) (by omega)
theorem mRet_k {k : Nat} (h : k < 264) : retOk (mRet k) (mRetT k) = true := allR_at 264 0 k mRet_ok (by omega) (by omega)
theorem ret0 {r : Option FieldType} (h : retOk 0 r = true) : r = none := by
  rcases r with _ | r
  · rfl
  · cases h
theorem ret1 {r : Option FieldType} (h : retOk 1 r = true) : r = some .int := by
  rcases r with _ | r
  · cases h
  · cases r <;> first | rfl | cases h
theorem ret2 {r : Option FieldType} (h : retOk 2 r = true) : r = some .boolean := by
  rcases r with _ | r
  · cases h
  · cases r <;> first | rfl | cases h
theorem ret3 {r : Option FieldType} (h : retOk 3 r = true) : r = some .long := by
  rcases r with _ | r
  · cases h
  · cases r <;> first | rfl | cases h
theorem ret4 {r : Option FieldType} (h : retOk 4 r = true) : ∃ n, r = some (.object n) := by
  rcases r with _ | r
  · cases h
  · cases r <;> first | exact ⟨_, rfl⟩ | cases h
theorem toV_same {ad ad1 : AdT} {n : Nat} (hag : ∀ q, vld n q → ad1 q.1 q.2 = ad q.1 q.2) (h9 : ad1 999 0 = ad 999 0) (h10 : ∀ i, i < 16 → ad1 1000 i = ad 1000 i) {v : MV} (h : okV n v) : toV ad1 v = toV ad v := by
  rcases v with v | v | ⟨k, i⟩ | v
  · rfl
  · rfl
  · show Value.ref (ad1 k i) = Value.ref (ad k i)
    rcases h with h | h | ⟨h, h2⟩
    · exact congrArg _ (hag (k, i) h)
    · cases h
      exact congrArg _ h9
    · dsimp only at h h2
      subst h
      exact congrArg _ (h10 i h2)
  · rfl
section CALL
variable {N : Nat} {G : GT} {b : Nat} {xs : Nat → Int32}
/-- what else holds of the cells -/
def RestW (N : Nat) (G : GT) (b : Nat) (xs : Nat → Int32) (ad : AdT) (S : MS) : Prop := ad 999 0 = b ∧ (∀ i, i < 16 → ad 1000 i = G.2.2 i) ∧ okS S.2.2 ∧ RK S ∧ (∀ j, j < N → Int32.ofInt (S.2.2 999 0 j) = xs j)
/-- what holds as a method begins -/
def PreW (N : Nat) (G : GT) (b : Nat) (xs : Nat → Int32) (ad : AdT) (S : MS) (sz : Nat) (U : State) : Prop :=
  U.heap.size = sz ∧ va_P G.1 cls0 (wl G ad S) U.heap ∧ GS G U ∧ va_D (va_A (wl G ad S) sz) (wl G ad S) ∧ va_X b N xs U U.heap ∧ b < sz ∧ ¬ va_A (wl G ad S) sz b ∧ TXc G (va_A (wl G ad S) sz) U U.heap
def QcW (N : Nat) (G : GT) (b : Nat) (xs : Nat → Int32) (out : Out) (ad : AdT) (S : MS) (sz : Nat) : Array Value → State → Outcome → State → Prop := fun _ st oc t =>
  (∃ ad1 : AdT, oc = .returned (out.1.map (toV ad1)) ∧ (∀ q, vld S.1 q → ad1 q.1 q.2 = ad q.1 q.2) ∧ va_P G.1 cls0 (wl G ad1 out.2) t.heap ∧ va_D (va_A (wl G ad S) sz) (wl G ad1 out.2) ∧ RestW N G b xs ad1 out.2 ∧ ∀ v, out.1 = some v → okV out.2.1 v) ∧ va_F (va_A (wl G ad S) sz) st t
def rmK (k : Nat) (S S' : MS) : Room := { frames := mFr k, cells := S'.1 - S.1, slots := slN S'.1 - slN S.1, locals := mLo k }
def wsK (k : Nat) : List Cond := Cond.code (mN k) (mCode k) (mMaxL k) (mRetT k) :: gw
/-- every method's contract, out of its run with so much fuel -/
def MetK (N F : Nat) (l : Launch) : Prop := ∀ (k : Nat) (G : GT) (b : Nat) (xs : Nat → Int32) (as : List MV) (S : MS) (out : Out) (ad : AdT) (sz : Nat), 0 < k → k < 264 → exec N F k 0 (mkL k as) [] S = some out → recvOk k as = true → (∀ v ∈ as, okV S.1 v) → RestW N G b xs ad S → N < 2147483648 →
  Met l (mN k) (wsK k) (rmK k S out.2) (va_Pc (as.map (toV ad)) (PreW N G b xs ad S sz)) (QcW N G b xs out ad S sz) (out.2.1 - S.1) (slN out.2.1 - slN S.1) (va_A (wl G ad S) sz)
theorem met_of {F : Nat} {l : Launch} (hw : ∀ (m : Nat) (G : GT) (b : Nat) (xs : Nat → Int32) (out : Out) (p : Program) (e : Env) (R : Room) (s : State) (mid : MethodId) (args : Array Value) (below : List Frame) (meth : Method) (c : Code) (A : Nat → Prop) (H0 : Heap) (Q : State → Prop), Cx N m G b xs p R s mid args meth c A H0 → IH N F m G b xs out p l e R s mid args below meth c A H0 Q) : MetK N F l := by
  intro k G b xs as S out ad sz hk0 hk he hrv hok hrest hN
  have hmono := exec_n _ _ _ _ _ _ _ he
  have hsl := slN_mono hmono
  obtain ⟨hlen, hJ, -⟩ := argOk_t hrv
  refine Met.ofW (cc := mCode k) (maxL := mMaxL k) (ret := mRetT k) (plain_k hk0 hk) rfl ?_
  intro p e s mid args below meth c s₁ B hml hv
  obtain ⟨rfl, hsz, hP, hGS, hD, hX, hbl, hbA, hTX⟩ := hv
  have hts := atoms_spec (ws := wsK k) B.pre
  have hown : s.vm.findClass (cN (mOwn k)) = some mid.cls := findClass_of_methodNamed B.named
  have hlocks := B.notSynchronized
  have hx := B.exec
  have hb := B.bytes
  have hr := B.returns
  subst hsz
  rw [lg_entry_eq]
  have hl := lv_entry (as.map (toV ad)) (n := mMaxL k) (by rw [lg_len]; exact hlen)
  generalize ((lg_sl (as.map (toV ad))) ++ List.replicate (mMaxL k - (lg_sl (as.map (toV ad))).length) Slot.unset).toArray = ls at hl ⊢
  have hC : Cx N k G b xs p (headSpec (wsK k) (rmK k S out.2)).room s mid (as.map (toV ad)).toArray meth c (va_A (wl G ad S) s.heap.size) s.heap := ⟨hk, hx, hb, hml, hown, fun w hw => hts w (List.mem_cons_of_mem _ hw), fun hi => (name_of_methodNamed B.named B.method).1.trans (mInit_nm k hk hi), Nat.le_refl _, Nat.le_refl _, hGS, fun q h => Or.inr h, hX, hbl, hbA, hTX, hN⟩
  obtain ⟨r1, r2, r3, r4, r5⟩ := hrest
  have k0 := hw k G b xs out p e _ s mid _ below meth c _ _ (MQ below (QcW N G b xs out ad S s.heap.size) (as.map (toV ad)).toArray s (out.2.1 - S.1) (slN out.2.1 - slN S.1) (va_A (wl G ad S) s.heap.size)) hC 0 (mkL k as) [] S ad s.heap [] 0 0 ls he ⟨⟨hP, hD, va_S.rf, r1, r2, r3, r4, r5⟩, fun v hv => ?_, fun v hv => absurd hv List.not_mem_nil, fun hl v hv => ?_, locs_entry hl, padX_len _ _, ?_, ?_, ?_⟩
  · rw [bpc0 hk] at k0
    exact k0
  · rcases mkL_mem hv with h | h
    · rw [h]; trivial
    · exact hok v h
  · rcases mkL_mem hv with h | h
    · rw [h]; rfl
    · exact hJ hl v h
  · show 0 + out.2.1 ≤ out.2.1 - S.1 + S.1
    omega
  · show 0 + slN out.2.1 ≤ slN out.2.1 - slN S.1 + slN S.1
    omega
  · intro ad1 H1 locs1 cells1 slots1 pc1 ls1 hag hW hc1 hs1 hE hV
    have hc2 : cells1 = out.2.1 - S.1 := by omega
    have hs2 : slots1 = slN out.2.1 - slN S.1 := by omega
    subst hc2
    subst hs2
    obtain ⟨w1, w2, w3, w4, w5, w6, w7, w8⟩ := hW
    have hQ : ∀ t : State, t.heap = H1 → QcW N G b xs out ad S s.heap.size (as.map (toV ad)).toArray s (.returned (out.1.map (toV ad1))) t := fun t ht => ⟨⟨ad1, rfl, hag, by rw [ht]; exact w1, w2, ⟨w4, w5, w6, w7, w8⟩, hV⟩, w3.F ht⟩
    have hm := mRet_k hk
    obtain ⟨o1, o2⟩ := out
    rcases o1 with _ | (x | (x | (x | x)))
    · obtain ⟨hd, h0⟩ := hE
      rw [h0] at hm
      exact W.vret hx hb (hr.trans (ret0 hm)) (fun t ht _ => hQ t ht) w3.2.2 hd
    · obtain ⟨hd, h0, -⟩ := hE
      rcases h0 with h0 | ⟨h0, h1⟩
      · rw [h0] at hm
        exact W.iret hx hb (hr.trans (ret1 hm)) (fun t ht _ => hQ t ht) w3.2.2 hd
      · rw [h0] at hm
        refine W.zret hx hb (hr.trans (ret2 hm)) ?_ (fun t ht _ => hQ t ht) w3.2.2 hd
        rcases h1 with rfl | rfl <;> rfl
    · obtain ⟨hd, h0, -⟩ := hE
      rw [h0] at hm
      exact W.lret hx hb (hr.trans (ret3 hm)) (fun t ht _ => hQ t ht) w3.2.2 hd
    · obtain ⟨hd, h0⟩ := hE
      rw [h0] at hm
      obtain ⟨nm, hnm⟩ := ret4 hm
      exact W.aret hx hb (hr.trans hnm) (Or.inl ⟨_, rfl⟩) (Or.inr ⟨_, rfl⟩) (fun t ht _ => hQ t ht) w3.2.2 hd
    · exact hE.elim
end CALL
