section WALK
variable {N m : Nat} {G : GT} {b : Nat} {xs : Nat → Int32} {out : Out}
variable {p : Program} {l : Launch} {e : Env} {R : Room} {s : State} {mid : MethodId} {args : Array Value} {below : List Frame} {meth : Method} {c : Code} {A : Nat → Prop} {H0 : Heap} {Q : State → Prop}
variable {F pc : Nat} {L st : List MV} {S : MS} {ad : AdT} {H : Heap} {locs : List Loc} {cells slots : Nat} {ls : Array Slot}
def adn (ad : AdT) (k i q : Nat) : AdT := fun k' i' => if k' = k ∧ i' = i then q else ad k' i'
theorem adn_self {k i q : Nat} : adn ad k i q k i = q := by unfold adn; rw [if_pos ⟨rfl, rfl⟩]
theorem adn_ne {k i q k' i' : Nat} (h : (k', i') ≠ (k, i)) : adn ad k i q k' i' = ad k' i' := by
  unfold adn
  rw [if_neg (fun z => h (Prod.ext z.1 z.2))]
theorem elem3_app (a : Nat × Nat × Nat) : ∀ l1 l2, elem3 a (l1 ++ l2) = (elem3 a l1 || elem3 a l2)
  | [], l2 => by simp [elem3]
  | b :: l1, l2 => by
    rw [List.cons_append, elem3_cons, elem3_cons, elem3_app a l1 l2]
    rcases (cond (Nat.beq a.1 b.1) (cond (Nat.beq a.2.1 b.2.1) (cond (Nat.beq a.2.2 b.2.2) true false) false) false) <;> rfl
theorem refSlots_k {a k i : Nat} (ho : nth ords a = some (k, i)) : (∀ f, f < nF (kCls k) → kTag k = 0 → fTy (kCls k) f = 3 → elem3 (k, i, f) (refSlots k i) = true) ∧ ∀ x ∈ refSlots k i, x.1 = k ∧ x.2.1 = i := by
  have e : allR (fun a => match nth ords a with
    | some q => band (allR (fun f => cond (Nat.beq (kTag q.1) 0) (cond (Nat.beq (fTy (kCls q.1) f) 3) (elem3 (q.1, q.2, f) (refSlots q.1 q.2)) true) true) 0 (nF (kCls q.1))) (allL (fun x => band (Nat.beq x.1 q.1) (Nat.beq x.2.1 q.2)) (refSlots q.1 q.2))
    | none => true) 0 55 = true := by decide +kernel
  have h1 : a < 55 := nth_lt _ _ _ ho
  have e1 := allR_at 55 0 a e (by omega) (by omega)
  rw [ho] at e1
  obtain ⟨e2, e3⟩ := band_t e1
  refine ⟨fun f hf h0 h3 => ?_, fun x hx => ?_⟩
  · have e4 : cond (Nat.beq (kTag k) 0) (cond (Nat.beq (fTy (kCls k) f) 3) (elem3 (k, i, f) (refSlots k i)) true) true = true := allR_at (nF (kCls k)) 0 f e2 (by omega) (by omega)
    rw [h0, h3] at e4
    exact e4
  · obtain ⟨g1, g2⟩ := band_t (allL_in e3 x hx)
    exact ⟨Nat.eq_of_beq_eq_true g1, Nat.eq_of_beq_eq_true g2⟩
theorem elem3_out {a : Nat × Nat × Nat} : ∀ {l : List (Nat × Nat × Nat)}, (∀ x ∈ l, ¬ (a.1 = x.1 ∧ a.2.1 = x.2.1)) → elem3 a l = false
  | [], _ => rfl
  | b :: l, h => by
    rw [elem3_cons, elem3_out (fun x hx => h x (List.mem_cons_of_mem _ hx))]
    rw [beq3_ne (fun z => h b List.mem_cons_self ⟨z.1, z.2.1⟩)]
    rfl
/-- behind a cell that is made, what was there is as it was -/
theorem ent_new {k i q a : Nat} {un' : List (Nat × Nat × Nat)} (hRK : RK S) (ho : nth ords S.1 = some (k, i)) (hu : ∀ k' i' f, (k', i') ≠ (k, i) → elem3 (k', i', f) un' = elem3 (k', i', f) S.2.1) {q' : Nat × Nat} (ha : a < S.1) (hq : nth ords a = some q') :
    (adn ad k i q q'.1 q'.2, ent G (adn ad k i q) (S.1 + 1, un', zro S.2.2 k i) q') = (ad q'.1 q'.2, ent G ad S q') := by
  have hne : q' ≠ (k, i) := fun z => by
    have := ords_inj (z ▸ hq) ho
    omega
  have hz : ∀ j, zro S.2.2 k i q'.1 q'.2 j = S.2.2 q'.1 q'.2 j := fun j => by
    unfold zro
    rw [if_neg (fun z => hne (Prod.ext z.1 z.2))]
  rw [adn_ne hne]
  congr 1
  unfold ent
  split
  · rename_i h0
    congr 2
    apply List.map_congr_left
    intro f hf
    have hf := List.mem_range.mp hf
    unfold fval
    simp only [hz, hu q'.1 q'.2 f hne]
    split
    · rfl
    · rename_i h3
      rcases z : elem3 (q'.1, q'.2, f) S.2.1 with _ | _
      · obtain ⟨a2, ha2, ho2⟩ := hRK q' ⟨a, ha, hq⟩ h0 f hf h3 z
        rw [cond_false, cond_false, adn_ne]
        intro z2
        have z3 : fRef q'.1 q'.2 f = (k, i) := z2
        have := ords_inj (z3 ▸ ho2) ho
        omega
      · rfl
    · rfl
  · simp only [hz]
  · simp only [hz]
theorem wl_new {k i q : Nat} {un' : List (Nat × Nat × Nat)} (hRK : RK S) (ho : nth ords S.1 = some (k, i)) (hu : ∀ k' i' f, (k', i') ≠ (k, i) → elem3 (k', i', f) un' = elem3 (k', i', f) S.2.1) :
    wl G ad S ++ [(q, ent G (adn ad k i q) (S.1 + 1, un', zro S.2.2 k i) (k, i))] = wl G (adn ad k i q) (S.1 + 1, un', zro S.2.2 k i) := by
  unfold wl
  have e : ords.take (S.1 + 1) = ords.take S.1 ++ [(k, i)] := by
    rw [nth_get] at ho
    rw [List.take_add_one, ho]
    rfl
  show _ = (ords.take (S.1 + 1)).map _
  rw [e, List.map_append, List.map_cons, List.map_nil, adn_self]
  congr 1
  apply List.map_congr_left
  intro q' hq'
  obtain ⟨a, ha, hx⟩ := List.mem_take_iff_getElem.mp hq'
  have ha2 : a < S.1 := by omega
  exact (ent_new hRK ho hu ha2 (by rw [nth_get, List.getElem?_eq_getElem (by omega), hx])).symm
theorem vld_ne {k i : Nat} (ho : nth ords S.1 = some (k, i)) {q : Nat × Nat} (h : vld S.1 q) : q ≠ (k, i) := by
  obtain ⟨a, ha, hq⟩ := h
  intro z
  have := ords_inj (z ▸ hq) ho
  omega
theorem toV_new {k i q : Nat} (ho : nth ords S.1 = some (k, i)) {v : MV} (h : okV S.1 v) : toV (adn ad k i q) v = toV ad v := by
  rcases v with v | v | ⟨k', i'⟩ | v
  · rfl
  · rfl
  · show Value.ref (adn ad k i q k' i') = Value.ref (ad k' i')
    rw [adn_ne]
    have hk := (ords_kd ho).1
    dsimp only at hk
    rcases h with h | h | ⟨h, -⟩
    · exact vld_ne ho h
    · intro z
      rw [h] at z
      have := congrArg Prod.fst z
      dsimp only at this
      omega
    · intro z
      have := congrArg Prod.fst z
      dsimp only at this h
      omega
  · rfl
theorem okV_mono {n n' : Nat} (hn : n ≤ n') {v : MV} (h : okV n v) : okV n' v := by
  rcases v with v | v | q | v
  · exact h
  · exact h
  · rcases h with ⟨a, ha, ho⟩ | h
    · exact Or.inl ⟨a, by omega, ho⟩
    · exact Or.inr h
  · trivial
/-- the place behind a cell that was made -/
theorem here_new {k i q : Nat} {un' : List (Nat × Nat × Nat)} {H1 : Heap} {L st' : List MV} (hH : Here N m G b xs out p l e R s mid args below meth c A H0 Q L st S ad H locs cells slots ls) (ho : nth ords S.1 = some (k, i)) (hst : ∀ v ∈ st', okV S.1 v)
    (hu : ∀ k' i' f, (k', i') ≠ (k, i) → elem3 (k', i', f) un' = elem3 (k', i', f) S.2.1) (hun : kTag k = 0 → ∀ f, f < nF (kCls k) → fTy (kCls k) f = 3 → elem3 (k, i, f) un' = true)
    (hP : va_P G.1 cls0 (wl G ad S ++ [(q, ent G (adn ad k i q) (S.1 + 1, un', zro S.2.2 k i) (k, i))]) H1) (hD : va_D A (wl G ad S ++ [(q, ent G (adn ad k i q) (S.1 + 1, un', zro S.2.2 k i) (k, i))])) (hS : va_S A H0 H1 locs) :
    Here N m G b xs out p l e R s mid args below meth c A H0 Q L (vR k i :: st') (S.1 + 1, un', zro S.2.2 k i) (adn ad k i q) H1 locs (cells + 1) (slots + szOf (k, i)) ls := by
  obtain ⟨⟨-, -, -, w4, w5, w6, w7, w8⟩, h2, h3, h4, h5, h6, h7, h8, h9⟩ := hH
  have hk := (ords_kd ho).1
  dsimp only at hk
  rw [wl_new w7 ho hu] at hP hD
  have hne999 : ((999 : Nat), (0 : Nat)) ≠ (k, i) := fun z => by have := congrArg Prod.fst z; dsimp only at this; omega
  refine ⟨⟨hP, hD, hS, by rw [adn_ne hne999]; exact w4, fun j hj => by rw [adn_ne (fun z => by have := congrArg Prod.fst z; dsimp only at this; omega)]; exact w5 j hj, fun k' i' j => ?_, fun q' hq' h0 f hf hf3 he => ?_, fun j hj => ?_⟩, fun v hv => okV_mono (Nat.le_succ _) (h2 v hv), ok1 (Or.inl ⟨S.1, Nat.lt_succ_self _, ho⟩) (fun v hv => okV_mono (Nat.le_succ _) (hst v hv)), h4, ⟨h5.1, h5.2.1, fun j v hj hv => ?_⟩, h6, ?_, ?_, ?_⟩
  · show in64 (zro S.2.2 k i k' i' j) ∧ (isL k' j = false → in32 (zro S.2.2 k i k' i' j))
    unfold zro
    split
    · exact ⟨in64_0, fun _ => in32_0⟩
    · exact w6 k' i' j
  · by_cases g : q' = (k, i)
    · rw [g] at h0 hf hf3 he
      have := hun h0 f hf hf3
      dsimp only at he
      rw [this] at he
      cases he
    · obtain ⟨a, ha, hqa⟩ := hq'
      have ha1 : a ≠ S.1 := fun z => by
        rw [z, ho] at hqa
        cases hqa
        exact g rfl
      have ha2 : a < S.1 + 1 := ha
      have he2 : elem3 (q'.1, q'.2, f) S.2.1 = false := (hu q'.1 q'.2 f g).symm.trans he
      obtain ⟨a2, g2, g3⟩ := w7 q' ⟨a, by omega, hqa⟩ h0 f hf hf3 he2
      exact ⟨a2, Nat.lt_succ_of_lt g2, g3⟩
  · have e1 : zro S.2.2 k i 999 0 j = S.2.2 999 0 j := by unfold zro; rw [if_neg (fun z => hne999 (Prod.ext z.1 z.2))]
    show Int32.ofInt (zro S.2.2 k i 999 0 j) = xs j
    rw [e1]
    exact w8 j hj
  · rw [toV_new ho (h2 v (nth_mem _ _ _ hj))]
    exact h5.2.2 j v hj hv
  · show cells + 1 + out.2.1 ≤ R.cells + (S.1 + 1)
    omega
  · show slots + szOf (k, i) + slN out.2.1 ≤ R.slots + slN (S.1 + 1)
    rw [slN_succ ho]
    omega
  · intro ad1 H2 locs2 cells1 slots1 pc1 ls1 hag hW2 hc1 hs1 hE hV
    refine h9 ad1 H2 locs2 cells1 slots1 pc1 ls1 (fun q' hq' => ?_) hW2 ?_ ?_ hE hV
    · obtain ⟨a, ha, hqa⟩ := hq'
      rw [hag q' ⟨a, Nat.lt_succ_of_lt ha, hqa⟩, adn_ne (vld_ne ho ⟨a, ha, hqa⟩)]
    · have : cells1 + (S.1 + 1) = cells + 1 + out.2.1 := hc1
      omega
    · have h10 : slots1 + slN (S.1 + 1) = slots + szOf (k, i) + slN out.2.1 := hs1
      rw [slN_succ ho] at h10
      omega
end WALK
