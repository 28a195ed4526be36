section WALK
variable {N m : Nat} {G : GT} {b : Nat} {xs : Nat → Int32} {out : Out}
variable {p : Program} {l : Launch} {e : Env} {R : Room} {s : State} {mid : MethodId} {args : Array Value} {below : List Frame} {meth : Method} {c : Code} {A : Nat → Prop} {H0 : Heap} {Q : State → Prop}
variable {F pc : Nat} {L st : List MV} {S : MS} {ad : AdT} {H : Heap} {locs : List Loc} {cells slots : Nat} {ls : Array Slot}
def adn (ad : AdT) (k i q : Nat) : AdT := fun k' i' => if k' = k ∧ i' = i then q else ad k' i'
theorem adn_self {k i q : Nat} : adn ad k i q k i = q := by unfold adn; rw [if_pos ⟨rfl, rfl⟩]
theorem adn_ne {k i q k' i' : Nat} (h : (k', i') ≠ (k, i)) : adn ad k i q k' i' = ad k' i' := by
  unfold adn
  rw [if_neg (fun z => h (Prod.ext z.1 z.2))]
theorem elem3_app (a : Nat × Nat × Nat) : ∀ l1 l2, elem3 a (l1 ++ l2) = (elem3 a l1 || elem3 a l2)
  | [], l2 => by simp [elem3]
  | b :: l1, l2 => by
    rw [List.cons_append, elem3_cons, elem3_cons, elem3_app a l1 l2]
    rcases (cond (Nat.beq a.1 b.1) (cond (Nat.beq a.2.1 b.2.1) (cond (Nat.beq a.2.2 b.2.2) true false) false) false) <;> rfl
theorem refSlots_k {a k i : Nat} (ho : nth ords a = some (k, i)) : (∀ f, f < nF (kCls k) → kTag k = 0 → fTy (kCls k) f = 3 → elem3 (k, i, f) (refSlots k i) = true) ∧ ∀ x ∈ refSlots k i, x.1 = k ∧ x.2.1 = i := by
  have e : allR (fun a => match nth ords a with
    | some q => band (allR (fun f => cond (Nat.beq (kTag q.1) 0) (cond (Nat.beq (fTy (kCls q.1) f) 3) (elem3 (q.1, q.2, f) (refSlots q.1 q.2)) true) true) 0 (nF (kCls q.1))) (allL (fun x => band (Nat.beq x.1 q.1) (Nat.beq x.2.1 q.2)) (refSlots q.1 q.2))
    | none => true) 0 55 = true := by decide +kernel
  have h1 : a < 55 := nth_lt _ _ _ ho
  have e1 := allR_at 55 0 a e (by omega) (by omega)
  rw [ho] at e1
  obtain ⟨e2, e3⟩ := band_t e1
  refine ⟨fun f hf h0 h3 => ?_, fun x hx => ?_⟩
  · have e4 : cond (Nat.beq (kTag k) 0) (cond (Nat.beq (fTy (kCls k) f) 3) (elem3 (k, i, f) (refSlots k i)) true) true = true := allR_at (nF (kCls k)) 0 f e2 (by omega) (by omega)
    rw [h0, h3] at e4
    exact e4
  · obtain ⟨g1, g2⟩ := band_t (allL_in e3 x hx)
    exact ⟨Nat.eq_of_beq_eq_true g1, Nat.eq_of_beq_eq_true g2⟩
theorem elem3_out {a : Nat × Nat × Nat} : ∀ {l : List (Nat × Nat × Nat)}, (∀ x ∈ l, ¬ (a.1 = x.1 ∧ a.2.1 = x.2.1)) → elem3 a l = false
  | [], _ => rfl
  | b :: l, h => by
    rw [elem3_cons, elem3_out (fun x hx => h x (List.mem_cons_of_mem _ hx))]
    rw [beq3_ne (fun z => h b List.mem_cons_self ⟨z.1, z.2.1⟩)]
    rfl
/-- behind a cell that is made, what was there is as it was -/
theorem ent_new {k i q a : Nat} {un' : List (Nat × Nat × Nat)} (hRK : RK S) (ho : nth ords S.1 = some (k, i)) (hu : ∀ k' i' f, (k', i') ≠ (k, i) → elem3 (k', i', f) un' = elem3 (k', i', f) S.2.1) {q' : Nat × Nat} (ha : a < S.1) (hq : nth ords a = some q') :
    (adn ad k i q q'.1 q'.2, ent G (adn ad k i q) (S.1 + 1, un', zro S.2.2 k i) q') = (ad q'.1 q'.2, ent G ad S q') := by
  have hne : q' ≠ (k, i) := fun z => by
    have := ords_inj (z ▸ hq) ho
    omega
  have hz : ∀ j, zro S.2.2 k i q'.1 q'.2 j = S.2.2 q'.1 q'.2 j := fun j => by
    unfold zro
    rw [if_neg (fun z => hne (Prod.ext z.1 z.2))]
  rw [adn_ne hne]
  congr 1
  unfold ent
  split
  · rename_i h0
    congr 2
    apply List.map_congr_left
    intro f hf
    have hf := List.mem_range.mp hf
    unfold fval
    simp only [hz, hu q'.1 q'.2 f hne]
    split
    · rfl
    · rename_i h3
      rcases z : elem3 (q'.1, q'.2, f) S.2.1 with _ | _
      · obtain ⟨a2, ha2, ho2⟩ := hRK q' ⟨a, ha, hq⟩ h0 f hf h3 z
        rw [cond_false, cond_false, adn_ne]
        intro z2
        have := ords_inj (z2 ▸ ho2) ho
        omega
      · rfl
    · rfl
  · simp only [hz]
  · simp only [hz]
theorem wl_new {k i q : Nat} {un' : List (Nat × Nat × Nat)} (hRK : RK S) (ho : nth ords S.1 = some (k, i)) (hu : ∀ k' i' f, (k', i') ≠ (k, i) → elem3 (k', i', f) un' = elem3 (k', i', f) S.2.1) :
    wl G ad S ++ [(q, ent G (adn ad k i q) (S.1 + 1, un', zro S.2.2 k i) (k, i))] = wl G (adn ad k i q) (S.1 + 1, un', zro S.2.2 k i) := by
  unfold wl
  have e : ords.take (S.1 + 1) = ords.take S.1 ++ [(k, i)] := by
    rw [nth_get] at ho
    rw [List.take_add_one, ho]
    rfl
  show _ = (ords.take (S.1 + 1)).map _
  rw [e, List.map_append, List.map_cons, List.map_nil, adn_self]
  congr 1
  apply List.map_congr_left
  intro q' hq'
  obtain ⟨a, ha, hx⟩ := List.mem_take_iff_getElem.mp hq'
  have ha2 : a < S.1 := by omega
  exact (ent_new hRK ho hu ha2 (by rw [nth_get, List.getElem?_eq_getElem (by omega), hx])).symm
end WALK
