section WALK
variable {N m : Nat} {G : GT} {b : Nat} {xs : Nat → Int32} {out : Out}
variable {p : Program} {l : Launch} {e : Env} {R : Room} {s : State} {mid : MethodId} {args : Array Value} {below : List Frame} {meth : Method} {c : Code} {A : Nat → Prop} {H0 : Heap} {Q : State → Prop}
variable {F pc : Nat} {L st : List MV} {S : MS} {ad : AdT} {H : Heap} {locs : List Loc} {cells slots : Nat} {ls : Array Slot}
theorem nth_setn {α : Type} (l : List α) (i j : Nat) (v : α) : nth (setn l i v) j = if i = j then (if j < l.length then some v else none) else nth l j := by
  rw [nth_get, setn_set, nth_get, List.getElem?_set]
  by_cases h : i = j
  · subst h; simp
  · simp [h]
theorem setn_len {α : Type} (l : List α) (i : Nat) (v : α) : (setn l i v).length = l.length := by rw [setn_set, List.length_set]
/-- a list of locals that a store may write over -/
def Pre1 (L L1 : List MV) (i : Nat) : Prop := L1.length = L.length ∧ ∀ j w, nth L1 j = some w → w ≠ vX → j ≠ i → nth L j = some w ∧ (j + 1 = i → isJ w = false)
theorem pre1_plain {i : Nat} (h : ∀ v ∈ L, isJ v = false) : Pre1 L L i := ⟨rfl, fun _ _ hj _ _ => ⟨hj, fun _ => h _ (nth_mem _ _ _ hj)⟩⟩
theorem clr_c (L : List MV) (i : Nat) : clr L (i + 1) = L ∨ ∃ v, nth L i = some v ∧ isJ v = true ∧ clr L (i + 1) = setn L i vX := by
  rcases e1 : nth L i with _ | v
  · exact Or.inl (by simp only [clr, e1])
  · rcases e2 : isJ v with _ | _
    · exact Or.inl (by simp only [clr, e1, e2, cond_false])
    · exact Or.inr ⟨v, rfl, e2, by simp only [clr, e1, e2, cond_true]⟩
theorem clr_j {i : Nat} {v : MV} (h : nth L i = some v) (hc : clr L (i + 1) = L) : isJ v = false := by
  rcases e2 : isJ v with _ | _
  · rfl
  · exfalso
    have : clr L (i + 1) = setn L i vX := by simp only [clr, h, e2, cond_true]
    rw [hc] at this
    have h2 := nth_setn L i i vX
    rw [← this, h, if_pos rfl, if_pos (nth_lt _ _ _ h)] at h2
    cases h2
    cases e2
theorem clr_len (L : List MV) (i : Nat) : (clr L i).length = L.length := by
  rcases i with _ | i
  · rfl
  · rcases clr_c L i with h | ⟨v, -, -, h⟩
    · rw [h]
    · rw [h]; exact setn_len _ _ _
theorem pre1_clr (L : List MV) (i : Nat) : Pre1 L (clr L i) i := by
  refine ⟨clr_len L i, fun j w hj hw hne => ?_⟩
  rcases i with _ | i
  · exact ⟨hj, fun z => by omega⟩
  · rcases clr_c L i with h | ⟨v, e1, e2, h⟩
    · rw [h] at hj
      refine ⟨hj, fun z => ?_⟩
      rw [show j = i by omega] at hj
      exact clr_j hj h
    · rw [h, nth_setn] at hj
      by_cases q : i = j
      · rw [if_pos q] at hj
        split at hj
        · cases hj; exact absurd rfl hw
        · cases hj
      · rw [if_neg q] at hj
        exact ⟨hj, fun z => absurd (by omega) q⟩
theorem clr_mem {i : Nat} {v : MV} (h : v ∈ clr L i) : v = vX ∨ v ∈ L := by
  rcases i with _ | i
  · exact Or.inr h
  · rcases clr_c L i with h1 | ⟨w, -, -, h1⟩
    · rw [h1] at h; exact Or.inr h
    · rw [h1] at h; exact mem_setn _ _ _ _ h
theorem locs1 {L1 : List MV} {i : Nat} {v : MV} {ls' : Array Slot} (hl : Locs ad L ls) (hp : Pre1 L L1 i) (hi : i < L.length) (h : lv_has ls' L.length ((i, toV ad v) :: (lvOf ad L).filter (fun q => !(q.1 == i) && !(q.1 + 1 == i && q.2.category == 2)))) : Locs ad (setn L1 i v) ls' := by
  refine ⟨by rw [setn_len, hp.1]; exact h.1, h.2.1, fun j w hj hw => ?_⟩
  rw [nth_setn] at hj
  by_cases q : i = j
  · rw [if_pos q, hp.1] at hj
    subst q
    rw [if_pos hi] at hj
    cases hj
    exact h.2.2 (i, toV ad v) List.mem_cons_self
  · rw [if_neg q] at hj
    obtain ⟨h1, h2⟩ := hp.2 j w hj hw (Ne.symm q)
    refine h.2.2 (j, toV ad w) (List.mem_cons_of_mem _ (List.mem_filter.mpr ⟨lvOf_mem h1 hw, ?_⟩))
    have q1 : (j == i) = false := by simpa using Ne.symm q
    rcases e1 : (j + 1 == i) with _ | _
    · simp [q1, e1]
    · have z := h2 (by simpa using e1)
      have hc : (toV ad w).category = 1 := by rcases w with w | w | w | w <;> first | rfl | cases z
      simp [q1, hc]
theorem locs2 {i : Nat} {x : Int} {ls' : Array Slot} (hl : Locs ad L ls) (hi : i + 1 < L.length) (h : lv_has ls' L.length ((i, toV ad (vJ x)) :: (lvOf ad L).filter (fun q => !(q.1 == i) && (!(q.1 == i + 1) && !(q.1 + 1 == i && q.2.category == 2))))) : Locs ad (setn (setn (clr L i) i (vJ x)) (i + 1) vX) ls' := by
  refine ⟨by rw [setn_len, setn_len, clr_len]; exact h.1, h.2.1, fun j w hj hw => ?_⟩
  rw [nth_setn] at hj
  by_cases q0 : i + 1 = j
  · rw [if_pos q0] at hj
    split at hj
    · cases hj; exact absurd rfl hw
    · cases hj
  rw [if_neg q0, nth_setn] at hj
  by_cases q : i = j
  · rw [if_pos q, clr_len] at hj
    subst q
    rw [if_pos (by omega)] at hj
    cases hj
    exact h.2.2 (i, toV ad (vJ x)) List.mem_cons_self
  · rw [if_neg q] at hj
    obtain ⟨h1, h2⟩ := (pre1_clr L i).2 j w hj hw (Ne.symm q)
    refine h.2.2 (j, toV ad w) (List.mem_cons_of_mem _ (List.mem_filter.mpr ⟨lvOf_mem h1 hw, ?_⟩))
    have q1 : (j == i) = false := by simpa using Ne.symm q
    have q2 : (j == i + 1) = false := by simpa using Ne.symm q0
    rcases e1 : (j + 1 == i) with _ | _
    · simp [q1, q2, e1]
    · have z := h2 (by simpa using e1)
      have hc : (toV ad w).category = 1 := by rcases w with w | w | w | w <;> first | rfl | cases z
      simp [q1, q2, hc]
theorem memL {L1 : List MV} {i : Nat} {v : MV} (hL : ∀ v ∈ L, okV S.1 v) (h1 : ∀ v ∈ L1, v = vX ∨ v ∈ L) (hv : okV S.1 v) : ∀ u ∈ setn L1 i v, okV S.1 u := by
  intro u hu
  rcases mem_setn _ _ _ _ hu with h | h
  · rw [h]; exact hv
  · rcases h1 u h with h2 | h2
    · rw [h2]; trivial
    · exact hL u h2
theorem memJ {L1 : List MV} {i : Nat} {v : MV} (hL : mLong m = false → ∀ v ∈ L, isJ v = false) (h1 : ∀ v ∈ L1, v = vX ∨ v ∈ L) (hv : mLong m = false → isJ v = false) : mLong m = false → ∀ u ∈ setn L1 i v, isJ u = false := by
  intro h0 u hu
  rcases mem_setn _ _ _ _ hu with h | h
  · rw [h]; exact hv h0
  · rcases h1 u h with h2 | h2
    · rw [h2]; rfl
    · exact hL h0 u h2
end WALK
