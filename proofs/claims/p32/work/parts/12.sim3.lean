theorem okI_x {m j : Nat} {ins : Instr} (h : okI m j ins = true) : ∃ raw len, decode (mCode m) (bpc m j) = .ok (raw, len) ∧ bpc m (j + 1) = bpc m j + len ∧ (lenOf raw = 0 ∨ len = lenOf raw) ∧ rz m (bpc m j) raw ins = true := by
  unfold okI at h
  split at h
  · rename_i raw len e
    obtain ⟨h1, h2⟩ := band_t h
    obtain ⟨h3, h4⟩ := band_t h1
    refine ⟨raw, len, e, Nat.eq_of_beq_eq_true h3, ?_, h2⟩
    rcases z : Nat.beq (lenOf raw) 0 with _ | _
    · rw [z] at h4; exact Or.inr (Nat.eq_of_beq_eq_true h4)
    · exact Or.inl (Nat.eq_of_beq_eq_true z)
  · cases h
section WALK
variable {N m : Nat} {G : GT} {b : Nat} {xs : Nat → Int32} {out : Out}
variable {p : Program} {l : Launch} {e : Env} {R : Room} {s : State} {mid : MethodId} {args : Array Value} {below : List Frame} {meth : Method} {c : Code} {A : Nat → Prop} {H0 : Heap} {Q : State → Prop}
variable {F pc : Nat} {L st : List MV} {S : MS} {ad : AdT} {H : Heap} {locs : List Loc} {cells slots : Nat} {ls : Array Slot}
theorem go_on {pc' : Nat} {L' st' : List MV} {ls' : Array Slot} (ih : IH N F m G b xs out p l e R s mid args below meth c A H0 Q) (hH : Here N m G b xs out p l e R s mid args below meth c A H0 Q L st S ad H locs cells slots ls)
    (hx : exec N F m pc' L' st' S = some out) (hL : ∀ v ∈ L', okV S.1 v) (hst : ∀ v ∈ st', okV S.1 v) (hJ : mLong m = false → ∀ v ∈ L', isJ v = false) (hl : Locs ad L' ls') (hn : L'.length = mMaxL m) :
    W p l e R s mid args below meth c H locs cells slots Q (F0 mid (bpc m pc') ls' (st'.map (toV ad))) :=
  ih pc' L' st' S ad H locs cells slots ls' hx ⟨hH.1, hL, hst, hJ, hl, hn, hH.2.2.2.2.2.2.1, hH.2.2.2.2.2.2.2.1, hH.2.2.2.2.2.2.2.2⟩
/-- the stack alone has changed -/
theorem go_st {pc' : Nat} {st' : List MV} (ih : IH N F m G b xs out p l e R s mid args below meth c A H0 Q) (hH : Here N m G b xs out p l e R s mid args below meth c A H0 Q L st S ad H locs cells slots ls)
    (hx : exec N F m pc' L st' S = some out) (hst : ∀ v ∈ st', okV S.1 v) : W p l e R s mid args below meth c H locs cells slots Q (F0 mid (bpc m pc') ls (st'.map (toV ad))) :=
  go_on ih hH hx hH.2.1 hst hH.2.2.2.1 hH.2.2.2.2.1 hH.2.2.2.2.2.1
theorem ok1 {n : Nat} {v : MV} {st' : List MV} (hv : okV n v) (h : ∀ v ∈ st', okV n v) : ∀ u ∈ v :: st', okV n u := by
  intro u hu
  rcases List.mem_cons.mp hu with h1 | h1
  · rw [h1]; exact hv
  · exact h u h1
theorem okt {n : Nat} {v : MV} {st' : List MV} (h : ∀ u ∈ v :: st', okV n u) : ∀ u ∈ st', okV n u := fun u hu => h u (List.mem_cons_of_mem _ hu)
theorem okh {n : Nat} {v : MV} {st' : List MV} (h : ∀ u ∈ v :: st', okV n u) : okV n v := h v List.mem_cons_self
end WALK
