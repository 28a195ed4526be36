section WALK
variable {N m : Nat} {G : GT} {b : Nat} {xs : Nat → Int32} {out : Out}
variable {p : Program} {l : Launch} {e : Env} {R : Room} {s : State} {mid : MethodId} {args : Array Value} {below : List Frame} {meth : Method} {c : Code} {A : Nat → Prop} {H0 : Heap} {Q : State → Prop}
variable {F pc : Nat} {L st : List MV} {S : MS} {ad : AdT} {H : Heap} {locs : List Loc} {cells slots : Nat} {ls : Array Slot}
theorem x_sw_eq {β : Type} (L st : List MV) (S : MS) (K : KT β) (d : Nat) (a : Int) : ∀ (ts : List Int) (lo : Int),
    (∃ (j : Nat) (t : Int), ts[j]? = some t ∧ a = lo + (j : Int) ∧ x_sw L st S K d a lo ts = K t.toNat L st S) ∨ ((a < lo ∨ lo + (ts.length : Int) ≤ a) ∧ x_sw L st S K d a lo ts = K d L st S)
  | [], lo => Or.inr ⟨by simp; omega, rfl⟩
  | t :: ts, lo => by
    unfold x_sw
    by_cases h : a = lo
    · exact Or.inl ⟨0, t, rfl, by simpa using h, by rw [if_pos h]⟩
    · rw [if_neg h]
      rcases x_sw_eq L st S K d a ts (lo + 1) with ⟨j, t', h1, h2, h3⟩ | ⟨h1, h2⟩
      · exact Or.inl ⟨j + 1, t', by simpa using h1, by push_cast; omega, h3⟩
      · refine Or.inr ⟨?_, h2⟩
        simp only [List.length_cons]
        push_cast
        omega
theorem offsOk_at {mm pp : Nat} : ∀ (os ts : List Int) (j : Nat) (t : Int), offsOk mm pp os ts = true → ts[j]? = some t → ∃ o, os[j]? = some o ∧ goOk mm pp o t = true
  | [], [], j, t, _, h => by simp at h
  | [], _ :: _, j, t, h, _ => by simp [offsOk] at h
  | _ :: _, [], j, t, h, _ => by simp [offsOk] at h
  | o :: os, u :: ts, 0, t, h, h1 => by
    simp only [List.getElem?_cons_zero, Option.some.injEq] at h1
    subst h1
    exact ⟨o, rfl, (band_t h).1⟩
  | o :: os, u :: ts, j + 1, t, h, h1 => by
    obtain ⟨x, h2, h3⟩ := offsOk_at os ts j t (band_t h).2 (by simpa using h1)
    exact ⟨x, by simpa using h2, h3⟩
theorem s_switch {d lo hi : Int} {ts : Array Int} (hC : Cx N m G b xs p R s mid args meth c A H0) (ih : IH N F m G b xs out p l e R s mid args below meth c A H0 Q) (hH : Here N m G b xs out p l e R s mid args below meth c A H0 Q L st S ad H locs cells slots ls)
    {raw : Instr} {len : Nat} (hd : decode (mCode m) (bpc m pc) = .ok (raw, len)) (hz : rz m (bpc m pc) raw (.tableswitch d lo hi ts) = true)
    (he : x_switch d.toNat lo ts.toList L st S (exec N F m) none = some out) : W p l e R s mid args below meth c H locs cells slots Q (F0 mid (bpc m pc) ls (st.map (toV ad))) := by
  obtain ⟨hm264, hx, hb, hml, hown, hts, hini, hfr, hlo, hGS, hA, hX, hbl, hbA, hTX, hN⟩ := hC
  unfold x_switch at he
  rcases st with _ | ⟨(x | (x | (x | x))), st⟩ <;> first | (cases he; done) | skip
  have hv := okh hH.2.2.1
  have hr := okt hH.2.2.1
  unfold rz at hz
  dsimp only at hz he
  split at hz
  · rename_i d2 lo2 hi2 offs
    obtain ⟨h1, h2⟩ := band_t hz
    obtain ⟨h3, h4⟩ := band_t h2
    obtain ⟨e1, e2, e3, e4, e5⟩ := of_decide_eq_true h1
    subst e1
    subst e2
    have hxi : (Int32.ofInt x).toInt = x := toInt32_in hv
    rcases x_sw_eq L st S (exec N F m) d.toNat x ts.toList lo with ⟨j, t, a1, a2, a3⟩ | ⟨a1, a3⟩
    · rw [a3] at he
      obtain ⟨o, b1, b2⟩ := offsOk_at _ _ _ _ h4 a1
      have hj : j < ts.toList.length := (List.getElem?_eq_some_iff.mp a1).1
      refine lv_tableIn hx hb hd (by rw [hxi]; omega) (by rw [hxi]; omega) (off := o) ?_ (of_decide_eq_true b2) (go_st ih hH he hr)
      rw [hxi, show (x - lo).toNat = j by omega, ← Array.getElem?_toList]
      exact b1
    · rw [a3] at he
      exact lv_tableOut hx hb hd (by rw [hxi]; omega) (of_decide_eq_true h3) (go_st ih hH he hr)
  · cases hz
/-- the world after a write: all but the cell's contents is as it was -/
theorem wd_sup {k i j : Nat} {v : Int} {H1 : Heap} {locs1 : List Loc} {a : Nat} (hW : Wd N G b xs A H0 S ad H locs) (ha : a < S.1) (ho : nth ords a = some (k, i)) (hv : in64 v) (hv2 : isL k j = false → in32 v)
    (hP : va_P G.1 cls0 ((wl G ad S).set a (ad k i, ent G ad (S.1, S.2.1, sup S.2.2 k i j v) (k, i))) H1) (hD : va_D A ((wl G ad S).set a (ad k i, ent G ad (S.1, S.2.1, sup S.2.2 k i j v) (k, i)))) (hS : va_S A H0 H1 locs1) : Wd N G b xs A H0 (S.1, S.2.1, sup S.2.2 k i j v) ad H1 locs1 := by
  obtain ⟨-, -, -, h4, h5, h6, h7, h8⟩ := hW
  have e := wl_set (G := G) (ad := ad) (S' := (S.1, S.2.1, sup S.2.2 k i j v)) ha ho rfl (fun q' hq => ent_sup hq)
  rw [e] at hP hD
  refine ⟨hP, hD, hS, h4, h5, fun k' i' j' => ?_, h7, fun j' hj => ?_⟩
  · show in64 (sup S.2.2 k i j v k' i' j') ∧ (isL k' j' = false → in32 (sup S.2.2 k i j v k' i' j'))
    unfold sup
    split
    · rename_i hq
      obtain ⟨rfl, rfl, rfl⟩ := hq
      exact ⟨hv, hv2⟩
    · exact h6 k' i' j'
  · have hk : k ≠ 999 := by have := (ords_kd ho).1; dsimp only at this; omega
    show Int32.ofInt (sup S.2.2 k i j v 999 0 j') = xs j'
    unfold sup
    rw [if_neg (fun z => hk z.1.symm)]
    exact h8 j' hj
theorem go_sup {pc' : Nat} {st' : List MV} {k i j : Nat} {v : Int} {H1 : Heap} {locs1 : List Loc} (ih : IH N F m G b xs out p l e R s mid args below meth c A H0 Q) (hH : Here N m G b xs out p l e R s mid args below meth c A H0 Q L st S ad H locs cells slots ls)
    (hx : exec N F m pc' L st' (S.1, S.2.1, sup S.2.2 k i j v) = some out) (hst : ∀ v ∈ st', okV S.1 v) (hW : Wd N G b xs A H0 (S.1, S.2.1, sup S.2.2 k i j v) ad H1 locs1) : W p l e R s mid args below meth c H1 locs1 cells slots Q (F0 mid (bpc m pc') ls (st'.map (toV ad))) :=
  ih pc' L st' (S.1, S.2.1, sup S.2.2 k i j v) ad H1 locs1 cells slots ls hx ⟨hW, hH.2.1, hst, hH.2.2.2.1, hH.2.2.2.2.1, hH.2.2.2.2.2.1, hH.2.2.2.2.2.2.1, hH.2.2.2.2.2.2.2.1, hH.2.2.2.2.2.2.2.2⟩
theorem ent_1 {k i : Nat} (h : kTag k = 1) : ent G ad S (k, i) = .inl (G.2.1 1, kLen k, .inl (fun j => Int32.ofInt (S.2.2 k i j))) := by
  unfold ent; simp only [h]
theorem ent_2 {k i : Nat} (h : kTag k = 2) : ent G ad S (k, i) = .inl (G.2.1 2, kLen k, .inl (fun j => Int32.ofInt (S.2.2 k i j))) := by
  unfold ent; simp only [h]
theorem ent_3 {k i : Nat} (h : kTag k = 3) : ent G ad S (k, i) = .inl (G.2.1 3, kLen k, .inr (.inl (fun j => Int64.ofInt (S.2.2 k i j)))) := by
  unfold ent; simp only [h]
theorem ent_0 {k i : Nat} (h : kTag k = 0) : ent G ad S (k, i) = .inr (kCls k, (List.range (nF (kCls k))).map (fval ad S k i)) := by
  unfold ent; simp only [h]
theorem tag999 : kTag 999 = 4 := rfl
theorem tag1000 : kTag 1000 = 9 := rfl
/-- a row that isn't the script is a cell -/
theorem vld_row {n k i t : Nat} (h : okV n (.inr (.inr (.inl (k, i))))) (ht : kTag k = t) (h4 : t ≠ 4) (h9 : t ≠ 9) : vld n (k, i) := by
  rcases h with h | h | ⟨h, -⟩
  · exact h
  · cases h; exact absurd (ht.symm.trans tag999) h4
  · dsimp only at h; subst h; exact absurd (ht.symm.trans tag1000) h9
theorem kLenN_row {a k i : Nat} (ho : nth ords a = some (k, i)) : kLenN N k = (kLen k : Int) := by
  obtain ⟨h1, -, -, h2, -⟩ := ords_kd ho
  dsimp only at h1 h2
  unfold kLenN
  have hz : Nat.beq k 999 = false := by
    rcases z : Nat.beq k 999 with _ | _
    · rfl
    · have := Nat.eq_of_beq_eq_true z
      omega
  rw [hz]
  exact h2
theorem isL_1 {k j : Nat} (h : kTag k = 1 ∨ kTag k = 2 ∨ kTag k = 4) : isL k j = false := by
  unfold isL
  rcases h with h | h | h <;> rw [h] <;> rfl
end WALK
