section WALK
variable {N m : Nat} {G : GT} {b : Nat} {xs : Nat → Int32} {out : Out}
variable {p : Program} {l : Launch} {e : Env} {R : Room} {s : State} {mid : MethodId} {args : Array Value} {below : List Frame} {meth : Method} {c : Code} {A : Nat → Prop} {H0 : Heap} {Q : State → Prop}
variable {F pc : Nat} {L st : List MV} {S : MS} {ad : AdT} {H : Heap} {locs : List Loc} {cells slots : Nat} {ls : Array Slot}
theorem words_eq : ∀ st : List MV, ((st.map (toV ad)).map fun v => v.category).sum = wordsOf st
  | [] => rfl
  | .inl _ :: st => by
    have := words_eq st
    simp only [List.map_cons, List.sum_cons, wordsOf, this]
    show 1 + _ = _
    omega
  | .inr (.inl _) :: st => by
    have := words_eq st
    simp only [List.map_cons, List.sum_cons, wordsOf, this]
    show 2 + _ = _
    omega
  | .inr (.inr (.inl _)) :: st => by
    have := words_eq st
    simp only [List.map_cons, List.sum_cons, wordsOf, this]
    show 1 + _ = _
    omega
  | .inr (.inr (.inr _)) :: st => by
    have := words_eq st
    simp only [List.map_cons, List.sum_cons, wordsOf, this]
    show 1 + _ = _
    omega
theorem roomI_t {m f w : Nat} (h : roomI m f w = true) : f ≤ mFr m ∧ 8 + w ≤ mLo m := by
  obtain ⟨h1, h2⟩ := band_t h
  exact ⟨Nat.le_of_ble_eq_true h1, Nat.le_of_ble_eq_true h2⟩
theorem s_obj (hC : Cx N m G b xs p R s mid args meth c A H0) (ih : IH N F m G b xs out p l e R s mid args below meth c A H0 Q) (hH : Here N m G b xs out p l e R s mid args below meth c A H0 Q L st S ad H locs cells slots ls)
    {raw : Instr} {len : Nat} (hd : decode (mCode m) (bpc m pc) = .ok (raw, len)) (hn : bpc m (pc + 1) = bpc m pc + len) (hlen : lenOf raw = 0 ∨ len = lenOf raw) (hz : rz m (bpc m pc) raw .dneg = true)
    (he : x_obj pc L st S (exec N F m) none = some out) : W p l e R s mid args below meth c H locs cells slots Q (F0 mid (bpc m pc) ls (st.map (toV ad))) := by
  obtain ⟨hm264, hx, hb, hml, hown, hts, hini, hfr, hlo, hGS, hA, hX, hbl, hbA, hTX, hN⟩ := hC
  unfold x_obj at he
  rcases st with _ | ⟨(x | (x | (⟨k, i⟩ | x))), st⟩ <;> first | (cases he; done) | skip
  dsimp only at he
  rcases g1 : Nat.ble (wordsOf st) 8 with _ | _ <;> rw [g1] at he <;> first | (cases he; done) | skip
  have g1 := Nat.le_of_ble_eq_true g1
  rw [cond_true] at he
  unfold rz at hz
  dsimp only at hz
  split at hz
  · obtain ⟨h1, h2⟩ := band_t hz
    obtain ⟨h1, h3⟩ := roomI_t h1
    rcases hlen with h | h
    · cases h
    rw [h] at hd hn
    have k := go_st ih hH he (okt hH.2.2.1)
    rw [hn] at k
    have w1 := hts _ (gw_of h2 rfl)
    rw [wd_20] at w1
    have w2 : (Cond.instanceMethod objectInit).before args s = true := hts (wd (30, 0, 0, 0)) (gw_of (q := (30, 0, 0, 0)) (by decide +kernel) rfl)
    have w3 : (Cond.code objectInit ⟨#[0xb1]⟩ 1 none).before args s = true := hts (wd (37, 0, 0, 0)) (gw_of (q := (37, 0, 0, 0)) (by decide +kernel) rfl)
    refine W.objInit hx hb hown w1 w2 w3 rfl (by rw [hml, ← hH.2.2.2.2.2.1]; exact hH.2.2.2.2.1.1) rfl hd (by omega) ?_ k
    show 2 * 0 + ((st.map (toV ad)).map fun v => v.category).sum + 12 ≤ R.locals
    rw [words_eq]
    omega
  · cases hz
theorem s_min (hC : Cx N m G b xs p R s mid args meth c A H0) (ih : IH N F m G b xs out p l e R s mid args below meth c A H0 Q) (hH : Here N m G b xs out p l e R s mid args below meth c A H0 Q L st S ad H locs cells slots ls)
    {raw : Instr} {len : Nat} (hd : decode (mCode m) (bpc m pc) = .ok (raw, len)) (hn : bpc m (pc + 1) = bpc m pc + len) (hlen : lenOf raw = 0 ∨ len = lenOf raw) (hz : rz m (bpc m pc) raw .dadd = true)
    (he : x_iopc (fun a b => min a b) pc L st S (exec N F m) none = some out) : W p l e R s mid args below meth c H locs cells slots Q (F0 mid (bpc m pc) ls (st.map (toV ad))) := by
  obtain ⟨hm264, hx, hb, hml, hown, hts, hini, hfr, hlo, hGS, hA, hX, hbl, hbA, hTX, hN⟩ := hC
  unfold x_iopc at he
  rcases st with _ | ⟨(y | (y | (y | y))), _ | ⟨(x | (x | (x | x))), st⟩⟩ <;> first | (cases he; done) | skip
  have hy := okh hH.2.2.1
  have hv := okh (okt hH.2.2.1)
  have hr := okt (okt hH.2.2.1)
  dsimp only at he
  rcases g1 : Nat.ble (wordsOf st) 8 with _ | _ <;> rw [g1] at he <;> first | (cases he; done) | skip
  have g1 := Nat.le_of_ble_eq_true g1
  rw [cond_true] at he
  unfold rz at hz
  dsimp only at hz
  split at hz
  · obtain ⟨h1, h2⟩ := band_t hz
    obtain ⟨h1, h3⟩ := roomI_t h1
    rcases hlen with h | h
    · cases h
    rw [h] at hd hn
    have hmi : in32 (min x y) := by unfold okV in32 at hy hv; unfold in32; omega
    have k := go_st ih hH he (ok1 (show okV S.1 (vI (min x y)) from hmi) hr)
    rw [hn] at k
    have w1 := hts _ (gw_of h2 rfl)
    rw [wd_22] at w1
    have hmono := exec_n _ _ _ _ _ _ _ he
    have hcells := hH.2.2.2.2.2.2.1
    have hslots := hH.2.2.2.2.2.2.2.1
    have hsl := slN_mono hmono
    refine va_mmin hx hb (by rw [hml, ← hH.2.2.2.2.2.1]; exact hH.2.2.2.2.1.1.symm) hown w1 (hts (wd (32, 0, 0, 0)) (gw_of (q := (32, 0, 0, 0)) (by decide +kernel) rfl)) (hts (wd (8, 54, 0, 0)) (gw_of (q := (8, 54, 0, 0)) (by decide +kernel) rfl)) (hts (wd (35, 0, 0, 0)) (gw_of (q := (35, 0, 0, 0)) (by decide +kernel) rfl)) (by omega) (by rw [words_eq]; omega) (by omega) (by omega) hd ?_
    rw [min_of hv hy]
    exact k
  · cases hz
end WALK
