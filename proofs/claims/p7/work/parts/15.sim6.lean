section WALK
variable {N m : Nat} {G : GT} {b : Nat} {xs : Nat → Int32} {out : Out}
variable {p : Program} {l : Launch} {e : Env} {R : Room} {s : State} {mid : MethodId} {args : Array Value} {below : List Frame} {meth : Method} {c : Code} {A : Nat → Prop} {H0 : Heap} {Q : State → Prop}
variable {F pc : Nat} {L st : List MV} {S : MS} {ad : AdT} {H : Heap} {locs : List Loc} {cells slots : Nat} {ls : Array Slot}

theorem s_istore {i : Nat} (hC : Cx N m G b xs p R s mid args meth c A H0) (ih : IH N F m G b xs out p l e R s mid args below meth c A H0 Q) (hH : Here N m G b xs out p l e R s mid args below meth c A H0 Q L st S ad H locs cells slots ls)
    {raw : Instr} {len : Nat} (hd : decode (mCode m) (bpc m pc) = .ok (raw, len)) (hn : bpc m (pc + 1) = bpc m pc + len) (hlen : lenOf raw = 0 ∨ len = lenOf raw) (hz : rz m (bpc m pc) raw (.istore i) = true)
    (he : x_istore i pc L st S (exec N F m) none = some out) : W p l e R s mid args below meth c H locs cells slots Q (F0 mid (bpc m pc) ls (st.map (toV ad))) := by
  obtain ⟨hm264, hx, hb, hml, hown, hts, hini, hfr, hlo, hGS, hA, hX, hbl, hbA, hTX, hN⟩ := hC
  unfold x_istore at he
  rcases st with _ | ⟨(x | (x | (x | x))), st⟩ <;> first | (cases he; done) | skip
  have hv := okh hH.2.2.1
  have hr := okt hH.2.2.1
  unfold rz at hz
  dsimp only at hz
  have hlong : mLong m = false := by
    rcases z : mLong m with _ | _
    · rfl
    · rw [z] at hz; cases hz
  rw [hlong, cond_false] at hz
  have hp : Pre1 L L i := pre1_plain (hH.2.2.2.1 hlong)
  have h1 : ∀ v ∈ L, v = vX ∨ v ∈ L := fun _ h => Or.inr h
  obtain ⟨hi0, hz⟩ := band_t hz
  have hi1 : i + 1 ≤ mMaxL m := Nat.le_of_ble_eq_true hi0
  have hi : i < L.length := by rw [hH.2.2.2.2.2.1]; omega
  have hlv := lvOf_has hH.2.2.2.2.1
  have kk : ∀ ls' : Array Slot, lv_has ls' L.length ((i, toV ad (vI x)) :: (lvOf ad L).filter (fun q => !(q.1 == i) && !(q.1 + 1 == i && q.2.category == 2))) → W p l e R s mid args below meth c H locs cells slots Q (F0 mid (bpc m (pc + 1)) ls' (st.map (toV ad))) := fun ls' h => go_on ih hH he (memL hH.2.1 h1 hv) hr (memJ hH.2.2.2.1 h1 (fun _ => rfl)) (locs1 hH.2.2.2.2.1 hp hi h) (by rw [setn_len, hp.1]; exact hH.2.2.2.2.2.1)
  rw [hn] at kk
  split at hz
  · have q := Nat.eq_of_beq_eq_true hz
    subst q
    rcases hlen with h | h
    · cases h
    · rw [h] at hd kk
      exact lv_istore hx hb hd hlv hi rfl kk
  · have q := Nat.eq_of_beq_eq_true hz
    rcases hlen with h | h
    · cases h
    · rw [h] at hd kk
      exact lv_istore_n hx hb hd q hlv hi rfl kk
  · cases hz

theorem s_fstore {i : Nat} (hC : Cx N m G b xs p R s mid args meth c A H0) (ih : IH N F m G b xs out p l e R s mid args below meth c A H0 Q) (hH : Here N m G b xs out p l e R s mid args below meth c A H0 Q L st S ad H locs cells slots ls)
    {raw : Instr} {len : Nat} (hd : decode (mCode m) (bpc m pc) = .ok (raw, len)) (hn : bpc m (pc + 1) = bpc m pc + len) (hlen : lenOf raw = 0 ∨ len = lenOf raw) (hz : rz m (bpc m pc) raw (.fstore i) = true)
    (he : x_istore i pc (clr L i) st S (exec N F m) none = some out) : W p l e R s mid args below meth c H locs cells slots Q (F0 mid (bpc m pc) ls (st.map (toV ad))) := by
  obtain ⟨hm264, hx, hb, hml, hown, hts, hini, hfr, hlo, hGS, hA, hX, hbl, hbA, hTX, hN⟩ := hC
  unfold x_istore at he
  rcases st with _ | ⟨(x | (x | (x | x))), st⟩ <;> first | (cases he; done) | skip
  have hv := okh hH.2.2.1
  have hr := okt hH.2.2.1
  unfold rz at hz
  dsimp only at hz
  have hp : Pre1 L (clr L i) i := pre1_clr L i
  have h1 : ∀ v ∈ clr L i, v = vX ∨ v ∈ L := fun _ h => clr_mem h
  obtain ⟨hi0, hz⟩ := band_t hz
  have hi1 : i + 1 ≤ mMaxL m := Nat.le_of_ble_eq_true hi0
  have hi : i < L.length := by rw [hH.2.2.2.2.2.1]; omega
  have hlv := lvOf_has hH.2.2.2.2.1
  have kk : ∀ ls' : Array Slot, lv_has ls' L.length ((i, toV ad (vI x)) :: (lvOf ad L).filter (fun q => !(q.1 == i) && !(q.1 + 1 == i && q.2.category == 2))) → W p l e R s mid args below meth c H locs cells slots Q (F0 mid (bpc m (pc + 1)) ls' (st.map (toV ad))) := fun ls' h => go_on ih hH he (memL hH.2.1 h1 hv) hr (memJ hH.2.2.2.1 h1 (fun _ => rfl)) (locs1 hH.2.2.2.2.1 hp hi h) (by rw [setn_len, hp.1]; exact hH.2.2.2.2.2.1)
  rw [hn] at kk
  split at hz
  · have q := Nat.eq_of_beq_eq_true hz
    subst q
    rcases hlen with h | h
    · cases h
    · rw [h] at hd kk
      exact lv_istore hx hb hd hlv hi rfl kk
  · have q := Nat.eq_of_beq_eq_true hz
    rcases hlen with h | h
    · cases h
    · rw [h] at hd kk
      exact lv_istore_n hx hb hd q hlv hi rfl kk
  · cases hz

theorem s_astore {i : Nat} (hC : Cx N m G b xs p R s mid args meth c A H0) (ih : IH N F m G b xs out p l e R s mid args below meth c A H0 Q) (hH : Here N m G b xs out p l e R s mid args below meth c A H0 Q L st S ad H locs cells slots ls)
    {raw : Instr} {len : Nat} (hd : decode (mCode m) (bpc m pc) = .ok (raw, len)) (hn : bpc m (pc + 1) = bpc m pc + len) (hlen : lenOf raw = 0 ∨ len = lenOf raw) (hz : rz m (bpc m pc) raw (.astore i) = true)
    (he : x_astore i pc L st S (exec N F m) none = some out) : W p l e R s mid args below meth c H locs cells slots Q (F0 mid (bpc m pc) ls (st.map (toV ad))) := by
  obtain ⟨hm264, hx, hb, hml, hown, hts, hini, hfr, hlo, hGS, hA, hX, hbl, hbA, hTX, hN⟩ := hC
  unfold x_astore at he
  rcases st with _ | ⟨(x | (x | (x | x))), st⟩ <;> first | (cases he; done) | skip
  have hv := okh hH.2.2.1
  have hr := okt hH.2.2.1
  unfold rz at hz
  dsimp only at hz
  have hlong : mLong m = false := by
    rcases z : mLong m with _ | _
    · rfl
    · rw [z] at hz; cases hz
  rw [hlong, cond_false] at hz
  have hp : Pre1 L L i := pre1_plain (hH.2.2.2.1 hlong)
  have h1 : ∀ v ∈ L, v = vX ∨ v ∈ L := fun _ h => Or.inr h
  obtain ⟨hi0, hz⟩ := band_t hz
  have hi1 : i + 1 ≤ mMaxL m := Nat.le_of_ble_eq_true hi0
  have hi : i < L.length := by rw [hH.2.2.2.2.2.1]; omega
  have hlv := lvOf_has hH.2.2.2.2.1
  have kk : ∀ ls' : Array Slot, lv_has ls' L.length ((i, toV ad (.inr (.inr (.inl x)))) :: (lvOf ad L).filter (fun q => !(q.1 == i) && !(q.1 + 1 == i && q.2.category == 2))) → W p l e R s mid args below meth c H locs cells slots Q (F0 mid (bpc m (pc + 1)) ls' (st.map (toV ad))) := fun ls' h => go_on ih hH he (memL hH.2.1 h1 hv) hr (memJ hH.2.2.2.1 h1 (fun _ => rfl)) (locs1 hH.2.2.2.2.1 hp hi h) (by rw [setn_len, hp.1]; exact hH.2.2.2.2.2.1)
  rw [hn] at kk
  split at hz
  · have q := Nat.eq_of_beq_eq_true hz
    subst q
    rcases hlen with h | h
    · cases h
    · rw [h] at hd kk
      exact lv_astore hx hb hd hlv hi rfl kk
  · have q := Nat.eq_of_beq_eq_true hz
    rcases hlen with h | h
    · cases h
    · rw [h] at hd kk
      exact lv_astore_n hx hb hd q hlv hi rfl kk
  · cases hz

theorem s_dstore {i : Nat} (hC : Cx N m G b xs p R s mid args meth c A H0) (ih : IH N F m G b xs out p l e R s mid args below meth c A H0 Q) (hH : Here N m G b xs out p l e R s mid args below meth c A H0 Q L st S ad H locs cells slots ls)
    {raw : Instr} {len : Nat} (hd : decode (mCode m) (bpc m pc) = .ok (raw, len)) (hn : bpc m (pc + 1) = bpc m pc + len) (hlen : lenOf raw = 0 ∨ len = lenOf raw) (hz : rz m (bpc m pc) raw (.dstore i) = true)
    (he : x_astore i pc (clr L i) st S (exec N F m) none = some out) : W p l e R s mid args below meth c H locs cells slots Q (F0 mid (bpc m pc) ls (st.map (toV ad))) := by
  obtain ⟨hm264, hx, hb, hml, hown, hts, hini, hfr, hlo, hGS, hA, hX, hbl, hbA, hTX, hN⟩ := hC
  unfold x_astore at he
  rcases st with _ | ⟨(x | (x | (x | x))), st⟩ <;> first | (cases he; done) | skip
  have hv := okh hH.2.2.1
  have hr := okt hH.2.2.1
  unfold rz at hz
  dsimp only at hz
  have hp : Pre1 L (clr L i) i := pre1_clr L i
  have h1 : ∀ v ∈ clr L i, v = vX ∨ v ∈ L := fun _ h => clr_mem h
  obtain ⟨hi0, hz⟩ := band_t hz
  have hi1 : i + 1 ≤ mMaxL m := Nat.le_of_ble_eq_true hi0
  have hi : i < L.length := by rw [hH.2.2.2.2.2.1]; omega
  have hlv := lvOf_has hH.2.2.2.2.1
  have kk : ∀ ls' : Array Slot, lv_has ls' L.length ((i, toV ad (.inr (.inr (.inl x)))) :: (lvOf ad L).filter (fun q => !(q.1 == i) && !(q.1 + 1 == i && q.2.category == 2))) → W p l e R s mid args below meth c H locs cells slots Q (F0 mid (bpc m (pc + 1)) ls' (st.map (toV ad))) := fun ls' h => go_on ih hH he (memL hH.2.1 h1 hv) hr (memJ hH.2.2.2.1 h1 (fun _ => rfl)) (locs1 hH.2.2.2.2.1 hp hi h) (by rw [setn_len, hp.1]; exact hH.2.2.2.2.2.1)
  rw [hn] at kk
  split at hz
  · have q := Nat.eq_of_beq_eq_true hz
    subst q
    rcases hlen with h | h
    · cases h
    · rw [h] at hd kk
      exact lv_astore hx hb hd hlv hi rfl kk
  · have q := Nat.eq_of_beq_eq_true hz
    rcases hlen with h | h
    · cases h
    · rw [h] at hd kk
      exact lv_astore_n hx hb hd q hlv hi rfl kk
  · cases hz

theorem s_lstore {i : Nat} (hC : Cx N m G b xs p R s mid args meth c A H0) (ih : IH N F m G b xs out p l e R s mid args below meth c A H0 Q) (hH : Here N m G b xs out p l e R s mid args below meth c A H0 Q L st S ad H locs cells slots ls)
    {raw : Instr} {len : Nat} (hd : decode (mCode m) (bpc m pc) = .ok (raw, len)) (hn : bpc m (pc + 1) = bpc m pc + len) (hlen : lenOf raw = 0 ∨ len = lenOf raw) (hz : rz m (bpc m pc) raw (.lstore i) = true)
    (he : x_lstore i pc L st S (exec N F m) none = some out) : W p l e R s mid args below meth c H locs cells slots Q (F0 mid (bpc m pc) ls (st.map (toV ad))) := by
  obtain ⟨hm264, hx, hb, hml, hown, hts, hini, hfr, hlo, hGS, hA, hX, hbl, hbA, hTX, hN⟩ := hC
  unfold x_lstore at he
  rcases st with _ | ⟨(x | (x | (x | x))), st⟩ <;> first | (cases he; done) | skip
  have hv := okh hH.2.2.1
  have hr := okt hH.2.2.1
  unfold rz at hz
  dsimp only at hz
  obtain ⟨hi0, hz⟩ := band_t hz
  obtain ⟨hlong, hi0⟩ := band_t hi0
  have hi1 : i + 1 + 1 ≤ mMaxL m := Nat.le_of_ble_eq_true hi0
  have hi : i + 1 < L.length := by rw [hH.2.2.2.2.2.1]; omega
  have hlv := lvOf_has hH.2.2.2.2.1
  have kk : ∀ ls' : Array Slot, lv_has ls' L.length ((i, toV ad (vJ x)) :: (lvOf ad L).filter (fun q => !(q.1 == i) && (!(q.1 == i + 1) && !(q.1 + 1 == i && q.2.category == 2)))) → W p l e R s mid args below meth c H locs cells slots Q (F0 mid (bpc m (pc + 1)) ls' (st.map (toV ad))) := fun ls' h => by
    refine go_on ih hH he ?_ hr (fun z => by rw [hlong] at z; cases z) (locs2 hH.2.2.2.2.1 hi h) (by rw [setn_len, setn_len, clr_len]; exact hH.2.2.2.2.2.1)
    intro u hu
    rcases mem_setn _ _ _ _ hu with h2 | h2
    · rw [h2]; trivial
    · exact memL hH.2.1 (fun _ h => clr_mem h) hv u h2
  rw [hn] at kk
  split at hz
  · have q := Nat.eq_of_beq_eq_true hz
    subst q
    rcases hlen with h | h
    · cases h
    · rw [h] at hd kk
      exact lv_lstore hx hb hd hlv hi rfl kk
  · have q := Nat.eq_of_beq_eq_true hz
    rcases hlen with h | h
    · cases h
    · rw [h] at hd kk
      exact lv_lstore_n hx hb hd q hlv hi rfl kk
  · cases hz

theorem s_iinc {i : Nat} {k : Int} (hC : Cx N m G b xs p R s mid args meth c A H0) (ih : IH N F m G b xs out p l e R s mid args below meth c A H0 Q) (hH : Here N m G b xs out p l e R s mid args below meth c A H0 Q L st S ad H locs cells slots ls)
    {raw : Instr} {len : Nat} (hd : decode (mCode m) (bpc m pc) = .ok (raw, len)) (hn : bpc m (pc + 1) = bpc m pc + len) (hlen : lenOf raw = 0 ∨ len = lenOf raw) (hz : rz m (bpc m pc) raw (.iinc i k) = true)
    (he : x_iinc i k pc L st S (exec N F m) none = some out) : W p l e R s mid args below meth c H locs cells slots Q (F0 mid (bpc m pc) ls (st.map (toV ad))) := by
  obtain ⟨hm264, hx, hb, hml, hown, hts, hini, hfr, hlo, hGS, hA, hX, hbl, hbA, hTX, hN⟩ := hC
  unfold x_iinc at he
  rcases e1 : nth L i with _ | (x | (x | (x | x))) <;> rw [e1] at he <;> first | (cases he; done) | skip
  have hi : i < L.length := nth_lt _ _ _ e1
  have hlv := lvOf_has hH.2.2.2.2.1
  obtain ⟨j, hj⟩ := List.getElem?_of_mem (lvOf_mem (ad := ad) e1 (by intro z; cases z))
  have hJn : Pre1 L L i := by
    refine ⟨rfl, fun j w h1 h2 h3 => ⟨h1, fun h4 => ?_⟩⟩
    rcases z : isJ w with _ | _
    · rfl
    · exfalso
      have hw := hH.2.2.2.2.1.2.2 j w h1 h2
      have hc : (toV ad w).category = 2 := by rcases w with w | w | w | w <;> first | rfl | cases z
      have h5 := hH.2.2.2.2.1.2.1.1 j _ hw hc
      rw [h4] at h5
      have h6 := hH.2.2.2.2.1.2.2 i _ e1 (by intro z; cases z)
      rw [h5] at h6
      cases h6
  have kk : ∀ ls' : Array Slot, lv_has ls' L.length ((i, toV ad (vI (w32 (x + k)))) :: (lvOf ad L).filter (fun q => !(q.1 == i) && !(q.1 + 1 == i && q.2.category == 2))) → W p l e R s mid args below meth c H locs cells slots Q (F0 mid (bpc m (pc + 1)) ls' (st.map (toV ad))) := fun ls' h => go_on ih hH he (memL hH.2.1 (fun _ h => Or.inr h) (w32_in _)) hH.2.2.1 (memJ hH.2.2.2.1 (fun _ h => Or.inr h) (fun _ => rfl)) (locs1 hH.2.2.2.2.1 hJn hi h) (by rw [setn_len]; exact hH.2.2.2.2.2.1)
  rw [hn] at kk
  unfold rz at hz
  dsimp only at hz
  split at hz
  · obtain ⟨q1, q2⟩ := band_t hz
    have q1 := Nat.eq_of_beq_eq_true q1
    have q2 := of_decide_eq_true q2
    subst q1
    subst q2
    rcases hlen with h | h
    · cases h
    · rw [h] at hd kk
      exact lv_iinc hx hb hd hlv hj (add32 x _).symm hi rfl kk
  · cases hz

theorem s_lcmp (hC : Cx N m G b xs p R s mid args meth c A H0) (ih : IH N F m G b xs out p l e R s mid args below meth c A H0 Q) (hH : Here N m G b xs out p l e R s mid args below meth c A H0 Q L st S ad H locs cells slots ls)
    {raw : Instr} {len : Nat} (hd : decode (mCode m) (bpc m pc) = .ok (raw, len)) (hn : bpc m (pc + 1) = bpc m pc + len) (hlen : lenOf raw = 0 ∨ len = lenOf raw) (hz : rz m (bpc m pc) raw (.lcmp) = true)
    (he : x_lcmp pc L st S (exec N F m) none = some out) : W p l e R s mid args below meth c H locs cells slots Q (F0 mid (bpc m pc) ls (st.map (toV ad))) := by
  obtain ⟨hm264, hx, hb, hml, hown, hts, hini, hfr, hlo, hGS, hA, hX, hbl, hbA, hTX, hN⟩ := hC
  unfold x_lcmp at he
  rcases st with _ | ⟨(y | (y | (y | y))), _ | ⟨(x | (x | (x | x))), st⟩⟩ <;> first | (cases he; done) | skip
  have hy := okh hH.2.2.1
  have hv := okh (okt hH.2.2.1)
  have hr := okt (okt hH.2.2.1)
  dsimp only at he
  unfold rz at hz
  dsimp only at hz
  split at hz
  · rcases hlen with h | h
    · cases h
    rw [h] at hd hn
    refine W.lcmp hx hb hd ?_
    unfold lg_cmp
    by_cases h1 : x < y
    · rw [if_pos h1] at he
      have k := go_st ih hH he (ok1 (show okV S.1 (vI (-1)) from by unfold okV in32; omega) hr)
      rw [hn] at k
      rw [if_neg (fun z => by have := (lt64 hy hv).mp z; omega), if_neg (fun z => by have := (eq64 hv hy).mp z; omega)]
      exact k
    rw [if_neg h1] at he
    by_cases h2 : x = y
    · rw [if_pos h2] at he
      have k := go_st ih hH he (ok1 (show okV S.1 (vI 0) from in32_0) hr)
      rw [hn] at k
      rw [if_neg (fun z => by have := (lt64 hy hv).mp z; omega), if_pos ((eq64 hv hy).mpr h2)]
      exact k
    · rw [if_neg h2] at he
      have k := go_st ih hH he (ok1 (show okV S.1 (vI 1) from by unfold okV in32; omega) hr)
      rw [hn] at k
      rw [if_pos ((lt64 hy hv).mpr (by omega))]
      exact k
  · cases hz

end WALK
