section WALK
variable {N m : Nat} {G : GT} {b : Nat} {xs : Nat → Int32} {out : Out}
variable {p : Program} {l : Launch} {e : Env} {R : Room} {s : State} {mid : MethodId} {args : Array Value} {below : List Frame} {meth : Method} {c : Code} {A : Nat → Prop} {H0 : Heap} {Q : State → Prop}
variable {F pc : Nat} {L st : List MV} {S : MS} {ad : AdT} {H : Heap} {locs : List Loc} {cells slots : Nat} {ls : Array Slot}

theorem s_alen (hC : Cx N m G b xs p R s mid args meth c A H0) (ih : IH N F m G b xs out p l e R s mid args below meth c A H0 Q) (hH : Here N m G b xs out p l e R s mid args below meth c A H0 Q L st S ad H locs cells slots ls)
    {raw : Instr} {len : Nat} (hd : decode (mCode m) (bpc m pc) = .ok (raw, len)) (hn : bpc m (pc + 1) = bpc m pc + len) (hlen : lenOf raw = 0 ∨ len = lenOf raw) (hz : rz m (bpc m pc) raw (.arraylength) = true)
    (he : x_alen N pc L st S (exec N F m) none = some out) : W p l e R s mid args below meth c H locs cells slots Q (F0 mid (bpc m pc) ls (st.map (toV ad))) := by
  obtain ⟨hm264, hx, hb, hml, hown, hts, hini, hfr, hlo, hGS, hA, hX, hbl, hbA, hTX, hN⟩ := hC
  unfold x_alen at he
  rcases st with _ | ⟨(x | (x | (⟨k, i⟩ | x))), st⟩ <;> first | (cases he; done) | skip
  have hv := okh hH.2.2.1
  have hr := okt hH.2.2.1
  dsimp only at he
  have hk0 : (kTag k = 1 ∨ kTag k = 2 ∨ kTag k = 3 ∨ kTag k = 4) ∧ exec N F m (pc + 1) L (vI (kLenN N k) :: st) S = some out := by
    rcases z : kTag k with _ | _ | _ | _ | _ | _ <;> rw [z] at he <;> first | (cases he; done) | exact ⟨by omega, he⟩
  obtain ⟨hk, he⟩ := hk0
  unfold rz at hz
  dsimp only at hz
  split at hz
  · rcases hlen with h | h
    · cases h
    rw [h] at hd hn
    by_cases h4 : kTag k = 4
    · have hq : (k, i) = (999, 0) := by
        rcases hv with hv | hv | ⟨hv, -⟩
        · obtain ⟨a, -, ho⟩ := hv
          have := (ords_kd ho).2.2.1
          dsimp only at this
          omega
        · exact hv
        · dsimp only at hv; subst hv; exact absurd (tag1000.symm.trans h4) (by decide)
      cases hq
      have e0 : kLenN N 999 = (N : Int) := rfl
      rw [e0] at he
      have k := go_st ih hH he (ok1 (show okV S.1 (vI (N : Int)) from by unfold okV in32; omega) hr)
      rw [hn] at k
      have hab : ad 999 0 = b := hH.1.2.2.2.1
      show W p l e R s mid args below meth c H locs cells slots Q (F0 mid (bpc m pc) ls (.ref (ad 999 0) :: st.map (toV ad)))
      rw [hab]
      exact va_slen hx hb hX hbl hbA hH.1.2.2.1 hd k
    · obtain ⟨a, ha, ho⟩ := vld_row hv rfl h4 (by omega)
      have e0 := kLenN_row (N := N) ho
      have e1 := ords_kd ho
      rw [e0] at he
      have k0 := go_st ih hH he (ok1 (show okV S.1 (vI (kLen k : Int)) from by unfold okV in32; have := e1.2.2.2.2.1; dsimp only at this; omega) hr)
      rw [hn] at k0
      have hw := wl_at (G := G) (ad := ad) ha ho
      rcases hk with h1 | h1 | h1 | h1
      · rw [ent_1 h1] at hw
        exact va_alen hx hb hGS.1 hH.1.1 a 0 hw rfl rfl hd k0
      · rw [ent_2 h1] at hw
        exact va_alen hx hb hGS.1 hH.1.1 a 1 hw rfl rfl hd k0
      · rw [ent_3 h1] at hw
        exact va_alen hx hb hGS.1 hH.1.1 a 2 hw rfl rfl hd k0
      · exact absurd h1 h4
  · cases hz

theorem s_iald (hC : Cx N m G b xs p R s mid args meth c A H0) (ih : IH N F m G b xs out p l e R s mid args below meth c A H0 Q) (hH : Here N m G b xs out p l e R s mid args below meth c A H0 Q L st S ad H locs cells slots ls)
    {raw : Instr} {len : Nat} (hd : decode (mCode m) (bpc m pc) = .ok (raw, len)) (hn : bpc m (pc + 1) = bpc m pc + len) (hlen : lenOf raw = 0 ∨ len = lenOf raw) (hz : rz m (bpc m pc) raw (.iaload) = true)
    (he : x_iald N pc L st S (exec N F m) none = some out) : W p l e R s mid args below meth c H locs cells slots Q (F0 mid (bpc m pc) ls (st.map (toV ad))) := by
  obtain ⟨hm264, hx, hb, hml, hown, hts, hini, hfr, hlo, hGS, hA, hX, hbl, hbA, hTX, hN⟩ := hC
  unfold x_iald at he
  rcases st with _ | ⟨(j | (j | (j | j))), _ | ⟨(y | (y | (⟨k, i⟩ | y))), st⟩⟩ <;> first | (cases he; done) | skip
  have hy := okh hH.2.2.1
  have hv := okh (okt hH.2.2.1)
  have hr := okt (okt hH.2.2.1)
  dsimp only at he
  have hk0 : (kTag k = 1 ∨ kTag k = 4) ∧ (if j < 0 then none else if j < kLenN N k then exec N F m (pc + 1) L (vI (S.2.2 k i j.toNat) :: st) S else none) = some out := by
    rcases z : kTag k with _ | _ | _ | _ | _ | _ <;> rw [z] at he <;> first | (cases he; done) | exact ⟨by omega, he⟩
  obtain ⟨hk, he⟩ := hk0
  by_cases h0 : j < 0
  · rw [if_pos h0] at he; cases he
  rw [if_neg h0] at he
  have h1 : j < kLenN N k := by
    by_cases h1 : j < kLenN N k
    · exact h1
    · rw [if_neg h1] at he; cases he
  rw [if_pos h1] at he
  unfold rz at hz
  dsimp only at hz
  split at hz
  · rcases hlen with h | h
    · cases h
    rw [h] at hd hn
    by_cases h4 : kTag k = 4
    · have hq : (k, i) = (999, 0) := by
        rcases hv with hv | hv | ⟨hv, -⟩
        · obtain ⟨a, -, ho⟩ := hv
          have := (ords_kd ho).2.2.1
          dsimp only at this
          omega
        · exact hv
        · dsimp only at hv; subst hv; exact absurd (tag1000.symm.trans h4) (by decide)
      cases hq
      have e0 : kLenN N 999 = (N : Int) := rfl
      rw [e0] at h1
      have hok := (hH.1.2.2.2.2.2.1 999 0 j.toNat).2 (isL_1 (Or.inr (Or.inr h4)))
      have k := go_st ih hH he (ok1 (show okV S.1 (vI (S.2.2 999 0 j.toNat)) from hok) hr)
      rw [hn] at k
      have hab : ad 999 0 = b := hH.1.2.2.2.1
      show W p l e R s mid args below meth c H locs cells slots Q (F0 mid (bpc m pc) ls (.int (Int32.ofInt j) :: .ref (ad 999 0) :: st.map (toV ad)))
      rw [hab]
      refine va_sld hx hb hX hbl hbA hH.1.2.2.1 (vpinI h0 h1 hy) hd ?_
      rw [clampI (by omega) hy, ← hH.1.2.2.2.2.2.2.2 j.toNat (by omega)]
      exact k
    have hk : kTag k = 1 := by omega
    obtain ⟨a, ha, ho⟩ := vld_row hv hk (by decide) (by decide)
    rw [kLenN_row (N := N) ho] at h1
    have hok := (hH.1.2.2.2.2.2.1 k i j.toNat).2 (isL_1 (Or.inl hk))
    have k0 := go_st ih hH he (ok1 (show okV S.1 (vI (S.2.2 k i j.toNat)) from hok) hr)
    rw [hn] at k0
    have hw := wl_at (G := G) (ad := ad) ha ho
    rw [ent_1 hk] at hw
    refine va_iald hx hb hGS.1 hH.1.1 a 0 hw rfl (vpinI h0 h1 hy) hd ?_
    rw [clampI (by omega) hy]
    exact k0
  · cases hz

theorem s_bald (hC : Cx N m G b xs p R s mid args meth c A H0) (ih : IH N F m G b xs out p l e R s mid args below meth c A H0 Q) (hH : Here N m G b xs out p l e R s mid args below meth c A H0 Q L st S ad H locs cells slots ls)
    {raw : Instr} {len : Nat} (hd : decode (mCode m) (bpc m pc) = .ok (raw, len)) (hn : bpc m (pc + 1) = bpc m pc + len) (hlen : lenOf raw = 0 ∨ len = lenOf raw) (hz : rz m (bpc m pc) raw (.baload) = true)
    (he : x_bald N pc L st S (exec N F m) none = some out) : W p l e R s mid args below meth c H locs cells slots Q (F0 mid (bpc m pc) ls (st.map (toV ad))) := by
  obtain ⟨hm264, hx, hb, hml, hown, hts, hini, hfr, hlo, hGS, hA, hX, hbl, hbA, hTX, hN⟩ := hC
  unfold x_bald at he
  rcases st with _ | ⟨(j | (j | (j | j))), _ | ⟨(y | (y | (⟨k, i⟩ | y))), st⟩⟩ <;> first | (cases he; done) | skip
  have hy := okh hH.2.2.1
  have hv := okh (okt hH.2.2.1)
  have hr := okt (okt hH.2.2.1)
  dsimp only at he
  have hk0 : (kTag k = 2) ∧ (if j < 0 then none else if j < kLenN N k then exec N F m (pc + 1) L (vI (S.2.2 k i j.toNat) :: st) S else none) = some out := by
    rcases z : kTag k with _ | _ | _ | _ | _ | _ <;> rw [z] at he <;> first | (cases he; done) | exact ⟨by omega, he⟩
  obtain ⟨hk, he⟩ := hk0
  by_cases h0 : j < 0
  · rw [if_pos h0] at he; cases he
  rw [if_neg h0] at he
  have h1 : j < kLenN N k := by
    by_cases h1 : j < kLenN N k
    · exact h1
    · rw [if_neg h1] at he; cases he
  rw [if_pos h1] at he
  unfold rz at hz
  dsimp only at hz
  split at hz
  · rcases hlen with h | h
    · cases h
    rw [h] at hd hn
    obtain ⟨a, ha, ho⟩ := vld_row hv hk (by decide) (by decide)
    rw [kLenN_row (N := N) ho] at h1
    have hok := (hH.1.2.2.2.2.2.1 k i j.toNat).2 (isL_1 (Or.inr (Or.inl hk)))
    have k0 := go_st ih hH he (ok1 (show okV S.1 (vI (S.2.2 k i j.toNat)) from hok) hr)
    rw [hn] at k0
    have hw := wl_at (G := G) (ad := ad) ha ho
    rw [ent_2 hk] at hw
    refine va_bald hx hb hGS.1 hH.1.1 a 1 hw rfl (vpinI h0 h1 hy) hd ?_
    rw [clampI (by omega) hy]
    exact k0
  · cases hz

theorem s_lald (hC : Cx N m G b xs p R s mid args meth c A H0) (ih : IH N F m G b xs out p l e R s mid args below meth c A H0 Q) (hH : Here N m G b xs out p l e R s mid args below meth c A H0 Q L st S ad H locs cells slots ls)
    {raw : Instr} {len : Nat} (hd : decode (mCode m) (bpc m pc) = .ok (raw, len)) (hn : bpc m (pc + 1) = bpc m pc + len) (hlen : lenOf raw = 0 ∨ len = lenOf raw) (hz : rz m (bpc m pc) raw (.laload) = true)
    (he : x_lald N pc L st S (exec N F m) none = some out) : W p l e R s mid args below meth c H locs cells slots Q (F0 mid (bpc m pc) ls (st.map (toV ad))) := by
  obtain ⟨hm264, hx, hb, hml, hown, hts, hini, hfr, hlo, hGS, hA, hX, hbl, hbA, hTX, hN⟩ := hC
  unfold x_lald at he
  rcases st with _ | ⟨(j | (j | (j | j))), _ | ⟨(y | (y | (⟨k, i⟩ | y))), st⟩⟩ <;> first | (cases he; done) | skip
  have hy := okh hH.2.2.1
  have hv := okh (okt hH.2.2.1)
  have hr := okt (okt hH.2.2.1)
  dsimp only at he
  have hk0 : (kTag k = 3) ∧ (if j < 0 then none else if j < kLenN N k then exec N F m (pc + 1) L (vJ (S.2.2 k i j.toNat) :: st) S else none) = some out := by
    rcases z : kTag k with _ | _ | _ | _ | _ | _ <;> rw [z] at he <;> first | (cases he; done) | exact ⟨by omega, he⟩
  obtain ⟨hk, he⟩ := hk0
  by_cases h0 : j < 0
  · rw [if_pos h0] at he; cases he
  rw [if_neg h0] at he
  have h1 : j < kLenN N k := by
    by_cases h1 : j < kLenN N k
    · exact h1
    · rw [if_neg h1] at he; cases he
  rw [if_pos h1] at he
  unfold rz at hz
  dsimp only at hz
  split at hz
  · rcases hlen with h | h
    · cases h
    rw [h] at hd hn
    obtain ⟨a, ha, ho⟩ := vld_row hv hk (by decide) (by decide)
    rw [kLenN_row (N := N) ho] at h1
    have hok := (hH.1.2.2.2.2.2.1 k i j.toNat).1
    have k0 := go_st ih hH he (ok1 (show okV S.1 (vJ (S.2.2 k i j.toNat)) from hok) hr)
    rw [hn] at k0
    have hw := wl_at (G := G) (ad := ad) ha ho
    rw [ent_3 hk] at hw
    refine va_lald hx hb hGS.1 hH.1.1 a 2 hw rfl (vpinI h0 h1 hy) hd ?_
    rw [clampI (by omega) hy]
    exact k0
  · cases hz

theorem s_iast (hC : Cx N m G b xs p R s mid args meth c A H0) (ih : IH N F m G b xs out p l e R s mid args below meth c A H0 Q) (hH : Here N m G b xs out p l e R s mid args below meth c A H0 Q L st S ad H locs cells slots ls)
    {raw : Instr} {len : Nat} (hd : decode (mCode m) (bpc m pc) = .ok (raw, len)) (hn : bpc m (pc + 1) = bpc m pc + len) (hlen : lenOf raw = 0 ∨ len = lenOf raw) (hz : rz m (bpc m pc) raw (.iastore) = true)
    (he : x_iast N pc L st S (exec N F m) none = some out) : W p l e R s mid args below meth c H locs cells slots Q (F0 mid (bpc m pc) ls (st.map (toV ad))) := by
  obtain ⟨hm264, hx, hb, hml, hown, hts, hini, hfr, hlo, hGS, hA, hX, hbl, hbA, hTX, hN⟩ := hC
  unfold x_iast at he
  rcases st with _ | ⟨(x | (x | (x | x))), _ | ⟨(j | (j | (j | j))), _ | ⟨(y | (y | (⟨k, i⟩ | y))), st⟩⟩⟩ <;> first | (cases he; done) | skip
  have hw1 := okh hH.2.2.1
  have hy := okh (okt hH.2.2.1)
  have hv := okh (okt (okt hH.2.2.1))
  have hr := okt (okt (okt hH.2.2.1))
  dsimp only at he
  have hk0 : kTag k = 1 ∧ (if j < 0 then none else if j < kLenN N k then exec N F m (pc + 1) L st (S.1, S.2.1, sup S.2.2 k i j.toNat (x)) else none) = some out := by
    rcases z : kTag k with _ | _ | _ | _ | _ | _ <;> rw [z] at he <;> first | (cases he; done) | exact ⟨by omega, he⟩
  obtain ⟨hk, he⟩ := hk0
  by_cases h0 : j < 0
  · rw [if_pos h0] at he; cases he
  rw [if_neg h0] at he
  have h1 : j < kLenN N k := by
    by_cases h1 : j < kLenN N k
    · exact h1
    · rw [if_neg h1] at he; cases he
  rw [if_pos h1] at he
  unfold rz at hz
  dsimp only at hz
  split at hz
  · rcases hlen with h | h
    · cases h
    rw [h] at hd hn
    obtain ⟨a, ha, ho⟩ := vld_row hv hk (by decide) (by decide)
    rw [kLenN_row (N := N) ho] at h1
    have hw := wl_at (G := G) (ad := ad) ha ho
    rw [ent_1 hk] at hw
    refine va_iast hx hb hGS.1 hH.1.1 hH.1.2.1 hH.1.2.2.1 a 0 hw rfl (vpinI h0 h1 hy) hd (fun H1 locs1 hP hD hS => ?_)
    rw [clampI (by omega) hy] at hP hD
    have e2 : ent G ad (S.1, S.2.1, sup S.2.2 k i j.toNat (x)) (k, i) = .inl (G.2.1 1, kLen k, .inl (upd (fun j => Int32.ofInt (S.2.2 k i j)) j.toNat (Int32.ofInt x))) := by
      rw [ent_1 hk]
      congr 4
      
      funext j'
      unfold sup upd
      by_cases q : j' = j.toNat
      · simp [q]
      · simp [q]
    rw [← e2] at hP hD
    have k0 := go_sup ih hH he hr (wd_sup hH.1 ha ho (in32_64 hw1) (fun _ => hw1) hP hD hS)
    rw [hn] at k0
    exact k0
  · cases hz

theorem s_bast (hC : Cx N m G b xs p R s mid args meth c A H0) (ih : IH N F m G b xs out p l e R s mid args below meth c A H0 Q) (hH : Here N m G b xs out p l e R s mid args below meth c A H0 Q L st S ad H locs cells slots ls)
    {raw : Instr} {len : Nat} (hd : decode (mCode m) (bpc m pc) = .ok (raw, len)) (hn : bpc m (pc + 1) = bpc m pc + len) (hlen : lenOf raw = 0 ∨ len = lenOf raw) (hz : rz m (bpc m pc) raw (.bastore) = true)
    (he : x_bast N pc L st S (exec N F m) none = some out) : W p l e R s mid args below meth c H locs cells slots Q (F0 mid (bpc m pc) ls (st.map (toV ad))) := by
  obtain ⟨hm264, hx, hb, hml, hown, hts, hini, hfr, hlo, hGS, hA, hX, hbl, hbA, hTX, hN⟩ := hC
  unfold x_bast at he
  rcases st with _ | ⟨(x | (x | (x | x))), _ | ⟨(j | (j | (j | j))), _ | ⟨(y | (y | (⟨k, i⟩ | y))), st⟩⟩⟩ <;> first | (cases he; done) | skip
  have hw1 := okh hH.2.2.1
  have hy := okh (okt hH.2.2.1)
  have hv := okh (okt (okt hH.2.2.1))
  have hr := okt (okt (okt hH.2.2.1))
  dsimp only at he
  have hk0 : kTag k = 2 ∧ (if j < 0 then none else if j < kLenN N k then exec N F m (pc + 1) L st (S.1, S.2.1, sup S.2.2 k i j.toNat (w8 x)) else none) = some out := by
    rcases z : kTag k with _ | _ | _ | _ | _ | _ <;> rw [z] at he <;> first | (cases he; done) | exact ⟨by omega, he⟩
  obtain ⟨hk, he⟩ := hk0
  by_cases h0 : j < 0
  · rw [if_pos h0] at he; cases he
  rw [if_neg h0] at he
  have h1 : j < kLenN N k := by
    by_cases h1 : j < kLenN N k
    · exact h1
    · rw [if_neg h1] at he; cases he
  rw [if_pos h1] at he
  unfold rz at hz
  dsimp only at hz
  split at hz
  · rcases hlen with h | h
    · cases h
    rw [h] at hd hn
    obtain ⟨a, ha, ho⟩ := vld_row hv hk (by decide) (by decide)
    rw [kLenN_row (N := N) ho] at h1
    have hw := wl_at (G := G) (ad := ad) ha ho
    rw [ent_2 hk] at hw
    refine va_bast hx hb hGS.1 hH.1.1 hH.1.2.1 hH.1.2.2.1 a 1 hw rfl (vpinI h0 h1 hy) hd (fun H1 locs1 hP hD hS => ?_)
    rw [clampI (by omega) hy] at hP hD
    have e2 : ent G ad (S.1, S.2.1, sup S.2.2 k i j.toNat (w8 x)) (k, i) = .inl (G.2.1 2, kLen k, .inl (upd (fun j => Int32.ofInt (S.2.2 k i j)) j.toNat (vp_nar .byte (Int32.ofInt x)))) := by
      rw [ent_2 hk]
      congr 4
      rw [show vp_nar .byte (Int32.ofInt x) = Int32.ofInt (w8 x) from (i2b_of hw1)]
      funext j'
      unfold sup upd
      by_cases q : j' = j.toNat
      · simp [q]
      · simp [q]
    rw [← e2] at hP hD
    have k0 := go_sup ih hH he hr (wd_sup hH.1 ha ho (in32_64 (w8_in _)) (fun _ => w8_in _) hP hD hS)
    rw [hn] at k0
    exact k0
  · cases hz

theorem s_last (hC : Cx N m G b xs p R s mid args meth c A H0) (ih : IH N F m G b xs out p l e R s mid args below meth c A H0 Q) (hH : Here N m G b xs out p l e R s mid args below meth c A H0 Q L st S ad H locs cells slots ls)
    {raw : Instr} {len : Nat} (hd : decode (mCode m) (bpc m pc) = .ok (raw, len)) (hn : bpc m (pc + 1) = bpc m pc + len) (hlen : lenOf raw = 0 ∨ len = lenOf raw) (hz : rz m (bpc m pc) raw (.lastore) = true)
    (he : x_last N pc L st S (exec N F m) none = some out) : W p l e R s mid args below meth c H locs cells slots Q (F0 mid (bpc m pc) ls (st.map (toV ad))) := by
  obtain ⟨hm264, hx, hb, hml, hown, hts, hini, hfr, hlo, hGS, hA, hX, hbl, hbA, hTX, hN⟩ := hC
  unfold x_last at he
  rcases st with _ | ⟨(x | (x | (x | x))), _ | ⟨(j | (j | (j | j))), _ | ⟨(y | (y | (⟨k, i⟩ | y))), st⟩⟩⟩ <;> first | (cases he; done) | skip
  have hw1 := okh hH.2.2.1
  have hy := okh (okt hH.2.2.1)
  have hv := okh (okt (okt hH.2.2.1))
  have hr := okt (okt (okt hH.2.2.1))
  dsimp only at he
  have hk0 : kTag k = 3 ∧ (if j < 0 then none else if j < kLenN N k then exec N F m (pc + 1) L st (S.1, S.2.1, sup S.2.2 k i j.toNat (x)) else none) = some out := by
    rcases z : kTag k with _ | _ | _ | _ | _ | _ <;> rw [z] at he <;> first | (cases he; done) | exact ⟨by omega, he⟩
  obtain ⟨hk, he⟩ := hk0
  by_cases h0 : j < 0
  · rw [if_pos h0] at he; cases he
  rw [if_neg h0] at he
  have h1 : j < kLenN N k := by
    by_cases h1 : j < kLenN N k
    · exact h1
    · rw [if_neg h1] at he; cases he
  rw [if_pos h1] at he
  unfold rz at hz
  dsimp only at hz
  split at hz
  · rcases hlen with h | h
    · cases h
    rw [h] at hd hn
    obtain ⟨a, ha, ho⟩ := vld_row hv hk (by decide) (by decide)
    rw [kLenN_row (N := N) ho] at h1
    have hw := wl_at (G := G) (ad := ad) ha ho
    rw [ent_3 hk] at hw
    refine va_last hx hb hGS.1 hH.1.1 hH.1.2.1 hH.1.2.2.1 a 2 hw rfl (vpinI h0 h1 hy) hd (fun H1 locs1 hP hD hS => ?_)
    rw [clampI (by omega) hy] at hP hD
    have e2 : ent G ad (S.1, S.2.1, sup S.2.2 k i j.toNat (x)) (k, i) = .inl (G.2.1 3, kLen k, .inr (.inl (vp_updL (fun j => Int64.ofInt (S.2.2 k i j)) j.toNat (Int64.ofInt x)))) := by
      rw [ent_3 hk]
      congr 4
      congr 1
      funext j'
      unfold sup vp_updL
      by_cases q : j' = j.toNat
      · simp [q]
      · simp [q]
    rw [← e2] at hP hD
    have k0 := go_sup ih hH he hr (wd_sup hH.1 ha ho (hw1) (fun z => by unfold isL at z; rw [hk] at z; cases z) hP hD hS)
    rw [hn] at k0
    exact k0
  · cases hz

end WALK
