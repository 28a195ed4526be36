section
section WALK
variable {N m : Nat} {G : GT} {b : Nat} {xs : Nat → Int32} {out : Out}
variable {p : Program} {l : Launch} {e : Env} {R : Room} {s : State} {mid : MethodId} {args : Array Value} {below : List Frame} {meth : Method} {c : Code} {A : Nat → Prop} {H0 : Heap} {Q : State → Prop}
variable {F pc : Nat} {L st : List MV} {S : MS} {ad : AdT} {H : Heap} {locs : List Loc} {cells slots : Nat} {ls : Array Slot}

theorem s_iadd (hC : Cx N m G b xs p R s mid args meth c A H0) (ih : IH N F m G b xs out p l e R s mid args below meth c A H0 Q) (hH : Here N m G b xs out p l e R s mid args below meth c A H0 Q L st S ad H locs cells slots ls)
    {raw : Instr} {len : Nat} (hd : decode (mCode m) (bpc m pc) = .ok (raw, len)) (hn : bpc m (pc + 1) = bpc m pc + len) (hlen : lenOf raw = 0 ∨ len = lenOf raw) (hz : rz m (bpc m pc) raw (.iadd) = true)
    (he : x_iop (fun a b => w32 (a + b)) pc L st S (exec N F m) none = some out) : W p l e R s mid args below meth c H locs cells slots Q (F0 mid (bpc m pc) ls (st.map (toV ad))) := by
  obtain ⟨hm264, hx, hb, hml, hown, hts, hini, hfr, hlo, hGS, hA, hX, hbl, hbA, hTX, hN⟩ := hC
  unfold x_iop at he
  rcases st with _ | ⟨(y | (y | (y | y))), _ | ⟨(x | (x | (x | x))), st⟩⟩ <;> first | (cases he; done) | skip
  have hy := okh hH.2.2.1
  have hv := okh (okt hH.2.2.1)
  have hr := okt (okt hH.2.2.1)
  have k := go_st ih hH he (ok1 (w32_in _) hr)
  rw [hn] at k
  unfold rz at hz
  dsimp only at hz
  split at hz
  · rcases hlen with h | h
    · cases h
    · rw [h] at hd k
      exact lv_iadd hx hb hd (by rw [← add32]; exact k)
  · cases hz

theorem s_isub (hC : Cx N m G b xs p R s mid args meth c A H0) (ih : IH N F m G b xs out p l e R s mid args below meth c A H0 Q) (hH : Here N m G b xs out p l e R s mid args below meth c A H0 Q L st S ad H locs cells slots ls)
    {raw : Instr} {len : Nat} (hd : decode (mCode m) (bpc m pc) = .ok (raw, len)) (hn : bpc m (pc + 1) = bpc m pc + len) (hlen : lenOf raw = 0 ∨ len = lenOf raw) (hz : rz m (bpc m pc) raw (.isub) = true)
    (he : x_iop (fun a b => w32 (a - b)) pc L st S (exec N F m) none = some out) : W p l e R s mid args below meth c H locs cells slots Q (F0 mid (bpc m pc) ls (st.map (toV ad))) := by
  obtain ⟨hm264, hx, hb, hml, hown, hts, hini, hfr, hlo, hGS, hA, hX, hbl, hbA, hTX, hN⟩ := hC
  unfold x_iop at he
  rcases st with _ | ⟨(y | (y | (y | y))), _ | ⟨(x | (x | (x | x))), st⟩⟩ <;> first | (cases he; done) | skip
  have hy := okh hH.2.2.1
  have hv := okh (okt hH.2.2.1)
  have hr := okt (okt hH.2.2.1)
  have k := go_st ih hH he (ok1 (w32_in _) hr)
  rw [hn] at k
  unfold rz at hz
  dsimp only at hz
  split at hz
  · rcases hlen with h | h
    · cases h
    · rw [h] at hd k
      exact lv_isub hx hb hd (by rw [← sub32]; exact k)
  · cases hz

theorem s_imul (hC : Cx N m G b xs p R s mid args meth c A H0) (ih : IH N F m G b xs out p l e R s mid args below meth c A H0 Q) (hH : Here N m G b xs out p l e R s mid args below meth c A H0 Q L st S ad H locs cells slots ls)
    {raw : Instr} {len : Nat} (hd : decode (mCode m) (bpc m pc) = .ok (raw, len)) (hn : bpc m (pc + 1) = bpc m pc + len) (hlen : lenOf raw = 0 ∨ len = lenOf raw) (hz : rz m (bpc m pc) raw (.imul) = true)
    (he : x_iop (fun a b => w32 (a * b)) pc L st S (exec N F m) none = some out) : W p l e R s mid args below meth c H locs cells slots Q (F0 mid (bpc m pc) ls (st.map (toV ad))) := by
  obtain ⟨hm264, hx, hb, hml, hown, hts, hini, hfr, hlo, hGS, hA, hX, hbl, hbA, hTX, hN⟩ := hC
  unfold x_iop at he
  rcases st with _ | ⟨(y | (y | (y | y))), _ | ⟨(x | (x | (x | x))), st⟩⟩ <;> first | (cases he; done) | skip
  have hy := okh hH.2.2.1
  have hv := okh (okt hH.2.2.1)
  have hr := okt (okt hH.2.2.1)
  have k := go_st ih hH he (ok1 (w32_in _) hr)
  rw [hn] at k
  unfold rz at hz
  dsimp only at hz
  split at hz
  · rcases hlen with h | h
    · cases h
    · rw [h] at hd k
      exact lv_imul hx hb hd (by rw [← mul32]; exact k)
  · cases hz

theorem s_iand (hC : Cx N m G b xs p R s mid args meth c A H0) (ih : IH N F m G b xs out p l e R s mid args below meth c A H0 Q) (hH : Here N m G b xs out p l e R s mid args below meth c A H0 Q L st S ad H locs cells slots ls)
    {raw : Instr} {len : Nat} (hd : decode (mCode m) (bpc m pc) = .ok (raw, len)) (hn : bpc m (pc + 1) = bpc m pc + len) (hlen : lenOf raw = 0 ∨ len = lenOf raw) (hz : rz m (bpc m pc) raw (.iand) = true)
    (he : x_iop bAnd pc L st S (exec N F m) none = some out) : W p l e R s mid args below meth c H locs cells slots Q (F0 mid (bpc m pc) ls (st.map (toV ad))) := by
  obtain ⟨hm264, hx, hb, hml, hown, hts, hini, hfr, hlo, hGS, hA, hX, hbl, hbA, hTX, hN⟩ := hC
  unfold x_iop at he
  rcases st with _ | ⟨(y | (y | (y | y))), _ | ⟨(x | (x | (x | x))), st⟩⟩ <;> first | (cases he; done) | skip
  have hy := okh hH.2.2.1
  have hv := okh (okt hH.2.2.1)
  have hr := okt (okt hH.2.2.1)
  have k := go_st ih hH he (ok1 (in32_of _) hr)
  rw [hn] at k
  unfold rz at hz
  dsimp only at hz
  split at hz
  · rcases hlen with h | h
    · cases h
    · rw [h] at hd k
      have q := of32 (Int32.ofInt x &&& Int32.ofInt y)
      exact lv_iand hx hb hd (by rw [← q]; exact k)
  · cases hz

theorem s_ior (hC : Cx N m G b xs p R s mid args meth c A H0) (ih : IH N F m G b xs out p l e R s mid args below meth c A H0 Q) (hH : Here N m G b xs out p l e R s mid args below meth c A H0 Q L st S ad H locs cells slots ls)
    {raw : Instr} {len : Nat} (hd : decode (mCode m) (bpc m pc) = .ok (raw, len)) (hn : bpc m (pc + 1) = bpc m pc + len) (hlen : lenOf raw = 0 ∨ len = lenOf raw) (hz : rz m (bpc m pc) raw (.ior) = true)
    (he : x_iop bOr pc L st S (exec N F m) none = some out) : W p l e R s mid args below meth c H locs cells slots Q (F0 mid (bpc m pc) ls (st.map (toV ad))) := by
  obtain ⟨hm264, hx, hb, hml, hown, hts, hini, hfr, hlo, hGS, hA, hX, hbl, hbA, hTX, hN⟩ := hC
  unfold x_iop at he
  rcases st with _ | ⟨(y | (y | (y | y))), _ | ⟨(x | (x | (x | x))), st⟩⟩ <;> first | (cases he; done) | skip
  have hy := okh hH.2.2.1
  have hv := okh (okt hH.2.2.1)
  have hr := okt (okt hH.2.2.1)
  have k := go_st ih hH he (ok1 (in32_of _) hr)
  rw [hn] at k
  unfold rz at hz
  dsimp only at hz
  split at hz
  · rcases hlen with h | h
    · cases h
    · rw [h] at hd k
      have q := of32 (Int32.ofInt x ||| Int32.ofInt y)
      exact lv_ior hx hb hd (by rw [← q]; exact k)
  · cases hz

theorem s_ixor (hC : Cx N m G b xs p R s mid args meth c A H0) (ih : IH N F m G b xs out p l e R s mid args below meth c A H0 Q) (hH : Here N m G b xs out p l e R s mid args below meth c A H0 Q L st S ad H locs cells slots ls)
    {raw : Instr} {len : Nat} (hd : decode (mCode m) (bpc m pc) = .ok (raw, len)) (hn : bpc m (pc + 1) = bpc m pc + len) (hlen : lenOf raw = 0 ∨ len = lenOf raw) (hz : rz m (bpc m pc) raw (.ixor) = true)
    (he : x_iop bXor pc L st S (exec N F m) none = some out) : W p l e R s mid args below meth c H locs cells slots Q (F0 mid (bpc m pc) ls (st.map (toV ad))) := by
  obtain ⟨hm264, hx, hb, hml, hown, hts, hini, hfr, hlo, hGS, hA, hX, hbl, hbA, hTX, hN⟩ := hC
  unfold x_iop at he
  rcases st with _ | ⟨(y | (y | (y | y))), _ | ⟨(x | (x | (x | x))), st⟩⟩ <;> first | (cases he; done) | skip
  have hy := okh hH.2.2.1
  have hv := okh (okt hH.2.2.1)
  have hr := okt (okt hH.2.2.1)
  have k := go_st ih hH he (ok1 (in32_of _) hr)
  rw [hn] at k
  unfold rz at hz
  dsimp only at hz
  split at hz
  · rcases hlen with h | h
    · cases h
    · rw [h] at hd k
      have q := of32 (Int32.ofInt x ^^^ Int32.ofInt y)
      exact lv_ixor hx hb hd (by rw [← q]; exact k)
  · cases hz

theorem s_ishl (hC : Cx N m G b xs p R s mid args meth c A H0) (ih : IH N F m G b xs out p l e R s mid args below meth c A H0 Q) (hH : Here N m G b xs out p l e R s mid args below meth c A H0 Q L st S ad H locs cells slots ls)
    {raw : Instr} {len : Nat} (hd : decode (mCode m) (bpc m pc) = .ok (raw, len)) (hn : bpc m (pc + 1) = bpc m pc + len) (hlen : lenOf raw = 0 ∨ len = lenOf raw) (hz : rz m (bpc m pc) raw (.ishl) = true)
    (he : x_iop shl32 pc L st S (exec N F m) none = some out) : W p l e R s mid args below meth c H locs cells slots Q (F0 mid (bpc m pc) ls (st.map (toV ad))) := by
  obtain ⟨hm264, hx, hb, hml, hown, hts, hini, hfr, hlo, hGS, hA, hX, hbl, hbA, hTX, hN⟩ := hC
  unfold x_iop at he
  rcases st with _ | ⟨(y | (y | (y | y))), _ | ⟨(x | (x | (x | x))), st⟩⟩ <;> first | (cases he; done) | skip
  have hy := okh hH.2.2.1
  have hv := okh (okt hH.2.2.1)
  have hr := okt (okt hH.2.2.1)
  have k := go_st ih hH he (ok1 (in32_of _) hr)
  rw [hn] at k
  unfold rz at hz
  dsimp only at hz
  split at hz
  · rcases hlen with h | h
    · cases h
    · rw [h] at hd k
      have q := of32 (Int32.ofInt x <<< (Int32.ofInt y &&& 31))
      exact lv_ishl hx hb hd (by rw [← q]; exact k)
  · cases hz

theorem s_ishr (hC : Cx N m G b xs p R s mid args meth c A H0) (ih : IH N F m G b xs out p l e R s mid args below meth c A H0 Q) (hH : Here N m G b xs out p l e R s mid args below meth c A H0 Q L st S ad H locs cells slots ls)
    {raw : Instr} {len : Nat} (hd : decode (mCode m) (bpc m pc) = .ok (raw, len)) (hn : bpc m (pc + 1) = bpc m pc + len) (hlen : lenOf raw = 0 ∨ len = lenOf raw) (hz : rz m (bpc m pc) raw (.ishr) = true)
    (he : x_iop shr32 pc L st S (exec N F m) none = some out) : W p l e R s mid args below meth c H locs cells slots Q (F0 mid (bpc m pc) ls (st.map (toV ad))) := by
  obtain ⟨hm264, hx, hb, hml, hown, hts, hini, hfr, hlo, hGS, hA, hX, hbl, hbA, hTX, hN⟩ := hC
  unfold x_iop at he
  rcases st with _ | ⟨(y | (y | (y | y))), _ | ⟨(x | (x | (x | x))), st⟩⟩ <;> first | (cases he; done) | skip
  have hy := okh hH.2.2.1
  have hv := okh (okt hH.2.2.1)
  have hr := okt (okt hH.2.2.1)
  have k := go_st ih hH he (ok1 (in32_of _) hr)
  rw [hn] at k
  unfold rz at hz
  dsimp only at hz
  split at hz
  · rcases hlen with h | h
    · cases h
    · rw [h] at hd k
      have q := of32 (Int32.ofInt x >>> (Int32.ofInt y &&& 31))
      exact lv_ishr hx hb hd (by rw [← q]; exact k)
  · cases hz

theorem s_idiv (hC : Cx N m G b xs p R s mid args meth c A H0) (ih : IH N F m G b xs out p l e R s mid args below meth c A H0 Q) (hH : Here N m G b xs out p l e R s mid args below meth c A H0 Q L st S ad H locs cells slots ls)
    {raw : Instr} {len : Nat} (hd : decode (mCode m) (bpc m pc) = .ok (raw, len)) (hn : bpc m (pc + 1) = bpc m pc + len) (hlen : lenOf raw = 0 ∨ len = lenOf raw) (hz : rz m (bpc m pc) raw (.idiv) = true)
    (he : x_idv (fun a b => w32 (a.tdiv b)) pc L st S (exec N F m) none = some out) : W p l e R s mid args below meth c H locs cells slots Q (F0 mid (bpc m pc) ls (st.map (toV ad))) := by
  obtain ⟨hm264, hx, hb, hml, hown, hts, hini, hfr, hlo, hGS, hA, hX, hbl, hbA, hTX, hN⟩ := hC
  unfold x_idv at he
  rcases st with _ | ⟨(y | (y | (y | y))), _ | ⟨(x | (x | (x | x))), st⟩⟩ <;> first | (cases he; done) | skip
  have hy := okh hH.2.2.1
  have hv := okh (okt hH.2.2.1)
  have hr := okt (okt hH.2.2.1)
  dsimp only at he
  by_cases h0 : y = 0
  · rw [if_pos h0] at he; cases he
  rw [if_neg h0] at he
  have k := go_st ih hH he (ok1 (w32_in _) hr)
  rw [hn] at k
  unfold rz at hz
  dsimp only at hz
  split at hz
  · rcases hlen with h | h
    · cases h
    · rw [h] at hd k
      exact lv_idiv hx hb hd (fun z => h0 ((eq32 hy in32_0).mp z)) (by rw [← div32 hv hy]; exact k)
  · cases hz

theorem s_irem (hC : Cx N m G b xs p R s mid args meth c A H0) (ih : IH N F m G b xs out p l e R s mid args below meth c A H0 Q) (hH : Here N m G b xs out p l e R s mid args below meth c A H0 Q L st S ad H locs cells slots ls)
    {raw : Instr} {len : Nat} (hd : decode (mCode m) (bpc m pc) = .ok (raw, len)) (hn : bpc m (pc + 1) = bpc m pc + len) (hlen : lenOf raw = 0 ∨ len = lenOf raw) (hz : rz m (bpc m pc) raw (.irem) = true)
    (he : x_idv Int.tmod pc L st S (exec N F m) none = some out) : W p l e R s mid args below meth c H locs cells slots Q (F0 mid (bpc m pc) ls (st.map (toV ad))) := by
  obtain ⟨hm264, hx, hb, hml, hown, hts, hini, hfr, hlo, hGS, hA, hX, hbl, hbA, hTX, hN⟩ := hC
  unfold x_idv at he
  rcases st with _ | ⟨(y | (y | (y | y))), _ | ⟨(x | (x | (x | x))), st⟩⟩ <;> first | (cases he; done) | skip
  have hy := okh hH.2.2.1
  have hv := okh (okt hH.2.2.1)
  have hr := okt (okt hH.2.2.1)
  dsimp only at he
  by_cases h0 : y = 0
  · rw [if_pos h0] at he; cases he
  rw [if_neg h0] at he
  have k := go_st ih hH he (ok1 (tmod_in32 hv) hr)
  rw [hn] at k
  unfold rz at hz
  dsimp only at hz
  split at hz
  · rcases hlen with h | h
    · cases h
    · rw [h] at hd k
      exact lv_irem hx hb hd (fun z => h0 ((eq32 hy in32_0).mp z)) (by rw [← rem32 hv hy]; exact k)
  · cases hz

theorem s_ladd (hC : Cx N m G b xs p R s mid args meth c A H0) (ih : IH N F m G b xs out p l e R s mid args below meth c A H0 Q) (hH : Here N m G b xs out p l e R s mid args below meth c A H0 Q L st S ad H locs cells slots ls)
    {raw : Instr} {len : Nat} (hd : decode (mCode m) (bpc m pc) = .ok (raw, len)) (hn : bpc m (pc + 1) = bpc m pc + len) (hlen : lenOf raw = 0 ∨ len = lenOf raw) (hz : rz m (bpc m pc) raw (.ladd) = true)
    (he : x_lop (fun a b => w64 (a + b)) pc L st S (exec N F m) none = some out) : W p l e R s mid args below meth c H locs cells slots Q (F0 mid (bpc m pc) ls (st.map (toV ad))) := by
  obtain ⟨hm264, hx, hb, hml, hown, hts, hini, hfr, hlo, hGS, hA, hX, hbl, hbA, hTX, hN⟩ := hC
  unfold x_lop at he
  rcases st with _ | ⟨(y | (y | (y | y))), _ | ⟨(x | (x | (x | x))), st⟩⟩ <;> first | (cases he; done) | skip
  have hy := okh hH.2.2.1
  have hv := okh (okt hH.2.2.1)
  have hr := okt (okt hH.2.2.1)
  have k := go_st ih hH he (ok1 (w64_in _) hr)
  rw [hn] at k
  unfold rz at hz
  dsimp only at hz
  split at hz
  · rcases hlen with h | h
    · cases h
    · rw [h] at hd k
      exact lv_ladd hx hb hd (by rw [← add64]; exact k)
  · cases hz

theorem s_lmul (hC : Cx N m G b xs p R s mid args meth c A H0) (ih : IH N F m G b xs out p l e R s mid args below meth c A H0 Q) (hH : Here N m G b xs out p l e R s mid args below meth c A H0 Q L st S ad H locs cells slots ls)
    {raw : Instr} {len : Nat} (hd : decode (mCode m) (bpc m pc) = .ok (raw, len)) (hn : bpc m (pc + 1) = bpc m pc + len) (hlen : lenOf raw = 0 ∨ len = lenOf raw) (hz : rz m (bpc m pc) raw (.lmul) = true)
    (he : x_lop (fun a b => w64 (a * b)) pc L st S (exec N F m) none = some out) : W p l e R s mid args below meth c H locs cells slots Q (F0 mid (bpc m pc) ls (st.map (toV ad))) := by
  obtain ⟨hm264, hx, hb, hml, hown, hts, hini, hfr, hlo, hGS, hA, hX, hbl, hbA, hTX, hN⟩ := hC
  unfold x_lop at he
  rcases st with _ | ⟨(y | (y | (y | y))), _ | ⟨(x | (x | (x | x))), st⟩⟩ <;> first | (cases he; done) | skip
  have hy := okh hH.2.2.1
  have hv := okh (okt hH.2.2.1)
  have hr := okt (okt hH.2.2.1)
  have k := go_st ih hH he (ok1 (w64_in _) hr)
  rw [hn] at k
  unfold rz at hz
  dsimp only at hz
  split at hz
  · rcases hlen with h | h
    · cases h
    · rw [h] at hd k
      exact lv_lmul hx hb hd (by rw [← mul64]; exact k)
  · cases hz

theorem s_lor (hC : Cx N m G b xs p R s mid args meth c A H0) (ih : IH N F m G b xs out p l e R s mid args below meth c A H0 Q) (hH : Here N m G b xs out p l e R s mid args below meth c A H0 Q L st S ad H locs cells slots ls)
    {raw : Instr} {len : Nat} (hd : decode (mCode m) (bpc m pc) = .ok (raw, len)) (hn : bpc m (pc + 1) = bpc m pc + len) (hlen : lenOf raw = 0 ∨ len = lenOf raw) (hz : rz m (bpc m pc) raw (.lor) = true)
    (he : x_lop jOr pc L st S (exec N F m) none = some out) : W p l e R s mid args below meth c H locs cells slots Q (F0 mid (bpc m pc) ls (st.map (toV ad))) := by
  obtain ⟨hm264, hx, hb, hml, hown, hts, hini, hfr, hlo, hGS, hA, hX, hbl, hbA, hTX, hN⟩ := hC
  unfold x_lop at he
  rcases st with _ | ⟨(y | (y | (y | y))), _ | ⟨(x | (x | (x | x))), st⟩⟩ <;> first | (cases he; done) | skip
  have hy := okh hH.2.2.1
  have hv := okh (okt hH.2.2.1)
  have hr := okt (okt hH.2.2.1)
  have k := go_st ih hH he (ok1 (in64_of _) hr)
  rw [hn] at k
  unfold rz at hz
  dsimp only at hz
  split at hz
  · rcases hlen with h | h
    · cases h
    · rw [h] at hd k
      have q := of64 (Int64.ofInt x ||| Int64.ofInt y)
      exact lv_lor hx hb hd (by rw [← q]; exact k)
  · cases hz

theorem s_ldiv (hC : Cx N m G b xs p R s mid args meth c A H0) (ih : IH N F m G b xs out p l e R s mid args below meth c A H0 Q) (hH : Here N m G b xs out p l e R s mid args below meth c A H0 Q L st S ad H locs cells slots ls)
    {raw : Instr} {len : Nat} (hd : decode (mCode m) (bpc m pc) = .ok (raw, len)) (hn : bpc m (pc + 1) = bpc m pc + len) (hlen : lenOf raw = 0 ∨ len = lenOf raw) (hz : rz m (bpc m pc) raw (.ldiv) = true)
    (he : x_ldv (fun a b => w64 (a.tdiv b)) pc L st S (exec N F m) none = some out) : W p l e R s mid args below meth c H locs cells slots Q (F0 mid (bpc m pc) ls (st.map (toV ad))) := by
  obtain ⟨hm264, hx, hb, hml, hown, hts, hini, hfr, hlo, hGS, hA, hX, hbl, hbA, hTX, hN⟩ := hC
  unfold x_ldv at he
  rcases st with _ | ⟨(y | (y | (y | y))), _ | ⟨(x | (x | (x | x))), st⟩⟩ <;> first | (cases he; done) | skip
  have hy := okh hH.2.2.1
  have hv := okh (okt hH.2.2.1)
  have hr := okt (okt hH.2.2.1)
  dsimp only at he
  by_cases h0 : y = 0
  · rw [if_pos h0] at he; cases he
  rw [if_neg h0] at he
  have k := go_st ih hH he (ok1 (w64_in _) hr)
  rw [hn] at k
  unfold rz at hz
  dsimp only at hz
  split at hz
  · rcases hlen with h | h
    · cases h
    · rw [h] at hd k
      exact lv_ldiv hx hb hd (fun z => h0 ((eq64 hy in64_0).mp z)) (by rw [← div64 hv hy]; exact k)
  · cases hz

theorem s_lrem (hC : Cx N m G b xs p R s mid args meth c A H0) (ih : IH N F m G b xs out p l e R s mid args below meth c A H0 Q) (hH : Here N m G b xs out p l e R s mid args below meth c A H0 Q L st S ad H locs cells slots ls)
    {raw : Instr} {len : Nat} (hd : decode (mCode m) (bpc m pc) = .ok (raw, len)) (hn : bpc m (pc + 1) = bpc m pc + len) (hlen : lenOf raw = 0 ∨ len = lenOf raw) (hz : rz m (bpc m pc) raw (.lrem) = true)
    (he : x_ldv Int.tmod pc L st S (exec N F m) none = some out) : W p l e R s mid args below meth c H locs cells slots Q (F0 mid (bpc m pc) ls (st.map (toV ad))) := by
  obtain ⟨hm264, hx, hb, hml, hown, hts, hini, hfr, hlo, hGS, hA, hX, hbl, hbA, hTX, hN⟩ := hC
  unfold x_ldv at he
  rcases st with _ | ⟨(y | (y | (y | y))), _ | ⟨(x | (x | (x | x))), st⟩⟩ <;> first | (cases he; done) | skip
  have hy := okh hH.2.2.1
  have hv := okh (okt hH.2.2.1)
  have hr := okt (okt hH.2.2.1)
  dsimp only at he
  by_cases h0 : y = 0
  · rw [if_pos h0] at he; cases he
  rw [if_neg h0] at he
  have k := go_st ih hH he (ok1 (tmod_in64 hv) hr)
  rw [hn] at k
  unfold rz at hz
  dsimp only at hz
  split at hz
  · rcases hlen with h | h
    · cases h
    · rw [h] at hd k
      exact lv_lrem hx hb hd (fun z => h0 ((eq64 hy in64_0).mp z)) (by rw [← rem64 hv hy]; exact k)
  · cases hz

theorem s_lshl (hC : Cx N m G b xs p R s mid args meth c A H0) (ih : IH N F m G b xs out p l e R s mid args below meth c A H0 Q) (hH : Here N m G b xs out p l e R s mid args below meth c A H0 Q L st S ad H locs cells slots ls)
    {raw : Instr} {len : Nat} (hd : decode (mCode m) (bpc m pc) = .ok (raw, len)) (hn : bpc m (pc + 1) = bpc m pc + len) (hlen : lenOf raw = 0 ∨ len = lenOf raw) (hz : rz m (bpc m pc) raw (.lshl) = true)
    (he : x_lsh shl64 pc L st S (exec N F m) none = some out) : W p l e R s mid args below meth c H locs cells slots Q (F0 mid (bpc m pc) ls (st.map (toV ad))) := by
  obtain ⟨hm264, hx, hb, hml, hown, hts, hini, hfr, hlo, hGS, hA, hX, hbl, hbA, hTX, hN⟩ := hC
  unfold x_lsh at he
  rcases st with _ | ⟨(y | (y | (y | y))), _ | ⟨(x | (x | (x | x))), st⟩⟩ <;> first | (cases he; done) | skip
  have hy := okh hH.2.2.1
  have hv := okh (okt hH.2.2.1)
  have hr := okt (okt hH.2.2.1)
  have k := go_st ih hH he (ok1 (in64_of _) hr)
  rw [hn] at k
  unfold rz at hz
  dsimp only at hz
  split at hz
  · rcases hlen with h | h
    · cases h
    · rw [h] at hd k
      exact lv_lshl hx hb hd (of64 _).symm k
  · cases hz

theorem s_lshr (hC : Cx N m G b xs p R s mid args meth c A H0) (ih : IH N F m G b xs out p l e R s mid args below meth c A H0 Q) (hH : Here N m G b xs out p l e R s mid args below meth c A H0 Q L st S ad H locs cells slots ls)
    {raw : Instr} {len : Nat} (hd : decode (mCode m) (bpc m pc) = .ok (raw, len)) (hn : bpc m (pc + 1) = bpc m pc + len) (hlen : lenOf raw = 0 ∨ len = lenOf raw) (hz : rz m (bpc m pc) raw (.lshr) = true)
    (he : x_lsh shr64 pc L st S (exec N F m) none = some out) : W p l e R s mid args below meth c H locs cells slots Q (F0 mid (bpc m pc) ls (st.map (toV ad))) := by
  obtain ⟨hm264, hx, hb, hml, hown, hts, hini, hfr, hlo, hGS, hA, hX, hbl, hbA, hTX, hN⟩ := hC
  unfold x_lsh at he
  rcases st with _ | ⟨(y | (y | (y | y))), _ | ⟨(x | (x | (x | x))), st⟩⟩ <;> first | (cases he; done) | skip
  have hy := okh hH.2.2.1
  have hv := okh (okt hH.2.2.1)
  have hr := okt (okt hH.2.2.1)
  have k := go_st ih hH he (ok1 (in64_of _) hr)
  rw [hn] at k
  unfold rz at hz
  dsimp only at hz
  split at hz
  · rcases hlen with h | h
    · cases h
    · rw [h] at hd k
      exact lv_lshr hx hb hd (of64 _).symm k
  · cases hz

theorem s_lushr (hC : Cx N m G b xs p R s mid args meth c A H0) (ih : IH N F m G b xs out p l e R s mid args below meth c A H0 Q) (hH : Here N m G b xs out p l e R s mid args below meth c A H0 Q L st S ad H locs cells slots ls)
    {raw : Instr} {len : Nat} (hd : decode (mCode m) (bpc m pc) = .ok (raw, len)) (hn : bpc m (pc + 1) = bpc m pc + len) (hlen : lenOf raw = 0 ∨ len = lenOf raw) (hz : rz m (bpc m pc) raw (.lushr) = true)
    (he : x_lsh ushr64 pc L st S (exec N F m) none = some out) : W p l e R s mid args below meth c H locs cells slots Q (F0 mid (bpc m pc) ls (st.map (toV ad))) := by
  obtain ⟨hm264, hx, hb, hml, hown, hts, hini, hfr, hlo, hGS, hA, hX, hbl, hbA, hTX, hN⟩ := hC
  unfold x_lsh at he
  rcases st with _ | ⟨(y | (y | (y | y))), _ | ⟨(x | (x | (x | x))), st⟩⟩ <;> first | (cases he; done) | skip
  have hy := okh hH.2.2.1
  have hv := okh (okt hH.2.2.1)
  have hr := okt (okt hH.2.2.1)
  have k := go_st ih hH he (ok1 (in64_of _) hr)
  rw [hn] at k
  unfold rz at hz
  dsimp only at hz
  split at hz
  · rcases hlen with h | h
    · cases h
    · rw [h] at hd k
      exact lv_lushr hx hb hd (of64 _).symm k
  · cases hz

theorem s_i2l (hC : Cx N m G b xs p R s mid args meth c A H0) (ih : IH N F m G b xs out p l e R s mid args below meth c A H0 Q) (hH : Here N m G b xs out p l e R s mid args below meth c A H0 Q L st S ad H locs cells slots ls)
    {raw : Instr} {len : Nat} (hd : decode (mCode m) (bpc m pc) = .ok (raw, len)) (hn : bpc m (pc + 1) = bpc m pc + len) (hlen : lenOf raw = 0 ∨ len = lenOf raw) (hz : rz m (bpc m pc) raw (.i2l) = true)
    (he : x_i2l pc L st S (exec N F m) none = some out) : W p l e R s mid args below meth c H locs cells slots Q (F0 mid (bpc m pc) ls (st.map (toV ad))) := by
  obtain ⟨hm264, hx, hb, hml, hown, hts, hini, hfr, hlo, hGS, hA, hX, hbl, hbA, hTX, hN⟩ := hC
  unfold x_i2l at he
  rcases st with _ | ⟨(x | (x | (x | x))), st⟩ <;> first | (cases he; done) | skip
  have hv := okh hH.2.2.1
  have hr := okt hH.2.2.1
  have k := go_st ih hH he (ok1 (in32_64 hv) hr)
  rw [hn] at k
  unfold rz at hz
  dsimp only at hz
  split at hz
  · rcases hlen with h | h
    · cases h
    · rw [h] at hd k
      exact lv_i2l hx hb hd (i2l_of hv) k
  · cases hz

theorem s_l2i (hC : Cx N m G b xs p R s mid args meth c A H0) (ih : IH N F m G b xs out p l e R s mid args below meth c A H0 Q) (hH : Here N m G b xs out p l e R s mid args below meth c A H0 Q L st S ad H locs cells slots ls)
    {raw : Instr} {len : Nat} (hd : decode (mCode m) (bpc m pc) = .ok (raw, len)) (hn : bpc m (pc + 1) = bpc m pc + len) (hlen : lenOf raw = 0 ∨ len = lenOf raw) (hz : rz m (bpc m pc) raw (.l2i) = true)
    (he : x_l2i pc L st S (exec N F m) none = some out) : W p l e R s mid args below meth c H locs cells slots Q (F0 mid (bpc m pc) ls (st.map (toV ad))) := by
  obtain ⟨hm264, hx, hb, hml, hown, hts, hini, hfr, hlo, hGS, hA, hX, hbl, hbA, hTX, hN⟩ := hC
  unfold x_l2i at he
  rcases st with _ | ⟨(x | (x | (x | x))), st⟩ <;> first | (cases he; done) | skip
  have hv := okh hH.2.2.1
  have hr := okt hH.2.2.1
  have k := go_st ih hH he (ok1 (w32_in _) hr)
  rw [hn] at k
  unfold rz at hz
  dsimp only at hz
  split at hz
  · rcases hlen with h | h
    · cases h
    · rw [h] at hd k
      exact lv_l2i hx hb hd (l2i_of hv) k
  · cases hz

theorem s_i2b (hC : Cx N m G b xs p R s mid args meth c A H0) (ih : IH N F m G b xs out p l e R s mid args below meth c A H0 Q) (hH : Here N m G b xs out p l e R s mid args below meth c A H0 Q L st S ad H locs cells slots ls)
    {raw : Instr} {len : Nat} (hd : decode (mCode m) (bpc m pc) = .ok (raw, len)) (hn : bpc m (pc + 1) = bpc m pc + len) (hlen : lenOf raw = 0 ∨ len = lenOf raw) (hz : rz m (bpc m pc) raw (.i2b) = true)
    (he : x_i2b pc L st S (exec N F m) none = some out) : W p l e R s mid args below meth c H locs cells slots Q (F0 mid (bpc m pc) ls (st.map (toV ad))) := by
  obtain ⟨hm264, hx, hb, hml, hown, hts, hini, hfr, hlo, hGS, hA, hX, hbl, hbA, hTX, hN⟩ := hC
  unfold x_i2b at he
  rcases st with _ | ⟨(x | (x | (x | x))), st⟩ <;> first | (cases he; done) | skip
  have hv := okh hH.2.2.1
  have hr := okt hH.2.2.1
  have k := go_st ih hH he (ok1 (w8_in _) hr)
  rw [hn] at k
  unfold rz at hz
  dsimp only at hz
  split at hz
  · rcases hlen with h | h
    · cases h
    · rw [h] at hd k
      exact lv_i2b hx hb hd (i2b_of hv) k
  · cases hz

theorem s_iconst {v : Int} (hC : Cx N m G b xs p R s mid args meth c A H0) (ih : IH N F m G b xs out p l e R s mid args below meth c A H0 Q) (hH : Here N m G b xs out p l e R s mid args below meth c A H0 Q L st S ad H locs cells slots ls)
    {raw : Instr} {len : Nat} (hd : decode (mCode m) (bpc m pc) = .ok (raw, len)) (hn : bpc m (pc + 1) = bpc m pc + len) (hlen : lenOf raw = 0 ∨ len = lenOf raw) (hz : rz m (bpc m pc) raw (.iconst v) = true)
    (he : exec N F m (pc + 1) L (vI v :: st) S = some out) : W p l e R s mid args below meth c H locs cells slots Q (F0 mid (bpc m pc) ls (st.map (toV ad))) := by
  obtain ⟨hm264, hx, hb, hml, hown, hts, hini, hfr, hlo, hGS, hA, hX, hbl, hbA, hTX, hN⟩ := hC
  unfold rz at hz
  dsimp only at hz
  obtain ⟨hv0, hz⟩ := band_t hz
  have hv : in32 v := by unfold in32; exact of_decide_eq_true hv0
  have k := go_st ih hH he (ok1 (show okV S.1 (vI v) from hv) hH.2.2.1)
  rw [hn] at k
  split at hz <;> first | (cases hz; done) | skip
  all_goals
    rcases hlen with h | h
    · cases h
    rw [h] at hd k
  · have q := of_decide_eq_true hz
    subst q
    exact lv_iconst hx hb hd rfl k
  · exact lv_bipush hx hb hd (of_decide_eq_true hz) k
  · exact lv_sipush hx hb hd (of_decide_eq_true hz) k
  · obtain ⟨j, hj, hc⟩ := anyN_ex hz
    rcases z : decide (kCon j = v) with _ | _
    · rw [z] at hc; cases hc
    · rw [z, cond_true] at hc
      have q := of_decide_eq_true z
      subst q
      have w := hts _ (gw_of hc rfl)
      rw [wd_10] at w
      exact lv_ldc hx hb hown w hd k
  · obtain ⟨j, hj, hc⟩ := anyN_ex hz
    rcases z : decide (kCon j = v) with _ | _
    · rw [z] at hc; cases hc
    · rw [z, cond_true] at hc
      have q := of_decide_eq_true z
      subst q
      have w := hts _ (gw_of hc rfl)
      rw [wd_10] at w
      exact lv_ldcw hx hb hown w hd k

theorem s_jconst {v : Int} (hC : Cx N m G b xs p R s mid args meth c A H0) (ih : IH N F m G b xs out p l e R s mid args below meth c A H0 Q) (hH : Here N m G b xs out p l e R s mid args below meth c A H0 Q L st S ad H locs cells slots ls)
    {raw : Instr} {len : Nat} (hd : decode (mCode m) (bpc m pc) = .ok (raw, len)) (hn : bpc m (pc + 1) = bpc m pc + len) (hlen : lenOf raw = 0 ∨ len = lenOf raw) (hz : rz m (bpc m pc) raw (.jsr_w v) = true)
    (he : exec N F m (pc + 1) L (vJ v :: st) S = some out) : W p l e R s mid args below meth c H locs cells slots Q (F0 mid (bpc m pc) ls (st.map (toV ad))) := by
  obtain ⟨hm264, hx, hb, hml, hown, hts, hini, hfr, hlo, hGS, hA, hX, hbl, hbA, hTX, hN⟩ := hC
  unfold rz at hz
  dsimp only at hz
  obtain ⟨hv0, hz⟩ := band_t hz
  have hv : in64 v := by unfold in64; exact of_decide_eq_true hv0
  have k := go_st ih hH he (ok1 (show okV S.1 (vJ v) from hv) hH.2.2.1)
  rw [hn] at k
  split at hz <;> first | (cases hz; done) | skip
  all_goals
    rcases hlen with h | h
    · cases h
    rw [h] at hd k
  · have q := of_decide_eq_true hz
    subst q
    exact lv_lconst hx hb hd rfl k
  · obtain ⟨j, hj, hc⟩ := anyN_ex hz
    rcases z : decide (kConL j = v) with _ | _
    · rw [z] at hc; cases hc
    · rw [z, cond_true] at hc
      have q := of_decide_eq_true z
      subst q
      have w := hts _ (gw_of hc rfl)
      rw [wd_11] at w
      exact lv_ldc2 hx hb hown w hd k

theorem s_iload {i : Nat} (hC : Cx N m G b xs p R s mid args meth c A H0) (ih : IH N F m G b xs out p l e R s mid args below meth c A H0 Q) (hH : Here N m G b xs out p l e R s mid args below meth c A H0 Q L st S ad H locs cells slots ls)
    {raw : Instr} {len : Nat} (hd : decode (mCode m) (bpc m pc) = .ok (raw, len)) (hn : bpc m (pc + 1) = bpc m pc + len) (hlen : lenOf raw = 0 ∨ len = lenOf raw) (hz : rz m (bpc m pc) raw (.iload i) = true)
    (he : x_iload i pc L st S (exec N F m) none = some out) : W p l e R s mid args below meth c H locs cells slots Q (F0 mid (bpc m pc) ls (st.map (toV ad))) := by
  obtain ⟨hm264, hx, hb, hml, hown, hts, hini, hfr, hlo, hGS, hA, hX, hbl, hbA, hTX, hN⟩ := hC
  unfold x_iload at he
  rcases e1 : nth L i with _ | (x | (x | (x | x))) <;> rw [e1] at he <;> first | (cases he; done) | skip
  have hv : okV S.1 (vI x) := hH.2.1 _ (nth_mem _ _ _ e1)
  have hls : ls[i]? = some (.val (.int (Int32.ofInt x))) := hH.2.2.2.2.1.2.2 i _ e1 (by intro z; cases z)
  have k := go_st ih hH he (ok1 hv hH.2.2.1)
  rw [hn] at k
  unfold rz at hz
  dsimp only at hz
  split at hz
  · have q := Nat.eq_of_beq_eq_true hz
    subst q
    rcases hlen with h | h
    · cases h
    · rw [h] at hd k
      exact lv_iload hx hb hd hls k
  · have q := Nat.eq_of_beq_eq_true hz
    rcases hlen with h | h
    · cases h
    · rw [h] at hd k
      exact lv_iload_n hx hb hd q hls k
  · cases hz

theorem s_lload {i : Nat} (hC : Cx N m G b xs p R s mid args meth c A H0) (ih : IH N F m G b xs out p l e R s mid args below meth c A H0 Q) (hH : Here N m G b xs out p l e R s mid args below meth c A H0 Q L st S ad H locs cells slots ls)
    {raw : Instr} {len : Nat} (hd : decode (mCode m) (bpc m pc) = .ok (raw, len)) (hn : bpc m (pc + 1) = bpc m pc + len) (hlen : lenOf raw = 0 ∨ len = lenOf raw) (hz : rz m (bpc m pc) raw (.lload i) = true)
    (he : x_lload i pc L st S (exec N F m) none = some out) : W p l e R s mid args below meth c H locs cells slots Q (F0 mid (bpc m pc) ls (st.map (toV ad))) := by
  obtain ⟨hm264, hx, hb, hml, hown, hts, hini, hfr, hlo, hGS, hA, hX, hbl, hbA, hTX, hN⟩ := hC
  unfold x_lload at he
  rcases e1 : nth L i with _ | (x | (x | (x | x))) <;> rw [e1] at he <;> first | (cases he; done) | skip
  have hv : okV S.1 (vJ x) := hH.2.1 _ (nth_mem _ _ _ e1)
  have hls : ls[i]? = some (.val (.long (Int64.ofInt x))) := hH.2.2.2.2.1.2.2 i _ e1 (by intro z; cases z)
  have k := go_st ih hH he (ok1 hv hH.2.2.1)
  rw [hn] at k
  unfold rz at hz
  dsimp only at hz
  split at hz
  · have q := Nat.eq_of_beq_eq_true hz
    subst q
    rcases hlen with h | h
    · cases h
    · rw [h] at hd k
      exact lv_lload hx hb hd hls k
  · have q := Nat.eq_of_beq_eq_true hz
    rcases hlen with h | h
    · cases h
    · rw [h] at hd k
      exact lv_lload_n hx hb hd q hls k
  · cases hz

theorem s_aload {i : Nat} (hC : Cx N m G b xs p R s mid args meth c A H0) (ih : IH N F m G b xs out p l e R s mid args below meth c A H0 Q) (hH : Here N m G b xs out p l e R s mid args below meth c A H0 Q L st S ad H locs cells slots ls)
    {raw : Instr} {len : Nat} (hd : decode (mCode m) (bpc m pc) = .ok (raw, len)) (hn : bpc m (pc + 1) = bpc m pc + len) (hlen : lenOf raw = 0 ∨ len = lenOf raw) (hz : rz m (bpc m pc) raw (.aload i) = true)
    (he : x_aload i pc L st S (exec N F m) none = some out) : W p l e R s mid args below meth c H locs cells slots Q (F0 mid (bpc m pc) ls (st.map (toV ad))) := by
  obtain ⟨hm264, hx, hb, hml, hown, hts, hini, hfr, hlo, hGS, hA, hX, hbl, hbA, hTX, hN⟩ := hC
  unfold x_aload at he
  rcases e1 : nth L i with _ | (x | (x | (x | x))) <;> rw [e1] at he <;> first | (cases he; done) | skip
  have hv : okV S.1 (.inr (.inr (.inl x))) := hH.2.1 _ (nth_mem _ _ _ e1)
  have hls : ls[i]? = some (.val (.ref (ad x.1 x.2))) := hH.2.2.2.2.1.2.2 i _ e1 (by intro z; cases z)
  have k := go_st ih hH he (ok1 hv hH.2.2.1)
  rw [hn] at k
  unfold rz at hz
  dsimp only at hz
  split at hz
  · have q := Nat.eq_of_beq_eq_true hz
    subst q
    rcases hlen with h | h
    · cases h
    · rw [h] at hd k
      exact lv_aload hx hb hd hls k
  · have q := Nat.eq_of_beq_eq_true hz
    rcases hlen with h | h
    · cases h
    · rw [h] at hd k
      exact lv_aload_n hx hb hd q hls k
  · cases hz

theorem s_dup (hC : Cx N m G b xs p R s mid args meth c A H0) (ih : IH N F m G b xs out p l e R s mid args below meth c A H0 Q) (hH : Here N m G b xs out p l e R s mid args below meth c A H0 Q L st S ad H locs cells slots ls)
    {raw : Instr} {len : Nat} (hd : decode (mCode m) (bpc m pc) = .ok (raw, len)) (hn : bpc m (pc + 1) = bpc m pc + len) (hlen : lenOf raw = 0 ∨ len = lenOf raw) (hz : rz m (bpc m pc) raw (.dup) = true)
    (he : x_dup pc L st S (exec N F m) none = some out) : W p l e R s mid args below meth c H locs cells slots Q (F0 mid (bpc m pc) ls (st.map (toV ad))) := by
  obtain ⟨hm264, hx, hb, hml, hown, hts, hini, hfr, hlo, hGS, hA, hX, hbl, hbA, hTX, hN⟩ := hC
  unfold x_dup at he
  rcases st with _ | ⟨v, st⟩
  · cases he
  dsimp only at he
  rcases hj : isJ v with _ | _ <;> rw [hj] at he <;> first | (cases he; done) | skip
  have hc : (toV ad v).category = 1 := by rcases v with v | v | v | v <;> first | rfl | cases hj
  have k := go_st ih hH he (ok1 (okh hH.2.2.1) hH.2.2.1)
  rw [hn] at k
  unfold rz at hz
  dsimp only at hz
  split at hz
  · rcases hlen with h | h
    · cases h
    · rw [h] at hd k
      exact lv_dup hx hb hd hc k
  · cases hz

theorem s_dup2 (hC : Cx N m G b xs p R s mid args meth c A H0) (ih : IH N F m G b xs out p l e R s mid args below meth c A H0 Q) (hH : Here N m G b xs out p l e R s mid args below meth c A H0 Q L st S ad H locs cells slots ls)
    {raw : Instr} {len : Nat} (hd : decode (mCode m) (bpc m pc) = .ok (raw, len)) (hn : bpc m (pc + 1) = bpc m pc + len) (hlen : lenOf raw = 0 ∨ len = lenOf raw) (hz : rz m (bpc m pc) raw (.dup2) = true)
    (he : x_dup2 pc L st S (exec N F m) none = some out) : W p l e R s mid args below meth c H locs cells slots Q (F0 mid (bpc m pc) ls (st.map (toV ad))) := by
  obtain ⟨hm264, hx, hb, hml, hown, hts, hini, hfr, hlo, hGS, hA, hX, hbl, hbA, hTX, hN⟩ := hC
  unfold x_dup2 at he
  rcases st with _ | ⟨v, _ | ⟨u, st⟩⟩
  · cases he
  · cases he
  dsimp only at he
  rcases hj : isJ v with _ | _ <;> rw [hj] at he <;> first | (cases he; done) | skip
  rcases hj2 : isJ u with _ | _ <;> rw [hj2] at he <;> first | (cases he; done) | skip
  have hc : (toV ad v).category = 1 := by rcases v with v | v | v | v <;> first | rfl | cases hj
  have hc2 : (toV ad u).category = 1 := by rcases u with v | v | v | v <;> first | rfl | cases hj2
  have k := go_st ih hH he (ok1 (okh hH.2.2.1) (ok1 (okh (okt hH.2.2.1)) hH.2.2.1))
  rw [hn] at k
  unfold rz at hz
  dsimp only at hz
  split at hz
  · rcases hlen with h | h
    · cases h
    · rw [h] at hd k
      exact lv_dup2_11 hx hb hd hc hc2 k
  · cases hz

theorem s_pop (hC : Cx N m G b xs p R s mid args meth c A H0) (ih : IH N F m G b xs out p l e R s mid args below meth c A H0 Q) (hH : Here N m G b xs out p l e R s mid args below meth c A H0 Q L st S ad H locs cells slots ls)
    {raw : Instr} {len : Nat} (hd : decode (mCode m) (bpc m pc) = .ok (raw, len)) (hn : bpc m (pc + 1) = bpc m pc + len) (hlen : lenOf raw = 0 ∨ len = lenOf raw) (hz : rz m (bpc m pc) raw (.pop) = true)
    (he : x_pop pc L st S (exec N F m) none = some out) : W p l e R s mid args below meth c H locs cells slots Q (F0 mid (bpc m pc) ls (st.map (toV ad))) := by
  obtain ⟨hm264, hx, hb, hml, hown, hts, hini, hfr, hlo, hGS, hA, hX, hbl, hbA, hTX, hN⟩ := hC
  unfold x_pop at he
  rcases st with _ | ⟨v, st⟩
  · cases he
  dsimp only at he
  rcases hj : isJ v with _ | _ <;> rw [hj] at he <;> first | (cases he; done) | skip
  have hc : (toV ad v).category = 1 := by rcases v with v | v | v | v <;> first | rfl | cases hj
  have k := go_st ih hH he (okt hH.2.2.1)
  rw [hn] at k
  unfold rz at hz
  dsimp only at hz
  split at hz
  · rcases hlen with h | h
    · cases h
    · rw [h] at hd k
      exact lv_pop hx hb hd hc k
  · cases hz

theorem s_goto {t : Int} (hC : Cx N m G b xs p R s mid args meth c A H0) (ih : IH N F m G b xs out p l e R s mid args below meth c A H0 Q) (hH : Here N m G b xs out p l e R s mid args below meth c A H0 Q L st S ad H locs cells slots ls)
    {raw : Instr} {len : Nat} (hd : decode (mCode m) (bpc m pc) = .ok (raw, len)) (hn : bpc m (pc + 1) = bpc m pc + len) (hlen : lenOf raw = 0 ∨ len = lenOf raw) (hz : rz m (bpc m pc) raw (.goto t) = true)
    (he : exec N F m t.toNat L st S = some out) : W p l e R s mid args below meth c H locs cells slots Q (F0 mid (bpc m pc) ls (st.map (toV ad))) := by
  obtain ⟨hm264, hx, hb, hml, hown, hts, hini, hfr, hlo, hGS, hA, hX, hbl, hbA, hTX, hN⟩ := hC
  have k := go_st ih hH he hH.2.2.1
  unfold rz at hz
  dsimp only at hz
  split at hz
  · rcases hlen with h | h
    · cases h
    · rw [h] at hd
      exact lv_goto hx hb hd (of_decide_eq_true hz) k
  · cases hz

theorem s_ifnull {t : Int} (hC : Cx N m G b xs p R s mid args meth c A H0) (ih : IH N F m G b xs out p l e R s mid args below meth c A H0 Q) (hH : Here N m G b xs out p l e R s mid args below meth c A H0 Q L st S ad H locs cells slots ls)
    {raw : Instr} {len : Nat} (hd : decode (mCode m) (bpc m pc) = .ok (raw, len)) (hn : bpc m (pc + 1) = bpc m pc + len) (hlen : lenOf raw = 0 ∨ len = lenOf raw) (hz : rz m (bpc m pc) raw (.ifnull t) = true)
    (he : x_ifnull pc L st S (exec N F m) none = some out) : W p l e R s mid args below meth c H locs cells slots Q (F0 mid (bpc m pc) ls (st.map (toV ad))) := by
  obtain ⟨hm264, hx, hb, hml, hown, hts, hini, hfr, hlo, hGS, hA, hX, hbl, hbA, hTX, hN⟩ := hC
  unfold x_ifnull at he
  rcases st with _ | ⟨(x | (x | (x | x))), st⟩ <;> first | (cases he; done) | skip
  have hv := okh hH.2.2.1
  have hr := okt hH.2.2.1
  have k := go_st ih hH he hr
  rw [hn] at k
  unfold rz at hz
  dsimp only at hz
  split at hz
  · rcases hlen with h | h
    · cases h
    · rw [h] at hd k
      exact lv_ifnull hx hb hd k
  · cases hz

theorem s_icmp {cd : Jvm.ClassFile.Cond} {t : Int} (hC : Cx N m G b xs p R s mid args meth c A H0) (ih : IH N F m G b xs out p l e R s mid args below meth c A H0 Q) (hH : Here N m G b xs out p l e R s mid args below meth c A H0 Q L st S ad H locs cells slots ls)
    {raw : Instr} {len : Nat} (hd : decode (mCode m) (bpc m pc) = .ok (raw, len)) (hn : bpc m (pc + 1) = bpc m pc + len) (hlen : lenOf raw = 0 ∨ len = lenOf raw) (hz : rz m (bpc m pc) raw (.if_icmp cd t) = true)
    (he : x_icmp cd t.toNat pc L st S (exec N F m) none = some out) : W p l e R s mid args below meth c H locs cells slots Q (F0 mid (bpc m pc) ls (st.map (toV ad))) := by
  obtain ⟨hm264, hx, hb, hml, hown, hts, hini, hfr, hlo, hGS, hA, hX, hbl, hbA, hTX, hN⟩ := hC
  unfold x_icmp at he
  rcases st with _ | ⟨(y | (y | (y | y))), _ | ⟨(x | (x | (x | x))), st⟩⟩ <;> first | (cases he; done) | skip
  have hy := okh hH.2.2.1
  have hv := okh (okt hH.2.2.1)
  have hr := okt (okt hH.2.2.1)
  unfold rz at hz
  dsimp only at hz
  split at hz
  · obtain ⟨q1, q2⟩ := band_t hz
    have q1 := of_decide_eq_true q1
    have q2 := of_decide_eq_true q2
    subst q1
    rcases hlen with h | h
    · cases h
    rw [h] at hd hn
    have kT : exec N F m t.toNat L st S = some out → W p l e R s mid args below meth c H locs cells slots Q (F0 mid (bpc m t.toNat) ls (st.map (toV ad))) := fun he => go_st ih hH he hr
    have kF : exec N F m (pc + 1) L st S = some out → W p l e R s mid args below meth c H locs cells slots Q (F0 mid (bpc m pc + 3) ls (st.map (toV ad))) := fun he => by
      have k := go_st ih hH he hr
      rw [hn] at k
      exact k
    cases cd <;> dsimp only at he
    · by_cases h1 : x = y
      · rw [if_pos h1] at he
        exact lv_icmp_eq hx hb hd q2 (fun _ => kT he) (fun z => absurd ((eq32 hv hy).mpr h1) z)
      · rw [if_neg h1] at he
        exact lv_icmp_eq hx hb hd q2 (fun z => absurd ((eq32 hv hy).mp z) h1) (fun _ => kF he)
    · by_cases h1 : x = y
      · rw [if_pos h1] at he
        exact lv_icmp_ne hx hb hd q2 (fun z => absurd ((eq32 hv hy).mpr h1) z) (fun _ => kF he)
      · rw [if_neg h1] at he
        exact lv_icmp_ne hx hb hd q2 (fun _ => kT he) (fun z => absurd ((eq32 hv hy).mp z) h1)
    · by_cases h1 : x < y
      · rw [if_pos h1] at he
        exact lv_icmp_lt hx hb hd q2 (fun _ => kT he) (fun z => absurd ((lt32 hv hy).mpr h1) z)
      · rw [if_neg h1] at he
        exact lv_icmp_lt hx hb hd q2 (fun z => absurd ((lt32 hv hy).mp z) h1) (fun _ => kF he)
    · by_cases h1 : x < y
      · rw [if_pos h1] at he
        exact lv_icmp_ge hx hb hd q2 (fun z => absurd ((le32 hy hv).mp z) (by omega)) (fun _ => kF he)
      · rw [if_neg h1] at he
        exact lv_icmp_ge hx hb hd q2 (fun _ => kT he) (fun z => absurd ((le32 hy hv).mpr (by omega)) z)
    · by_cases h1 : y < x
      · rw [if_pos h1] at he
        exact lv_icmp_gt hx hb hd q2 (fun _ => kT he) (fun z => absurd ((lt32 hy hv).mpr h1) z)
      · rw [if_neg h1] at he
        exact lv_icmp_gt hx hb hd q2 (fun z => absurd ((lt32 hy hv).mp z) h1) (fun _ => kF he)
    · by_cases h1 : y < x
      · rw [if_pos h1] at he
        exact lv_icmp_le hx hb hd q2 (fun z => absurd ((le32 hv hy).mp z) (by omega)) (fun _ => kF he)
      · rw [if_neg h1] at he
        exact lv_icmp_le hx hb hd q2 (fun _ => kT he) (fun z => absurd ((le32 hv hy).mpr (by omega)) z)
  · cases hz

theorem s_ifc {cd : Jvm.ClassFile.Cond} {t : Int} (hC : Cx N m G b xs p R s mid args meth c A H0) (ih : IH N F m G b xs out p l e R s mid args below meth c A H0 Q) (hH : Here N m G b xs out p l e R s mid args below meth c A H0 Q L st S ad H locs cells slots ls)
    {raw : Instr} {len : Nat} (hd : decode (mCode m) (bpc m pc) = .ok (raw, len)) (hn : bpc m (pc + 1) = bpc m pc + len) (hlen : lenOf raw = 0 ∨ len = lenOf raw) (hz : rz m (bpc m pc) raw (.ifCond cd t) = true)
    (he : x_if cd t.toNat pc L st S (exec N F m) none = some out) : W p l e R s mid args below meth c H locs cells slots Q (F0 mid (bpc m pc) ls (st.map (toV ad))) := by
  obtain ⟨hm264, hx, hb, hml, hown, hts, hini, hfr, hlo, hGS, hA, hX, hbl, hbA, hTX, hN⟩ := hC
  unfold x_if at he
  rcases st with _ | ⟨(x | (x | (x | x))), st⟩ <;> first | (cases he; done) | skip
  have hv := okh hH.2.2.1
  have hr := okt hH.2.2.1
  unfold rz at hz
  dsimp only at hz
  split at hz
  · obtain ⟨q1, q2⟩ := band_t hz
    have q1 := of_decide_eq_true q1
    have q2 := of_decide_eq_true q2
    subst q1
    rcases hlen with h | h
    · cases h
    rw [h] at hd hn
    have kT : exec N F m t.toNat L st S = some out → W p l e R s mid args below meth c H locs cells slots Q (F0 mid (bpc m t.toNat) ls (st.map (toV ad))) := fun he => go_st ih hH he hr
    have kF : exec N F m (pc + 1) L st S = some out → W p l e R s mid args below meth c H locs cells slots Q (F0 mid (bpc m pc + 3) ls (st.map (toV ad))) := fun he => by
      have k := go_st ih hH he hr
      rw [hn] at k
      exact k
    cases cd <;> dsimp only at he
    · by_cases h1 : x = 0
      · rw [if_pos h1] at he
        exact lv_if_eq hx hb hd q2 (fun _ => kT he) (fun z => absurd ((eq32 hv in32_0).mpr h1) z)
      · rw [if_neg h1] at he
        exact lv_if_eq hx hb hd q2 (fun z => absurd ((eq32 hv in32_0).mp z) h1) (fun _ => kF he)
    · by_cases h1 : x = 0
      · rw [if_pos h1] at he
        exact lv_if_ne hx hb hd q2 (fun z => absurd ((eq32 hv in32_0).mpr h1) z) (fun _ => kF he)
      · rw [if_neg h1] at he
        exact lv_if_ne hx hb hd q2 (fun _ => kT he) (fun z => absurd ((eq32 hv in32_0).mp z) h1)
    · by_cases h1 : x < 0
      · rw [if_pos h1] at he
        exact lv_if_lt hx hb hd q2 (fun _ => kT he) (fun z => absurd ((lt32 hv in32_0).mpr h1) z)
      · rw [if_neg h1] at he
        exact lv_if_lt hx hb hd q2 (fun z => absurd ((lt32 hv in32_0).mp z) h1) (fun _ => kF he)
    · by_cases h1 : x < 0
      · rw [if_pos h1] at he
        exact lv_if_ge hx hb hd q2 (fun z => absurd ((le32 in32_0 hv).mp z) (by omega)) (fun _ => kF he)
      · rw [if_neg h1] at he
        exact lv_if_ge hx hb hd q2 (fun _ => kT he) (fun z => absurd ((le32 in32_0 hv).mpr (by omega)) z)
    · by_cases h1 : 0 < x
      · rw [if_pos h1] at he
        exact lv_if_gt hx hb hd q2 (fun _ => kT he) (fun z => absurd ((lt32 in32_0 hv).mpr h1) z)
      · rw [if_neg h1] at he
        exact lv_if_gt hx hb hd q2 (fun z => absurd ((lt32 in32_0 hv).mp z) h1) (fun _ => kF he)
    · by_cases h1 : 0 < x
      · rw [if_pos h1] at he
        exact lv_if_le hx hb hd q2 (fun z => absurd ((le32 hv in32_0).mp z) (by omega)) (fun _ => kF he)
      · rw [if_neg h1] at he
        exact lv_if_le hx hb hd q2 (fun _ => kT he) (fun z => absurd ((le32 hv in32_0).mpr (by omega)) z)
  · cases hz

end WALK
end
section
section WALK
variable {N m : Nat} {G : GT} {b : Nat} {xs : Nat → Int32} {out : Out}
variable {p : Program} {l : Launch} {e : Env} {R : Room} {s : State} {mid : MethodId} {args : Array Value} {below : List Frame} {meth : Method} {c : Code} {A : Nat → Prop} {H0 : Heap} {Q : State → Prop}
variable {F pc : Nat} {L st : List MV} {S : MS} {ad : AdT} {H : Heap} {locs : List Loc} {cells slots : Nat} {ls : Array Slot}
theorem nth_setn {α : Type} (l : List α) (i j : Nat) (v : α) : nth (setn l i v) j = if i = j then (if j < l.length then some v else none) else nth l j := by
  rw [nth_get, setn_set, nth_get, List.getElem?_set]
  by_cases h : i = j
  · subst h; simp
  · simp [h]
theorem setn_len {α : Type} (l : List α) (i : Nat) (v : α) : (setn l i v).length = l.length := by rw [setn_set, List.length_set]
/-- a list of locals that a store may write over -/
def Pre1 (L L1 : List MV) (i : Nat) : Prop := L1.length = L.length ∧ ∀ j w, nth L1 j = some w → w ≠ vX → j ≠ i → nth L j = some w ∧ (j + 1 = i → isJ w = false)
theorem pre1_plain {i : Nat} (h : ∀ v ∈ L, isJ v = false) : Pre1 L L i := ⟨rfl, fun _ _ hj _ _ => ⟨hj, fun _ => h _ (nth_mem _ _ _ hj)⟩⟩
theorem clr_c (L : List MV) (i : Nat) : clr L (i + 1) = L ∨ ∃ v, nth L i = some v ∧ isJ v = true ∧ clr L (i + 1) = setn L i vX := by
  rcases e1 : nth L i with _ | v
  · exact Or.inl (by simp only [clr, e1])
  · rcases e2 : isJ v with _ | _
    · exact Or.inl (by simp only [clr, e1, e2, cond_false])
    · exact Or.inr ⟨v, rfl, e2, by simp only [clr, e1, e2, cond_true]⟩
theorem clr_j {i : Nat} {v : MV} (h : nth L i = some v) (hc : clr L (i + 1) = L) : isJ v = false := by
  rcases e2 : isJ v with _ | _
  · rfl
  · exfalso
    have : clr L (i + 1) = setn L i vX := by simp only [clr, h, e2, cond_true]
    rw [hc] at this
    have h2 := nth_setn L i i vX
    rw [← this, h, if_pos rfl, if_pos (nth_lt _ _ _ h)] at h2
    cases h2
    cases e2
theorem clr_len (L : List MV) (i : Nat) : (clr L i).length = L.length := by
  rcases i with _ | i
  · rfl
  · rcases clr_c L i with h | ⟨v, -, -, h⟩
    · rw [h]
    · rw [h]; exact setn_len _ _ _
theorem pre1_clr (L : List MV) (i : Nat) : Pre1 L (clr L i) i := by
  refine ⟨clr_len L i, fun j w hj hw hne => ?_⟩
  rcases i with _ | i
  · exact ⟨hj, fun z => by omega⟩
  · rcases clr_c L i with h | ⟨v, e1, e2, h⟩
    · rw [h] at hj
      refine ⟨hj, fun z => ?_⟩
      rw [show j = i by omega] at hj
      exact clr_j hj h
    · rw [h, nth_setn] at hj
      by_cases q : i = j
      · rw [if_pos q] at hj
        split at hj
        · cases hj; exact absurd rfl hw
        · cases hj
      · rw [if_neg q] at hj
        exact ⟨hj, fun z => absurd (by omega) q⟩
theorem clr_mem {i : Nat} {v : MV} (h : v ∈ clr L i) : v = vX ∨ v ∈ L := by
  rcases i with _ | i
  · exact Or.inr h
  · rcases clr_c L i with h1 | ⟨w, -, -, h1⟩
    · rw [h1] at h; exact Or.inr h
    · rw [h1] at h; exact mem_setn _ _ _ _ h
theorem locs1 {L1 : List MV} {i : Nat} {v : MV} {ls' : Array Slot} (hl : Locs ad L ls) (hp : Pre1 L L1 i) (hi : i < L.length) (h : lv_has ls' L.length ((i, toV ad v) :: (lvOf ad L).filter (fun q => !(q.1 == i) && !(q.1 + 1 == i && q.2.category == 2)))) : Locs ad (setn L1 i v) ls' := by
  refine ⟨by rw [setn_len, hp.1]; exact h.1, h.2.1, fun j w hj hw => ?_⟩
  rw [nth_setn] at hj
  by_cases q : i = j
  · rw [if_pos q, hp.1] at hj
    subst q
    rw [if_pos hi] at hj
    cases hj
    exact h.2.2 (i, toV ad v) List.mem_cons_self
  · rw [if_neg q] at hj
    obtain ⟨h1, h2⟩ := hp.2 j w hj hw (Ne.symm q)
    refine h.2.2 (j, toV ad w) (List.mem_cons_of_mem _ (List.mem_filter.mpr ⟨lvOf_mem h1 hw, ?_⟩))
    have q1 : (j == i) = false := by simpa using Ne.symm q
    rcases e1 : (j + 1 == i) with _ | _
    · simp [q1, e1]
    · have z := h2 (by simpa using e1)
      have hc : (toV ad w).category = 1 := by rcases w with w | w | w | w <;> first | rfl | cases z
      simp [q1, hc]
theorem locs2 {i : Nat} {x : Int} {ls' : Array Slot} (hl : Locs ad L ls) (hi : i + 1 < L.length) (h : lv_has ls' L.length ((i, toV ad (vJ x)) :: (lvOf ad L).filter (fun q => !(q.1 == i) && (!(q.1 == i + 1) && !(q.1 + 1 == i && q.2.category == 2))))) : Locs ad (setn (setn (clr L i) i (vJ x)) (i + 1) vX) ls' := by
  refine ⟨by rw [setn_len, setn_len, clr_len]; exact h.1, h.2.1, fun j w hj hw => ?_⟩
  rw [nth_setn] at hj
  by_cases q0 : i + 1 = j
  · rw [if_pos q0] at hj
    split at hj
    · cases hj; exact absurd rfl hw
    · cases hj
  rw [if_neg q0, nth_setn] at hj
  by_cases q : i = j
  · rw [if_pos q, clr_len] at hj
    subst q
    rw [if_pos (by omega)] at hj
    cases hj
    exact h.2.2 (i, toV ad (vJ x)) List.mem_cons_self
  · rw [if_neg q] at hj
    obtain ⟨h1, h2⟩ := (pre1_clr L i).2 j w hj hw (Ne.symm q)
    refine h.2.2 (j, toV ad w) (List.mem_cons_of_mem _ (List.mem_filter.mpr ⟨lvOf_mem h1 hw, ?_⟩))
    have q1 : (j == i) = false := by simpa using Ne.symm q
    have q2 : (j == i + 1) = false := by simpa using Ne.symm q0
    rcases e1 : (j + 1 == i) with _ | _
    · simp [q1, q2, e1]
    · have z := h2 (by simpa using e1)
      have hc : (toV ad w).category = 1 := by rcases w with w | w | w | w <;> first | rfl | cases z
      simp [q1, q2, hc]
theorem memL {L1 : List MV} {i : Nat} {v : MV} (hL : ∀ v ∈ L, okV S.1 v) (h1 : ∀ v ∈ L1, v = vX ∨ v ∈ L) (hv : okV S.1 v) : ∀ u ∈ setn L1 i v, okV S.1 u := by
  intro u hu
  rcases mem_setn _ _ _ _ hu with h | h
  · rw [h]; exact hv
  · rcases h1 u h with h2 | h2
    · rw [h2]; trivial
    · exact hL u h2
theorem memJ {L1 : List MV} {i : Nat} {v : MV} (hL : mLong m = false → ∀ v ∈ L, isJ v = false) (h1 : ∀ v ∈ L1, v = vX ∨ v ∈ L) (hv : mLong m = false → isJ v = false) : mLong m = false → ∀ u ∈ setn L1 i v, isJ u = false := by
  intro h0 u hu
  rcases mem_setn _ _ _ _ hu with h | h
  · rw [h]; exact hv h0
  · rcases h1 u h with h2 | h2
    · rw [h2]; rfl
    · exact hL h0 u h2
end WALK
end
section
section WALK
variable {N m : Nat} {G : GT} {b : Nat} {xs : Nat → Int32} {out : Out}
variable {p : Program} {l : Launch} {e : Env} {R : Room} {s : State} {mid : MethodId} {args : Array Value} {below : List Frame} {meth : Method} {c : Code} {A : Nat → Prop} {H0 : Heap} {Q : State → Prop}
variable {F pc : Nat} {L st : List MV} {S : MS} {ad : AdT} {H : Heap} {locs : List Loc} {cells slots : Nat} {ls : Array Slot}

theorem s_istore {i : Nat} (hC : Cx N m G b xs p R s mid args meth c A H0) (ih : IH N F m G b xs out p l e R s mid args below meth c A H0 Q) (hH : Here N m G b xs out p l e R s mid args below meth c A H0 Q L st S ad H locs cells slots ls)
    {raw : Instr} {len : Nat} (hd : decode (mCode m) (bpc m pc) = .ok (raw, len)) (hn : bpc m (pc + 1) = bpc m pc + len) (hlen : lenOf raw = 0 ∨ len = lenOf raw) (hz : rz m (bpc m pc) raw (.istore i) = true)
    (he : x_istore i pc L st S (exec N F m) none = some out) : W p l e R s mid args below meth c H locs cells slots Q (F0 mid (bpc m pc) ls (st.map (toV ad))) := by
  obtain ⟨hm264, hx, hb, hml, hown, hts, hini, hfr, hlo, hGS, hA, hX, hbl, hbA, hTX, hN⟩ := hC
  unfold x_istore at he
  rcases st with _ | ⟨(x | (x | (x | x))), st⟩ <;> first | (cases he; done) | skip
  have hv := okh hH.2.2.1
  have hr := okt hH.2.2.1
  unfold rz at hz
  dsimp only at hz
  have hlong : mLong m = false := by
    rcases z : mLong m with _ | _
    · rfl
    · rw [z] at hz; cases hz
  rw [hlong, cond_false] at hz
  have hp : Pre1 L L i := pre1_plain (hH.2.2.2.1 hlong)
  have h1 : ∀ v ∈ L, v = vX ∨ v ∈ L := fun _ h => Or.inr h
  obtain ⟨hi0, hz⟩ := band_t hz
  have hi1 : i + 1 ≤ mMaxL m := Nat.le_of_ble_eq_true hi0
  have hi : i < L.length := by rw [hH.2.2.2.2.2.1]; omega
  have hlv := lvOf_has hH.2.2.2.2.1
  have kk : ∀ ls' : Array Slot, lv_has ls' L.length ((i, toV ad (vI x)) :: (lvOf ad L).filter (fun q => !(q.1 == i) && !(q.1 + 1 == i && q.2.category == 2))) → W p l e R s mid args below meth c H locs cells slots Q (F0 mid (bpc m (pc + 1)) ls' (st.map (toV ad))) := fun ls' h => go_on ih hH he (memL hH.2.1 h1 hv) hr (memJ hH.2.2.2.1 h1 (fun _ => rfl)) (locs1 hH.2.2.2.2.1 hp hi h) (by rw [setn_len, hp.1]; exact hH.2.2.2.2.2.1)
  rw [hn] at kk
  split at hz
  · have q := Nat.eq_of_beq_eq_true hz
    subst q
    rcases hlen with h | h
    · cases h
    · rw [h] at hd kk
      exact lv_istore hx hb hd hlv hi rfl kk
  · have q := Nat.eq_of_beq_eq_true hz
    rcases hlen with h | h
    · cases h
    · rw [h] at hd kk
      exact lv_istore_n hx hb hd q hlv hi rfl kk
  · cases hz

theorem s_fstore {i : Nat} (hC : Cx N m G b xs p R s mid args meth c A H0) (ih : IH N F m G b xs out p l e R s mid args below meth c A H0 Q) (hH : Here N m G b xs out p l e R s mid args below meth c A H0 Q L st S ad H locs cells slots ls)
    {raw : Instr} {len : Nat} (hd : decode (mCode m) (bpc m pc) = .ok (raw, len)) (hn : bpc m (pc + 1) = bpc m pc + len) (hlen : lenOf raw = 0 ∨ len = lenOf raw) (hz : rz m (bpc m pc) raw (.fstore i) = true)
    (he : x_istore i pc (clr L i) st S (exec N F m) none = some out) : W p l e R s mid args below meth c H locs cells slots Q (F0 mid (bpc m pc) ls (st.map (toV ad))) := by
  obtain ⟨hm264, hx, hb, hml, hown, hts, hini, hfr, hlo, hGS, hA, hX, hbl, hbA, hTX, hN⟩ := hC
  unfold x_istore at he
  rcases st with _ | ⟨(x | (x | (x | x))), st⟩ <;> first | (cases he; done) | skip
  have hv := okh hH.2.2.1
  have hr := okt hH.2.2.1
  unfold rz at hz
  dsimp only at hz
  have hp : Pre1 L (clr L i) i := pre1_clr L i
  have h1 : ∀ v ∈ clr L i, v = vX ∨ v ∈ L := fun _ h => clr_mem h
  obtain ⟨hi0, hz⟩ := band_t hz
  have hi1 : i + 1 ≤ mMaxL m := Nat.le_of_ble_eq_true hi0
  have hi : i < L.length := by rw [hH.2.2.2.2.2.1]; omega
  have hlv := lvOf_has hH.2.2.2.2.1
  have kk : ∀ ls' : Array Slot, lv_has ls' L.length ((i, toV ad (vI x)) :: (lvOf ad L).filter (fun q => !(q.1 == i) && !(q.1 + 1 == i && q.2.category == 2))) → W p l e R s mid args below meth c H locs cells slots Q (F0 mid (bpc m (pc + 1)) ls' (st.map (toV ad))) := fun ls' h => go_on ih hH he (memL hH.2.1 h1 hv) hr (memJ hH.2.2.2.1 h1 (fun _ => rfl)) (locs1 hH.2.2.2.2.1 hp hi h) (by rw [setn_len, hp.1]; exact hH.2.2.2.2.2.1)
  rw [hn] at kk
  split at hz
  · have q := Nat.eq_of_beq_eq_true hz
    subst q
    rcases hlen with h | h
    · cases h
    · rw [h] at hd kk
      exact lv_istore hx hb hd hlv hi rfl kk
  · have q := Nat.eq_of_beq_eq_true hz
    rcases hlen with h | h
    · cases h
    · rw [h] at hd kk
      exact lv_istore_n hx hb hd q hlv hi rfl kk
  · cases hz

theorem s_astore {i : Nat} (hC : Cx N m G b xs p R s mid args meth c A H0) (ih : IH N F m G b xs out p l e R s mid args below meth c A H0 Q) (hH : Here N m G b xs out p l e R s mid args below meth c A H0 Q L st S ad H locs cells slots ls)
    {raw : Instr} {len : Nat} (hd : decode (mCode m) (bpc m pc) = .ok (raw, len)) (hn : bpc m (pc + 1) = bpc m pc + len) (hlen : lenOf raw = 0 ∨ len = lenOf raw) (hz : rz m (bpc m pc) raw (.astore i) = true)
    (he : x_astore i pc L st S (exec N F m) none = some out) : W p l e R s mid args below meth c H locs cells slots Q (F0 mid (bpc m pc) ls (st.map (toV ad))) := by
  obtain ⟨hm264, hx, hb, hml, hown, hts, hini, hfr, hlo, hGS, hA, hX, hbl, hbA, hTX, hN⟩ := hC
  unfold x_astore at he
  rcases st with _ | ⟨(x | (x | (x | x))), st⟩ <;> first | (cases he; done) | skip
  have hv := okh hH.2.2.1
  have hr := okt hH.2.2.1
  unfold rz at hz
  dsimp only at hz
  have hlong : mLong m = false := by
    rcases z : mLong m with _ | _
    · rfl
    · rw [z] at hz; cases hz
  rw [hlong, cond_false] at hz
  have hp : Pre1 L L i := pre1_plain (hH.2.2.2.1 hlong)
  have h1 : ∀ v ∈ L, v = vX ∨ v ∈ L := fun _ h => Or.inr h
  obtain ⟨hi0, hz⟩ := band_t hz
  have hi1 : i + 1 ≤ mMaxL m := Nat.le_of_ble_eq_true hi0
  have hi : i < L.length := by rw [hH.2.2.2.2.2.1]; omega
  have hlv := lvOf_has hH.2.2.2.2.1
  have kk : ∀ ls' : Array Slot, lv_has ls' L.length ((i, toV ad (.inr (.inr (.inl x)))) :: (lvOf ad L).filter (fun q => !(q.1 == i) && !(q.1 + 1 == i && q.2.category == 2))) → W p l e R s mid args below meth c H locs cells slots Q (F0 mid (bpc m (pc + 1)) ls' (st.map (toV ad))) := fun ls' h => go_on ih hH he (memL hH.2.1 h1 hv) hr (memJ hH.2.2.2.1 h1 (fun _ => rfl)) (locs1 hH.2.2.2.2.1 hp hi h) (by rw [setn_len, hp.1]; exact hH.2.2.2.2.2.1)
  rw [hn] at kk
  split at hz
  · have q := Nat.eq_of_beq_eq_true hz
    subst q
    rcases hlen with h | h
    · cases h
    · rw [h] at hd kk
      exact lv_astore hx hb hd hlv hi rfl kk
  · have q := Nat.eq_of_beq_eq_true hz
    rcases hlen with h | h
    · cases h
    · rw [h] at hd kk
      exact lv_astore_n hx hb hd q hlv hi rfl kk
  · cases hz

theorem s_dstore {i : Nat} (hC : Cx N m G b xs p R s mid args meth c A H0) (ih : IH N F m G b xs out p l e R s mid args below meth c A H0 Q) (hH : Here N m G b xs out p l e R s mid args below meth c A H0 Q L st S ad H locs cells slots ls)
    {raw : Instr} {len : Nat} (hd : decode (mCode m) (bpc m pc) = .ok (raw, len)) (hn : bpc m (pc + 1) = bpc m pc + len) (hlen : lenOf raw = 0 ∨ len = lenOf raw) (hz : rz m (bpc m pc) raw (.dstore i) = true)
    (he : x_astore i pc (clr L i) st S (exec N F m) none = some out) : W p l e R s mid args below meth c H locs cells slots Q (F0 mid (bpc m pc) ls (st.map (toV ad))) := by
  obtain ⟨hm264, hx, hb, hml, hown, hts, hini, hfr, hlo, hGS, hA, hX, hbl, hbA, hTX, hN⟩ := hC
  unfold x_astore at he
  rcases st with _ | ⟨(x | (x | (x | x))), st⟩ <;> first | (cases he; done) | skip
  have hv := okh hH.2.2.1
  have hr := okt hH.2.2.1
  unfold rz at hz
  dsimp only at hz
  have hp : Pre1 L (clr L i) i := pre1_clr L i
  have h1 : ∀ v ∈ clr L i, v = vX ∨ v ∈ L := fun _ h => clr_mem h
  obtain ⟨hi0, hz⟩ := band_t hz
  have hi1 : i + 1 ≤ mMaxL m := Nat.le_of_ble_eq_true hi0
  have hi : i < L.length := by rw [hH.2.2.2.2.2.1]; omega
  have hlv := lvOf_has hH.2.2.2.2.1
  have kk : ∀ ls' : Array Slot, lv_has ls' L.length ((i, toV ad (.inr (.inr (.inl x)))) :: (lvOf ad L).filter (fun q => !(q.1 == i) && !(q.1 + 1 == i && q.2.category == 2))) → W p l e R s mid args below meth c H locs cells slots Q (F0 mid (bpc m (pc + 1)) ls' (st.map (toV ad))) := fun ls' h => go_on ih hH he (memL hH.2.1 h1 hv) hr (memJ hH.2.2.2.1 h1 (fun _ => rfl)) (locs1 hH.2.2.2.2.1 hp hi h) (by rw [setn_len, hp.1]; exact hH.2.2.2.2.2.1)
  rw [hn] at kk
  split at hz
  · have q := Nat.eq_of_beq_eq_true hz
    subst q
    rcases hlen with h | h
    · cases h
    · rw [h] at hd kk
      exact lv_astore hx hb hd hlv hi rfl kk
  · have q := Nat.eq_of_beq_eq_true hz
    rcases hlen with h | h
    · cases h
    · rw [h] at hd kk
      exact lv_astore_n hx hb hd q hlv hi rfl kk
  · cases hz

theorem s_lstore {i : Nat} (hC : Cx N m G b xs p R s mid args meth c A H0) (ih : IH N F m G b xs out p l e R s mid args below meth c A H0 Q) (hH : Here N m G b xs out p l e R s mid args below meth c A H0 Q L st S ad H locs cells slots ls)
    {raw : Instr} {len : Nat} (hd : decode (mCode m) (bpc m pc) = .ok (raw, len)) (hn : bpc m (pc + 1) = bpc m pc + len) (hlen : lenOf raw = 0 ∨ len = lenOf raw) (hz : rz m (bpc m pc) raw (.lstore i) = true)
    (he : x_lstore i pc L st S (exec N F m) none = some out) : W p l e R s mid args below meth c H locs cells slots Q (F0 mid (bpc m pc) ls (st.map (toV ad))) := by
  obtain ⟨hm264, hx, hb, hml, hown, hts, hini, hfr, hlo, hGS, hA, hX, hbl, hbA, hTX, hN⟩ := hC
  unfold x_lstore at he
  rcases st with _ | ⟨(x | (x | (x | x))), st⟩ <;> first | (cases he; done) | skip
  have hv := okh hH.2.2.1
  have hr := okt hH.2.2.1
  unfold rz at hz
  dsimp only at hz
  obtain ⟨hi0, hz⟩ := band_t hz
  obtain ⟨hlong, hi0⟩ := band_t hi0
  have hi1 : i + 1 + 1 ≤ mMaxL m := Nat.le_of_ble_eq_true hi0
  have hi : i + 1 < L.length := by rw [hH.2.2.2.2.2.1]; omega
  have hlv := lvOf_has hH.2.2.2.2.1
  have kk : ∀ ls' : Array Slot, lv_has ls' L.length ((i, toV ad (vJ x)) :: (lvOf ad L).filter (fun q => !(q.1 == i) && (!(q.1 == i + 1) && !(q.1 + 1 == i && q.2.category == 2)))) → W p l e R s mid args below meth c H locs cells slots Q (F0 mid (bpc m (pc + 1)) ls' (st.map (toV ad))) := fun ls' h => by
    refine go_on ih hH he ?_ hr (fun z => by rw [hlong] at z; cases z) (locs2 hH.2.2.2.2.1 hi h) (by rw [setn_len, setn_len, clr_len]; exact hH.2.2.2.2.2.1)
    intro u hu
    rcases mem_setn _ _ _ _ hu with h2 | h2
    · rw [h2]; trivial
    · exact memL hH.2.1 (fun _ h => clr_mem h) hv u h2
  rw [hn] at kk
  split at hz
  · have q := Nat.eq_of_beq_eq_true hz
    subst q
    rcases hlen with h | h
    · cases h
    · rw [h] at hd kk
      exact lv_lstore hx hb hd hlv hi rfl kk
  · have q := Nat.eq_of_beq_eq_true hz
    rcases hlen with h | h
    · cases h
    · rw [h] at hd kk
      exact lv_lstore_n hx hb hd q hlv hi rfl kk
  · cases hz

theorem s_iinc {i : Nat} {k : Int} (hC : Cx N m G b xs p R s mid args meth c A H0) (ih : IH N F m G b xs out p l e R s mid args below meth c A H0 Q) (hH : Here N m G b xs out p l e R s mid args below meth c A H0 Q L st S ad H locs cells slots ls)
    {raw : Instr} {len : Nat} (hd : decode (mCode m) (bpc m pc) = .ok (raw, len)) (hn : bpc m (pc + 1) = bpc m pc + len) (hlen : lenOf raw = 0 ∨ len = lenOf raw) (hz : rz m (bpc m pc) raw (.iinc i k) = true)
    (he : x_iinc i k pc L st S (exec N F m) none = some out) : W p l e R s mid args below meth c H locs cells slots Q (F0 mid (bpc m pc) ls (st.map (toV ad))) := by
  obtain ⟨hm264, hx, hb, hml, hown, hts, hini, hfr, hlo, hGS, hA, hX, hbl, hbA, hTX, hN⟩ := hC
  unfold x_iinc at he
  rcases e1 : nth L i with _ | (x | (x | (x | x))) <;> rw [e1] at he <;> first | (cases he; done) | skip
  have hi : i < L.length := nth_lt _ _ _ e1
  have hlv := lvOf_has hH.2.2.2.2.1
  obtain ⟨j, hj⟩ := List.getElem?_of_mem (lvOf_mem (ad := ad) e1 (by intro z; cases z))
  have hJn : Pre1 L L i := by
    refine ⟨rfl, fun j w h1 h2 h3 => ⟨h1, fun h4 => ?_⟩⟩
    rcases z : isJ w with _ | _
    · rfl
    · exfalso
      have hw := hH.2.2.2.2.1.2.2 j w h1 h2
      have hc : (toV ad w).category = 2 := by rcases w with w | w | w | w <;> first | rfl | cases z
      have h5 := hH.2.2.2.2.1.2.1.1 j _ hw hc
      rw [h4] at h5
      have h6 := hH.2.2.2.2.1.2.2 i _ e1 (by intro z; cases z)
      rw [h5] at h6
      cases h6
  have kk : ∀ ls' : Array Slot, lv_has ls' L.length ((i, toV ad (vI (w32 (x + k)))) :: (lvOf ad L).filter (fun q => !(q.1 == i) && !(q.1 + 1 == i && q.2.category == 2))) → W p l e R s mid args below meth c H locs cells slots Q (F0 mid (bpc m (pc + 1)) ls' (st.map (toV ad))) := fun ls' h => go_on ih hH he (memL hH.2.1 (fun _ h => Or.inr h) (w32_in _)) hH.2.2.1 (memJ hH.2.2.2.1 (fun _ h => Or.inr h) (fun _ => rfl)) (locs1 hH.2.2.2.2.1 hJn hi h) (by rw [setn_len]; exact hH.2.2.2.2.2.1)
  rw [hn] at kk
  unfold rz at hz
  dsimp only at hz
  split at hz
  · obtain ⟨q1, q2⟩ := band_t hz
    have q1 := Nat.eq_of_beq_eq_true q1
    have q2 := of_decide_eq_true q2
    subst q1
    subst q2
    rcases hlen with h | h
    · cases h
    · rw [h] at hd kk
      exact lv_iinc hx hb hd hlv hj (add32 x _).symm hi rfl kk
  · cases hz

theorem s_lcmp (hC : Cx N m G b xs p R s mid args meth c A H0) (ih : IH N F m G b xs out p l e R s mid args below meth c A H0 Q) (hH : Here N m G b xs out p l e R s mid args below meth c A H0 Q L st S ad H locs cells slots ls)
    {raw : Instr} {len : Nat} (hd : decode (mCode m) (bpc m pc) = .ok (raw, len)) (hn : bpc m (pc + 1) = bpc m pc + len) (hlen : lenOf raw = 0 ∨ len = lenOf raw) (hz : rz m (bpc m pc) raw (.lcmp) = true)
    (he : x_lcmp pc L st S (exec N F m) none = some out) : W p l e R s mid args below meth c H locs cells slots Q (F0 mid (bpc m pc) ls (st.map (toV ad))) := by
  obtain ⟨hm264, hx, hb, hml, hown, hts, hini, hfr, hlo, hGS, hA, hX, hbl, hbA, hTX, hN⟩ := hC
  unfold x_lcmp at he
  rcases st with _ | ⟨(y | (y | (y | y))), _ | ⟨(x | (x | (x | x))), st⟩⟩ <;> first | (cases he; done) | skip
  have hy := okh hH.2.2.1
  have hv := okh (okt hH.2.2.1)
  have hr := okt (okt hH.2.2.1)
  dsimp only at he
  unfold rz at hz
  dsimp only at hz
  split at hz
  · rcases hlen with h | h
    · cases h
    rw [h] at hd hn
    refine W.lcmp hx hb hd ?_
    unfold lg_cmp
    by_cases h1 : x < y
    · rw [if_pos h1] at he
      have k := go_st ih hH he (ok1 (show okV S.1 (vI (-1)) from by unfold okV in32; omega) hr)
      rw [hn] at k
      rw [if_neg (fun z => by have := (lt64 hy hv).mp z; omega), if_neg (fun z => by have := (eq64 hv hy).mp z; omega)]
      exact k
    rw [if_neg h1] at he
    by_cases h2 : x = y
    · rw [if_pos h2] at he
      have k := go_st ih hH he (ok1 (show okV S.1 (vI 0) from in32_0) hr)
      rw [hn] at k
      rw [if_neg (fun z => by have := (lt64 hy hv).mp z; omega), if_pos ((eq64 hv hy).mpr h2)]
      exact k
    · rw [if_neg h2] at he
      have k := go_st ih hH he (ok1 (show okV S.1 (vI 1) from by unfold okV in32; omega) hr)
      rw [hn] at k
      rw [if_pos ((lt64 hy hv).mpr (by omega))]
      exact k
  · cases hz

end WALK
end
section
section WALK
variable {N m : Nat} {G : GT} {b : Nat} {xs : Nat → Int32} {out : Out}
variable {p : Program} {l : Launch} {e : Env} {R : Room} {s : State} {mid : MethodId} {args : Array Value} {below : List Frame} {meth : Method} {c : Code} {A : Nat → Prop} {H0 : Heap} {Q : State → Prop}
variable {F pc : Nat} {L st : List MV} {S : MS} {ad : AdT} {H : Heap} {locs : List Loc} {cells slots : Nat} {ls : Array Slot}
theorem x_sw_eq {β : Type} (L st : List MV) (S : MS) (K : KT β) (d : Nat) (a : Int) : ∀ (ts : List Int) (lo : Int),
    (∃ (j : Nat) (t : Int), ts[j]? = some t ∧ a = lo + (j : Int) ∧ x_sw L st S K d a lo ts = K t.toNat L st S) ∨ ((a < lo ∨ lo + (ts.length : Int) ≤ a) ∧ x_sw L st S K d a lo ts = K d L st S)
  | [], lo => Or.inr ⟨by simp; omega, rfl⟩
  | t :: ts, lo => by
    unfold x_sw
    by_cases h : a = lo
    · exact Or.inl ⟨0, t, rfl, by simpa using h, by rw [if_pos h]⟩
    · rw [if_neg h]
      rcases x_sw_eq L st S K d a ts (lo + 1) with ⟨j, t', h1, h2, h3⟩ | ⟨h1, h2⟩
      · exact Or.inl ⟨j + 1, t', by simpa using h1, by push_cast; omega, h3⟩
      · refine Or.inr ⟨?_, h2⟩
        simp only [List.length_cons]
        push_cast
        omega
theorem offsOk_at {mm pp : Nat} : ∀ (os ts : List Int) (j : Nat) (t : Int), offsOk mm pp os ts = true → ts[j]? = some t → ∃ o, os[j]? = some o ∧ goOk mm pp o t = true
  | [], [], j, t, _, h => by simp at h
  | [], _ :: _, j, t, h, _ => by simp [offsOk] at h
  | _ :: _, [], j, t, h, _ => by simp [offsOk] at h
  | o :: os, u :: ts, 0, t, h, h1 => by
    simp only [List.getElem?_cons_zero, Option.some.injEq] at h1
    subst h1
    exact ⟨o, rfl, (band_t h).1⟩
  | o :: os, u :: ts, j + 1, t, h, h1 => by
    obtain ⟨x, h2, h3⟩ := offsOk_at os ts j t (band_t h).2 (by simpa using h1)
    exact ⟨x, by simpa using h2, h3⟩
theorem s_switch {d lo hi : Int} {ts : Array Int} (hC : Cx N m G b xs p R s mid args meth c A H0) (ih : IH N F m G b xs out p l e R s mid args below meth c A H0 Q) (hH : Here N m G b xs out p l e R s mid args below meth c A H0 Q L st S ad H locs cells slots ls)
    {raw : Instr} {len : Nat} (hd : decode (mCode m) (bpc m pc) = .ok (raw, len)) (hz : rz m (bpc m pc) raw (.tableswitch d lo hi ts) = true)
    (he : x_switch d.toNat lo ts.toList L st S (exec N F m) none = some out) : W p l e R s mid args below meth c H locs cells slots Q (F0 mid (bpc m pc) ls (st.map (toV ad))) := by
  obtain ⟨hm264, hx, hb, hml, hown, hts, hini, hfr, hlo, hGS, hA, hX, hbl, hbA, hTX, hN⟩ := hC
  unfold x_switch at he
  rcases st with _ | ⟨(x | (x | (x | x))), st⟩ <;> first | (cases he; done) | skip
  have hv := okh hH.2.2.1
  have hr := okt hH.2.2.1
  unfold rz at hz
  dsimp only at hz he
  split at hz
  · rename_i d2 lo2 hi2 offs
    obtain ⟨h1, h2⟩ := band_t hz
    obtain ⟨h3, h4⟩ := band_t h2
    obtain ⟨e1, e2, e3, e4, e5⟩ := of_decide_eq_true h1
    subst e1
    subst e2
    have hxi : (Int32.ofInt x).toInt = x := toInt32_in hv
    rcases x_sw_eq L st S (exec N F m) d.toNat x ts.toList lo with ⟨j, t, a1, a2, a3⟩ | ⟨a1, a3⟩
    · rw [a3] at he
      obtain ⟨o, b1, b2⟩ := offsOk_at _ _ _ _ h4 a1
      have hj : j < ts.toList.length := (List.getElem?_eq_some_iff.mp a1).1
      refine lv_tableIn hx hb hd (by rw [hxi]; omega) (by rw [hxi]; omega) (off := o) ?_ (of_decide_eq_true b2) (go_st ih hH he hr)
      rw [hxi, show (x - lo).toNat = j by omega, ← Array.getElem?_toList]
      exact b1
    · rw [a3] at he
      exact lv_tableOut hx hb hd (by rw [hxi]; omega) (of_decide_eq_true h3) (go_st ih hH he hr)
  · cases hz
/-- the world after a write: all but the cell's contents is as it was -/
theorem wd_sup {k i j : Nat} {v : Int} {H1 : Heap} {locs1 : List Loc} {a : Nat} (hW : Wd N G b xs A H0 S ad H locs) (ha : a < S.1) (ho : nth ords a = some (k, i)) (hv : in64 v) (hv2 : isL k j = false → in32 v)
    (hP : va_P G.1 cls0 ((wl G ad S).set a (ad k i, ent G ad (S.1, S.2.1, sup S.2.2 k i j v) (k, i))) H1) (hD : va_D A ((wl G ad S).set a (ad k i, ent G ad (S.1, S.2.1, sup S.2.2 k i j v) (k, i)))) (hS : va_S A H0 H1 locs1) : Wd N G b xs A H0 (S.1, S.2.1, sup S.2.2 k i j v) ad H1 locs1 := by
  obtain ⟨-, -, -, h4, h5, h6, h7, h8⟩ := hW
  have e := wl_set (G := G) (ad := ad) (S' := (S.1, S.2.1, sup S.2.2 k i j v)) ha ho rfl (fun q' hq => ent_sup hq)
  rw [e] at hP hD
  refine ⟨hP, hD, hS, h4, h5, fun k' i' j' => ?_, h7, fun j' hj => ?_⟩
  · show in64 (sup S.2.2 k i j v k' i' j') ∧ (isL k' j' = false → in32 (sup S.2.2 k i j v k' i' j'))
    unfold sup
    split
    · rename_i hq
      obtain ⟨rfl, rfl, rfl⟩ := hq
      exact ⟨hv, hv2⟩
    · exact h6 k' i' j'
  · have hk : k ≠ 999 := by have := (ords_kd ho).1; dsimp only at this; omega
    show Int32.ofInt (sup S.2.2 k i j v 999 0 j') = xs j'
    unfold sup
    rw [if_neg (fun z => hk z.1.symm)]
    exact h8 j' hj
theorem go_sup {pc' : Nat} {st' : List MV} {k i j : Nat} {v : Int} {H1 : Heap} {locs1 : List Loc} (ih : IH N F m G b xs out p l e R s mid args below meth c A H0 Q) (hH : Here N m G b xs out p l e R s mid args below meth c A H0 Q L st S ad H locs cells slots ls)
    (hx : exec N F m pc' L st' (S.1, S.2.1, sup S.2.2 k i j v) = some out) (hst : ∀ v ∈ st', okV S.1 v) (hW : Wd N G b xs A H0 (S.1, S.2.1, sup S.2.2 k i j v) ad H1 locs1) : W p l e R s mid args below meth c H1 locs1 cells slots Q (F0 mid (bpc m pc') ls (st'.map (toV ad))) :=
  ih pc' L st' (S.1, S.2.1, sup S.2.2 k i j v) ad H1 locs1 cells slots ls hx ⟨hW, hH.2.1, hst, hH.2.2.2.1, hH.2.2.2.2.1, hH.2.2.2.2.2.1, hH.2.2.2.2.2.2.1, hH.2.2.2.2.2.2.2.1, hH.2.2.2.2.2.2.2.2⟩
theorem ent_1 {k i : Nat} (h : kTag k = 1) : ent G ad S (k, i) = .inl (G.2.1 1, kLen k, .inl (fun j => Int32.ofInt (S.2.2 k i j))) := by
  unfold ent; simp only [h]
theorem ent_2 {k i : Nat} (h : kTag k = 2) : ent G ad S (k, i) = .inl (G.2.1 2, kLen k, .inl (fun j => Int32.ofInt (S.2.2 k i j))) := by
  unfold ent; simp only [h]
theorem ent_3 {k i : Nat} (h : kTag k = 3) : ent G ad S (k, i) = .inl (G.2.1 3, kLen k, .inr (.inl (fun j => Int64.ofInt (S.2.2 k i j)))) := by
  unfold ent; simp only [h]
theorem ent_0 {k i : Nat} (h : kTag k = 0) : ent G ad S (k, i) = .inr (kCls k, (List.range (nF (kCls k))).map (fval ad S k i)) := by
  unfold ent; simp only [h]
theorem tag999 : kTag 999 = 4 := rfl
theorem tag1000 : kTag 1000 = 9 := rfl
/-- a row that isn't the script is a cell -/
theorem vld_row {n k i t : Nat} (h : okV n (.inr (.inr (.inl (k, i))))) (ht : kTag k = t) (h4 : t ≠ 4) (h9 : t ≠ 9) : vld n (k, i) := by
  rcases h with h | h | ⟨h, -⟩
  · exact h
  · cases h; exact absurd (ht.symm.trans tag999) h4
  · dsimp only at h; subst h; exact absurd (ht.symm.trans tag1000) h9
theorem kLenN_row {a k i : Nat} (ho : nth ords a = some (k, i)) : kLenN N k = (kLen k : Int) := by
  obtain ⟨h1, -, -, h2, -⟩ := ords_kd ho
  dsimp only at h1 h2
  unfold kLenN
  have hz : Nat.beq k 999 = false := by
    rcases z : Nat.beq k 999 with _ | _
    · rfl
    · have := Nat.eq_of_beq_eq_true z
      omega
  rw [hz]
  exact h2
theorem isL_1 {k j : Nat} (h : kTag k = 1 ∨ kTag k = 2 ∨ kTag k = 4) : isL k j = false := by
  unfold isL
  rcases h with h | h | h <;> rw [h] <;> rfl
end WALK
end
section
section WALK
variable {N m : Nat} {G : GT} {b : Nat} {xs : Nat → Int32} {out : Out}
variable {p : Program} {l : Launch} {e : Env} {R : Room} {s : State} {mid : MethodId} {args : Array Value} {below : List Frame} {meth : Method} {c : Code} {A : Nat → Prop} {H0 : Heap} {Q : State → Prop}
variable {F pc : Nat} {L st : List MV} {S : MS} {ad : AdT} {H : Heap} {locs : List Loc} {cells slots : Nat} {ls : Array Slot}

theorem s_alen (hC : Cx N m G b xs p R s mid args meth c A H0) (ih : IH N F m G b xs out p l e R s mid args below meth c A H0 Q) (hH : Here N m G b xs out p l e R s mid args below meth c A H0 Q L st S ad H locs cells slots ls)
    {raw : Instr} {len : Nat} (hd : decode (mCode m) (bpc m pc) = .ok (raw, len)) (hn : bpc m (pc + 1) = bpc m pc + len) (hlen : lenOf raw = 0 ∨ len = lenOf raw) (hz : rz m (bpc m pc) raw (.arraylength) = true)
    (he : x_alen N pc L st S (exec N F m) none = some out) : W p l e R s mid args below meth c H locs cells slots Q (F0 mid (bpc m pc) ls (st.map (toV ad))) := by
  obtain ⟨hm264, hx, hb, hml, hown, hts, hini, hfr, hlo, hGS, hA, hX, hbl, hbA, hTX, hN⟩ := hC
  unfold x_alen at he
  rcases st with _ | ⟨(x | (x | (⟨k, i⟩ | x))), st⟩ <;> first | (cases he; done) | skip
  have hv := okh hH.2.2.1
  have hr := okt hH.2.2.1
  dsimp only at he
  have hk0 : (kTag k = 1 ∨ kTag k = 2 ∨ kTag k = 3 ∨ kTag k = 4) ∧ exec N F m (pc + 1) L (vI (kLenN N k) :: st) S = some out := by
    rcases z : kTag k with _ | _ | _ | _ | _ | _ <;> rw [z] at he <;> first | (cases he; done) | exact ⟨by omega, he⟩
  obtain ⟨hk, he⟩ := hk0
  unfold rz at hz
  dsimp only at hz
  split at hz
  · rcases hlen with h | h
    · cases h
    rw [h] at hd hn
    by_cases h4 : kTag k = 4
    · have hq : (k, i) = (999, 0) := by
        rcases hv with hv | hv | ⟨hv, -⟩
        · obtain ⟨a, -, ho⟩ := hv
          have := (ords_kd ho).2.2.1
          dsimp only at this
          omega
        · exact hv
        · dsimp only at hv; subst hv; exact absurd (tag1000.symm.trans h4) (by decide)
      cases hq
      have e0 : kLenN N 999 = (N : Int) := rfl
      rw [e0] at he
      have k := go_st ih hH he (ok1 (show okV S.1 (vI (N : Int)) from by unfold okV in32; omega) hr)
      rw [hn] at k
      have hab : ad 999 0 = b := hH.1.2.2.2.1
      show W p l e R s mid args below meth c H locs cells slots Q (F0 mid (bpc m pc) ls (.ref (ad 999 0) :: st.map (toV ad)))
      rw [hab]
      exact va_slen hx hb hX hbl hbA hH.1.2.2.1 hd k
    · obtain ⟨a, ha, ho⟩ := vld_row hv rfl h4 (by omega)
      have e0 := kLenN_row (N := N) ho
      have e1 := ords_kd ho
      rw [e0] at he
      have k0 := go_st ih hH he (ok1 (show okV S.1 (vI (kLen k : Int)) from by unfold okV in32; have := e1.2.2.2.2.1; dsimp only at this; omega) hr)
      rw [hn] at k0
      have hw := wl_at (G := G) (ad := ad) ha ho
      rcases hk with h1 | h1 | h1 | h1
      · rw [ent_1 h1] at hw
        exact va_alen hx hb hGS.1 hH.1.1 a 0 hw rfl rfl hd k0
      · rw [ent_2 h1] at hw
        exact va_alen hx hb hGS.1 hH.1.1 a 1 hw rfl rfl hd k0
      · rw [ent_3 h1] at hw
        exact va_alen hx hb hGS.1 hH.1.1 a 2 hw rfl rfl hd k0
      · exact absurd h1 h4
  · cases hz

theorem s_iald (hC : Cx N m G b xs p R s mid args meth c A H0) (ih : IH N F m G b xs out p l e R s mid args below meth c A H0 Q) (hH : Here N m G b xs out p l e R s mid args below meth c A H0 Q L st S ad H locs cells slots ls)
    {raw : Instr} {len : Nat} (hd : decode (mCode m) (bpc m pc) = .ok (raw, len)) (hn : bpc m (pc + 1) = bpc m pc + len) (hlen : lenOf raw = 0 ∨ len = lenOf raw) (hz : rz m (bpc m pc) raw (.iaload) = true)
    (he : x_iald N pc L st S (exec N F m) none = some out) : W p l e R s mid args below meth c H locs cells slots Q (F0 mid (bpc m pc) ls (st.map (toV ad))) := by
  obtain ⟨hm264, hx, hb, hml, hown, hts, hini, hfr, hlo, hGS, hA, hX, hbl, hbA, hTX, hN⟩ := hC
  unfold x_iald at he
  rcases st with _ | ⟨(j | (j | (j | j))), _ | ⟨(y | (y | (⟨k, i⟩ | y))), st⟩⟩ <;> first | (cases he; done) | skip
  have hy := okh hH.2.2.1
  have hv := okh (okt hH.2.2.1)
  have hr := okt (okt hH.2.2.1)
  dsimp only at he
  have hk0 : (kTag k = 1 ∨ kTag k = 4) ∧ (if j < 0 then none else if j < kLenN N k then exec N F m (pc + 1) L (vI (S.2.2 k i j.toNat) :: st) S else none) = some out := by
    rcases z : kTag k with _ | _ | _ | _ | _ | _ <;> rw [z] at he <;> first | (cases he; done) | exact ⟨by omega, he⟩
  obtain ⟨hk, he⟩ := hk0
  by_cases h0 : j < 0
  · rw [if_pos h0] at he; cases he
  rw [if_neg h0] at he
  have h1 : j < kLenN N k := by
    by_cases h1 : j < kLenN N k
    · exact h1
    · rw [if_neg h1] at he; cases he
  rw [if_pos h1] at he
  unfold rz at hz
  dsimp only at hz
  split at hz
  · rcases hlen with h | h
    · cases h
    rw [h] at hd hn
    by_cases h4 : kTag k = 4
    · have hq : (k, i) = (999, 0) := by
        rcases hv with hv | hv | ⟨hv, -⟩
        · obtain ⟨a, -, ho⟩ := hv
          have := (ords_kd ho).2.2.1
          dsimp only at this
          omega
        · exact hv
        · dsimp only at hv; subst hv; exact absurd (tag1000.symm.trans h4) (by decide)
      cases hq
      have e0 : kLenN N 999 = (N : Int) := rfl
      rw [e0] at h1
      have hok := (hH.1.2.2.2.2.2.1 999 0 j.toNat).2 (isL_1 (Or.inr (Or.inr h4)))
      have k := go_st ih hH he (ok1 (show okV S.1 (vI (S.2.2 999 0 j.toNat)) from hok) hr)
      rw [hn] at k
      have hab : ad 999 0 = b := hH.1.2.2.2.1
      show W p l e R s mid args below meth c H locs cells slots Q (F0 mid (bpc m pc) ls (.int (Int32.ofInt j) :: .ref (ad 999 0) :: st.map (toV ad)))
      rw [hab]
      refine va_sld hx hb hX hbl hbA hH.1.2.2.1 (vpinI h0 h1 hy) hd ?_
      rw [clampI (by omega) hy, ← hH.1.2.2.2.2.2.2.2 j.toNat (by omega)]
      exact k
    have hk : kTag k = 1 := by omega
    obtain ⟨a, ha, ho⟩ := vld_row hv hk (by decide) (by decide)
    rw [kLenN_row (N := N) ho] at h1
    have hok := (hH.1.2.2.2.2.2.1 k i j.toNat).2 (isL_1 (Or.inl hk))
    have k0 := go_st ih hH he (ok1 (show okV S.1 (vI (S.2.2 k i j.toNat)) from hok) hr)
    rw [hn] at k0
    have hw := wl_at (G := G) (ad := ad) ha ho
    rw [ent_1 hk] at hw
    refine va_iald hx hb hGS.1 hH.1.1 a 0 hw rfl (vpinI h0 h1 hy) hd ?_
    rw [clampI (by omega) hy]
    exact k0
  · cases hz

theorem s_bald (hC : Cx N m G b xs p R s mid args meth c A H0) (ih : IH N F m G b xs out p l e R s mid args below meth c A H0 Q) (hH : Here N m G b xs out p l e R s mid args below meth c A H0 Q L st S ad H locs cells slots ls)
    {raw : Instr} {len : Nat} (hd : decode (mCode m) (bpc m pc) = .ok (raw, len)) (hn : bpc m (pc + 1) = bpc m pc + len) (hlen : lenOf raw = 0 ∨ len = lenOf raw) (hz : rz m (bpc m pc) raw (.baload) = true)
    (he : x_bald N pc L st S (exec N F m) none = some out) : W p l e R s mid args below meth c H locs cells slots Q (F0 mid (bpc m pc) ls (st.map (toV ad))) := by
  obtain ⟨hm264, hx, hb, hml, hown, hts, hini, hfr, hlo, hGS, hA, hX, hbl, hbA, hTX, hN⟩ := hC
  unfold x_bald at he
  rcases st with _ | ⟨(j | (j | (j | j))), _ | ⟨(y | (y | (⟨k, i⟩ | y))), st⟩⟩ <;> first | (cases he; done) | skip
  have hy := okh hH.2.2.1
  have hv := okh (okt hH.2.2.1)
  have hr := okt (okt hH.2.2.1)
  dsimp only at he
  have hk0 : (kTag k = 2) ∧ (if j < 0 then none else if j < kLenN N k then exec N F m (pc + 1) L (vI (S.2.2 k i j.toNat) :: st) S else none) = some out := by
    rcases z : kTag k with _ | _ | _ | _ | _ | _ <;> rw [z] at he <;> first | (cases he; done) | exact ⟨by omega, he⟩
  obtain ⟨hk, he⟩ := hk0
  by_cases h0 : j < 0
  · rw [if_pos h0] at he; cases he
  rw [if_neg h0] at he
  have h1 : j < kLenN N k := by
    by_cases h1 : j < kLenN N k
    · exact h1
    · rw [if_neg h1] at he; cases he
  rw [if_pos h1] at he
  unfold rz at hz
  dsimp only at hz
  split at hz
  · rcases hlen with h | h
    · cases h
    rw [h] at hd hn
    obtain ⟨a, ha, ho⟩ := vld_row hv hk (by decide) (by decide)
    rw [kLenN_row (N := N) ho] at h1
    have hok := (hH.1.2.2.2.2.2.1 k i j.toNat).2 (isL_1 (Or.inr (Or.inl hk)))
    have k0 := go_st ih hH he (ok1 (show okV S.1 (vI (S.2.2 k i j.toNat)) from hok) hr)
    rw [hn] at k0
    have hw := wl_at (G := G) (ad := ad) ha ho
    rw [ent_2 hk] at hw
    refine va_bald hx hb hGS.1 hH.1.1 a 1 hw rfl (vpinI h0 h1 hy) hd ?_
    rw [clampI (by omega) hy]
    exact k0
  · cases hz

theorem s_lald (hC : Cx N m G b xs p R s mid args meth c A H0) (ih : IH N F m G b xs out p l e R s mid args below meth c A H0 Q) (hH : Here N m G b xs out p l e R s mid args below meth c A H0 Q L st S ad H locs cells slots ls)
    {raw : Instr} {len : Nat} (hd : decode (mCode m) (bpc m pc) = .ok (raw, len)) (hn : bpc m (pc + 1) = bpc m pc + len) (hlen : lenOf raw = 0 ∨ len = lenOf raw) (hz : rz m (bpc m pc) raw (.laload) = true)
    (he : x_lald N pc L st S (exec N F m) none = some out) : W p l e R s mid args below meth c H locs cells slots Q (F0 mid (bpc m pc) ls (st.map (toV ad))) := by
  obtain ⟨hm264, hx, hb, hml, hown, hts, hini, hfr, hlo, hGS, hA, hX, hbl, hbA, hTX, hN⟩ := hC
  unfold x_lald at he
  rcases st with _ | ⟨(j | (j | (j | j))), _ | ⟨(y | (y | (⟨k, i⟩ | y))), st⟩⟩ <;> first | (cases he; done) | skip
  have hy := okh hH.2.2.1
  have hv := okh (okt hH.2.2.1)
  have hr := okt (okt hH.2.2.1)
  dsimp only at he
  have hk0 : (kTag k = 3) ∧ (if j < 0 then none else if j < kLenN N k then exec N F m (pc + 1) L (vJ (S.2.2 k i j.toNat) :: st) S else none) = some out := by
    rcases z : kTag k with _ | _ | _ | _ | _ | _ <;> rw [z] at he <;> first | (cases he; done) | exact ⟨by omega, he⟩
  obtain ⟨hk, he⟩ := hk0
  by_cases h0 : j < 0
  · rw [if_pos h0] at he; cases he
  rw [if_neg h0] at he
  have h1 : j < kLenN N k := by
    by_cases h1 : j < kLenN N k
    · exact h1
    · rw [if_neg h1] at he; cases he
  rw [if_pos h1] at he
  unfold rz at hz
  dsimp only at hz
  split at hz
  · rcases hlen with h | h
    · cases h
    rw [h] at hd hn
    obtain ⟨a, ha, ho⟩ := vld_row hv hk (by decide) (by decide)
    rw [kLenN_row (N := N) ho] at h1
    have hok := (hH.1.2.2.2.2.2.1 k i j.toNat).1
    have k0 := go_st ih hH he (ok1 (show okV S.1 (vJ (S.2.2 k i j.toNat)) from hok) hr)
    rw [hn] at k0
    have hw := wl_at (G := G) (ad := ad) ha ho
    rw [ent_3 hk] at hw
    refine va_lald hx hb hGS.1 hH.1.1 a 2 hw rfl (vpinI h0 h1 hy) hd ?_
    rw [clampI (by omega) hy]
    exact k0
  · cases hz

theorem s_iast (hC : Cx N m G b xs p R s mid args meth c A H0) (ih : IH N F m G b xs out p l e R s mid args below meth c A H0 Q) (hH : Here N m G b xs out p l e R s mid args below meth c A H0 Q L st S ad H locs cells slots ls)
    {raw : Instr} {len : Nat} (hd : decode (mCode m) (bpc m pc) = .ok (raw, len)) (hn : bpc m (pc + 1) = bpc m pc + len) (hlen : lenOf raw = 0 ∨ len = lenOf raw) (hz : rz m (bpc m pc) raw (.iastore) = true)
    (he : x_iast N pc L st S (exec N F m) none = some out) : W p l e R s mid args below meth c H locs cells slots Q (F0 mid (bpc m pc) ls (st.map (toV ad))) := by
  obtain ⟨hm264, hx, hb, hml, hown, hts, hini, hfr, hlo, hGS, hA, hX, hbl, hbA, hTX, hN⟩ := hC
  unfold x_iast at he
  rcases st with _ | ⟨(x | (x | (x | x))), _ | ⟨(j | (j | (j | j))), _ | ⟨(y | (y | (⟨k, i⟩ | y))), st⟩⟩⟩ <;> first | (cases he; done) | skip
  have hw1 := okh hH.2.2.1
  have hy := okh (okt hH.2.2.1)
  have hv := okh (okt (okt hH.2.2.1))
  have hr := okt (okt (okt hH.2.2.1))
  dsimp only at he
  have hk0 : kTag k = 1 ∧ (if j < 0 then none else if j < kLenN N k then exec N F m (pc + 1) L st (S.1, S.2.1, sup S.2.2 k i j.toNat (x)) else none) = some out := by
    rcases z : kTag k with _ | _ | _ | _ | _ | _ <;> rw [z] at he <;> first | (cases he; done) | exact ⟨by omega, he⟩
  obtain ⟨hk, he⟩ := hk0
  by_cases h0 : j < 0
  · rw [if_pos h0] at he; cases he
  rw [if_neg h0] at he
  have h1 : j < kLenN N k := by
    by_cases h1 : j < kLenN N k
    · exact h1
    · rw [if_neg h1] at he; cases he
  rw [if_pos h1] at he
  unfold rz at hz
  dsimp only at hz
  split at hz
  · rcases hlen with h | h
    · cases h
    rw [h] at hd hn
    obtain ⟨a, ha, ho⟩ := vld_row hv hk (by decide) (by decide)
    rw [kLenN_row (N := N) ho] at h1
    have hw := wl_at (G := G) (ad := ad) ha ho
    rw [ent_1 hk] at hw
    refine va_iast hx hb hGS.1 hH.1.1 hH.1.2.1 hH.1.2.2.1 a 0 hw rfl (vpinI h0 h1 hy) hd (fun H1 locs1 hP hD hS => ?_)
    rw [clampI (by omega) hy] at hP hD
    have e2 : ent G ad (S.1, S.2.1, sup S.2.2 k i j.toNat (x)) (k, i) = .inl (G.2.1 1, kLen k, .inl (upd (fun j => Int32.ofInt (S.2.2 k i j)) j.toNat (Int32.ofInt x))) := by
      rw [ent_1 hk]
      congr 4
      
      funext j'
      unfold sup upd
      by_cases q : j' = j.toNat
      · simp [q]
      · simp [q]
    rw [← e2] at hP hD
    have k0 := go_sup ih hH he hr (wd_sup hH.1 ha ho (in32_64 hw1) (fun _ => hw1) hP hD hS)
    rw [hn] at k0
    exact k0
  · cases hz

theorem s_bast (hC : Cx N m G b xs p R s mid args meth c A H0) (ih : IH N F m G b xs out p l e R s mid args below meth c A H0 Q) (hH : Here N m G b xs out p l e R s mid args below meth c A H0 Q L st S ad H locs cells slots ls)
    {raw : Instr} {len : Nat} (hd : decode (mCode m) (bpc m pc) = .ok (raw, len)) (hn : bpc m (pc + 1) = bpc m pc + len) (hlen : lenOf raw = 0 ∨ len = lenOf raw) (hz : rz m (bpc m pc) raw (.bastore) = true)
    (he : x_bast N pc L st S (exec N F m) none = some out) : W p l e R s mid args below meth c H locs cells slots Q (F0 mid (bpc m pc) ls (st.map (toV ad))) := by
  obtain ⟨hm264, hx, hb, hml, hown, hts, hini, hfr, hlo, hGS, hA, hX, hbl, hbA, hTX, hN⟩ := hC
  unfold x_bast at he
  rcases st with _ | ⟨(x | (x | (x | x))), _ | ⟨(j | (j | (j | j))), _ | ⟨(y | (y | (⟨k, i⟩ | y))), st⟩⟩⟩ <;> first | (cases he; done) | skip
  have hw1 := okh hH.2.2.1
  have hy := okh (okt hH.2.2.1)
  have hv := okh (okt (okt hH.2.2.1))
  have hr := okt (okt (okt hH.2.2.1))
  dsimp only at he
  have hk0 : kTag k = 2 ∧ (if j < 0 then none else if j < kLenN N k then exec N F m (pc + 1) L st (S.1, S.2.1, sup S.2.2 k i j.toNat (w8 x)) else none) = some out := by
    rcases z : kTag k with _ | _ | _ | _ | _ | _ <;> rw [z] at he <;> first | (cases he; done) | exact ⟨by omega, he⟩
  obtain ⟨hk, he⟩ := hk0
  by_cases h0 : j < 0
  · rw [if_pos h0] at he; cases he
  rw [if_neg h0] at he
  have h1 : j < kLenN N k := by
    by_cases h1 : j < kLenN N k
    · exact h1
    · rw [if_neg h1] at he; cases he
  rw [if_pos h1] at he
  unfold rz at hz
  dsimp only at hz
  split at hz
  · rcases hlen with h | h
    · cases h
    rw [h] at hd hn
    obtain ⟨a, ha, ho⟩ := vld_row hv hk (by decide) (by decide)
    rw [kLenN_row (N := N) ho] at h1
    have hw := wl_at (G := G) (ad := ad) ha ho
    rw [ent_2 hk] at hw
    refine va_bast hx hb hGS.1 hH.1.1 hH.1.2.1 hH.1.2.2.1 a 1 hw rfl (vpinI h0 h1 hy) hd (fun H1 locs1 hP hD hS => ?_)
    rw [clampI (by omega) hy] at hP hD
    have e2 : ent G ad (S.1, S.2.1, sup S.2.2 k i j.toNat (w8 x)) (k, i) = .inl (G.2.1 2, kLen k, .inl (upd (fun j => Int32.ofInt (S.2.2 k i j)) j.toNat (vp_nar .byte (Int32.ofInt x)))) := by
      rw [ent_2 hk]
      congr 4
      rw [show vp_nar .byte (Int32.ofInt x) = Int32.ofInt (w8 x) from (i2b_of hw1)]
      funext j'
      unfold sup upd
      by_cases q : j' = j.toNat
      · simp [q]
      · simp [q]
    rw [← e2] at hP hD
    have k0 := go_sup ih hH he hr (wd_sup hH.1 ha ho (in32_64 (w8_in _)) (fun _ => w8_in _) hP hD hS)
    rw [hn] at k0
    exact k0
  · cases hz

theorem s_last (hC : Cx N m G b xs p R s mid args meth c A H0) (ih : IH N F m G b xs out p l e R s mid args below meth c A H0 Q) (hH : Here N m G b xs out p l e R s mid args below meth c A H0 Q L st S ad H locs cells slots ls)
    {raw : Instr} {len : Nat} (hd : decode (mCode m) (bpc m pc) = .ok (raw, len)) (hn : bpc m (pc + 1) = bpc m pc + len) (hlen : lenOf raw = 0 ∨ len = lenOf raw) (hz : rz m (bpc m pc) raw (.lastore) = true)
    (he : x_last N pc L st S (exec N F m) none = some out) : W p l e R s mid args below meth c H locs cells slots Q (F0 mid (bpc m pc) ls (st.map (toV ad))) := by
  obtain ⟨hm264, hx, hb, hml, hown, hts, hini, hfr, hlo, hGS, hA, hX, hbl, hbA, hTX, hN⟩ := hC
  unfold x_last at he
  rcases st with _ | ⟨(x | (x | (x | x))), _ | ⟨(j | (j | (j | j))), _ | ⟨(y | (y | (⟨k, i⟩ | y))), st⟩⟩⟩ <;> first | (cases he; done) | skip
  have hw1 := okh hH.2.2.1
  have hy := okh (okt hH.2.2.1)
  have hv := okh (okt (okt hH.2.2.1))
  have hr := okt (okt (okt hH.2.2.1))
  dsimp only at he
  have hk0 : kTag k = 3 ∧ (if j < 0 then none else if j < kLenN N k then exec N F m (pc + 1) L st (S.1, S.2.1, sup S.2.2 k i j.toNat (x)) else none) = some out := by
    rcases z : kTag k with _ | _ | _ | _ | _ | _ <;> rw [z] at he <;> first | (cases he; done) | exact ⟨by omega, he⟩
  obtain ⟨hk, he⟩ := hk0
  by_cases h0 : j < 0
  · rw [if_pos h0] at he; cases he
  rw [if_neg h0] at he
  have h1 : j < kLenN N k := by
    by_cases h1 : j < kLenN N k
    · exact h1
    · rw [if_neg h1] at he; cases he
  rw [if_pos h1] at he
  unfold rz at hz
  dsimp only at hz
  split at hz
  · rcases hlen with h | h
    · cases h
    rw [h] at hd hn
    obtain ⟨a, ha, ho⟩ := vld_row hv hk (by decide) (by decide)
    rw [kLenN_row (N := N) ho] at h1
    have hw := wl_at (G := G) (ad := ad) ha ho
    rw [ent_3 hk] at hw
    refine va_last hx hb hGS.1 hH.1.1 hH.1.2.1 hH.1.2.2.1 a 2 hw rfl (vpinI h0 h1 hy) hd (fun H1 locs1 hP hD hS => ?_)
    rw [clampI (by omega) hy] at hP hD
    have e2 : ent G ad (S.1, S.2.1, sup S.2.2 k i j.toNat (x)) (k, i) = .inl (G.2.1 3, kLen k, .inr (.inl (vp_updL (fun j => Int64.ofInt (S.2.2 k i j)) j.toNat (Int64.ofInt x)))) := by
      rw [ent_3 hk]
      congr 4
      congr 1
      funext j'
      unfold sup vp_updL
      by_cases q : j' = j.toNat
      · simp [q]
      · simp [q]
    rw [← e2] at hP hD
    have k0 := go_sup ih hH he hr (wd_sup hH.1 ha ho (hw1) (fun z => by unfold isL at z; rw [hk] at z; cases z) hP hD hS)
    rw [hn] at k0
    exact k0
  · cases hz

end WALK
end
