section WALK
variable {N m : Nat} {G : GT} {b : Nat} {xs : Nat → Int32} {out : Out}
variable {p : Program} {l : Launch} {e : Env} {R : Room} {s : State} {mid : MethodId} {args : Array Value} {below : List Frame} {meth : Method} {c : Code} {A : Nat → Prop} {H0 : Heap} {Q : State → Prop}
variable {F pc : Nat} {L st : List MV} {S : MS} {ad : AdT} {H : Heap} {locs : List Loc} {cells slots : Nat} {ls : Array Slot}

theorem s_iadd (hC : Cx N m G b xs p R s mid args meth c A H0) (ih : IH N F m G b xs out p l e R s mid args below meth c A H0 Q) (hH : Here N m G b xs out p l e R s mid args below meth c A H0 Q L st S ad H locs cells slots ls)
    {raw : Instr} {len : Nat} (hd : decode (mCode m) (bpc m pc) = .ok (raw, len)) (hn : bpc m (pc + 1) = bpc m pc + len) (hlen : lenOf raw = 0 ∨ len = lenOf raw) (hz : rz m (bpc m pc) raw (.iadd) = true)
    (he : x_iop (fun a b => w32 (a + b)) pc L st S (exec N F m) none = some out) : W p l e R s mid args below meth c H locs cells slots Q (F0 mid (bpc m pc) ls (st.map (toV ad))) := by
  obtain ⟨hm264, hx, hb, hml, hown, hts, hini, hfr, hlo, hGS, hA, hX, hbl, hbA, hTX, hN⟩ := hC
  unfold x_iop at he
  rcases st with _ | ⟨(y | (y | (y | y))), _ | ⟨(x | (x | (x | x))), st⟩⟩ <;> first | (cases he; done) | skip
  have hy := okh hH.2.2.1
  have hv := okh (okt hH.2.2.1)
  have hr := okt (okt hH.2.2.1)
  have k := go_st ih hH he (ok1 (w32_in _) hr)
  rw [hn] at k
  unfold rz at hz
  dsimp only at hz
  split at hz
  · rcases hlen with h | h
    · cases h
    · rw [h] at hd k
      exact lv_iadd hx hb hd (by rw [← add32]; exact k)
  · cases hz

theorem s_isub (hC : Cx N m G b xs p R s mid args meth c A H0) (ih : IH N F m G b xs out p l e R s mid args below meth c A H0 Q) (hH : Here N m G b xs out p l e R s mid args below meth c A H0 Q L st S ad H locs cells slots ls)
    {raw : Instr} {len : Nat} (hd : decode (mCode m) (bpc m pc) = .ok (raw, len)) (hn : bpc m (pc + 1) = bpc m pc + len) (hlen : lenOf raw = 0 ∨ len = lenOf raw) (hz : rz m (bpc m pc) raw (.isub) = true)
    (he : x_iop (fun a b => w32 (a - b)) pc L st S (exec N F m) none = some out) : W p l e R s mid args below meth c H locs cells slots Q (F0 mid (bpc m pc) ls (st.map (toV ad))) := by
  obtain ⟨hm264, hx, hb, hml, hown, hts, hini, hfr, hlo, hGS, hA, hX, hbl, hbA, hTX, hN⟩ := hC
  unfold x_iop at he
  rcases st with _ | ⟨(y | (y | (y | y))), _ | ⟨(x | (x | (x | x))), st⟩⟩ <;> first | (cases he; done) | skip
  have hy := okh hH.2.2.1
  have hv := okh (okt hH.2.2.1)
  have hr := okt (okt hH.2.2.1)
  have k := go_st ih hH he (ok1 (w32_in _) hr)
  rw [hn] at k
  unfold rz at hz
  dsimp only at hz
  split at hz
  · rcases hlen with h | h
    · cases h
    · rw [h] at hd k
      exact lv_isub hx hb hd (by rw [← sub32]; exact k)
  · cases hz

theorem s_imul (hC : Cx N m G b xs p R s mid args meth c A H0) (ih : IH N F m G b xs out p l e R s mid args below meth c A H0 Q) (hH : Here N m G b xs out p l e R s mid args below meth c A H0 Q L st S ad H locs cells slots ls)
    {raw : Instr} {len : Nat} (hd : decode (mCode m) (bpc m pc) = .ok (raw, len)) (hn : bpc m (pc + 1) = bpc m pc + len) (hlen : lenOf raw = 0 ∨ len = lenOf raw) (hz : rz m (bpc m pc) raw (.imul) = true)
    (he : x_iop (fun a b => w32 (a * b)) pc L st S (exec N F m) none = some out) : W p l e R s mid args below meth c H locs cells slots Q (F0 mid (bpc m pc) ls (st.map (toV ad))) := by
  obtain ⟨hm264, hx, hb, hml, hown, hts, hini, hfr, hlo, hGS, hA, hX, hbl, hbA, hTX, hN⟩ := hC
  unfold x_iop at he
  rcases st with _ | ⟨(y | (y | (y | y))), _ | ⟨(x | (x | (x | x))), st⟩⟩ <;> first | (cases he; done) | skip
  have hy := okh hH.2.2.1
  have hv := okh (okt hH.2.2.1)
  have hr := okt (okt hH.2.2.1)
  have k := go_st ih hH he (ok1 (w32_in _) hr)
  rw [hn] at k
  unfold rz at hz
  dsimp only at hz
  split at hz
  · rcases hlen with h | h
    · cases h
    · rw [h] at hd k
      exact lv_imul hx hb hd (by rw [← mul32]; exact k)
  · cases hz

theorem s_iand (hC : Cx N m G b xs p R s mid args meth c A H0) (ih : IH N F m G b xs out p l e R s mid args below meth c A H0 Q) (hH : Here N m G b xs out p l e R s mid args below meth c A H0 Q L st S ad H locs cells slots ls)
    {raw : Instr} {len : Nat} (hd : decode (mCode m) (bpc m pc) = .ok (raw, len)) (hn : bpc m (pc + 1) = bpc m pc + len) (hlen : lenOf raw = 0 ∨ len = lenOf raw) (hz : rz m (bpc m pc) raw (.iand) = true)
    (he : x_iop bAnd pc L st S (exec N F m) none = some out) : W p l e R s mid args below meth c H locs cells slots Q (F0 mid (bpc m pc) ls (st.map (toV ad))) := by
  obtain ⟨hm264, hx, hb, hml, hown, hts, hini, hfr, hlo, hGS, hA, hX, hbl, hbA, hTX, hN⟩ := hC
  unfold x_iop at he
  rcases st with _ | ⟨(y | (y | (y | y))), _ | ⟨(x | (x | (x | x))), st⟩⟩ <;> first | (cases he; done) | skip
  have hy := okh hH.2.2.1
  have hv := okh (okt hH.2.2.1)
  have hr := okt (okt hH.2.2.1)
  have k := go_st ih hH he (ok1 (in32_of _) hr)
  rw [hn] at k
  unfold rz at hz
  dsimp only at hz
  split at hz
  · rcases hlen with h | h
    · cases h
    · rw [h] at hd k
      have q := of32 (Int32.ofInt x &&& Int32.ofInt y)
      exact lv_iand hx hb hd (by rw [← q]; exact k)
  · cases hz

theorem s_ior (hC : Cx N m G b xs p R s mid args meth c A H0) (ih : IH N F m G b xs out p l e R s mid args below meth c A H0 Q) (hH : Here N m G b xs out p l e R s mid args below meth c A H0 Q L st S ad H locs cells slots ls)
    {raw : Instr} {len : Nat} (hd : decode (mCode m) (bpc m pc) = .ok (raw, len)) (hn : bpc m (pc + 1) = bpc m pc + len) (hlen : lenOf raw = 0 ∨ len = lenOf raw) (hz : rz m (bpc m pc) raw (.ior) = true)
    (he : x_iop bOr pc L st S (exec N F m) none = some out) : W p l e R s mid args below meth c H locs cells slots Q (F0 mid (bpc m pc) ls (st.map (toV ad))) := by
  obtain ⟨hm264, hx, hb, hml, hown, hts, hini, hfr, hlo, hGS, hA, hX, hbl, hbA, hTX, hN⟩ := hC
  unfold x_iop at he
  rcases st with _ | ⟨(y | (y | (y | y))), _ | ⟨(x | (x | (x | x))), st⟩⟩ <;> first | (cases he; done) | skip
  have hy := okh hH.2.2.1
  have hv := okh (okt hH.2.2.1)
  have hr := okt (okt hH.2.2.1)
  have k := go_st ih hH he (ok1 (in32_of _) hr)
  rw [hn] at k
  unfold rz at hz
  dsimp only at hz
  split at hz
  · rcases hlen with h | h
    · cases h
    · rw [h] at hd k
      have q := of32 (Int32.ofInt x ||| Int32.ofInt y)
      exact lv_ior hx hb hd (by rw [← q]; exact k)
  · cases hz

theorem s_ixor (hC : Cx N m G b xs p R s mid args meth c A H0) (ih : IH N F m G b xs out p l e R s mid args below meth c A H0 Q) (hH : Here N m G b xs out p l e R s mid args below meth c A H0 Q L st S ad H locs cells slots ls)
    {raw : Instr} {len : Nat} (hd : decode (mCode m) (bpc m pc) = .ok (raw, len)) (hn : bpc m (pc + 1) = bpc m pc + len) (hlen : lenOf raw = 0 ∨ len = lenOf raw) (hz : rz m (bpc m pc) raw (.ixor) = true)
    (he : x_iop bXor pc L st S (exec N F m) none = some out) : W p l e R s mid args below meth c H locs cells slots Q (F0 mid (bpc m pc) ls (st.map (toV ad))) := by
  obtain ⟨hm264, hx, hb, hml, hown, hts, hini, hfr, hlo, hGS, hA, hX, hbl, hbA, hTX, hN⟩ := hC
  unfold x_iop at he
  rcases st with _ | ⟨(y | (y | (y | y))), _ | ⟨(x | (x | (x | x))), st⟩⟩ <;> first | (cases he; done) | skip
  have hy := okh hH.2.2.1
  have hv := okh (okt hH.2.2.1)
  have hr := okt (okt hH.2.2.1)
  have k := go_st ih hH he (ok1 (in32_of _) hr)
  rw [hn] at k
  unfold rz at hz
  dsimp only at hz
  split at hz
  · rcases hlen with h | h
    · cases h
    · rw [h] at hd k
      have q := of32 (Int32.ofInt x ^^^ Int32.ofInt y)
      exact lv_ixor hx hb hd (by rw [← q]; exact k)
  · cases hz

theorem s_ishl (hC : Cx N m G b xs p R s mid args meth c A H0) (ih : IH N F m G b xs out p l e R s mid args below meth c A H0 Q) (hH : Here N m G b xs out p l e R s mid args below meth c A H0 Q L st S ad H locs cells slots ls)
    {raw : Instr} {len : Nat} (hd : decode (mCode m) (bpc m pc) = .ok (raw, len)) (hn : bpc m (pc + 1) = bpc m pc + len) (hlen : lenOf raw = 0 ∨ len = lenOf raw) (hz : rz m (bpc m pc) raw (.ishl) = true)
    (he : x_iop shl32 pc L st S (exec N F m) none = some out) : W p l e R s mid args below meth c H locs cells slots Q (F0 mid (bpc m pc) ls (st.map (toV ad))) := by
  obtain ⟨hm264, hx, hb, hml, hown, hts, hini, hfr, hlo, hGS, hA, hX, hbl, hbA, hTX, hN⟩ := hC
  unfold x_iop at he
  rcases st with _ | ⟨(y | (y | (y | y))), _ | ⟨(x | (x | (x | x))), st⟩⟩ <;> first | (cases he; done) | skip
  have hy := okh hH.2.2.1
  have hv := okh (okt hH.2.2.1)
  have hr := okt (okt hH.2.2.1)
  have k := go_st ih hH he (ok1 (in32_of _) hr)
  rw [hn] at k
  unfold rz at hz
  dsimp only at hz
  split at hz
  · rcases hlen with h | h
    · cases h
    · rw [h] at hd k
      have q := of32 (Int32.ofInt x <<< (Int32.ofInt y &&& 31))
      exact lv_ishl hx hb hd (by rw [← q]; exact k)
  · cases hz

theorem s_ishr (hC : Cx N m G b xs p R s mid args meth c A H0) (ih : IH N F m G b xs out p l e R s mid args below meth c A H0 Q) (hH : Here N m G b xs out p l e R s mid args below meth c A H0 Q L st S ad H locs cells slots ls)
    {raw : Instr} {len : Nat} (hd : decode (mCode m) (bpc m pc) = .ok (raw, len)) (hn : bpc m (pc + 1) = bpc m pc + len) (hlen : lenOf raw = 0 ∨ len = lenOf raw) (hz : rz m (bpc m pc) raw (.ishr) = true)
    (he : x_iop shr32 pc L st S (exec N F m) none = some out) : W p l e R s mid args below meth c H locs cells slots Q (F0 mid (bpc m pc) ls (st.map (toV ad))) := by
  obtain ⟨hm264, hx, hb, hml, hown, hts, hini, hfr, hlo, hGS, hA, hX, hbl, hbA, hTX, hN⟩ := hC
  unfold x_iop at he
  rcases st with _ | ⟨(y | (y | (y | y))), _ | ⟨(x | (x | (x | x))), st⟩⟩ <;> first | (cases he; done) | skip
  have hy := okh hH.2.2.1
  have hv := okh (okt hH.2.2.1)
  have hr := okt (okt hH.2.2.1)
  have k := go_st ih hH he (ok1 (in32_of _) hr)
  rw [hn] at k
  unfold rz at hz
  dsimp only at hz
  split at hz
  · rcases hlen with h | h
    · cases h
    · rw [h] at hd k
      have q := of32 (Int32.ofInt x >>> (Int32.ofInt y &&& 31))
      exact lv_ishr hx hb hd (by rw [← q]; exact k)
  · cases hz

theorem s_idiv (hC : Cx N m G b xs p R s mid args meth c A H0) (ih : IH N F m G b xs out p l e R s mid args below meth c A H0 Q) (hH : Here N m G b xs out p l e R s mid args below meth c A H0 Q L st S ad H locs cells slots ls)
    {raw : Instr} {len : Nat} (hd : decode (mCode m) (bpc m pc) = .ok (raw, len)) (hn : bpc m (pc + 1) = bpc m pc + len) (hlen : lenOf raw = 0 ∨ len = lenOf raw) (hz : rz m (bpc m pc) raw (.idiv) = true)
    (he : x_idv (fun a b => w32 (a.tdiv b)) pc L st S (exec N F m) none = some out) : W p l e R s mid args below meth c H locs cells slots Q (F0 mid (bpc m pc) ls (st.map (toV ad))) := by
  obtain ⟨hm264, hx, hb, hml, hown, hts, hini, hfr, hlo, hGS, hA, hX, hbl, hbA, hTX, hN⟩ := hC
  unfold x_idv at he
  rcases st with _ | ⟨(y | (y | (y | y))), _ | ⟨(x | (x | (x | x))), st⟩⟩ <;> first | (cases he; done) | skip
  have hy := okh hH.2.2.1
  have hv := okh (okt hH.2.2.1)
  have hr := okt (okt hH.2.2.1)
  dsimp only at he
  by_cases h0 : y = 0
  · rw [if_pos h0] at he; cases he
  rw [if_neg h0] at he
  have k := go_st ih hH he (ok1 (w32_in _) hr)
  rw [hn] at k
  unfold rz at hz
  dsimp only at hz
  split at hz
  · rcases hlen with h | h
    · cases h
    · rw [h] at hd k
      exact lv_idiv hx hb hd (fun z => h0 ((eq32 hy in32_0).mp z)) (by rw [← div32 hv hy]; exact k)
  · cases hz

theorem s_irem (hC : Cx N m G b xs p R s mid args meth c A H0) (ih : IH N F m G b xs out p l e R s mid args below meth c A H0 Q) (hH : Here N m G b xs out p l e R s mid args below meth c A H0 Q L st S ad H locs cells slots ls)
    {raw : Instr} {len : Nat} (hd : decode (mCode m) (bpc m pc) = .ok (raw, len)) (hn : bpc m (pc + 1) = bpc m pc + len) (hlen : lenOf raw = 0 ∨ len = lenOf raw) (hz : rz m (bpc m pc) raw (.irem) = true)
    (he : x_idv Int.tmod pc L st S (exec N F m) none = some out) : W p l e R s mid args below meth c H locs cells slots Q (F0 mid (bpc m pc) ls (st.map (toV ad))) := by
  obtain ⟨hm264, hx, hb, hml, hown, hts, hini, hfr, hlo, hGS, hA, hX, hbl, hbA, hTX, hN⟩ := hC
  unfold x_idv at he
  rcases st with _ | ⟨(y | (y | (y | y))), _ | ⟨(x | (x | (x | x))), st⟩⟩ <;> first | (cases he; done) | skip
  have hy := okh hH.2.2.1
  have hv := okh (okt hH.2.2.1)
  have hr := okt (okt hH.2.2.1)
  dsimp only at he
  by_cases h0 : y = 0
  · rw [if_pos h0] at he; cases he
  rw [if_neg h0] at he
  have k := go_st ih hH he (ok1 (tmod_in32 hv) hr)
  rw [hn] at k
  unfold rz at hz
  dsimp only at hz
  split at hz
  · rcases hlen with h | h
    · cases h
    · rw [h] at hd k
      exact lv_irem hx hb hd (fun z => h0 ((eq32 hy in32_0).mp z)) (by rw [← rem32 hv hy]; exact k)
  · cases hz

theorem s_ladd (hC : Cx N m G b xs p R s mid args meth c A H0) (ih : IH N F m G b xs out p l e R s mid args below meth c A H0 Q) (hH : Here N m G b xs out p l e R s mid args below meth c A H0 Q L st S ad H locs cells slots ls)
    {raw : Instr} {len : Nat} (hd : decode (mCode m) (bpc m pc) = .ok (raw, len)) (hn : bpc m (pc + 1) = bpc m pc + len) (hlen : lenOf raw = 0 ∨ len = lenOf raw) (hz : rz m (bpc m pc) raw (.ladd) = true)
    (he : x_lop (fun a b => w64 (a + b)) pc L st S (exec N F m) none = some out) : W p l e R s mid args below meth c H locs cells slots Q (F0 mid (bpc m pc) ls (st.map (toV ad))) := by
  obtain ⟨hm264, hx, hb, hml, hown, hts, hini, hfr, hlo, hGS, hA, hX, hbl, hbA, hTX, hN⟩ := hC
  unfold x_lop at he
  rcases st with _ | ⟨(y | (y | (y | y))), _ | ⟨(x | (x | (x | x))), st⟩⟩ <;> first | (cases he; done) | skip
  have hy := okh hH.2.2.1
  have hv := okh (okt hH.2.2.1)
  have hr := okt (okt hH.2.2.1)
  have k := go_st ih hH he (ok1 (w64_in _) hr)
  rw [hn] at k
  unfold rz at hz
  dsimp only at hz
  split at hz
  · rcases hlen with h | h
    · cases h
    · rw [h] at hd k
      exact lv_ladd hx hb hd (by rw [← add64]; exact k)
  · cases hz

theorem s_lmul (hC : Cx N m G b xs p R s mid args meth c A H0) (ih : IH N F m G b xs out p l e R s mid args below meth c A H0 Q) (hH : Here N m G b xs out p l e R s mid args below meth c A H0 Q L st S ad H locs cells slots ls)
    {raw : Instr} {len : Nat} (hd : decode (mCode m) (bpc m pc) = .ok (raw, len)) (hn : bpc m (pc + 1) = bpc m pc + len) (hlen : lenOf raw = 0 ∨ len = lenOf raw) (hz : rz m (bpc m pc) raw (.lmul) = true)
    (he : x_lop (fun a b => w64 (a * b)) pc L st S (exec N F m) none = some out) : W p l e R s mid args below meth c H locs cells slots Q (F0 mid (bpc m pc) ls (st.map (toV ad))) := by
  obtain ⟨hm264, hx, hb, hml, hown, hts, hini, hfr, hlo, hGS, hA, hX, hbl, hbA, hTX, hN⟩ := hC
  unfold x_lop at he
  rcases st with _ | ⟨(y | (y | (y | y))), _ | ⟨(x | (x | (x | x))), st⟩⟩ <;> first | (cases he; done) | skip
  have hy := okh hH.2.2.1
  have hv := okh (okt hH.2.2.1)
  have hr := okt (okt hH.2.2.1)
  have k := go_st ih hH he (ok1 (w64_in _) hr)
  rw [hn] at k
  unfold rz at hz
  dsimp only at hz
  split at hz
  · rcases hlen with h | h
    · cases h
    · rw [h] at hd k
      exact lv_lmul hx hb hd (by rw [← mul64]; exact k)
  · cases hz

theorem s_lor (hC : Cx N m G b xs p R s mid args meth c A H0) (ih : IH N F m G b xs out p l e R s mid args below meth c A H0 Q) (hH : Here N m G b xs out p l e R s mid args below meth c A H0 Q L st S ad H locs cells slots ls)
    {raw : Instr} {len : Nat} (hd : decode (mCode m) (bpc m pc) = .ok (raw, len)) (hn : bpc m (pc + 1) = bpc m pc + len) (hlen : lenOf raw = 0 ∨ len = lenOf raw) (hz : rz m (bpc m pc) raw (.lor) = true)
    (he : x_lop jOr pc L st S (exec N F m) none = some out) : W p l e R s mid args below meth c H locs cells slots Q (F0 mid (bpc m pc) ls (st.map (toV ad))) := by
  obtain ⟨hm264, hx, hb, hml, hown, hts, hini, hfr, hlo, hGS, hA, hX, hbl, hbA, hTX, hN⟩ := hC
  unfold x_lop at he
  rcases st with _ | ⟨(y | (y | (y | y))), _ | ⟨(x | (x | (x | x))), st⟩⟩ <;> first | (cases he; done) | skip
  have hy := okh hH.2.2.1
  have hv := okh (okt hH.2.2.1)
  have hr := okt (okt hH.2.2.1)
  have k := go_st ih hH he (ok1 (in64_of _) hr)
  rw [hn] at k
  unfold rz at hz
  dsimp only at hz
  split at hz
  · rcases hlen with h | h
    · cases h
    · rw [h] at hd k
      have q := of64 (Int64.ofInt x ||| Int64.ofInt y)
      exact lv_lor hx hb hd (by rw [← q]; exact k)
  · cases hz

theorem s_ldiv (hC : Cx N m G b xs p R s mid args meth c A H0) (ih : IH N F m G b xs out p l e R s mid args below meth c A H0 Q) (hH : Here N m G b xs out p l e R s mid args below meth c A H0 Q L st S ad H locs cells slots ls)
    {raw : Instr} {len : Nat} (hd : decode (mCode m) (bpc m pc) = .ok (raw, len)) (hn : bpc m (pc + 1) = bpc m pc + len) (hlen : lenOf raw = 0 ∨ len = lenOf raw) (hz : rz m (bpc m pc) raw (.ldiv) = true)
    (he : x_ldv (fun a b => w64 (a.tdiv b)) pc L st S (exec N F m) none = some out) : W p l e R s mid args below meth c H locs cells slots Q (F0 mid (bpc m pc) ls (st.map (toV ad))) := by
  obtain ⟨hm264, hx, hb, hml, hown, hts, hini, hfr, hlo, hGS, hA, hX, hbl, hbA, hTX, hN⟩ := hC
  unfold x_ldv at he
  rcases st with _ | ⟨(y | (y | (y | y))), _ | ⟨(x | (x | (x | x))), st⟩⟩ <;> first | (cases he; done) | skip
  have hy := okh hH.2.2.1
  have hv := okh (okt hH.2.2.1)
  have hr := okt (okt hH.2.2.1)
  dsimp only at he
  by_cases h0 : y = 0
  · rw [if_pos h0] at he; cases he
  rw [if_neg h0] at he
  have k := go_st ih hH he (ok1 (w64_in _) hr)
  rw [hn] at k
  unfold rz at hz
  dsimp only at hz
  split at hz
  · rcases hlen with h | h
    · cases h
    · rw [h] at hd k
      exact lv_ldiv hx hb hd (fun z => h0 ((eq64 hy in64_0).mp z)) (by rw [← div64 hv hy]; exact k)
  · cases hz

theorem s_lrem (hC : Cx N m G b xs p R s mid args meth c A H0) (ih : IH N F m G b xs out p l e R s mid args below meth c A H0 Q) (hH : Here N m G b xs out p l e R s mid args below meth c A H0 Q L st S ad H locs cells slots ls)
    {raw : Instr} {len : Nat} (hd : decode (mCode m) (bpc m pc) = .ok (raw, len)) (hn : bpc m (pc + 1) = bpc m pc + len) (hlen : lenOf raw = 0 ∨ len = lenOf raw) (hz : rz m (bpc m pc) raw (.lrem) = true)
    (he : x_ldv Int.tmod pc L st S (exec N F m) none = some out) : W p l e R s mid args below meth c H locs cells slots Q (F0 mid (bpc m pc) ls (st.map (toV ad))) := by
  obtain ⟨hm264, hx, hb, hml, hown, hts, hini, hfr, hlo, hGS, hA, hX, hbl, hbA, hTX, hN⟩ := hC
  unfold x_ldv at he
  rcases st with _ | ⟨(y | (y | (y | y))), _ | ⟨(x | (x | (x | x))), st⟩⟩ <;> first | (cases he; done) | skip
  have hy := okh hH.2.2.1
  have hv := okh (okt hH.2.2.1)
  have hr := okt (okt hH.2.2.1)
  dsimp only at he
  by_cases h0 : y = 0
  · rw [if_pos h0] at he; cases he
  rw [if_neg h0] at he
  have k := go_st ih hH he (ok1 (tmod_in64 hv) hr)
  rw [hn] at k
  unfold rz at hz
  dsimp only at hz
  split at hz
  · rcases hlen with h | h
    · cases h
    · rw [h] at hd k
      exact lv_lrem hx hb hd (fun z => h0 ((eq64 hy in64_0).mp z)) (by rw [← rem64 hv hy]; exact k)
  · cases hz

theorem s_lshl (hC : Cx N m G b xs p R s mid args meth c A H0) (ih : IH N F m G b xs out p l e R s mid args below meth c A H0 Q) (hH : Here N m G b xs out p l e R s mid args below meth c A H0 Q L st S ad H locs cells slots ls)
    {raw : Instr} {len : Nat} (hd : decode (mCode m) (bpc m pc) = .ok (raw, len)) (hn : bpc m (pc + 1) = bpc m pc + len) (hlen : lenOf raw = 0 ∨ len = lenOf raw) (hz : rz m (bpc m pc) raw (.lshl) = true)
    (he : x_lsh shl64 pc L st S (exec N F m) none = some out) : W p l e R s mid args below meth c H locs cells slots Q (F0 mid (bpc m pc) ls (st.map (toV ad))) := by
  obtain ⟨hm264, hx, hb, hml, hown, hts, hini, hfr, hlo, hGS, hA, hX, hbl, hbA, hTX, hN⟩ := hC
  unfold x_lsh at he
  rcases st with _ | ⟨(y | (y | (y | y))), _ | ⟨(x | (x | (x | x))), st⟩⟩ <;> first | (cases he; done) | skip
  have hy := okh hH.2.2.1
  have hv := okh (okt hH.2.2.1)
  have hr := okt (okt hH.2.2.1)
  have k := go_st ih hH he (ok1 (in64_of _) hr)
  rw [hn] at k
  unfold rz at hz
  dsimp only at hz
  split at hz
  · rcases hlen with h | h
    · cases h
    · rw [h] at hd k
      exact lv_lshl hx hb hd (of64 _).symm k
  · cases hz

theorem s_lshr (hC : Cx N m G b xs p R s mid args meth c A H0) (ih : IH N F m G b xs out p l e R s mid args below meth c A H0 Q) (hH : Here N m G b xs out p l e R s mid args below meth c A H0 Q L st S ad H locs cells slots ls)
    {raw : Instr} {len : Nat} (hd : decode (mCode m) (bpc m pc) = .ok (raw, len)) (hn : bpc m (pc + 1) = bpc m pc + len) (hlen : lenOf raw = 0 ∨ len = lenOf raw) (hz : rz m (bpc m pc) raw (.lshr) = true)
    (he : x_lsh shr64 pc L st S (exec N F m) none = some out) : W p l e R s mid args below meth c H locs cells slots Q (F0 mid (bpc m pc) ls (st.map (toV ad))) := by
  obtain ⟨hm264, hx, hb, hml, hown, hts, hini, hfr, hlo, hGS, hA, hX, hbl, hbA, hTX, hN⟩ := hC
  unfold x_lsh at he
  rcases st with _ | ⟨(y | (y | (y | y))), _ | ⟨(x | (x | (x | x))), st⟩⟩ <;> first | (cases he; done) | skip
  have hy := okh hH.2.2.1
  have hv := okh (okt hH.2.2.1)
  have hr := okt (okt hH.2.2.1)
  have k := go_st ih hH he (ok1 (in64_of _) hr)
  rw [hn] at k
  unfold rz at hz
  dsimp only at hz
  split at hz
  · rcases hlen with h | h
    · cases h
    · rw [h] at hd k
      exact lv_lshr hx hb hd (of64 _).symm k
  · cases hz

theorem s_lushr (hC : Cx N m G b xs p R s mid args meth c A H0) (ih : IH N F m G b xs out p l e R s mid args below meth c A H0 Q) (hH : Here N m G b xs out p l e R s mid args below meth c A H0 Q L st S ad H locs cells slots ls)
    {raw : Instr} {len : Nat} (hd : decode (mCode m) (bpc m pc) = .ok (raw, len)) (hn : bpc m (pc + 1) = bpc m pc + len) (hlen : lenOf raw = 0 ∨ len = lenOf raw) (hz : rz m (bpc m pc) raw (.lushr) = true)
    (he : x_lsh ushr64 pc L st S (exec N F m) none = some out) : W p l e R s mid args below meth c H locs cells slots Q (F0 mid (bpc m pc) ls (st.map (toV ad))) := by
  obtain ⟨hm264, hx, hb, hml, hown, hts, hini, hfr, hlo, hGS, hA, hX, hbl, hbA, hTX, hN⟩ := hC
  unfold x_lsh at he
  rcases st with _ | ⟨(y | (y | (y | y))), _ | ⟨(x | (x | (x | x))), st⟩⟩ <;> first | (cases he; done) | skip
  have hy := okh hH.2.2.1
  have hv := okh (okt hH.2.2.1)
  have hr := okt (okt hH.2.2.1)
  have k := go_st ih hH he (ok1 (in64_of _) hr)
  rw [hn] at k
  unfold rz at hz
  dsimp only at hz
  split at hz
  · rcases hlen with h | h
    · cases h
    · rw [h] at hd k
      exact lv_lushr hx hb hd (of64 _).symm k
  · cases hz

theorem s_i2l (hC : Cx N m G b xs p R s mid args meth c A H0) (ih : IH N F m G b xs out p l e R s mid args below meth c A H0 Q) (hH : Here N m G b xs out p l e R s mid args below meth c A H0 Q L st S ad H locs cells slots ls)
    {raw : Instr} {len : Nat} (hd : decode (mCode m) (bpc m pc) = .ok (raw, len)) (hn : bpc m (pc + 1) = bpc m pc + len) (hlen : lenOf raw = 0 ∨ len = lenOf raw) (hz : rz m (bpc m pc) raw (.i2l) = true)
    (he : x_i2l pc L st S (exec N F m) none = some out) : W p l e R s mid args below meth c H locs cells slots Q (F0 mid (bpc m pc) ls (st.map (toV ad))) := by
  obtain ⟨hm264, hx, hb, hml, hown, hts, hini, hfr, hlo, hGS, hA, hX, hbl, hbA, hTX, hN⟩ := hC
  unfold x_i2l at he
  rcases st with _ | ⟨(x | (x | (x | x))), st⟩ <;> first | (cases he; done) | skip
  have hv := okh hH.2.2.1
  have hr := okt hH.2.2.1
  have k := go_st ih hH he (ok1 (in32_64 hv) hr)
  rw [hn] at k
  unfold rz at hz
  dsimp only at hz
  split at hz
  · rcases hlen with h | h
    · cases h
    · rw [h] at hd k
      exact lv_i2l hx hb hd (i2l_of hv) k
  · cases hz

theorem s_l2i (hC : Cx N m G b xs p R s mid args meth c A H0) (ih : IH N F m G b xs out p l e R s mid args below meth c A H0 Q) (hH : Here N m G b xs out p l e R s mid args below meth c A H0 Q L st S ad H locs cells slots ls)
    {raw : Instr} {len : Nat} (hd : decode (mCode m) (bpc m pc) = .ok (raw, len)) (hn : bpc m (pc + 1) = bpc m pc + len) (hlen : lenOf raw = 0 ∨ len = lenOf raw) (hz : rz m (bpc m pc) raw (.l2i) = true)
    (he : x_l2i pc L st S (exec N F m) none = some out) : W p l e R s mid args below meth c H locs cells slots Q (F0 mid (bpc m pc) ls (st.map (toV ad))) := by
  obtain ⟨hm264, hx, hb, hml, hown, hts, hini, hfr, hlo, hGS, hA, hX, hbl, hbA, hTX, hN⟩ := hC
  unfold x_l2i at he
  rcases st with _ | ⟨(x | (x | (x | x))), st⟩ <;> first | (cases he; done) | skip
  have hv := okh hH.2.2.1
  have hr := okt hH.2.2.1
  have k := go_st ih hH he (ok1 (w32_in _) hr)
  rw [hn] at k
  unfold rz at hz
  dsimp only at hz
  split at hz
  · rcases hlen with h | h
    · cases h
    · rw [h] at hd k
      exact lv_l2i hx hb hd (l2i_of hv) k
  · cases hz

theorem s_i2b (hC : Cx N m G b xs p R s mid args meth c A H0) (ih : IH N F m G b xs out p l e R s mid args below meth c A H0 Q) (hH : Here N m G b xs out p l e R s mid args below meth c A H0 Q L st S ad H locs cells slots ls)
    {raw : Instr} {len : Nat} (hd : decode (mCode m) (bpc m pc) = .ok (raw, len)) (hn : bpc m (pc + 1) = bpc m pc + len) (hlen : lenOf raw = 0 ∨ len = lenOf raw) (hz : rz m (bpc m pc) raw (.i2b) = true)
    (he : x_i2b pc L st S (exec N F m) none = some out) : W p l e R s mid args below meth c H locs cells slots Q (F0 mid (bpc m pc) ls (st.map (toV ad))) := by
  obtain ⟨hm264, hx, hb, hml, hown, hts, hini, hfr, hlo, hGS, hA, hX, hbl, hbA, hTX, hN⟩ := hC
  unfold x_i2b at he
  rcases st with _ | ⟨(x | (x | (x | x))), st⟩ <;> first | (cases he; done) | skip
  have hv := okh hH.2.2.1
  have hr := okt hH.2.2.1
  have k := go_st ih hH he (ok1 (w8_in _) hr)
  rw [hn] at k
  unfold rz at hz
  dsimp only at hz
  split at hz
  · rcases hlen with h | h
    · cases h
    · rw [h] at hd k
      exact lv_i2b hx hb hd (i2b_of hv) k
  · cases hz

theorem s_iconst {v : Int} (hC : Cx N m G b xs p R s mid args meth c A H0) (ih : IH N F m G b xs out p l e R s mid args below meth c A H0 Q) (hH : Here N m G b xs out p l e R s mid args below meth c A H0 Q L st S ad H locs cells slots ls)
    {raw : Instr} {len : Nat} (hd : decode (mCode m) (bpc m pc) = .ok (raw, len)) (hn : bpc m (pc + 1) = bpc m pc + len) (hlen : lenOf raw = 0 ∨ len = lenOf raw) (hz : rz m (bpc m pc) raw (.iconst v) = true)
    (he : exec N F m (pc + 1) L (vI v :: st) S = some out) : W p l e R s mid args below meth c H locs cells slots Q (F0 mid (bpc m pc) ls (st.map (toV ad))) := by
  obtain ⟨hm264, hx, hb, hml, hown, hts, hini, hfr, hlo, hGS, hA, hX, hbl, hbA, hTX, hN⟩ := hC
  unfold rz at hz
  dsimp only at hz
  obtain ⟨hv0, hz⟩ := band_t hz
  have hv : in32 v := by unfold in32; exact of_decide_eq_true hv0
  have k := go_st ih hH he (ok1 (show okV S.1 (vI v) from hv) hH.2.2.1)
  rw [hn] at k
  split at hz <;> first | (cases hz; done) | skip
  all_goals
    rcases hlen with h | h
    · cases h
    rw [h] at hd k
  · have q := of_decide_eq_true hz
    subst q
    exact lv_iconst hx hb hd rfl k
  · exact lv_bipush hx hb hd (of_decide_eq_true hz) k
  · exact lv_sipush hx hb hd (of_decide_eq_true hz) k
  · obtain ⟨j, hj, hc⟩ := anyN_ex hz
    rcases z : decide (kCon j = v) with _ | _
    · rw [z] at hc; cases hc
    · rw [z, cond_true] at hc
      have q := of_decide_eq_true z
      subst q
      have w := hts _ (gw_of hc rfl)
      rw [wd_10] at w
      exact lv_ldc hx hb hown w hd k
  · obtain ⟨j, hj, hc⟩ := anyN_ex hz
    rcases z : decide (kCon j = v) with _ | _
    · rw [z] at hc; cases hc
    · rw [z, cond_true] at hc
      have q := of_decide_eq_true z
      subst q
      have w := hts _ (gw_of hc rfl)
      rw [wd_10] at w
      exact lv_ldcw hx hb hown w hd k

theorem s_jconst {v : Int} (hC : Cx N m G b xs p R s mid args meth c A H0) (ih : IH N F m G b xs out p l e R s mid args below meth c A H0 Q) (hH : Here N m G b xs out p l e R s mid args below meth c A H0 Q L st S ad H locs cells slots ls)
    {raw : Instr} {len : Nat} (hd : decode (mCode m) (bpc m pc) = .ok (raw, len)) (hn : bpc m (pc + 1) = bpc m pc + len) (hlen : lenOf raw = 0 ∨ len = lenOf raw) (hz : rz m (bpc m pc) raw (.jsr_w v) = true)
    (he : exec N F m (pc + 1) L (vJ v :: st) S = some out) : W p l e R s mid args below meth c H locs cells slots Q (F0 mid (bpc m pc) ls (st.map (toV ad))) := by
  obtain ⟨hm264, hx, hb, hml, hown, hts, hini, hfr, hlo, hGS, hA, hX, hbl, hbA, hTX, hN⟩ := hC
  unfold rz at hz
  dsimp only at hz
  obtain ⟨hv0, hz⟩ := band_t hz
  have hv : in64 v := by unfold in64; exact of_decide_eq_true hv0
  have k := go_st ih hH he (ok1 (show okV S.1 (vJ v) from hv) hH.2.2.1)
  rw [hn] at k
  split at hz <;> first | (cases hz; done) | skip
  all_goals
    rcases hlen with h | h
    · cases h
    rw [h] at hd k
  · have q := of_decide_eq_true hz
    subst q
    exact lv_lconst hx hb hd rfl k
  · obtain ⟨j, hj, hc⟩ := anyN_ex hz
    rcases z : decide (kConL j = v) with _ | _
    · rw [z] at hc; cases hc
    · rw [z, cond_true] at hc
      have q := of_decide_eq_true z
      subst q
      have w := hts _ (gw_of hc rfl)
      rw [wd_11] at w
      exact lv_ldc2 hx hb hown w hd k

theorem s_iload {i : Nat} (hC : Cx N m G b xs p R s mid args meth c A H0) (ih : IH N F m G b xs out p l e R s mid args below meth c A H0 Q) (hH : Here N m G b xs out p l e R s mid args below meth c A H0 Q L st S ad H locs cells slots ls)
    {raw : Instr} {len : Nat} (hd : decode (mCode m) (bpc m pc) = .ok (raw, len)) (hn : bpc m (pc + 1) = bpc m pc + len) (hlen : lenOf raw = 0 ∨ len = lenOf raw) (hz : rz m (bpc m pc) raw (.iload i) = true)
    (he : x_iload i pc L st S (exec N F m) none = some out) : W p l e R s mid args below meth c H locs cells slots Q (F0 mid (bpc m pc) ls (st.map (toV ad))) := by
  obtain ⟨hm264, hx, hb, hml, hown, hts, hini, hfr, hlo, hGS, hA, hX, hbl, hbA, hTX, hN⟩ := hC
  unfold x_iload at he
  rcases e1 : nth L i with _ | (x | (x | (x | x))) <;> rw [e1] at he <;> first | (cases he; done) | skip
  have hv : okV S.1 (vI x) := hH.2.1 _ (nth_mem _ _ _ e1)
  have hls : ls[i]? = some (.val (.int (Int32.ofInt x))) := hH.2.2.2.2.1.2.2 i _ e1 (by intro z; cases z)
  have k := go_st ih hH he (ok1 hv hH.2.2.1)
  rw [hn] at k
  unfold rz at hz
  dsimp only at hz
  split at hz
  · have q := Nat.eq_of_beq_eq_true hz
    subst q
    rcases hlen with h | h
    · cases h
    · rw [h] at hd k
      exact lv_iload hx hb hd hls k
  · have q := Nat.eq_of_beq_eq_true hz
    rcases hlen with h | h
    · cases h
    · rw [h] at hd k
      exact lv_iload_n hx hb hd q hls k
  · cases hz

theorem s_lload {i : Nat} (hC : Cx N m G b xs p R s mid args meth c A H0) (ih : IH N F m G b xs out p l e R s mid args below meth c A H0 Q) (hH : Here N m G b xs out p l e R s mid args below meth c A H0 Q L st S ad H locs cells slots ls)
    {raw : Instr} {len : Nat} (hd : decode (mCode m) (bpc m pc) = .ok (raw, len)) (hn : bpc m (pc + 1) = bpc m pc + len) (hlen : lenOf raw = 0 ∨ len = lenOf raw) (hz : rz m (bpc m pc) raw (.lload i) = true)
    (he : x_lload i pc L st S (exec N F m) none = some out) : W p l e R s mid args below meth c H locs cells slots Q (F0 mid (bpc m pc) ls (st.map (toV ad))) := by
  obtain ⟨hm264, hx, hb, hml, hown, hts, hini, hfr, hlo, hGS, hA, hX, hbl, hbA, hTX, hN⟩ := hC
  unfold x_lload at he
  rcases e1 : nth L i with _ | (x | (x | (x | x))) <;> rw [e1] at he <;> first | (cases he; done) | skip
  have hv : okV S.1 (vJ x) := hH.2.1 _ (nth_mem _ _ _ e1)
  have hls : ls[i]? = some (.val (.long (Int64.ofInt x))) := hH.2.2.2.2.1.2.2 i _ e1 (by intro z; cases z)
  have k := go_st ih hH he (ok1 hv hH.2.2.1)
  rw [hn] at k
  unfold rz at hz
  dsimp only at hz
  split at hz
  · have q := Nat.eq_of_beq_eq_true hz
    subst q
    rcases hlen with h | h
    · cases h
    · rw [h] at hd k
      exact lv_lload hx hb hd hls k
  · have q := Nat.eq_of_beq_eq_true hz
    rcases hlen with h | h
    · cases h
    · rw [h] at hd k
      exact lv_lload_n hx hb hd q hls k
  · cases hz

theorem s_aload {i : Nat} (hC : Cx N m G b xs p R s mid args meth c A H0) (ih : IH N F m G b xs out p l e R s mid args below meth c A H0 Q) (hH : Here N m G b xs out p l e R s mid args below meth c A H0 Q L st S ad H locs cells slots ls)
    {raw : Instr} {len : Nat} (hd : decode (mCode m) (bpc m pc) = .ok (raw, len)) (hn : bpc m (pc + 1) = bpc m pc + len) (hlen : lenOf raw = 0 ∨ len = lenOf raw) (hz : rz m (bpc m pc) raw (.aload i) = true)
    (he : x_aload i pc L st S (exec N F m) none = some out) : W p l e R s mid args below meth c H locs cells slots Q (F0 mid (bpc m pc) ls (st.map (toV ad))) := by
  obtain ⟨hm264, hx, hb, hml, hown, hts, hini, hfr, hlo, hGS, hA, hX, hbl, hbA, hTX, hN⟩ := hC
  unfold x_aload at he
  rcases e1 : nth L i with _ | (x | (x | (x | x))) <;> rw [e1] at he <;> first | (cases he; done) | skip
  have hv : okV S.1 (.inr (.inr (.inl x))) := hH.2.1 _ (nth_mem _ _ _ e1)
  have hls : ls[i]? = some (.val (.ref (ad x.1 x.2))) := hH.2.2.2.2.1.2.2 i _ e1 (by intro z; cases z)
  have k := go_st ih hH he (ok1 hv hH.2.2.1)
  rw [hn] at k
  unfold rz at hz
  dsimp only at hz
  split at hz
  · have q := Nat.eq_of_beq_eq_true hz
    subst q
    rcases hlen with h | h
    · cases h
    · rw [h] at hd k
      exact lv_aload hx hb hd hls k
  · have q := Nat.eq_of_beq_eq_true hz
    rcases hlen with h | h
    · cases h
    · rw [h] at hd k
      exact lv_aload_n hx hb hd q hls k
  · cases hz

theorem s_dup (hC : Cx N m G b xs p R s mid args meth c A H0) (ih : IH N F m G b xs out p l e R s mid args below meth c A H0 Q) (hH : Here N m G b xs out p l e R s mid args below meth c A H0 Q L st S ad H locs cells slots ls)
    {raw : Instr} {len : Nat} (hd : decode (mCode m) (bpc m pc) = .ok (raw, len)) (hn : bpc m (pc + 1) = bpc m pc + len) (hlen : lenOf raw = 0 ∨ len = lenOf raw) (hz : rz m (bpc m pc) raw (.dup) = true)
    (he : x_dup pc L st S (exec N F m) none = some out) : W p l e R s mid args below meth c H locs cells slots Q (F0 mid (bpc m pc) ls (st.map (toV ad))) := by
  obtain ⟨hm264, hx, hb, hml, hown, hts, hini, hfr, hlo, hGS, hA, hX, hbl, hbA, hTX, hN⟩ := hC
  unfold x_dup at he
  rcases st with _ | ⟨v, st⟩
  · cases he
  dsimp only at he
  rcases hj : isJ v with _ | _ <;> rw [hj] at he <;> first | (cases he; done) | skip
  have hc : (toV ad v).category = 1 := by rcases v with v | v | v | v <;> first | rfl | cases hj
  have k := go_st ih hH he (ok1 (okh hH.2.2.1) hH.2.2.1)
  rw [hn] at k
  unfold rz at hz
  dsimp only at hz
  split at hz
  · rcases hlen with h | h
    · cases h
    · rw [h] at hd k
      exact lv_dup hx hb hd hc k
  · cases hz

theorem s_dup2 (hC : Cx N m G b xs p R s mid args meth c A H0) (ih : IH N F m G b xs out p l e R s mid args below meth c A H0 Q) (hH : Here N m G b xs out p l e R s mid args below meth c A H0 Q L st S ad H locs cells slots ls)
    {raw : Instr} {len : Nat} (hd : decode (mCode m) (bpc m pc) = .ok (raw, len)) (hn : bpc m (pc + 1) = bpc m pc + len) (hlen : lenOf raw = 0 ∨ len = lenOf raw) (hz : rz m (bpc m pc) raw (.dup2) = true)
    (he : x_dup2 pc L st S (exec N F m) none = some out) : W p l e R s mid args below meth c H locs cells slots Q (F0 mid (bpc m pc) ls (st.map (toV ad))) := by
  obtain ⟨hm264, hx, hb, hml, hown, hts, hini, hfr, hlo, hGS, hA, hX, hbl, hbA, hTX, hN⟩ := hC
  unfold x_dup2 at he
  rcases st with _ | ⟨v, _ | ⟨u, st⟩⟩
  · cases he
  · cases he
  dsimp only at he
  rcases hj : isJ v with _ | _ <;> rw [hj] at he <;> first | (cases he; done) | skip
  rcases hj2 : isJ u with _ | _ <;> rw [hj2] at he <;> first | (cases he; done) | skip
  have hc : (toV ad v).category = 1 := by rcases v with v | v | v | v <;> first | rfl | cases hj
  have hc2 : (toV ad u).category = 1 := by rcases u with v | v | v | v <;> first | rfl | cases hj2
  have k := go_st ih hH he (ok1 (okh hH.2.2.1) (ok1 (okh (okt hH.2.2.1)) hH.2.2.1))
  rw [hn] at k
  unfold rz at hz
  dsimp only at hz
  split at hz
  · rcases hlen with h | h
    · cases h
    · rw [h] at hd k
      exact lv_dup2_11 hx hb hd hc hc2 k
  · cases hz

theorem s_pop (hC : Cx N m G b xs p R s mid args meth c A H0) (ih : IH N F m G b xs out p l e R s mid args below meth c A H0 Q) (hH : Here N m G b xs out p l e R s mid args below meth c A H0 Q L st S ad H locs cells slots ls)
    {raw : Instr} {len : Nat} (hd : decode (mCode m) (bpc m pc) = .ok (raw, len)) (hn : bpc m (pc + 1) = bpc m pc + len) (hlen : lenOf raw = 0 ∨ len = lenOf raw) (hz : rz m (bpc m pc) raw (.pop) = true)
    (he : x_pop pc L st S (exec N F m) none = some out) : W p l e R s mid args below meth c H locs cells slots Q (F0 mid (bpc m pc) ls (st.map (toV ad))) := by
  obtain ⟨hm264, hx, hb, hml, hown, hts, hini, hfr, hlo, hGS, hA, hX, hbl, hbA, hTX, hN⟩ := hC
  unfold x_pop at he
  rcases st with _ | ⟨v, st⟩
  · cases he
  dsimp only at he
  rcases hj : isJ v with _ | _ <;> rw [hj] at he <;> first | (cases he; done) | skip
  have hc : (toV ad v).category = 1 := by rcases v with v | v | v | v <;> first | rfl | cases hj
  have k := go_st ih hH he (okt hH.2.2.1)
  rw [hn] at k
  unfold rz at hz
  dsimp only at hz
  split at hz
  · rcases hlen with h | h
    · cases h
    · rw [h] at hd k
      exact lv_pop hx hb hd hc k
  · cases hz

theorem s_goto {t : Int} (hC : Cx N m G b xs p R s mid args meth c A H0) (ih : IH N F m G b xs out p l e R s mid args below meth c A H0 Q) (hH : Here N m G b xs out p l e R s mid args below meth c A H0 Q L st S ad H locs cells slots ls)
    {raw : Instr} {len : Nat} (hd : decode (mCode m) (bpc m pc) = .ok (raw, len)) (hn : bpc m (pc + 1) = bpc m pc + len) (hlen : lenOf raw = 0 ∨ len = lenOf raw) (hz : rz m (bpc m pc) raw (.goto t) = true)
    (he : exec N F m t.toNat L st S = some out) : W p l e R s mid args below meth c H locs cells slots Q (F0 mid (bpc m pc) ls (st.map (toV ad))) := by
  obtain ⟨hm264, hx, hb, hml, hown, hts, hini, hfr, hlo, hGS, hA, hX, hbl, hbA, hTX, hN⟩ := hC
  have k := go_st ih hH he hH.2.2.1
  unfold rz at hz
  dsimp only at hz
  split at hz
  · rcases hlen with h | h
    · cases h
    · rw [h] at hd
      exact lv_goto hx hb hd (of_decide_eq_true hz) k
  · cases hz

theorem s_ifnull {t : Int} (hC : Cx N m G b xs p R s mid args meth c A H0) (ih : IH N F m G b xs out p l e R s mid args below meth c A H0 Q) (hH : Here N m G b xs out p l e R s mid args below meth c A H0 Q L st S ad H locs cells slots ls)
    {raw : Instr} {len : Nat} (hd : decode (mCode m) (bpc m pc) = .ok (raw, len)) (hn : bpc m (pc + 1) = bpc m pc + len) (hlen : lenOf raw = 0 ∨ len = lenOf raw) (hz : rz m (bpc m pc) raw (.ifnull t) = true)
    (he : x_ifnull pc L st S (exec N F m) none = some out) : W p l e R s mid args below meth c H locs cells slots Q (F0 mid (bpc m pc) ls (st.map (toV ad))) := by
  obtain ⟨hm264, hx, hb, hml, hown, hts, hini, hfr, hlo, hGS, hA, hX, hbl, hbA, hTX, hN⟩ := hC
  unfold x_ifnull at he
  rcases st with _ | ⟨(x | (x | (x | x))), st⟩ <;> first | (cases he; done) | skip
  have hv := okh hH.2.2.1
  have hr := okt hH.2.2.1
  have k := go_st ih hH he hr
  rw [hn] at k
  unfold rz at hz
  dsimp only at hz
  split at hz
  · rcases hlen with h | h
    · cases h
    · rw [h] at hd k
      exact lv_ifnull hx hb hd k
  · cases hz

theorem s_icmp {cd : Jvm.ClassFile.Cond} {t : Int} (hC : Cx N m G b xs p R s mid args meth c A H0) (ih : IH N F m G b xs out p l e R s mid args below meth c A H0 Q) (hH : Here N m G b xs out p l e R s mid args below meth c A H0 Q L st S ad H locs cells slots ls)
    {raw : Instr} {len : Nat} (hd : decode (mCode m) (bpc m pc) = .ok (raw, len)) (hn : bpc m (pc + 1) = bpc m pc + len) (hlen : lenOf raw = 0 ∨ len = lenOf raw) (hz : rz m (bpc m pc) raw (.if_icmp cd t) = true)
    (he : x_icmp cd t.toNat pc L st S (exec N F m) none = some out) : W p l e R s mid args below meth c H locs cells slots Q (F0 mid (bpc m pc) ls (st.map (toV ad))) := by
  obtain ⟨hm264, hx, hb, hml, hown, hts, hini, hfr, hlo, hGS, hA, hX, hbl, hbA, hTX, hN⟩ := hC
  unfold x_icmp at he
  rcases st with _ | ⟨(y | (y | (y | y))), _ | ⟨(x | (x | (x | x))), st⟩⟩ <;> first | (cases he; done) | skip
  have hy := okh hH.2.2.1
  have hv := okh (okt hH.2.2.1)
  have hr := okt (okt hH.2.2.1)
  unfold rz at hz
  dsimp only at hz
  split at hz
  · obtain ⟨q1, q2⟩ := band_t hz
    have q1 := of_decide_eq_true q1
    have q2 := of_decide_eq_true q2
    subst q1
    rcases hlen with h | h
    · cases h
    rw [h] at hd hn
    have kT : exec N F m t.toNat L st S = some out → W p l e R s mid args below meth c H locs cells slots Q (F0 mid (bpc m t.toNat) ls (st.map (toV ad))) := fun he => go_st ih hH he hr
    have kF : exec N F m (pc + 1) L st S = some out → W p l e R s mid args below meth c H locs cells slots Q (F0 mid (bpc m pc + 3) ls (st.map (toV ad))) := fun he => by
      have k := go_st ih hH he hr
      rw [hn] at k
      exact k
    cases cd <;> dsimp only at he
    · by_cases h1 : x = y
      · rw [if_pos h1] at he
        exact lv_icmp_eq hx hb hd q2 (fun _ => kT he) (fun z => absurd ((eq32 hv hy).mpr h1) z)
      · rw [if_neg h1] at he
        exact lv_icmp_eq hx hb hd q2 (fun z => absurd ((eq32 hv hy).mp z) h1) (fun _ => kF he)
    · by_cases h1 : x = y
      · rw [if_pos h1] at he
        exact lv_icmp_ne hx hb hd q2 (fun z => absurd ((eq32 hv hy).mpr h1) z) (fun _ => kF he)
      · rw [if_neg h1] at he
        exact lv_icmp_ne hx hb hd q2 (fun _ => kT he) (fun z => absurd ((eq32 hv hy).mp z) h1)
    · by_cases h1 : x < y
      · rw [if_pos h1] at he
        exact lv_icmp_lt hx hb hd q2 (fun _ => kT he) (fun z => absurd ((lt32 hv hy).mpr h1) z)
      · rw [if_neg h1] at he
        exact lv_icmp_lt hx hb hd q2 (fun z => absurd ((lt32 hv hy).mp z) h1) (fun _ => kF he)
    · by_cases h1 : x < y
      · rw [if_pos h1] at he
        exact lv_icmp_ge hx hb hd q2 (fun z => absurd ((le32 hy hv).mp z) (by omega)) (fun _ => kF he)
      · rw [if_neg h1] at he
        exact lv_icmp_ge hx hb hd q2 (fun _ => kT he) (fun z => absurd ((le32 hy hv).mpr (by omega)) z)
    · by_cases h1 : y < x
      · rw [if_pos h1] at he
        exact lv_icmp_gt hx hb hd q2 (fun _ => kT he) (fun z => absurd ((lt32 hy hv).mpr h1) z)
      · rw [if_neg h1] at he
        exact lv_icmp_gt hx hb hd q2 (fun z => absurd ((lt32 hy hv).mp z) h1) (fun _ => kF he)
    · by_cases h1 : y < x
      · rw [if_pos h1] at he
        exact lv_icmp_le hx hb hd q2 (fun z => absurd ((le32 hv hy).mp z) (by omega)) (fun _ => kF he)
      · rw [if_neg h1] at he
        exact lv_icmp_le hx hb hd q2 (fun _ => kT he) (fun z => absurd ((le32 hv hy).mpr (by omega)) z)
  · cases hz

theorem s_ifc {cd : Jvm.ClassFile.Cond} {t : Int} (hC : Cx N m G b xs p R s mid args meth c A H0) (ih : IH N F m G b xs out p l e R s mid args below meth c A H0 Q) (hH : Here N m G b xs out p l e R s mid args below meth c A H0 Q L st S ad H locs cells slots ls)
    {raw : Instr} {len : Nat} (hd : decode (mCode m) (bpc m pc) = .ok (raw, len)) (hn : bpc m (pc + 1) = bpc m pc + len) (hlen : lenOf raw = 0 ∨ len = lenOf raw) (hz : rz m (bpc m pc) raw (.ifCond cd t) = true)
    (he : x_if cd t.toNat pc L st S (exec N F m) none = some out) : W p l e R s mid args below meth c H locs cells slots Q (F0 mid (bpc m pc) ls (st.map (toV ad))) := by
  obtain ⟨hm264, hx, hb, hml, hown, hts, hini, hfr, hlo, hGS, hA, hX, hbl, hbA, hTX, hN⟩ := hC
  unfold x_if at he
  rcases st with _ | ⟨(x | (x | (x | x))), st⟩ <;> first | (cases he; done) | skip
  have hv := okh hH.2.2.1
  have hr := okt hH.2.2.1
  unfold rz at hz
  dsimp only at hz
  split at hz
  · obtain ⟨q1, q2⟩ := band_t hz
    have q1 := of_decide_eq_true q1
    have q2 := of_decide_eq_true q2
    subst q1
    rcases hlen with h | h
    · cases h
    rw [h] at hd hn
    have kT : exec N F m t.toNat L st S = some out → W p l e R s mid args below meth c H locs cells slots Q (F0 mid (bpc m t.toNat) ls (st.map (toV ad))) := fun he => go_st ih hH he hr
    have kF : exec N F m (pc + 1) L st S = some out → W p l e R s mid args below meth c H locs cells slots Q (F0 mid (bpc m pc + 3) ls (st.map (toV ad))) := fun he => by
      have k := go_st ih hH he hr
      rw [hn] at k
      exact k
    cases cd <;> dsimp only at he
    · by_cases h1 : x = 0
      · rw [if_pos h1] at he
        exact lv_if_eq hx hb hd q2 (fun _ => kT he) (fun z => absurd ((eq32 hv in32_0).mpr h1) z)
      · rw [if_neg h1] at he
        exact lv_if_eq hx hb hd q2 (fun z => absurd ((eq32 hv in32_0).mp z) h1) (fun _ => kF he)
    · by_cases h1 : x = 0
      · rw [if_pos h1] at he
        exact lv_if_ne hx hb hd q2 (fun z => absurd ((eq32 hv in32_0).mpr h1) z) (fun _ => kF he)
      · rw [if_neg h1] at he
        exact lv_if_ne hx hb hd q2 (fun _ => kT he) (fun z => absurd ((eq32 hv in32_0).mp z) h1)
    · by_cases h1 : x < 0
      · rw [if_pos h1] at he
        exact lv_if_lt hx hb hd q2 (fun _ => kT he) (fun z => absurd ((lt32 hv in32_0).mpr h1) z)
      · rw [if_neg h1] at he
        exact lv_if_lt hx hb hd q2 (fun z => absurd ((lt32 hv in32_0).mp z) h1) (fun _ => kF he)
    · by_cases h1 : x < 0
      · rw [if_pos h1] at he
        exact lv_if_ge hx hb hd q2 (fun z => absurd ((le32 in32_0 hv).mp z) (by omega)) (fun _ => kF he)
      · rw [if_neg h1] at he
        exact lv_if_ge hx hb hd q2 (fun _ => kT he) (fun z => absurd ((le32 in32_0 hv).mpr (by omega)) z)
    · by_cases h1 : 0 < x
      · rw [if_pos h1] at he
        exact lv_if_gt hx hb hd q2 (fun _ => kT he) (fun z => absurd ((lt32 in32_0 hv).mpr h1) z)
      · rw [if_neg h1] at he
        exact lv_if_gt hx hb hd q2 (fun z => absurd ((lt32 in32_0 hv).mp z) h1) (fun _ => kF he)
    · by_cases h1 : 0 < x
      · rw [if_pos h1] at he
        exact lv_if_le hx hb hd q2 (fun z => absurd ((le32 hv in32_0).mp z) (by omega)) (fun _ => kF he)
      · rw [if_neg h1] at he
        exact lv_if_le hx hb hd q2 (fun _ => kT he) (fun z => absurd ((le32 hv in32_0).mpr (by omega)) z)
  · cases hz

end WALK
