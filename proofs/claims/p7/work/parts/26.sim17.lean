/-! CALLS: what a call goes on with -/
theorem blindW {N : Nat} {G : GT} {b : Nat} {xs : Nat → Int32} {ad : AdT} {S : MS} {sz : Nat} (vs : List Value) : FrameBlind (va_Pc vs (PreW N G b xs ad S sz)) := by
  intro a U g mk q
  obtain ⟨q0, q1, q2, q3, q4, q5, q6, q7, q8⟩ := q
  have hv : U.vm.Alike (U.calling g mk a).vm := Vm.Alike.refl U.vm
  exact ⟨q0, q1, q2, ⟨va_K.moved hv q3.1, fun a' i k h => va_Nw.same rfl rfl (q3.2.1 a' i k h), fun a' i k h => vk_R.same rfl (q3.2.2 a' i k h)⟩, q4, va_X.moved hv q5, q6, q7, TXc.moved hv q8⟩
theorem wcs1_all : allL (fun q => cond (Nat.beq q.1 1) (Nat.blt q.2.2.2 264) true) wcs = true := by decide +kernel
theorem wcs1 {a i k : Nat} (h : elemW (1, a, i, k) = true) : k < 264 := by
  have h1 := allL_in wcs1_all _ (elemW_in h)
  dsimp only at h1
  have h2 : Nat.beq 1 1 = true := rfl
  rw [h2, cond_true] at h1
  exact Nat.le_of_ble_eq_true h1
theorem fr0_all : allR (fun m => Nat.ble (mFr m) (mFr 0)) 0 264 = true := by decide +kernel
theorem roomOk_t {m k : Nat} (hm : m < 264) (h : roomOk m k = true) : 0 < k ∧ mFr k + 1 ≤ mFr m ∧ 8 + (mMaxL k + 11) + mLo k ≤ mLo m := by
  obtain ⟨h1, h2⟩ := band_t h
  have h1 := Nat.le_of_ble_eq_true h1
  have h2 := Nat.le_of_ble_eq_true h2
  have z3 : Nat.ble (mFr m) (mFr 0) = true := allR_at (f := fun m => Nat.ble (mFr m) (mFr 0)) 264 0 m fr0_all (by omega) (by omega)
  have h3 : mFr m ≤ mFr 0 := Nat.le_of_ble_eq_true z3
  refine ⟨?_, h1, h2⟩
  rcases Nat.eq_zero_or_pos k with e | e
  · subst e; omega
  · exact e
theorem cal_t {k : Nat} (h0 : 0 < k) (hk : k < 264) : elemW (3, k, 0, 0) = true ∧ elemW (8, mOwn k, 0, 0) = true ∧ mOwn k < 60 := by
  have h := calAll k hk h0
  obtain ⟨h1, h2⟩ := band_t h
  obtain ⟨h2, h3⟩ := band_t h2
  exact ⟨h1, h2, Nat.le_of_ble_eq_true h3⟩
theorem mArg_k {k : Nat} (hk : k < 264) : (parseMethodDescriptor (mN k).desc).map (fun d => d.parameters.length) = some (cond (mSt k) (mArg k) (mArg k - 1)) := of_decide_eq_true (allR_at 264 0 k mArg_ok (by omega) (by omega))
theorem parse_len {d : String} {n : Nat} (h : (parseMethodDescriptor d).map (fun d => d.parameters.length) = some n) : ∀ sig, parseMethodDescriptor d = some sig → n = sig.parameters.length := by
  intro sig hs
  rw [hs] at h
  exact (Option.some.inj h).symm
theorem nest_k {a i k : Nat} (h : nestOk a i k = true) : k = 149 := by
  unfold nestOk at h
  unfold band3 at h
  rcases z1 : Nat.beq k 149 with _ | _
  · rw [z1] at h
    generalize Nat.beq a 5 = x1 at h
    generalize Nat.beq a 2 = x2 at h
    generalize Nat.beq i 70 = x3 at h
    generalize Nat.beq i 119 = x4 at h
    cases x1 <;> cases x2 <;> cases x3 <;> cases x4 <;> cases h
  · exact Nat.eq_of_beq_eq_true z1
section WALK
variable {N m : Nat} {G : GT} {b : Nat} {xs : Nat → Int32} {out : Out}
variable {p : Program} {l : Launch} {e : Env} {R : Room} {s : State} {mid : MethodId} {args : Array Value} {below : List Frame} {meth : Method} {c : Code} {A : Nat → Prop} {H0 : Heap} {Q : State → Prop}
variable {F pc : Nat} {L st : List MV} {S : MS} {ad : AdT} {H : Heap} {locs : List Loc} {cells slots : Nat} {ls : Array Slot}
theorem code_k {k : Nat} (hts : ∀ w ∈ gw, w.before args s = true) (h0 : 0 < k) (hk : k < 264) : (∀ w ∈ wsK k, ∀ (a' : Array Value) (U : State), s.WarmedH U.vm → w.before a' U = true) ∧ (Cond.code (mN k) (mCode k) (mMaxL k) (mRetT k)).before args s = true ∧ (Cond.initialized (mN k).cls).before args s = true ∧ ((mN k).cls ≠ "java/lang/invoke/MethodHandle" ∧ (mN k).cls ≠ "java/lang/invoke/VarHandle") := by
  obtain ⟨h1, h2, h3⟩ := cal_t h0 hk
  have g1 := gw_of h1 rfl
  have g2 := gw_of h2 rfl
  rw [wd_3] at g1
  rw [wd_8] at g2
  refine ⟨pay_in hts (fun w hw => ?_), hts _ g1, hts _ g2, cN_plain _ h3⟩
  rcases List.mem_cons.mp hw with e | e
  · rw [e]; exact gw_GoodIn _ g1
  · exact gw_GoodIn w e
theorem pre_of {S : MS} (hC : Cx N m G b xs p R s mid args meth c A H0) (hW : Wd N G b xs A H0 S ad H locs) (as : List MV) : ∀ U : State, U.heap = H → s.WarmedH U.vm → va_Pc (as.map (toV ad)) (PreW N G b xs ad S H.size) (as.map (toV ad)).toArray U := by
  intro U hU hWm
  obtain ⟨hm264, hx, hb, hml, hown, hts, hini, hfr, hlo, hGS, hA, hX, hbl, hbA, hTX, hN⟩ := hC
  obtain ⟨w1, w2, w3, w4, w5, w6, w7, w8⟩ := hW
  have hF : ∀ q, va_A (wl G ad S) H.size q → A q := by
    intro q h
    rcases h with ⟨k, e, h⟩ | h
    · exact w2.2 k (q, e) h
    · exact hA q (Nat.le_trans w3.1 h)
  refine ⟨rfl, by rw [hU], by rw [hU]; exact w1, ⟨va_K.moved hWm.alike hGS.1, fun a' i k h => va_Nw.warmM hWm (hGS.2.1 a' i k h), fun a' i k h => vk_R.warm hWm (hGS.2.2 a' i k h)⟩, w2.self, ?_, Nat.lt_of_lt_of_le hbl w3.1, ?_, ?_⟩
  · rw [hU]
    exact va_X.moved hWm.alike (va_X.kept hX (w3.2.1 b hbl hbA))
  · intro h
    exact hbA (hF b h)
  · rw [hU]
    exact TXc.moved hWm.alike ((hTX.kept w3.2.1).narrow hF)
theorem go_call {rest : List MV} {y : Out} (hC : Cx N m G b xs p R s mid args meth c A H0) (ih : IH N F m G b xs out p l e R s mid args below meth c A H0 Q) (hH : Here N m G b xs out p l e R s mid args below meth c A H0 Q L st S ad H locs cells slots ls)
    (hst : ∀ v ∈ rest, okV S.1 v) (hy : S.1 ≤ y.2.1) (he : exec N F m (pc + 1) L (push y.1 rest) y.2 = some out) (hn : bpc m (pc + 1) = bpc m pc + 3) {a : Array Value}
    (hr : va_Run p l e R s mid args below meth c H locs cells slots (y.2.1 - S.1) (slN y.2.1 - slN S.1) (F0 mid (bpc m pc) ls (st.map (toV ad))) (rest.map (toV ad)) (QcW N G b xs y ad S H.size a) (va_A (wl G ad S) H.size)) : W p l e R s mid args below meth c H locs cells slots Q (F0 mid (bpc m pc) ls (st.map (toV ad))) := by
  obtain ⟨hm264, hx, hb, hml, hown, hts, hini, hfr, hlo, hGS, hA, hX, hbl, hbA, hTX, hN⟩ := hC
  intro T hT X
  obtain ⟨v, st₀, t, T', L', h0, X', hL', e1, e2, ⟨⟨ad1, hv, hag, hP1, hD1, hrest1, hV⟩, hz, hkk⟩, stp⟩ := hr T hT X
  have hv : v = y.1.map (toV ad1) := by cases hv; rfl
  subst hv
  rw [h0] at hz hkk
  obtain ⟨⟨w1, w2, w3, w4, w5, w6, w7, w8⟩, h2, h3, h4, h5, h6, h7, h8, h9⟩ := hH
  obtain ⟨r1, r2, r3, r4, r5⟩ := hrest1
  have hF : ∀ q, va_A (wl G ad S) H.size q → A q := by
    intro q h
    rcases h with ⟨k, e, h⟩ | h
    · exact w2.2 k (q, e) h
    · exact hA q (Nat.le_trans w3.1 h)
  have hsame : ∀ v, okV S.1 v → toV ad1 v = toV ad v := fun v hv => toV_same hag (r1.trans w4.symm) (fun i hi => (r2 i hi).trans (w5 i hi).symm) hv
  have hmono := exec_n _ _ _ _ _ _ _ he
  have hsl := slN_mono hy
  have hsl2 := slN_mono hmono
  have hS1 : va_S A H0 T'.heap (locs ++ L') := by
    refine ⟨Nat.le_trans w3.1 (by rw [e1]; exact hz), fun q g1 g2 => ?_, fun q hq => ?_⟩
    · rw [e1, hkk q (Nat.lt_of_lt_of_le g1 w3.1) (fun z => g2 (hF q z))]
      exact w3.2.1 q g1 g2
    · rcases List.mem_append.mp hq with h | h
      · exact w3.2.2 q h
      · exact hF _ (hL' q h)
  have k0 := ih (pc + 1) L (push y.1 rest) y.2 ad1 T'.heap (locs ++ L') (cells + (y.2.1 - S.1)) (slots + (slN y.2.1 - slN S.1)) ls he
    ⟨⟨by rw [e1]; exact hP1, hD1.weaken (fun k q _ h => hF q.1 h), hS1, r1, r2, r3, r4, r5⟩, fun v hv => okV_mono hy (h2 v hv), fun v hv => ?_, h4, ⟨h5.1, h5.2.1, fun j v hj hv => ?_⟩, h6, ?_, ?_, ?_⟩
  · obtain ⟨t2, a1, b1⟩ := k0 T' rfl X'
    refine ⟨t2, stp t2 ?_, b1⟩
    have e3 : (push y.1 rest).map (toV ad1) = (y.1.map (toV ad1)).toList ++ rest.map (toV ad) := by
      have e4 : rest.map (toV ad1) = rest.map (toV ad) := List.map_congr_left (fun v hv => hsame v (hst v hv))
      rcases y.1 with _ | v
      · exact e4
      · show toV ad1 v :: rest.map (toV ad1) = toV ad1 v :: rest.map (toV ad)
        rw [e4]
    rw [e3, hn] at a1
    exact a1
  · rcases z : y.1 with _ | u
    · rw [z] at hv
      exact okV_mono hy (hst v hv)
    · rw [z] at hv
      rcases List.mem_cons.mp (show v ∈ u :: rest from hv) with q | q
      · rw [q]; exact hV u z
      · exact okV_mono hy (hst v q)
  · rw [hsame v (h2 v (nth_mem _ _ _ hj))]
    exact h5.2.2 j v hj hv
  · show cells + (y.2.1 - S.1) + out.2.1 ≤ R.cells + y.2.1
    omega
  · show slots + (slN y.2.1 - slN S.1) + slN out.2.1 ≤ R.slots + slN y.2.1
    omega
  · intro ad2 H2 locs2 cells1 slots1 pc1 ls1 hag2 hW2 hc1 hs1 hE hV2
    refine h9 ad2 H2 locs2 cells1 slots1 pc1 ls1 (fun q' hq' => ?_) hW2 ?_ ?_ hE hV2
    · obtain ⟨a, ha, hqa⟩ := hq'
      rw [hag2 q' ⟨a, Nat.lt_of_lt_of_le ha hy, hqa⟩, hag q' ⟨a, ha, hqa⟩]
    · have : cells1 + y.2.1 = cells + (y.2.1 - S.1) + out.2.1 := hc1
      omega
    · have : slots1 + slN y.2.1 = slots + (slN y.2.1 - slN S.1) + slN out.2.1 := hs1
      omega
theorem xcall_t {k : Nat} {inv : Nat → List MV → MS → Option Out} {K : KT (Option Out)} (he : xcall inv k pc L st S K = some out) : ∃ (as rest : List MV) (y : Out), takeR (mArg k) st [] = some (as, rest) ∧ recvOk k as = true ∧ wordsOf rest ≤ 8 ∧ inv k as S = some y ∧ K (pc + 1) L (push y.1 rest) y.2 = some out := by
  unfold xcall at he
  rcases ht : takeR (mArg k) st [] with _ | ⟨as, rest⟩ <;> rw [ht] at he
  · cases he
  dsimp only at he
  rcases g1 : recvOk k as with _ | _ <;> rw [g1] at he
  · cases he
  rw [cond_true] at he
  rcases g2 : Nat.ble (wordsOf rest) 8 with _ | _ <;> rw [g2] at he
  · cases he
  rw [cond_true] at he
  obtain ⟨y, h1, h2⟩ := bnd_some he
  exact ⟨as, rest, y, rfl, g1, Nat.le_of_ble_eq_true g2, h1, h2⟩
theorem nil_sum : 2 * (0 : Nat) = 0 := rfl
theorem s_ics {k : Nat} (hM : MetK N F l) (hC : Cx N m G b xs p R s mid args meth c A H0) (ih : IH N F m G b xs out p l e R s mid args below meth c A H0 Q) (hH : Here N m G b xs out p l e R s mid args below meth c A H0 Q L st S ad H locs cells slots ls)
    {raw : Instr} {len : Nat} (hd : decode (mCode m) (bpc m pc) = .ok (raw, len)) (hn : bpc m (pc + 1) = bpc m pc + len) (hlen : lenOf raw = 0 ∨ len = lenOf raw) (hz : rz m (bpc m pc) raw (.invokestatic k) = true)
    (he : xcall (fun k as S => exec N F k 0 (mkL k as) [] S) k pc L st S (exec N F m) = some out) : W p l e R s mid args below meth c H locs cells slots Q (F0 mid (bpc m pc) ls (st.map (toV ad))) := by
  obtain ⟨as, rest, y, ht, hrv, hwr, hy, he⟩ := xcall_t he
  have hCC := hC
  obtain ⟨hm264, hx, hb, hml, hown, hts, hini, hfr, hlo, hGS, hA, hX, hbl, hbA, hTX, hN⟩ := hC
  obtain ⟨ts, t1, t2, t3⟩ := takeR_spec _ _ _ _ _ ht
  rw [List.append_nil] at t3
  have t4 : ts = as.reverse := by rw [t3, List.reverse_reverse]
  have t5 : as.length = mArg k := by rw [t3, List.length_reverse]; exact t1
  rw [t4] at t2
  have hok : ∀ v ∈ as, okV S.1 v := fun v hv => hH.2.2.1 v (by rw [t2]; exact List.mem_append_left _ (List.mem_reverse.mpr hv))
  have hor : ∀ v ∈ rest, okV S.1 v := fun v hv => hH.2.2.1 v (by rw [t2]; exact List.mem_append_right _ hv)
  have hm1 := exec_n _ _ _ _ _ _ _ hy
  have hm2 := exec_n _ _ _ _ _ _ _ he
  have hs1 := slN_mono hm1
  have hs2 := slN_mono hm2
  unfold rz at hz
  dsimp only at hz
  split at hz
  · rename_i idx
    obtain ⟨h1, h2⟩ := band_t hz
    obtain ⟨h2, h3⟩ := band_t h2
    rcases hlen with h | h
    · cases h
    rw [h] at hd hn
    obtain ⟨k0, kf, kl⟩ := roomOk_t hm264 h2
    have hcells := hH.2.2.2.2.2.2.1
    have hslots := hH.2.2.2.2.2.2.2.1
    have hk : k < 264 := by
      cases z : elemW (1, mOwn m, idx, k) <;> rw [z] at h3
      · rw [nest_k h3]; decide
      · exact wcs1 z
    obtain ⟨c1, c2, c3, c4⟩ := code_k (args := args) hts k0 hk
    have hpar := mArg_k hk
    rw [h1, cond_true] at hpar
    have hMk := hM k G b xs as S y ad H.size k0 hk hy hrv hok ⟨hH.1.2.2.2.1, hH.1.2.2.2.2.1, hH.1.2.2.2.2.2.1, hH.1.2.2.2.2.2.2.1, hH.1.2.2.2.2.2.2.2⟩ hN
    have hst : st.map (toV ad) = (as.map (toV ad)).reverse ++ rest.map (toV ad) := by rw [t2, List.map_append, List.map_reverse]
    have hmon : 2 * (F0 mid (bpc m pc) ls (st.map (toV ad))).monitorRoom + ((rest.map (toV ad)).map fun v => v.category).sum ≤ 8 := by
      rw [words_eq]
      show 2 * 0 + _ ≤ 8
      omega
    refine go_call hCC ih hH hor hm1 he hn (a := (as.map (toV ad)).toArray) ?_
    cases z : elemW (1, mOwn m, idx, k) <;> rw [z] at h3
    · rw [cond_false] at h3
      have w4 : (Cond.static (mN k)).before args s = true := by
        rw [nest_k h3]
        have := hts _ (gw_of (q := (4, 149, 0, 0)) (by decide +kernel) rfl)
        rw [wd_4] at this
        exact this
      have w1 := hGS.2.1 _ _ _ h3
      exact va_runSN ⟨hx, hb, hml, hown, hts⟩ hMk ⟨⟨⟨rfl, rfl, by show mFr k + 1 ≤ R.frames; omega, by show 8 + (mMaxL k + 11) + mLo k ≤ R.locals; omega, c1, List.mem_cons_self⟩, c2, c3, c4, parse_len hpar, va_Nw.use rfl w1⟩, w4, trivial⟩ ⟨blindW _, pre_of hCC hH.1 as⟩ rfl (by rw [List.length_map]; exact t5) (hH.2.2.2.2.1.1.trans hH.2.2.2.2.2.1) hst hmon hd ⟨by omega, by omega⟩
    · rw [cond_true] at h3
      have w1 := hts _ (gw_of z rfl)
      have w4 := hts _ (gw_of h3 rfl)
      rw [wd_1] at w1
      rw [wd_4] at w4
      exact va_runS ⟨hx, hb, hml, hown, hts⟩ hMk ⟨⟨rfl, rfl, by show mFr k + 1 ≤ R.frames; omega, by show 8 + (mMaxL k + 11) + mLo k ≤ R.locals; omega, c1, List.mem_cons_self, c2, c3, c4, parse_len hpar, w1⟩, w4⟩ ⟨blindW _, pre_of hCC hH.1 as⟩ rfl (by rw [List.length_map]; exact t5) (hH.2.2.2.2.1.1.trans hH.2.2.2.2.2.1) hst hmon hd ⟨by omega, by omega⟩
  · cases hz
/-- the receiver stands first -/
theorem recv_t {k : Nat} {as : List MV} (h : cond (mSt k) true (recvC k as) = true) (hs : mSt k = false) : ∃ (k' i' : Nat) (as' : List MV), as = .inr (.inr (.inl (k', i'))) :: as' ∧ kCls k' = mCls k := by
  rw [hs, cond_false] at h
  rcases as with _ | ⟨(x | (x | (⟨k', i'⟩ | x))), as'⟩ <;> first | (cases h; done) | skip
  exact ⟨k', i', as', rfl, Nat.eq_of_beq_eq_true h⟩
theorem not_t {x : Bool} (h : cond x false true = true) : x = false := by cases x <;> first | rfl | cases h
theorem s_icv {k : Nat} (hM : MetK N F l) (hC : Cx N m G b xs p R s mid args meth c A H0) (ih : IH N F m G b xs out p l e R s mid args below meth c A H0 Q) (hH : Here N m G b xs out p l e R s mid args below meth c A H0 Q L st S ad H locs cells slots ls)
    {raw : Instr} {len : Nat} (hd : decode (mCode m) (bpc m pc) = .ok (raw, len)) (hn : bpc m (pc + 1) = bpc m pc + len) (hlen : lenOf raw = 0 ∨ len = lenOf raw) (hz : rz m (bpc m pc) raw (.invokevirtual k) = true)
    (he : xcall (fun k as S => exec N F k 0 (mkL k as) [] S) k pc L st S (exec N F m) = some out) : W p l e R s mid args below meth c H locs cells slots Q (F0 mid (bpc m pc) ls (st.map (toV ad))) := by
  obtain ⟨as, rest, y, ht, hrv, hwr, hy, he⟩ := xcall_t he
  have hCC := hC
  obtain ⟨hm264, hx, hb, hml, hown, hts, hini, hfr, hlo, hGS, hA, hX, hbl, hbA, hTX, hN⟩ := hC
  obtain ⟨ts, t1, t2, t3⟩ := takeR_spec _ _ _ _ _ ht
  rw [List.append_nil] at t3
  have t4 : ts = as.reverse := by rw [t3, List.reverse_reverse]
  have t5 : as.length = mArg k := by rw [t3, List.length_reverse]; exact t1
  rw [t4] at t2
  have hok : ∀ v ∈ as, okV S.1 v := fun v hv => hH.2.2.1 v (by rw [t2]; exact List.mem_append_left _ (List.mem_reverse.mpr hv))
  have hor : ∀ v ∈ rest, okV S.1 v := fun v hv => hH.2.2.1 v (by rw [t2]; exact List.mem_append_right _ hv)
  have hm1 := exec_n _ _ _ _ _ _ _ hy
  have hm2 := exec_n _ _ _ _ _ _ _ he
  have hs1 := slN_mono hm1
  have hs2 := slN_mono hm2
  unfold rz at hz
  dsimp only at hz
  split at hz
  · rename_i idx
    obtain ⟨h1, h2⟩ := band_t hz
    obtain ⟨h2, h3⟩ := band_t h2
    obtain ⟨h3, h4⟩ := band_t h3
    obtain ⟨h4, h5⟩ := band_t h4
    obtain ⟨h5, h6⟩ := band_t h5
    obtain ⟨h6, h7⟩ := band_t h6
    have h1 := not_t h1
    have h6 := Nat.eq_of_beq_eq_true h6
    have h7 : mCls k + 1 ≤ 9 := Nat.le_of_ble_eq_true h7
    rcases hlen with h | h
    · cases h
    rw [h] at hd hn
    obtain ⟨k0, kf, kl⟩ := roomOk_t hm264 h2
    have hcells := hH.2.2.2.2.2.2.1
    have hslots := hH.2.2.2.2.2.2.2.1
    have hk : k < 264 := wcs1 h3
    obtain ⟨c1, c2, c3, c4⟩ := code_k (args := args) hts k0 hk
    have hpar := mArg_k hk
    rw [h1, cond_false] at hpar
    have hMk := hM k G b xs as S y ad H.size k0 hk hy hrv hok ⟨hH.1.2.2.2.1, hH.1.2.2.2.2.1, hH.1.2.2.2.2.2.1, hH.1.2.2.2.2.2.2.1, hH.1.2.2.2.2.2.2.2⟩ hN
    have hmon : 2 * (F0 mid (bpc m pc) ls (st.map (toV ad))).monitorRoom + ((rest.map (toV ad)).map fun v => v.category).sum ≤ 8 := by
      rw [words_eq]
      show 2 * 0 + _ ≤ 8
      omega
    obtain ⟨k', i', as', ha, hc'⟩ := recv_t (argOk_t hrv).2.2 h1
    subst ha
    have hst : st.map (toV ad) = (as'.map (toV ad)).reverse ++ .ref (ad k' i') :: rest.map (toV ad) := by
      rw [t2, List.map_append, List.map_reverse, List.map_cons, List.reverse_cons, List.append_assoc]
      rfl
    obtain ⟨a9, ha9, ho9⟩ := vld_obj (okh hok) (by omega)
    have h0 : kTag k' = 0 := (ords_kd ho9).2.2.2.2.2 (by dsimp only; omega)
    have hw9 := wl_at (G := G) (ad := ad) ha9 ho9
    rw [ent_0 h0] at hw9
    have w1 := hts _ (gw_of h3 rfl)
    have w2 := hts _ (gw_of h4 rfl)
    rw [wd_1] at w1
    rw [wd_2] at w2
    have w3 : (Cond.selects (cN (mOwn k)) (mN k) (mN k)).before args s = true := by
      cases z : elemW (13, k, 0, 0) <;> rw [z] at h5
      · exact hts _ (gw_sel (elemN_in _ _ h5))
      · have := hts _ (gw_of z rfl)
        rw [wd_13] at this
        exact this
    refine go_call hCC ih hH hor hm1 he hn (a := (Value.ref (ad k' i') :: as'.map (toV ad)).toArray) ?_
    refine va_runV (C := cN (mOwn k)) ⟨hx, hb, hml, hown, hts⟩ hMk ⟨⟨rfl, rfl, by show mFr k + 1 ≤ R.frames; omega, by show 8 + (mMaxL k + 11) + mLo k ≤ R.locals; omega, c1, List.mem_cons_self, c2, c3, c4, parse_len hpar, w1⟩, w2, w3⟩ ⟨blindW _, ?_, pre_of hCC hH.1 (.inr (.inr (.inl (k', i'))) :: as')⟩ rfl (by rw [List.length_map]; rw [List.length_cons] at t5; omega) (hH.2.2.2.2.1.1.trans hH.2.2.2.2.2.1) hst hmon hd ⟨by omega, by omega⟩
    have hc9 := cls_at (ci := kCls k') (by omega)
    have hr9 := va_recv hGS.1 hH.1.1 hc9 hw9
    rw [hc', ← h6] at hr9
    exact hr9
  · cases hz
theorem s_ici {k : Nat} (hM : MetK N F l) (hC : Cx N m G b xs p R s mid args meth c A H0) (ih : IH N F m G b xs out p l e R s mid args below meth c A H0 Q) (hH : Here N m G b xs out p l e R s mid args below meth c A H0 Q L st S ad H locs cells slots ls)
    {raw : Instr} {len : Nat} (hd : decode (mCode m) (bpc m pc) = .ok (raw, len)) (hn : bpc m (pc + 1) = bpc m pc + len) (hlen : lenOf raw = 0 ∨ len = lenOf raw) (hz : rz m (bpc m pc) raw (.invokespecial k) = true)
    (he : xcall (fun k as S => exec N F k 0 (mkL k as) [] S) k pc L st S (exec N F m) = some out) : W p l e R s mid args below meth c H locs cells slots Q (F0 mid (bpc m pc) ls (st.map (toV ad))) := by
  obtain ⟨as, rest, y, ht, hrv, hwr, hy, he⟩ := xcall_t he
  have hCC := hC
  obtain ⟨hm264, hx, hb, hml, hown, hts, hini, hfr, hlo, hGS, hA, hX, hbl, hbA, hTX, hN⟩ := hC
  obtain ⟨ts, t1, t2, t3⟩ := takeR_spec _ _ _ _ _ ht
  rw [List.append_nil] at t3
  have t4 : ts = as.reverse := by rw [t3, List.reverse_reverse]
  have t5 : as.length = mArg k := by rw [t3, List.length_reverse]; exact t1
  rw [t4] at t2
  have hok : ∀ v ∈ as, okV S.1 v := fun v hv => hH.2.2.1 v (by rw [t2]; exact List.mem_append_left _ (List.mem_reverse.mpr hv))
  have hor : ∀ v ∈ rest, okV S.1 v := fun v hv => hH.2.2.1 v (by rw [t2]; exact List.mem_append_right _ hv)
  have hm1 := exec_n _ _ _ _ _ _ _ hy
  have hm2 := exec_n _ _ _ _ _ _ _ he
  have hs1 := slN_mono hm1
  have hs2 := slN_mono hm2
  unfold rz at hz
  dsimp only at hz
  split at hz
  · rename_i idx
    obtain ⟨h1, h2⟩ := band_t hz
    obtain ⟨h2, h3⟩ := band_t h2
    obtain ⟨h3, h4⟩ := band_t h3
    obtain ⟨h4, h5⟩ := band_t h4
    obtain ⟨h5, h6⟩ := band_t h5
    have h1 := not_t h1
    have h6 := Nat.eq_of_beq_eq_true h6
    rcases hlen with h | h
    · cases h
    rw [h] at hd hn
    obtain ⟨k0, kf, kl⟩ := roomOk_t hm264 h2
    have hcells := hH.2.2.2.2.2.2.1
    have hslots := hH.2.2.2.2.2.2.2.1
    have hk : k < 264 := wcs1 h3
    obtain ⟨c1, c2, c3, c4⟩ := code_k (args := args) hts k0 hk
    have hpar := mArg_k hk
    rw [h1, cond_false] at hpar
    have hMk := hM k G b xs as S y ad H.size k0 hk hy hrv hok ⟨hH.1.2.2.2.1, hH.1.2.2.2.2.1, hH.1.2.2.2.2.2.1, hH.1.2.2.2.2.2.2.1, hH.1.2.2.2.2.2.2.2⟩ hN
    have hmon : 2 * (F0 mid (bpc m pc) ls (st.map (toV ad))).monitorRoom + ((rest.map (toV ad)).map fun v => v.category).sum ≤ 8 := by
      rw [words_eq]
      show 2 * 0 + _ ≤ 8
      omega
    obtain ⟨k', i', as', ha, hc'⟩ := recv_t (argOk_t hrv).2.2 h1
    subst ha
    have hst : st.map (toV ad) = (as'.map (toV ad)).reverse ++ .ref (ad k' i') :: rest.map (toV ad) := by
      rw [t2, List.map_append, List.map_reverse, List.map_cons, List.reverse_cons, List.append_assoc]
      rfl
    have w1 := hts _ (gw_of h3 rfl)
    have w2 := hts _ (gw_of h4 rfl)
    rw [wd_1] at w1
    rw [wd_2] at w2
    have hrt : mRetT k = none := ret0 (by have := mRet_k hk; rw [h6] at this; exact this)
    rw [hrt] at c2
    refine go_call hCC ih hH hor hm1 he hn (a := (Value.ref (ad k' i') :: as'.map (toV ad)).toArray) ?_
    exact va_runI ⟨hx, hb, hml, hown, hts⟩ hMk ⟨⟨rfl, rfl, by show mFr k + 1 ≤ R.frames; omega, by show 8 + (mMaxL k + 11) + mLo k ≤ R.locals; omega, c1, by rw [← hrt]; exact List.mem_cons_self, c2, c3, c4, parse_len hpar, w1⟩, mInit_nm k hk h5, w2⟩ ⟨blindW _, pre_of hCC hH.1 (.inr (.inr (.inl (k', i'))) :: as')⟩ rfl (by rw [List.length_map]; rw [List.length_cons] at t5; omega) (hH.2.2.2.2.1.1.trans hH.2.2.2.2.2.1) hst hmon hd ⟨by omega, by omega⟩
  · cases hz
end WALK
