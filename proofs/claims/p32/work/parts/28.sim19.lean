/-! TEXTS: length, charAt; and THE WALK -/
section WALK
variable {N m : Nat} {G : GT} {b : Nat} {xs : Nat → Int32} {out : Out}
variable {p : Program} {l : Launch} {e : Env} {R : Room} {s : State} {mid : MethodId} {args : Array Value} {below : List Frame} {meth : Method} {c : Code} {A : Nat → Prop} {H0 : Heap} {Q : State → Prop}
variable {F pc : Nat} {L st : List MV} {S : MS} {ad : AdT} {H : Heap} {locs : List Loc} {cells slots : Nat} {ls : Array Slot}
theorem ofInt_nat (n : Nat) : Int32.ofInt (n : Int) = Int32.ofNat n := by
  first
    | exact Int32.ofInt_eq_ofNat
    | rfl
    | (rw [← Int32.toInt_inj]; simp)
theorem ord_lt {a : Nat} {q : Nat × Nat} (h : nth ords a = some q) : q.1 < 999 := (ords_kd h).1
/-- a text that is a value is one of the sixteen -/
theorem okV_tx {n i : Nat} (h : okV n (vR 1000 i)) : i < 16 := by
  rcases h with ⟨a, ha, ho⟩ | h | ⟨-, h⟩
  · have := ord_lt ho
    dsimp only at this
    omega
  · cases h
  · exact h
/-- behind a call that makes and writes nothing of ours -/
theorem wd_still {H1 : Heap} {locs1 : List Loc} (hW : Wd N G b xs A H0 S ad H locs) (hk : ∀ q : Nat, q < H.size → ¬ va_A [] H.size q → H1[q]? = H[q]?) (hS : va_S A H0 H1 locs1) : Wd N G b xs A H0 S ad H1 locs1 := by
  obtain ⟨w1, w2, w3, w4⟩ := hW
  refine ⟨fun i q hi => (w1 i q hi).kept (hk q.1 (w1 i q hi).lt ?_), w2, hS, w4⟩
  rintro (⟨k, e, h⟩ | h)
  · simp at h
  · have := (w1 i q hi).lt
    omega
theorem s_slen (hC : Cx N m G b xs p R s mid args meth c A H0) (ih : IH N F m G b xs out p l e R s mid args below meth c A H0 Q) (hH : Here N m G b xs out p l e R s mid args below meth c A H0 Q L st S ad H locs cells slots ls)
    {raw : Instr} {len : Nat} (hd : decode (mCode m) (bpc m pc) = .ok (raw, len)) (hn : bpc m (pc + 1) = bpc m pc + len) (hlen : lenOf raw = 0 ∨ len = lenOf raw) (hz : rz m (bpc m pc) raw .ddiv = true)
    (he : x_slen pc L st S (exec N F m) none = some out) : W p l e R s mid args below meth c H locs cells slots Q (F0 mid (bpc m pc) ls (st.map (toV ad))) := by
  obtain ⟨hm264, hx, hb, hml, hown, hts, hini, hfr, hlo, hGS, hA, hX, hbl, hbA, hTX, hN⟩ := hC
  unfold x_slen at he
  rcases st with _ | ⟨(x | (x | (⟨k, i⟩ | x))), st⟩ <;> first | (cases he; done) | skip
  have hv := okh hH.2.2.1
  have hr := okt hH.2.2.1
  dsimp only at he
  rcases g1 : Nat.beq k 1000 with _ | _ <;> rw [g1] at he <;> first | (cases he; done) | skip
  rw [cond_true] at he
  rcases g3 : Nat.ble (wordsOf st) 8 with _ | _ <;> rw [g3] at he <;> first | (cases he; done) | skip
  rw [cond_true] at he
  have hi : i < 16 := by
    have e1 := Nat.eq_of_beq_eq_true g1
    subst e1
    exact okV_tx hv
  obtain ⟨-, l1, l2⟩ := of_decide_eq_true (allR_at 16 0 i len_all (by omega) (by omega))
  have hin : in32 (sLen i) := by unfold in32; omega
  have g1 := Nat.eq_of_beq_eq_true g1
  subst g1
  have g3 := Nat.le_of_ble_eq_true g3
  unfold rz at hz
  dsimp only at hz
  split at hz
  · rename_i idx
    obtain ⟨h1, h2⟩ := band_t hz
    obtain ⟨h1, h3⟩ := roomI_t h1
    rcases hlen with h | h
    · cases h
    rw [h] at hd hn
    have w1 := hts _ (gw_of h2 rfl)
    rw [wd_24] at w1
    have hF : ∀ q, va_A [] H.size q → A q := by
      rintro q (⟨k, e, h⟩ | h)
      · simp at h
      · exact hA q (Nat.le_trans hH.1.2.2.1.1 h)
    have hTX1 := hTX.kept hH.1.2.2.1.2.1
    have hTX2 := hTX1.narrow hF
    obtain ⟨⟨adV, hV⟩, hZ, hZq⟩ := id hTX1
    obtain ⟨hO, hF1, hF2, hT⟩ := hV i hi
    have hcells := hH.2.2.2.2.2.2.1
    have hslots := hH.2.2.2.2.2.2.2.1
    have hmono := exec_n _ _ _ _ _ _ _ he
    have hsl := slN_mono hmono
    have hw5 := hH.1.2.2.2.2.1 i hi
    have est : (vR 1000 i :: st).map (toV ad) = .ref (G.2.2 i) :: st.map (toV ad) := by
      rw [List.map_cons, ← hw5]
      rfl
    rw [est]
    have hmon : 2 * 0 + ((st.map (toV ad)).map fun v => v.category).sum ≤ 8 := by
      rw [words_eq]
      omega
    refine va_calli (va_runV (C := "java/lang/String") (As := []) (rest := st.map (toV ad)) ⟨hx, hb, hml, hown, hts⟩ (j_len l G H.size hi) ⟨⟨rfl, rfl, by show 1 + 1 ≤ R.frames; omega, by show 8 + (1 + 11) + 20 ≤ R.locals; omega, wsj_warm hts jg_9, List.mem_cons_self, hts _ jg_9, hts _ ji_0, by decide, parse_len (n := 0) (by decide +kernel), w1⟩, hts _ jg_7, hts _ jg_8⟩ ⟨blindJ _, recvT hO, fun U hU hW => ⟨rfl, by rw [hU], by rw [hU]; exact TXc.moved hW.alike hTX2⟩⟩ rfl rfl (hH.2.2.2.2.1.1.trans hH.2.2.2.2.2.1) rfl hmon hd ⟨by omega, by omega⟩) hH.1.2.2.1 (fun q _ h => hF q h) hF (fun r u t H1 locs1 ht hvm hw hB hz1 hk1 hS => ?_)
    rw [hw]
    have k0 := ih (pc + 1) L (vI (sLen i) :: st) S ad H1 locs1 cells slots ls he ⟨wd_still hH.1 hk1 hS, hH.2.1, ok1 (show okV S.1 (vI (sLen i)) from hin) hr, hH.2.2.2.1, hH.2.2.2.2.1, hH.2.2.2.2.2.1, hH.2.2.2.2.2.2.1, hH.2.2.2.2.2.2.2.1, hH.2.2.2.2.2.2.2.2⟩
    rw [hn] at k0
    exact k0
  · cases hz
theorem chin_all : allR (fun i => allR (fun j => decide (0 ≤ sChr i j ∧ sChr i j < 128)) 0 (lenS.getD i 0)) 0 16 = true := by decide +kernel
theorem chr_in {i j : Nat} (hi : i < 16) (hj : j < lenS.getD i 0) : in32 (sChr i j) := by
  have h := of_decide_eq_true (allR_at (lenS.getD i 0) 0 j (allR_at 16 0 i chin_all (by omega) (by omega)) (by omega) (by omega))
  unfold in32
  omega
theorem s_schr (hC : Cx N m G b xs p R s mid args meth c A H0) (ih : IH N F m G b xs out p l e R s mid args below meth c A H0 Q) (hH : Here N m G b xs out p l e R s mid args below meth c A H0 Q L st S ad H locs cells slots ls)
    {raw : Instr} {len : Nat} (hd : decode (mCode m) (bpc m pc) = .ok (raw, len)) (hn : bpc m (pc + 1) = bpc m pc + len) (hlen : lenOf raw = 0 ∨ len = lenOf raw) (hz : rz m (bpc m pc) raw .drem = true)
    (he : x_schr pc L st S (exec N F m) none = some out) : W p l e R s mid args below meth c H locs cells slots Q (F0 mid (bpc m pc) ls (st.map (toV ad))) := by
  obtain ⟨hm264, hx, hb, hml, hown, hts, hini, hfr, hlo, hGS, hA, hX, hbl, hbA, hTX, hN⟩ := hC
  unfold x_schr at he
  rcases st with _ | ⟨(j | (j | (j | j))), _ | ⟨(x | (x | (⟨k, i⟩ | x))), st⟩⟩ <;> first | (cases he; done) | skip
  have hvj := okh hH.2.2.1
  have hv := okh (okt hH.2.2.1)
  have hr := okt (okt hH.2.2.1)
  dsimp only at he
  rcases g1 : Nat.beq k 1000 with _ | _ <;> rw [g1] at he <;> first | (cases he; done) | skip
  rw [cond_true] at he
  by_cases b1 : j < 0
  · rw [if_pos b1] at he; cases he
  rw [if_neg b1] at he
  by_cases b2 : j < sLen i
  case neg => rw [if_neg b2] at he; cases he
  rw [if_pos b2] at he
  rcases g3 : Nat.ble (wordsOf st) 8 with _ | _ <;> rw [g3] at he <;> first | (cases he; done) | skip
  rw [cond_true] at he
  have hi : i < 16 := by
    have e1 := Nat.eq_of_beq_eq_true g1
    subst e1
    exact okV_tx hv
  obtain ⟨-, l1, l2⟩ := of_decide_eq_true (allR_at 16 0 i len_all (by omega) (by omega))
  have hj : j.toNat < lenS.getD i 0 := by omega
  have hin : in32 (sChr i j.toNat) := chr_in hi hj
  have g1 := Nat.eq_of_beq_eq_true g1
  subst g1
  have g3 := Nat.le_of_ble_eq_true g3
  unfold rz at hz
  dsimp only at hz
  split at hz
  · rename_i idx
    obtain ⟨h1, h2⟩ := band_t hz
    obtain ⟨h1, h3⟩ := roomI_t h1
    rcases hlen with h | h
    · cases h
    rw [h] at hd hn
    have w1 := hts _ (gw_of h2 rfl)
    rw [wd_25] at w1
    have hF : ∀ q, va_A [] H.size q → A q := by
      rintro q (⟨k, e, h⟩ | h)
      · simp at h
      · exact hA q (Nat.le_trans hH.1.2.2.1.1 h)
    have hTX1 := hTX.kept hH.1.2.2.1.2.1
    have hTX2 := hTX1.narrow hF
    obtain ⟨⟨adV, hV⟩, hZ, hZq⟩ := id hTX1
    obtain ⟨hO, hF1, hF2, hT⟩ := hV i hi
    have hcells := hH.2.2.2.2.2.2.1
    have hslots := hH.2.2.2.2.2.2.2.1
    have hmono := exec_n _ _ _ _ _ _ _ he
    have hsl := slN_mono hmono
    have hw5 := hH.1.2.2.2.2.1 i hi
    have est : (vI j :: vR 1000 i :: st).map (toV ad) = .int (Int32.ofNat j.toNat) :: .ref (G.2.2 i) :: st.map (toV ad) := by
      rw [List.map_cons, List.map_cons, ← hw5, ← ofInt_nat, Int.toNat_of_nonneg (by omega)]
      rfl
    rw [est]
    have hmon : 2 * 0 + ((st.map (toV ad)).map fun v => v.category).sum ≤ 8 := by
      rw [words_eq]
      omega
    refine va_calli (va_runV (C := "java/lang/String") (As := [.int (Int32.ofNat j.toNat)]) (rest := st.map (toV ad)) ⟨hx, hb, hml, hown, hts⟩ (j_chr l G H.size hi hj) ⟨⟨rfl, rfl, by show 3 + 1 ≤ R.frames; omega, by show 8 + (2 + 11) + 64 ≤ R.locals; omega, wsj_warm hts jg_16, List.mem_cons_self, hts _ jg_16, hts _ ji_0, by decide, parse_len (n := 1) (by decide +kernel), w1⟩, hts _ jg_14, hts _ jg_15⟩ ⟨blindJ _, recvT hO, fun U hU hW => ⟨rfl, by rw [hU], by rw [hU]; exact TXc.moved hW.alike hTX2⟩⟩ rfl rfl (hH.2.2.2.2.1.1.trans hH.2.2.2.2.2.1) rfl hmon hd ⟨by omega, by omega⟩) hH.1.2.2.1 (fun q _ h => hF q h) hF (fun r u t H1 locs1 ht hvm hw hB hz1 hk1 hS => ?_)
    rw [hw]
    have k0 := ih (pc + 1) L (vI (sChr i j.toNat) :: st) S ad H1 locs1 cells slots ls he ⟨wd_still hH.1 hk1 hS, hH.2.1, ok1 (show okV S.1 (vI (sChr i j.toNat)) from hin) hr, hH.2.2.2.1, hH.2.2.2.2.1, hH.2.2.2.2.2.1, hH.2.2.2.2.2.2.1, hH.2.2.2.2.2.2.2.1, hH.2.2.2.2.2.2.2.2⟩
    rw [hn] at k0
    exact k0
  · cases hz
end WALK
def retK (r : Nat) : Instr → Bool
  | .ireturn => cond (Nat.beq r 1) true (Nat.beq r 2)
  | .lreturn => Nat.beq r 3
  | .areturn => Nat.beq r 4
  | .return_ => Nat.beq r 0
  | _ => true
theorem rets_all : allR (fun m => allL (retK (mRet m)) (cod m)) 0 264 = true := by decide +kernel
theorem rets_k {m pc : Nat} {ins : Instr} (hm : m < 264) (h : nth (cod m) pc = some ins) : retK (mRet m) ins = true := allL_in (allR_at 264 0 m rets_all (by omega) (by omega)) ins (nth_mem _ _ _ h)
section WALK
variable {N m : Nat} {G : GT} {b : Nat} {xs : Nat → Int32} {out : Out}
variable {p : Program} {l : Launch} {e : Env} {R : Room} {s : State} {mid : MethodId} {args : Array Value} {below : List Frame} {meth : Method} {c : Code} {A : Nat → Prop} {H0 : Heap} {Q : State → Prop}
variable {F pc : Nat} {L st : List MV} {S : MS} {ad : AdT} {H : Heap} {locs : List Loc} {cells slots : Nat} {ls : Array Slot}
theorem r_i (hH : Here N m G b xs out p l e R s mid args below meth c A H0 Q L st S ad H locs cells slots ls) {raw : Instr} {len : Nat} (hd : decode (mCode m) (bpc m pc) = .ok (raw, len)) (hlen : lenOf raw = 0 ∨ len = lenOf raw) (hz : rz m (bpc m pc) raw .ireturn = true) (hk : retK (mRet m) .ireturn = true)
    (he : xret m st S = some out) : W p l e R s mid args below meth c H locs cells slots Q (F0 mid (bpc m pc) ls (st.map (toV ad))) := by
  have hr : mRet m = 1 ∨ mRet m = 2 := by
    unfold retK at hk
    rcases z : Nat.beq (mRet m) 1 with _ | _
    · rw [z] at hk
      exact Or.inr (Nat.eq_of_beq_eq_true hk)
    · exact Or.inl (Nat.eq_of_beq_eq_true z)
  unfold rz at hz
  dsimp only at hz
  split at hz
  · rcases hlen with h | h
    · cases h
    rw [h] at hd
    refine s_ret hH he (fun h _ => by omega) (fun _ _ => hd) (fun x hx => ?_) (fun x hx => ?_)
    · subst hx
      unfold xret at he
      rcases hr with h | h <;> rw [h] at he <;> cases he
    · subst hx
      unfold xret at he
      rcases hr with h | h <;> rw [h] at he <;> cases he
  · cases hz
theorem r_l (hH : Here N m G b xs out p l e R s mid args below meth c A H0 Q L st S ad H locs cells slots ls) {raw : Instr} {len : Nat} (hd : decode (mCode m) (bpc m pc) = .ok (raw, len)) (hlen : lenOf raw = 0 ∨ len = lenOf raw) (hz : rz m (bpc m pc) raw .lreturn = true) (hk : retK (mRet m) .lreturn = true)
    (he : xret m st S = some out) : W p l e R s mid args below meth c H locs cells slots Q (F0 mid (bpc m pc) ls (st.map (toV ad))) := by
  have hr : mRet m = 3 := Nat.eq_of_beq_eq_true hk
  unfold rz at hz
  dsimp only at hz
  split at hz
  · rcases hlen with h | h
    · cases h
    rw [h] at hd
    refine s_ret hH he (fun h _ => by omega) (fun x hx => ?_) (fun _ _ => hd) (fun x hx => ?_)
    · subst hx
      unfold xret at he
      rw [hr] at he
      cases he
    · subst hx
      unfold xret at he
      rw [hr] at he
      cases he
  · cases hz
theorem r_a (hH : Here N m G b xs out p l e R s mid args below meth c A H0 Q L st S ad H locs cells slots ls) {raw : Instr} {len : Nat} (hd : decode (mCode m) (bpc m pc) = .ok (raw, len)) (hlen : lenOf raw = 0 ∨ len = lenOf raw) (hz : rz m (bpc m pc) raw .areturn = true) (hk : retK (mRet m) .areturn = true)
    (he : xret m st S = some out) : W p l e R s mid args below meth c H locs cells slots Q (F0 mid (bpc m pc) ls (st.map (toV ad))) := by
  have hr : mRet m = 4 := Nat.eq_of_beq_eq_true hk
  unfold rz at hz
  dsimp only at hz
  split at hz
  · rcases hlen with h | h
    · cases h
    rw [h] at hd
    refine s_ret hH he (fun h _ => by omega) (fun x hx => ?_) (fun x hx => ?_) (fun _ _ => hd)
    · subst hx
      unfold xret at he
      rw [hr] at he
      cases he
    · subst hx
      unfold xret at he
      rw [hr] at he
      cases he
  · cases hz
theorem r_v (hH : Here N m G b xs out p l e R s mid args below meth c A H0 Q L st S ad H locs cells slots ls) {raw : Instr} {len : Nat} (hd : decode (mCode m) (bpc m pc) = .ok (raw, len)) (hlen : lenOf raw = 0 ∨ len = lenOf raw) (hz : rz m (bpc m pc) raw .return_ = true) (hk : retK (mRet m) .return_ = true)
    (he : xret m st S = some out) : W p l e R s mid args below meth c H locs cells slots Q (F0 mid (bpc m pc) ls (st.map (toV ad))) := by
  have hr : mRet m = 0 := Nat.eq_of_beq_eq_true hk
  unfold rz at hz
  dsimp only at hz
  split at hz
  · rcases hlen with h | h
    · cases h
    rw [h] at hd
    refine s_ret hH he (fun _ _ => hd) (fun x hx => ?_) (fun x hx => ?_) (fun x hx => ?_)
    · subst hx
      unfold xret at he
      rw [hr] at he
      cases he
    · subst hx
      unfold xret at he
      rw [hr] at he
      cases he
    · subst hx
      unfold xret at he
      rw [hr] at he
      cases he
  · cases hz
end WALK
set_option maxHeartbeats 4000000 in
/-- THE WALK: what the small machine comes to, the JVM comes to -/
theorem walk (N : Nat) (l : Launch) : ∀ (F m : Nat) (G : GT) (b : Nat) (xs : Nat → Int32) (out : Out) (p : Program) (e : Env) (R : Room) (s : State) (mid : MethodId) (args : Array Value) (below : List Frame) (meth : Method) (c : Code) (A : Nat → Prop) (H0 : Heap) (Q : State → Prop), Cx N m G b xs p R s mid args meth c A H0 → IH N F m G b xs out p l e R s mid args below meth c A H0 Q := by
  intro F
  induction F with
  | zero =>
    intro m G b xs out p e R s mid args below meth c A H0 Q _ pc L st S ad H locs cells slots ls he
    exact absurd he (by simp [exec])
  | succ F ihF =>
    intro m G b xs out p e R s mid args below meth c A H0 Q hC pc L st S ad H locs cells slots ls he hH
    rw [exec] at he
    rcases e9 : nth (cod m) pc with _ | ins <;> rw [e9] at he
    · cases he
    dsimp only at he
    have ok := okIns m pc ins hC.1 e9
    have hk := rets_k hC.1 e9
    obtain ⟨raw, len, hd, hn, hlen, hz⟩ := okI_x ok
    have ih := ihF m G b xs out p e R s mid args below meth c A H0 Q hC
    have hM : MetK N F l := met_of (fun m G b xs out p e R s mid args below meth c A H0 Q h => ihF m G b xs out p e R s mid args below meth c A H0 Q h)
    cases ins with
    | iload i => exact s_iload hC ih hH hd hn hlen hz he
    | lload i => exact s_lload hC ih hH hd hn hlen hz he
    | aload i => exact s_aload hC ih hH hd hn hlen hz he
    | istore i => exact s_istore hC ih hH hd hn hlen hz he
    | astore i => exact s_astore hC ih hH hd hn hlen hz he
    | lstore i => exact s_lstore hC ih hH hd hn hlen hz he
    | fstore i => exact s_fstore hC ih hH hd hn hlen hz he
    | dstore i => exact s_dstore hC ih hH hd hn hlen hz he
    | iconst v => exact s_iconst hC ih hH hd hn hlen hz he
    | jsr_w v => exact s_jconst hC ih hH hd hn hlen hz he
    | ldc i => exact s_ldc hC ih hH hd hn hlen hz he
    | iinc i k => exact s_iinc hC ih hH hd hn hlen hz he
    | iadd => exact s_iadd hC ih hH hd hn hlen hz he
    | isub => exact s_isub hC ih hH hd hn hlen hz he
    | imul => exact s_imul hC ih hH hd hn hlen hz he
    | iand => exact s_iand hC ih hH hd hn hlen hz he
    | ior => exact s_ior hC ih hH hd hn hlen hz he
    | ixor => exact s_ixor hC ih hH hd hn hlen hz he
    | ishl => exact s_ishl hC ih hH hd hn hlen hz he
    | ishr => exact s_ishr hC ih hH hd hn hlen hz he
    | idiv => exact s_idiv hC ih hH hd hn hlen hz he
    | irem => exact s_irem hC ih hH hd hn hlen hz he
    | dadd => exact s_min hC ih hH hd hn hlen hz he
    | dsub => exact s_max hC ih hH hd hn hlen hz he
    | ladd => exact s_ladd hC ih hH hd hn hlen hz he
    | lmul => exact s_lmul hC ih hH hd hn hlen hz he
    | lor => exact s_lor hC ih hH hd hn hlen hz he
    | ldiv => exact s_ldiv hC ih hH hd hn hlen hz he
    | lrem => exact s_lrem hC ih hH hd hn hlen hz he
    | lshl => exact s_lshl hC ih hH hd hn hlen hz he
    | lshr => exact s_lshr hC ih hH hd hn hlen hz he
    | lushr => exact s_lushr hC ih hH hd hn hlen hz he
    | lcmp => exact s_lcmp hC ih hH hd hn hlen hz he
    | i2l => exact s_i2l hC ih hH hd hn hlen hz he
    | l2i => exact s_l2i hC ih hH hd hn hlen hz he
    | i2b => exact s_i2b hC ih hH hd hn hlen hz he
    | dup => exact s_dup hC ih hH hd hn hlen hz he
    | dup2 => exact s_dup2 hC ih hH hd hn hlen hz he
    | pop => exact s_pop hC ih hH hd hn hlen hz he
    | goto t => exact s_goto hC ih hH hd hn hlen hz he
    | if_icmp cd t => exact s_icmp hC ih hH hd hn hlen hz he
    | ifCond cd t => exact s_ifc hC ih hH hd hn hlen hz he
    | ifnull t => exact s_ifnull hC ih hH hd hn hlen hz he
    | tableswitch d lo hi ts => exact s_switch hC ih hH hd hz he
    | getfield n => exact s_get hC ih hH hd hn hlen hz he
    | putfield n => exact s_put hC ih hH hd hn hlen hz he
    | arraylength => exact s_alen hC ih hH hd hn hlen hz he
    | iaload => exact s_iald hC ih hH hd hn hlen hz he
    | baload => exact s_bald hC ih hH hd hn hlen hz he
    | laload => exact s_lald hC ih hH hd hn hlen hz he
    | iastore => exact s_iast hC ih hH hd hn hlen hz he
    | bastore => exact s_bast hC ih hH hd hn hlen hz he
    | lastore => exact s_last hC ih hH hd hn hlen hz he
    | new ci => exact s_new hC ih hH hd hn hlen hz he
    | newarray t => exact s_newa hC ih hH hd hn hlen hz he
    | dmul => exact s_copy hC ih hH hd hn hlen hz he
    | ddiv => exact s_slen hC ih hH hd hn hlen hz he
    | drem => exact s_schr hC ih hH hd hn hlen hz he
    | dneg => exact s_obj hC ih hH hd hn hlen hz he
    | invokestatic k => exact s_ics hM hC ih hH hd hn hlen hz he
    | invokevirtual k => exact s_icv hM hC ih hH hd hn hlen hz he
    | invokespecial k => exact s_ici hM hC ih hH hd hn hlen hz he
    | ireturn => exact r_i hH hd hlen hz hk he
    | lreturn => exact r_l hH hd hlen hz hk he
    | areturn => exact r_a hH hd hlen hz hk he
    | return_ => exact r_v hH hd hlen hz hk he
    | _ => exact absurd (show (none : Option Out) = some out from he) (by simp)
