section WALK
variable {N m : Nat} {G : GT} {b : Nat} {xs : Nat → Int32} {out : Out}
variable {p : Program} {l : Launch} {e : Env} {R : Room} {s : State} {mid : MethodId} {args : Array Value} {below : List Frame} {meth : Method} {c : Code} {A : Nat → Prop} {H0 : Heap} {Q : State → Prop}
variable {F pc : Nat} {L st : List MV} {S : MS} {ad : AdT} {H : Heap} {locs : List Loc} {cells slots : Nat} {ls : Array Slot}
theorem words_eq : ∀ st : List MV, ((st.map (toV ad)).map fun v => v.category).sum = wordsOf st
  | [] => rfl
  | .inl _ :: st => by
    have := words_eq st
    simp only [List.map_cons, List.sum_cons, wordsOf, this]
    show 1 + _ = _
    omega
  | .inr (.inl _) :: st => by
    have := words_eq st
    simp only [List.map_cons, List.sum_cons, wordsOf, this]
    show 2 + _ = _
    omega
  | .inr (.inr (.inl _)) :: st => by
    have := words_eq st
    simp only [List.map_cons, List.sum_cons, wordsOf, this]
    show 1 + _ = _
    omega
  | .inr (.inr (.inr _)) :: st => by
    have := words_eq st
    simp only [List.map_cons, List.sum_cons, wordsOf, this]
    show 1 + _ = _
    omega
theorem roomI_t {m f w : Nat} (h : roomI m f w = true) : f ≤ mFr m ∧ 8 + w ≤ mLo m := by
  obtain ⟨h1, h2⟩ := band_t h
  exact ⟨Nat.le_of_ble_eq_true h1, Nat.le_of_ble_eq_true h2⟩
theorem s_obj (hC : Cx N m G b xs p R s mid args meth c A H0) (ih : IH N F m G b xs out p l e R s mid args below meth c A H0 Q) (hH : Here N m G b xs out p l e R s mid args below meth c A H0 Q L st S ad H locs cells slots ls)
    {raw : Instr} {len : Nat} (hd : decode (mCode m) (bpc m pc) = .ok (raw, len)) (hn : bpc m (pc + 1) = bpc m pc + len) (hlen : lenOf raw = 0 ∨ len = lenOf raw) (hz : rz m (bpc m pc) raw .dneg = true)
    (he : x_obj pc L st S (exec N F m) none = some out) : W p l e R s mid args below meth c H locs cells slots Q (F0 mid (bpc m pc) ls (st.map (toV ad))) := by
  obtain ⟨hm264, hx, hb, hml, hown, hts, hini, hfr, hlo, hGS, hA, hX, hbl, hbA, hTX, hN⟩ := hC
  unfold x_obj at he
  rcases st with _ | ⟨(x | (x | (⟨k, i⟩ | x))), st⟩ <;> first | (cases he; done) | skip
  dsimp only at he
  rcases g1 : Nat.ble (wordsOf st) 8 with _ | _ <;> rw [g1] at he <;> first | (cases he; done) | skip
  have g1 := Nat.le_of_ble_eq_true g1
  rw [cond_true] at he
  unfold rz at hz
  dsimp only at hz
  split at hz
  · obtain ⟨h1, h2⟩ := band_t hz
    obtain ⟨h1, h3⟩ := roomI_t h1
    rcases hlen with h | h
    · cases h
    rw [h] at hd hn
    have k := go_st ih hH he (okt hH.2.2.1)
    rw [hn] at k
    have w1 := hts _ (gw_of h2 rfl)
    rw [wd_20] at w1
    have w2 : (Cond.instanceMethod objectInit).before args s = true := hts (wd (30, 0, 0, 0)) (gw_of (q := (30, 0, 0, 0)) (by decide +kernel) rfl)
    have w3 : (Cond.code objectInit ⟨#[0xb1]⟩ 1 none).before args s = true := hts (wd (37, 0, 0, 0)) (gw_of (q := (37, 0, 0, 0)) (by decide +kernel) rfl)
    refine W.objInit hx hb hown w1 w2 w3 rfl (by rw [hml, ← hH.2.2.2.2.2.1]; exact hH.2.2.2.2.1.1) rfl hd (by omega) ?_ k
    show 2 * 0 + ((st.map (toV ad)).map fun v => v.category).sum + 12 ≤ R.locals
    rw [words_eq]
    omega
  · cases hz
theorem s_min (hC : Cx N m G b xs p R s mid args meth c A H0) (ih : IH N F m G b xs out p l e R s mid args below meth c A H0 Q) (hH : Here N m G b xs out p l e R s mid args below meth c A H0 Q L st S ad H locs cells slots ls)
    {raw : Instr} {len : Nat} (hd : decode (mCode m) (bpc m pc) = .ok (raw, len)) (hn : bpc m (pc + 1) = bpc m pc + len) (hlen : lenOf raw = 0 ∨ len = lenOf raw) (hz : rz m (bpc m pc) raw .dadd = true)
    (he : x_iopc (fun a b => min a b) pc L st S (exec N F m) none = some out) : W p l e R s mid args below meth c H locs cells slots Q (F0 mid (bpc m pc) ls (st.map (toV ad))) := by
  obtain ⟨hm264, hx, hb, hml, hown, hts, hini, hfr, hlo, hGS, hA, hX, hbl, hbA, hTX, hN⟩ := hC
  unfold x_iopc at he
  rcases st with _ | ⟨(y | (y | (y | y))), _ | ⟨(x | (x | (x | x))), st⟩⟩ <;> first | (cases he; done) | skip
  have hy := okh hH.2.2.1
  have hv := okh (okt hH.2.2.1)
  have hr := okt (okt hH.2.2.1)
  dsimp only at he
  rcases g1 : Nat.ble (wordsOf st) 8 with _ | _ <;> rw [g1] at he <;> first | (cases he; done) | skip
  have g1 := Nat.le_of_ble_eq_true g1
  rw [cond_true] at he
  unfold rz at hz
  dsimp only at hz
  split at hz
  · obtain ⟨h1, h2⟩ := band_t hz
    obtain ⟨h1, h3⟩ := roomI_t h1
    rcases hlen with h | h
    · cases h
    rw [h] at hd hn
    have hmi : in32 (min x y) := by unfold okV in32 at hy hv; unfold in32; omega
    have k := go_st ih hH he (ok1 (show okV S.1 (vI (min x y)) from hmi) hr)
    rw [hn] at k
    have w1 := hts _ (gw_of h2 rfl)
    rw [wd_22] at w1
    have hmono := exec_n _ _ _ _ _ _ _ he
    have hcells := hH.2.2.2.2.2.2.1
    have hslots := hH.2.2.2.2.2.2.2.1
    have hsl := slN_mono hmono
    refine va_mmin hx hb (by rw [hml, ← hH.2.2.2.2.2.1]; exact hH.2.2.2.2.1.1.symm) hown w1 (hts (wd (32, 0, 0, 0)) (gw_of (q := (32, 0, 0, 0)) (by decide +kernel) rfl)) (hts (wd (8, 54, 0, 0)) (gw_of (q := (8, 54, 0, 0)) (by decide +kernel) rfl)) (hts (wd (35, 0, 0, 0)) (gw_of (q := (35, 0, 0, 0)) (by decide +kernel) rfl)) (by omega) (by rw [words_eq]; omega) (by omega) (by omega) hd ?_
    rw [min_of hv hy]
    exact k
  · cases hz
theorem max_of {a b : Int} (ha : in32 a) (hb : in32 b) : (if Int32.ofInt a < Int32.ofInt b then Int32.ofInt b else Int32.ofInt a) = Int32.ofInt (max a b) := by
  by_cases h : a < b
  · rw [if_pos ((lt32 ha hb).mpr h), Int.max_eq_right (by omega)]
  · rw [if_neg (fun z => h ((lt32 ha hb).mp z)), Int.max_eq_left (by omega)]
theorem s_max (hC : Cx N m G b xs p R s mid args meth c A H0) (ih : IH N F m G b xs out p l e R s mid args below meth c A H0 Q) (hH : Here N m G b xs out p l e R s mid args below meth c A H0 Q L st S ad H locs cells slots ls)
    {raw : Instr} {len : Nat} (hd : decode (mCode m) (bpc m pc) = .ok (raw, len)) (hn : bpc m (pc + 1) = bpc m pc + len) (hlen : lenOf raw = 0 ∨ len = lenOf raw) (hz : rz m (bpc m pc) raw .dsub = true)
    (he : x_iopc (fun a b => max a b) pc L st S (exec N F m) none = some out) : W p l e R s mid args below meth c H locs cells slots Q (F0 mid (bpc m pc) ls (st.map (toV ad))) := by
  obtain ⟨hm264, hx, hb, hml, hown, hts, hini, hfr, hlo, hGS, hA, hX, hbl, hbA, hTX, hN⟩ := hC
  unfold x_iopc at he
  rcases st with _ | ⟨(y | (y | (y | y))), _ | ⟨(x | (x | (x | x))), st⟩⟩ <;> first | (cases he; done) | skip
  have hy := okh hH.2.2.1
  have hv := okh (okt hH.2.2.1)
  have hr := okt (okt hH.2.2.1)
  dsimp only at he
  rcases g1 : Nat.ble (wordsOf st) 8 with _ | _ <;> rw [g1] at he <;> first | (cases he; done) | skip
  have g1 := Nat.le_of_ble_eq_true g1
  rw [cond_true] at he
  unfold rz at hz
  dsimp only at hz
  split at hz
  · obtain ⟨h1, h2⟩ := band_t hz
    obtain ⟨h1, h3⟩ := roomI_t h1
    rcases hlen with h | h
    · cases h
    rw [h] at hd hn
    have hmi : in32 (max x y) := by unfold okV in32 at hy hv; unfold in32; omega
    have k := go_st ih hH he (ok1 (show okV S.1 (vI (max x y)) from hmi) hr)
    rw [hn] at k
    have w1 := hts _ (gw_of h2 rfl)
    rw [wd_23] at w1
    have hmono := exec_n _ _ _ _ _ _ _ he
    have hcells := hH.2.2.2.2.2.2.1
    have hslots := hH.2.2.2.2.2.2.2.1
    have hsl := slN_mono hmono
    refine va_mmax hx hb (by rw [hml, ← hH.2.2.2.2.2.1]; exact hH.2.2.2.2.1.1.symm) hown w1 (hts (wd (33, 0, 0, 0)) (gw_of (q := (33, 0, 0, 0)) (by decide +kernel) rfl)) (hts (wd (8, 54, 0, 0)) (gw_of (q := (8, 54, 0, 0)) (by decide +kernel) rfl)) (hts (wd (36, 0, 0, 0)) (gw_of (q := (36, 0, 0, 0)) (by decide +kernel) rfl)) (by omega) (by rw [words_eq]; omega) (by omega) (by omega) hd ?_
    rw [max_of hv hy]
    exact k
  · cases hz
theorem nfw : nativeFrameWords "java/lang/System" "arraycopy" 5 + 11 ≤ 60 := by decide +kernel
theorem s_copy (hC : Cx N m G b xs p R s mid args meth c A H0) (ih : IH N F m G b xs out p l e R s mid args below meth c A H0 Q) (hH : Here N m G b xs out p l e R s mid args below meth c A H0 Q L st S ad H locs cells slots ls)
    {raw : Instr} {len : Nat} (hd : decode (mCode m) (bpc m pc) = .ok (raw, len)) (hn : bpc m (pc + 1) = bpc m pc + len) (hlen : lenOf raw = 0 ∨ len = lenOf raw) (hz : rz m (bpc m pc) raw .dmul = true)
    (he : x_copy N pc L st S (exec N F m) none = some out) : W p l e R s mid args below meth c H locs cells slots Q (F0 mid (bpc m pc) ls (st.map (toV ad))) := by
  obtain ⟨hm264, hx, hb, hml, hown, hts, hini, hfr, hlo, hGS, hA, hX, hbl, hbA, hTX, hN⟩ := hC
  unfold x_copy at he
  rcases st with _ | ⟨(n | (n | (n | n))), _ | ⟨(dp | (dp | (dp | dp))), st⟩⟩ <;> first | (cases he; done) | skip
  rcases st with _ | ⟨(a3 | (a3 | (⟨k2, i2⟩ | a3))), _ | ⟨(sp | (sp | (sp | sp))), st⟩⟩ <;> first | (cases he; done) | skip
  rcases st with _ | ⟨(a5 | (a5 | (⟨k, i⟩ | a5))), st⟩ <;> first | (cases he; done) | skip
  have hvn := okh hH.2.2.1
  have hvd := okh (okt hH.2.2.1)
  have hv2 := okh (okt (okt hH.2.2.1))
  have hvs := okh (okt (okt (okt hH.2.2.1)))
  have hv1 := okh (okt (okt (okt (okt hH.2.2.1))))
  have hr := okt (okt (okt (okt (okt hH.2.2.1))))
  dsimp only at he
  rcases g1 : Nat.beq (kTag k) 1 with _ | _ <;> rw [g1] at he <;> first | (cases he; done) | skip
  rcases g2 : Nat.beq (kTag k2) 1 with _ | _ <;> rw [g2] at he <;> first | (cases he; done) | skip
  rw [cond_true, cond_true] at he
  have g1 := Nat.eq_of_beq_eq_true g1
  have g2 := Nat.eq_of_beq_eq_true g2
  by_cases b1 : n < 0
  · rw [if_pos b1] at he; cases he
  rw [if_neg b1] at he
  by_cases b2 : sp < 0
  · rw [if_pos b2] at he; cases he
  rw [if_neg b2] at he
  by_cases b3 : dp < 0
  · rw [if_pos b3] at he; cases he
  rw [if_neg b3] at he
  by_cases b4 : kLenN N k < sp + n
  · rw [if_pos b4] at he; cases he
  rw [if_neg b4] at he
  by_cases b5 : kLenN N k2 < dp + n
  · rw [if_pos b5] at he; cases he
  rw [if_neg b5] at he
  rcases g3 : Nat.ble (wordsOf st) 8 with _ | _ <;> rw [g3] at he <;> first | (cases he; done) | skip
  have g3 := Nat.le_of_ble_eq_true g3
  rw [cond_true] at he
  unfold rz at hz
  dsimp only at hz
  split at hz
  · obtain ⟨h1, h2⟩ := band_t hz
    obtain ⟨h1, h3⟩ := roomI_t h1
    rcases hlen with h | h
    · cases h
    rw [h] at hd hn
    obtain ⟨a1, ha1, ho1⟩ := vld_row hv1 g1 (by decide) (by decide)
    obtain ⟨a2, ha2, ho2⟩ := vld_row hv2 g2 (by decide) (by decide)
    rw [kLenN_row (N := N) ho1] at b4
    rw [kLenN_row (N := N) ho2] at b5
    have hw1 := wl_at (G := G) (ad := ad) ha1 ho1
    have hw2 := wl_at (G := G) (ad := ad) ha2 ho2
    rw [ent_1 g1] at hw1
    rw [ent_1 g2] at hw2
    have w1 := hts _ (gw_of h2 rfl)
    rw [wd_21] at w1
    have hnw := nfw
    have hm1 : in32 n := hvn
    have hm2 : in32 dp := hvd
    have hm3 : in32 sp := hvs
    refine va_copyi hx hb (by rw [hml, ← hH.2.2.2.2.2.1]; exact hH.2.2.2.2.1.1.symm) hown w1 (hts (wd (34, 0, 0, 0)) (gw_of (q := (34, 0, 0, 0)) (by decide +kernel) rfl)) (hts (wd (31, 0, 0, 0)) (gw_of (q := (31, 0, 0, 0)) (by decide +kernel) rfl)) (hts (wd (8, 53, 0, 0)) (gw_of (q := (8, 53, 0, 0)) (by decide +kernel) rfl)) hGS.1 hH.1.1 hH.1.2.1 hH.1.2.2.1 a1 a2 0 0 hw1 hw2 rfl rfl rfl (fun z => b2 ((lt32 hm3 in32_0).mp z)) (fun z => b3 ((lt32 hm2 in32_0).mp z)) (fun z => b1 ((lt32 hm1 in32_0).mp z)) ?_ ?_ (fun _ _ => rfl) (by omega) (by rw [words_eq]; omega) hd (fun H1 locs1 hP hD hS => ?_)
    · rw [clampI (by omega) hm3, clampI (by omega) hm1]; omega
    · rw [clampI (by omega) hm2, clampI (by omega) hm1]; omega
    · rw [clampI (by omega) hm3, clampI (by omega) hm2, clampI (by omega) hm1] at hP hD
      have e2 : ent G ad (S.1, S.2.1, cpy S.2.2 k i sp.toNat k2 i2 dp.toNat n.toNat) (k2, i2) = .inl (G.2.1 1, kLen k2, .inl (va_cpy (fun j => Int32.ofInt (S.2.2 k i j)) (fun j => Int32.ofInt (S.2.2 k2 i2 j)) sp.toNat dp.toNat n.toNat)) := by
        have e3 : (fun j => Int32.ofInt ((S.1, S.2.1, cpy S.2.2 k i sp.toNat k2 i2 dp.toNat n.toNat).2.2 k2 i2 j)) = va_cpy (fun j => Int32.ofInt (S.2.2 k i j)) (fun j => Int32.ofInt (S.2.2 k2 i2 j)) sp.toNat dp.toNat n.toNat := by
          funext j
          show Int32.ofInt (cpy S.2.2 k i sp.toNat k2 i2 dp.toNat n.toNat k2 i2 j) = _
          unfold cpy va_cpy
          by_cases q : dp.toNat ≤ j ∧ j < dp.toNat + n.toNat
          · rw [if_pos ⟨rfl, rfl, q⟩, if_pos q]
          · rw [if_neg (fun z => q z.2.2), if_neg q]
        rw [ent_1 g2, e3]
      rw [← e2] at hP hD
      have hne : ∀ q', q' ≠ (k2, i2) → ent G ad (S.1, S.2.1, cpy S.2.2 k i sp.toNat k2 i2 dp.toNat n.toNat) q' = ent G ad S q' := fun q' hq => ent_un (fun j => by
        unfold cpy
        rw [if_neg (fun z => hq (Prod.ext z.1 z.2.1))]) (fun _ => rfl)
      have e4 := wl_set (G := G) (ad := ad) (S' := (S.1, S.2.1, cpy S.2.2 k i sp.toNat k2 i2 dp.toNat n.toNat)) ha2 ho2 rfl hne
      rw [e4] at hP hD
      obtain ⟨-, -, -, w4, w5, w6, w7, w8⟩ := hH.1
      have hW' : Wd N G b xs A H0 (S.1, S.2.1, cpy S.2.2 k i sp.toNat k2 i2 dp.toNat n.toNat) ad H1 locs1 := by
        refine ⟨hP, hD, hS, w4, w5, fun k' i' j' => ?_, w7, fun j' hj => ?_⟩
        · show in64 (cpy S.2.2 k i sp.toNat k2 i2 dp.toNat n.toNat k' i' j') ∧ (isL k' j' = false → in32 (cpy S.2.2 k i sp.toNat k2 i2 dp.toNat n.toNat k' i' j'))
          unfold cpy
          split
          · have g := w6 k i (sp.toNat + (j' - dp.toNat))
            exact ⟨g.1, fun _ => g.2 (isL_1 (Or.inl g1))⟩
          · exact w6 k' i' j'
        · have hk : k2 ≠ 999 := by have := (ords_kd ho2).1; dsimp only at this; omega
          show Int32.ofInt (cpy S.2.2 k i sp.toNat k2 i2 dp.toNat n.toNat 999 0 j') = xs j'
          unfold cpy
          rw [if_neg (fun z => hk z.1.symm)]
          exact w8 j' hj
      have k0 := ih (pc + 1) L st (S.1, S.2.1, cpy S.2.2 k i sp.toNat k2 i2 dp.toNat n.toNat) ad H1 locs1 cells slots ls he ⟨hW', hH.2.1, hr, hH.2.2.2.1, hH.2.2.2.2.1, hH.2.2.2.2.2.1, hH.2.2.2.2.2.2.1, hH.2.2.2.2.2.2.2.1, hH.2.2.2.2.2.2.2.2⟩
      rw [hn] at k0
      exact k0
  · cases hz
end WALK
