section WALK
variable {N m : Nat} {G : GT} {b : Nat} {xs : Nat → Int32} {out : Out}
variable {p : Program} {l : Launch} {e : Env} {R : Room} {s : State} {mid : MethodId} {args : Array Value} {below : List Frame} {meth : Method} {c : Code} {A : Nat → Prop} {H0 : Heap} {Q : State → Prop}
variable {F pc : Nat} {L st : List MV} {S : MS} {ad : AdT} {H : Heap} {locs : List Loc} {cells slots : Nat} {ls : Array Slot}
theorem fRef_lt {a k i f : Nat} (ho : nth ords a = some (k, i)) (hf : f < nF (kCls k)) : (fRef k i f).1 < 999 := by
  have e : allR (fun a => match nth ords a with
    | some q => allR (fun f => Nat.blt (fRef q.1 q.2 f).1 999) 0 (nF (kCls q.1))
    | none => true) 0 55 = true := by decide +kernel
  have h1 : a < 55 := nth_lt _ _ _ ho
  have e1 := allR_at 55 0 a e (by omega) (by omega)
  rw [ho] at e1
  have e2 : Nat.blt (fRef k i f).1 999 = true := allR_at (nF (kCls k)) 0 f e1 (by omega) (by omega)
  exact Nat.le_of_ble_eq_true e2
theorem put_k {k i f a idx : Nat} {w : Value} {S' : MS} {rest : List Value} (hC : Cx N m G b xs p R s mid args meth c A H0) (hW : Wd N G b xs A H0 S ad H locs) (hd : decode (mCode m) (bpc m pc) = .ok (.putfield idx, 3))
    (ha : a < S.1) (ho : nth ords a = some (k, i)) (h9 : kCls k < 9) (hf : f < nF (kCls k)) (lk : (Cond.fieldLink (cN (mOwn m)) idx (cTb (kCls k) f).1 (cTb (kCls k) f).2.1 (cTb (kCls k) f).2.2.1).before args s = true)
    (hfi : (cTb (kCls k) f).2.2.2 = true → mInit m = true ∧ mOwn m = kCls k) (hw : narrow (tyF (kCls k) f) w = w) (hfit : fits (tyF (kCls k) f) w = true)
    (hfv : fval ad S' k i f = w) (hoth : ∀ f', f' ≠ f → fval ad S' k i f' = fval ad S k i f') (hent : ∀ q', q' ≠ (k, i) → ent G ad S' q' = ent G ad S q') (hn1 : S'.1 = S.1)
    (kk : ∀ (H1 : Heap) (locs1 : List Loc), va_P G.1 cls0 (wl G ad S') H1 → va_D A (wl G ad S') → va_S A H0 H1 locs1 → W p l e R s mid args below meth c H1 locs1 cells slots Q (F0 mid (bpc m pc + 3) ls rest)) :
    W p l e R s mid args below meth c H locs cells slots Q (F0 mid (bpc m pc) ls (w :: .ref (ad k i) :: rest)) := by
  obtain ⟨hm264, hx, hb, hml, hown, hts, hini, hfr, hlo, hGS, hA, hX, hbl, hbA, hTX, hN⟩ := hC
  have h0 : kTag k = 0 := (ords_kd ho).2.2.2.2.2 h9
  have hw0 := wl_at (G := G) (ad := ad) ha ho
  rw [ent_0 h0] at hw0
  have kk2 : ∀ (H1 : Heap) (locs1 : List Loc), va_P G.1 cls0 ((wl G ad S).set a (ad k i, .inr (kCls k, ((List.range (nF (kCls k))).map (fval ad S k i)).set f w))) H1 → va_D A ((wl G ad S).set a (ad k i, .inr (kCls k, ((List.range (nF (kCls k))).map (fval ad S k i)).set f w))) → va_S A H0 H1 locs1 → W p l e R s mid args below meth c H1 locs1 cells slots Q (F0 mid (bpc m pc + 3) ls rest) := by
    intro H1 locs1 hP hD hS
    rw [fs_set hfv hf hoth, ← ent_0 (G := G) (S := S') h0] at hP hD
    have e := wl_set (G := G) (ad := ad) (S' := S') ha ho hn1 hent
    rw [e] at hP hD
    exact kk H1 locs1 hP hD hS
  rcases hfin : (cTb (kCls k) f).2.2.2 with _ | _
  · exact va_put hx hb hts (fld_in h9) (tyF (kCls k)) (fun k' hk' => (fld_facts h9 hk').1) (fld_nm h9) hown hGS.1 hW.1 hW.2.1 hW.2.2.1 a hw0 (cls_at h9) f hf lk (fun _ h => h) hfin (fld_facts h9 hf).1 hw hfit (by simpa using hf) hd kk2
  · obtain ⟨g1, g2⟩ := hfi hfin
    exact va_putF hx hb hts (fld_in h9) (tyF (kCls k)) (fun k' hk' => (fld_facts h9 hk').1) (fld_nm h9) hown hGS.1 hW.1 hW.2.1 hW.2.2.1 a hw0 (cls_at h9) f hf lk (fun _ h => h) hfin (hini g1) (by rw [g2]; exact (fld_facts h9 hf).2.2.2) (fld_facts h9 hf).1 hw hfit (by simpa using hf) hd kk2
theorem s_put {n : Nat} (hC : Cx N m G b xs p R s mid args meth c A H0) (ih : IH N F m G b xs out p l e R s mid args below meth c A H0 Q) (hH : Here N m G b xs out p l e R s mid args below meth c A H0 Q L st S ad H locs cells slots ls)
    {raw : Instr} {len : Nat} (hd : decode (mCode m) (bpc m pc) = .ok (raw, len)) (hn : bpc m (pc + 1) = bpc m pc + len) (hlen : lenOf raw = 0 ∨ len = lenOf raw) (hz : rz m (bpc m pc) raw (.putfield n) = true)
    (he : x_put n pc L st S (exec N F m) none = some out) : W p l e R s mid args below meth c H locs cells slots Q (F0 mid (bpc m pc) ls (st.map (toV ad))) := by
  have hC0 := hC
  obtain ⟨hm264, hx, hb, hml, hown, hts, hini, hfr, hlo, hGS, hA, hX, hbl, hbA, hTX, hN⟩ := hC
  unfold x_put at he
  rcases st with _ | ⟨v, _ | ⟨(x | (x | (⟨k, i⟩ | x))), st⟩⟩ <;> first | (cases he; done) | skip
  have hw1 := okh hH.2.2.1
  have hv := okh (okt hH.2.2.1)
  have hr := okt (okt hH.2.2.1)
  dsimp only at he
  rcases hk : Nat.beq (kCls k) (n / 100) with _ | _ <;> rw [hk] at he <;> first | (cases he; done) | skip
  have hk := Nat.eq_of_beq_eq_true hk
  rw [cond_true] at he
  unfold rz at hz
  dsimp only at hz
  split at hz
  · rename_i idx
    obtain ⟨h1, h2⟩ := band_t hz
    obtain ⟨h2, h4⟩ := band_t h2
    obtain ⟨h2, h3⟩ := band_t h2
    have h2 : n / 100 + 1 ≤ 9 := Nat.le_of_ble_eq_true h2
    have h3 : n % 100 + 1 ≤ nF (n / 100) := Nat.le_of_ble_eq_true h3
    have lk := hts _ (gw_of h1 rfl)
    rw [wd_0] at lk
    change (Cond.fieldLink (cN (mOwn m)) idx (cTb (n / 100) (n % 100)).1 (cTb (n / 100) (n % 100)).2.1 (cTb (n / 100) (n % 100)).2.2.1).before args s = true at lk
    rw [← hk] at h2 h3 he h4 lk
    clear h1
    generalize n % 100 = f at h3 he h4 lk
    rcases hlen with h | h
    · cases h
    rw [h] at hd hn
    obtain ⟨a, ha, ho⟩ := vld_obj hv (by omega)
    have h0 : kTag k = 0 := (ords_kd ho).2.2.2.2.2 (by dsimp only; omega)
    have h9 : kCls k < 9 := by omega
    have hf : f < nF (kCls k) := by omega
    have hfi : (cTb (kCls k) f).2.2.2 = true → mInit m = true ∧ mOwn m = kCls k := by
      intro z
      rw [z, cond_true] at h4
      obtain ⟨g1, g2⟩ := band_t h4
      exact ⟨g1, Nat.eq_of_beq_eq_true g2⟩
    obtain ⟨-, ty0, -, -⟩ := fld_facts h9 hf
    have hisL : ∀ t, fTy (kCls k) f = t → t ≠ 2 → isL k f = false := by
      intro t e1 e2
      unfold isL
      rw [h0, e1]
      rcases z : Nat.beq t 2 with _ | _
      · rfl
      · exact absurd (Nat.eq_of_beq_eq_true z) e2
    -- a number is put
    have key : ∀ (v : MV) (x : Int), fval ad (S.1, S.2.1, sup S.2.2 k i f x) k i f = toV ad v → narrow (tyF (kCls k) f) (toV ad v) = toV ad v → fits (tyF (kCls k) f) (toV ad v) = true → in64 x → (isL k f = false → in32 x) → exec N F m (pc + 1) L st (S.1, S.2.1, sup S.2.2 k i f x) = some out → W p l e R s mid args below meth c H locs cells slots Q (F0 mid (bpc m pc) ls (toV ad v :: .ref (ad k i) :: st.map (toV ad))) := by
      intro v x e1 e2 e3 e4 e5 e6
      refine put_k hC0 hH.1 hd ha ho h9 hf lk hfi e2 e3 e1 (fun f' hf' => fval_sup hf') (fun q' hq => ent_sup hq) rfl (fun H1 locs1 hP hD hS => ?_)
      have e := wl_set (G := G) (ad := ad) (S' := (S.1, S.2.1, sup S.2.2 k i f x)) ha ho rfl (fun q' hq => ent_sup hq)
      rw [← e] at hP hD
      have k0 := go_sup ih hH e6 hr (wd_sup hH.1 ha ho e4 e5 hP hD hS)
      rw [hn] at k0
      exact k0
    rcases z : fTy (kCls k) f with _ | _ | _ | _ | q <;> rw [z] at he ty0
    · rcases v with x | (x | (x | x)) <;> first | (cases he; done) | skip
      have ht : tyF (kCls k) f = .int := by
        generalize tyF (kCls k) f = ty at ty0
        cases ty <;> first | rfl | cases ty0
      exact key (vI x) x (by unfold fval; simp only [z]; rw [sup_self]; rfl) (by rw [ht]; rfl) (by rw [ht]; rfl) (in32_64 hw1) (fun _ => hw1) he
    · rcases v with x | (x | (x | x)) <;> first | (cases he; done) | skip
      have ht : tyF (kCls k) f = .boolean := by
        generalize tyF (kCls k) f = ty at ty0
        cases ty <;> first | rfl | cases ty0
      change (if x = 0 then exec N F m (pc + 1) L st (S.1, S.2.1, sup S.2.2 k i f x) else if x = 1 then exec N F m (pc + 1) L st (S.1, S.2.1, sup S.2.2 k i f x) else none) = some out at he
      by_cases g0 : x = 0
      · rw [if_pos g0] at he
        subst g0
        exact key (vI 0) 0 (by unfold fval; simp only [z]; rw [sup_self]; rfl) (by rw [ht]; rfl) (by rw [ht]; rfl) in64_0 (fun _ => in32_0) he
      rw [if_neg g0] at he
      by_cases g1 : x = 1
      · rw [if_pos g1] at he
        subst g1
        exact key (vI 1) 1 (by unfold fval; simp only [z]; rw [sup_self]; rfl) (by rw [ht]; rfl) (by rw [ht]; rfl) (by unfold in64; omega) (fun _ => by unfold in32; omega) he
      · rw [if_neg g1] at he; cases he
    · rcases v with x | (x | (x | x)) <;> first | (cases he; done) | skip
      have ht : tyF (kCls k) f = .long := by
        generalize tyF (kCls k) f = ty at ty0
        cases ty <;> first | rfl | cases ty0
      exact key (vJ x) x (by unfold fval; simp only [z]; rw [sup_self]; rfl) (by rw [ht]; rfl) (by rw [ht]; rfl) hw1 (fun zz => by unfold isL at zz; rw [h0, z] at zz; cases zz) he
    · rcases v with x | (x | (x | x)) <;> first | (cases he; done) | skip
      change cond (Nat.beq x.1 (fRef k i f).1) (cond (Nat.beq x.2 (fRef k i f).2) (exec N F m (pc + 1) L st (S.1, rem3 (k, i, f) S.2.1, S.2.2)) none) none = some out at he
      rcases g1 : Nat.beq x.1 (fRef k i f).1 with _ | _ <;> rw [g1] at he <;> first | (cases he; done) | skip
      rcases g2 : Nat.beq x.2 (fRef k i f).2 with _ | _ <;> rw [g2] at he <;> first | (cases he; done) | skip
      rw [cond_true, cond_true] at he
      have hx1 : x = fRef k i f := Prod.ext (Nat.eq_of_beq_eq_true g1) (Nat.eq_of_beq_eq_true g2)
      subst hx1
      have hrm : ∀ q f', elem3 (q, f') S.2.1 = elem3 (q, f') S.2.1 := fun _ _ => rfl
      have hnar : narrow (tyF (kCls k) f) (.ref (ad (fRef k i f).1 (fRef k i f).2)) = .ref (ad (fRef k i f).1 (fRef k i f).2) ∧ fits (tyF (kCls k) f) (.ref (ad (fRef k i f).1 (fRef k i f).2)) = true := by
        generalize tyF (kCls k) f = ty at ty0
        cases ty <;> first | exact ⟨rfl, rfl⟩ | cases ty0
      have hother : ∀ k' i' f', ¬ (k = k' ∧ i = i' ∧ f = f') → elem3 (k', i', f') (rem3 (k, i, f) S.2.1) = elem3 (k', i', f') S.2.1 := by
        intro k' i' f' hne
        rw [elem3_rem, beq3_ne hne]
        rfl
      refine put_k (S' := (S.1, rem3 (k, i, f) S.2.1, S.2.2)) hC0 hH.1 hd ha ho h9 hf lk hfi hnar.1 hnar.2 ?_ ?_ ?_ rfl (fun H1 locs1 hP hD hS => ?_)
      · unfold fval
        simp only [z]
        rw [elem3_rem]
        have : (cond (Nat.beq k k) (cond (Nat.beq i i) (cond (Nat.beq f f) true false) false) false) = true := by rw [Nat.beq_refl, Nat.beq_refl, Nat.beq_refl]; rfl
        rw [this]
        rfl
      · intro f' hf'
        unfold fval
        simp only [hother k i f' (fun z => hf' z.2.2.symm)]
      · intro q' hq
        exact ent_un (fun _ => rfl) (fun f' => hother q'.1 q'.2 f' (fun z => hq (Prod.ext z.1.symm z.2.1.symm)))
      · obtain ⟨-, -, -, w4, w5, w6, w7, w8⟩ := hH.1
        have hok : vld S.1 (fRef k i f) := by
          rcases hw1 with g | g | ⟨g, -⟩
          · exact g
          · have := fRef_lt ho hf; rw [g] at this; dsimp only at this; omega
          · have := fRef_lt ho hf; omega
        have hW' : Wd N G b xs A H0 (S.1, rem3 (k, i, f) S.2.1, S.2.2) ad H1 locs1 := by
          refine ⟨hP, hD, hS, w4, w5, w6, fun q hq h0' f' hl' hf' he' => ?_, w8⟩
          by_cases g : k = q.1 ∧ i = q.2 ∧ f = f'
          · obtain ⟨g3, g4, g5⟩ := g
            rw [← g3, ← g4, ← g5]
            exact hok
          · rw [hother q.1 q.2 f' g] at he'
            exact w7 q hq h0' f' hl' hf' he'
        have k0 := ih (pc + 1) L st (S.1, rem3 (k, i, f) S.2.1, S.2.2) ad H1 locs1 cells slots ls he ⟨hW', hH.2.1, hr, hH.2.2.2.1, hH.2.2.2.2.1, hH.2.2.2.2.2.1, hH.2.2.2.2.2.2.1, hH.2.2.2.2.2.2.2.1, hH.2.2.2.2.2.2.2.2⟩
        rw [hn] at k0
        exact k0
    · cases he
  · cases hz
end WALK
