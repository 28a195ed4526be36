section WALK
variable {N m : Nat} {G : GT} {b : Nat} {xs : Nat → Int32} {out : Out}
variable {p : Program} {l : Launch} {e : Env} {R : Room} {s : State} {mid : MethodId} {args : Array Value} {below : List Frame} {meth : Method} {c : Code} {A : Nat → Prop} {H0 : Heap} {Q : State → Prop}
variable {F pc : Nat} {L st : List MV} {S : MS} {ad : AdT} {H : Heap} {locs : List Loc} {cells slots : Nat} {ls : Array Slot}
theorem slN_mono {n n' : Nat} (h : n ≤ n') : slN n ≤ slN n' := by
  induction h with
  | refl => exact Nat.le_refl _
  | @step k _ ih =>
    rcases e : nth ords k with _ | q
    · have : slN (k + 1) = slN k := by
        rw [nth_get] at e
        unfold slN
        rw [List.take_add_one, e]
        simp
      show slN _ ≤ slN (k + 1)
      omega
    · have := slN_succ e
      show slN _ ≤ slN (k + 1)
      omega
theorem s_new {ci : Nat} (hC : Cx N m G b xs p R s mid args meth c A H0) (ih : IH N F m G b xs out p l e R s mid args below meth c A H0 Q) (hH : Here N m G b xs out p l e R s mid args below meth c A H0 Q L st S ad H locs cells slots ls)
    {raw : Instr} {len : Nat} (hd : decode (mCode m) (bpc m pc) = .ok (raw, len)) (hn : bpc m (pc + 1) = bpc m pc + len) (hlen : lenOf raw = 0 ∨ len = lenOf raw) (hz : rz m (bpc m pc) raw (.new ci) = true)
    (he : x_new ci pc L st S (exec N F m) none = some out) : W p l e R s mid args below meth c H locs cells slots Q (F0 mid (bpc m pc) ls (st.map (toV ad))) := by
  obtain ⟨hm264, hx, hb, hml, hown, hts, hini, hfr, hlo, hGS, hA, hX, hbl, hbA, hTX, hN⟩ := hC
  unfold x_new at he
  rcases ho : nth ords S.1 with _ | ⟨k, i⟩ <;> rw [ho] at he <;> first | (cases he; done) | skip
  dsimp only at he
  rcases g1 : Nat.beq (kTag k) 0 with _ | _ <;> rw [g1] at he <;> first | (cases he; done) | skip
  rcases g2 : Nat.beq (kCls k) ci with _ | _ <;> rw [g2] at he <;> first | (cases he; done) | skip
  rw [cond_true, cond_true] at he
  have h0 := Nat.eq_of_beq_eq_true g1
  have hk := Nat.eq_of_beq_eq_true g2
  unfold rz at hz
  dsimp only at hz
  split at hz
  · rename_i idx
    obtain ⟨h1, h2⟩ := band_t hz
    obtain ⟨h2, h3⟩ := band_t h2
    obtain ⟨h3, h4⟩ := band_t h3
    have h2 : ci + 1 ≤ 9 := Nat.le_of_ble_eq_true h2
    have w1 := hts _ (gw_of h1 rfl)
    have w2 := hts _ (gw_of h3 rfl)
    have w3 := hts _ (gw_of h4 rfl)
    rw [wd_6] at w1
    rw [wd_7] at w2
    rw [wd_8] at w3
    subst hk
    rcases hlen with h | h
    · cases h
    rw [h] at hd hn
    have h9 : kCls k < 9 := by omega
    have hmono := exec_n _ _ _ _ _ _ _ he
    have hmono1 : S.1 + 1 ≤ out.2.1 := hmono
    have hsl : slN S.1 + szOf (k, i) ≤ slN out.2.1 := by rw [← slN_succ ho]; exact slN_mono hmono1
    have hsz : szOf (k, i) = nF (kCls k) := by unfold szOf; rw [g1]; rfl
    obtain ⟨r1, r2⟩ := refSlots_k ho
    have hu : ∀ k' i' f, (k', i') ≠ (k, i) → elem3 (k', i', f) (S.2.1 ++ refSlots k i) = elem3 (k', i', f) S.2.1 := by
      intro k' i' f hne
      rw [elem3_app, elem3_out (l := refSlots k i) (fun x hx z => hne (Prod.ext (z.1.trans (r2 x hx).1) (z.2.trans (r2 x hx).2)))]
      simp
    have hun : kTag k = 0 → ∀ f, f < nF (kCls k) → fTy (kCls k) f = 3 → elem3 (k, i, f) (S.2.1 ++ refSlots k i) = true := by
      intro _ f hf h3
      rw [elem3_app, r1 f hf h0 h3]
      simp
    have hcells := hH.2.2.2.2.2.2.1
    have hslots := hH.2.2.2.2.2.2.2.1
    refine va_new (ci := kCls k) (fs := (List.range (nF (kCls k))).map (fval ad (S.1 + 1, S.2.1 ++ refSlots k i, zro S.2.2 k i) k i)) hx hb hts (fld_in h9) (tyF (kCls k)) (fun k' hk' => (fld_facts h9 hk').1) hown w1 w2 w3 hGS.1 hH.1.1 hH.1.2.1 hH.1.2.2.1 hA (cls_at h9) (fun f hf => ?_) (by omega) (by omega) hd (fun q H1 hP hD hS => ?_)
    · unfold vp_V
      rw [List.getD_eq_getElem?_getD, fs_at hf]
      show defaultValue (tyF (kCls k) f) = fval ad (S.1 + 1, S.2.1 ++ refSlots k i, zro S.2.2 k i) k i f
      have ty0 := (fld_facts h9 hf).2.1
      have hz0 : zro S.2.2 k i k i f = 0 := by unfold zro; rw [if_pos ⟨rfl, rfl⟩]
      unfold fval
      simp only [hz0]
      rcases z : fTy (kCls k) f with _ | _ | _ | _ | q <;> rw [z] at ty0 <;> generalize tyF (kCls k) f = ty at ty0 <;> cases ty <;> first | rfl | (cases ty0; done) | (simp only [hun h0 f hf z]; rfl)
    · have e1 : ∀ f, f < nF (kCls k) → fval ad (S.1 + 1, S.2.1 ++ refSlots k i, zro S.2.2 k i) k i f = fval (adn ad k i q) (S.1 + 1, S.2.1 ++ refSlots k i, zro S.2.2 k i) k i f := by
        intro f hf
        unfold fval
        rcases z : fTy (kCls k) f with _ | _ | _ | _ | q <;> first | rfl | (simp only [hun h0 f hf z]; rfl)
      have e2 : (List.range (nF (kCls k))).map (fval ad (S.1 + 1, S.2.1 ++ refSlots k i, zro S.2.2 k i) k i) = (List.range (nF (kCls k))).map (fval (adn ad k i q) (S.1 + 1, S.2.1 ++ refSlots k i, zro S.2.2 k i) k i) := List.map_congr_left (fun f hf => e1 f (List.mem_range.mp hf))
      rw [e2, ← ent_0 (G := G) (S := (S.1 + 1, S.2.1 ++ refSlots k i, zro S.2.2 k i)) h0] at hP hD
      have hHn := here_new hH ho hH.2.2.1 hu hun hP hD hS
      have k0 := ih _ _ _ _ _ _ _ _ _ _ he hHn
      rw [hn, hsz] at k0
      have e3 : (vR k i :: st).map (toV (adn ad k i q)) = .ref q :: st.map (toV ad) := by
        rw [List.map_cons]
        congr 1
        · show Value.ref (adn ad k i q k i) = _
          rw [adn_self]
        · exact List.map_congr_left (fun v hv => toV_new ho (hH.2.2.1 v hv))
      rw [e3] at k0
      exact k0
  · cases hz
end WALK
