section
section WALK
variable {N m : Nat} {G : GT} {b : Nat} {xs : Nat → Int32} {out : Out}
variable {p : Program} {l : Launch} {e : Env} {R : Room} {s : State} {mid : MethodId} {args : Array Value} {below : List Frame} {meth : Method} {c : Code} {A : Nat → Prop} {H0 : Heap} {Q : State → Prop}
variable {F pc : Nat} {L st : List MV} {S : MS} {ad : AdT} {H : Heap} {locs : List Loc} {cells slots : Nat} {ls : Array Slot}
theorem fld_facts {ci f : Nat} (hc : ci < 9) (hf : f < nF ci) : parseFieldDescriptor (cTb ci f).2.2.1 = some (tyF ci f) ∧ tyOk (fTy ci f) (tyF ci f) = true ∧ elemW (9, ci, f, 0) = true ∧ (cTb ci f).1 = cN ci := by
  have a1 : allR (fun f => fldOk ci f) 0 (nF ci) = true := allR_at 9 0 ci fldAll (by omega) (by omega)
  have a2 : allR (fun f => elemW (9, ci, f, 0)) 0 (nF ci) = true := allR_at 9 0 ci layAll (by omega) (by omega)
  have a3 : allR (fun f => decide ((cTb ci f).1 = cN ci)) 0 (nF ci) = true := allR_at 9 0 ci dclAll (by omega) (by omega)
  have h : fldOk ci f = true := allR_at (nF ci) 0 f a1 (by omega) (by omega)
  have h4 : decide ((cTb ci f).1 = cN ci) = true := allR_at (nF ci) 0 f a3 (by omega) (by omega)
  have h3 : elemW (9, ci, f, 0) = true := allR_at (nF ci) 0 f a2 (by omega) (by omega)
  unfold fldOk at h
  obtain ⟨h1, h2⟩ := band_t h
  exact ⟨of_decide_eq_true h1, h2, h3, of_decide_eq_true h4⟩
theorem fld_nm {ci : Nat} (hc : ci < 9) : ∀ a, a < nF ci → ∀ b, b < nF ci → a ≠ b → (cTb ci a).2.1 ≠ (cTb ci b).2.1 := by
  intro a ha b hb hab
  have a1 : allR (fun a => allR (fun b => cond (Nat.beq a b) true (decide ((cTb ci a).2.1 ≠ (cTb ci b).2.1))) 0 (nF ci)) 0 (nF ci) = true := allR_at 9 0 ci nmAll (by omega) (by omega)
  have a2 : allR (fun b => cond (Nat.beq a b) true (decide ((cTb ci a).2.1 ≠ (cTb ci b).2.1))) 0 (nF ci) = true := allR_at (nF ci) 0 a a1 (by omega) (by omega)
  have h : cond (Nat.beq a b) true (decide ((cTb ci a).2.1 ≠ (cTb ci b).2.1)) = true := allR_at (nF ci) 0 b a2 (by omega) (by omega)
  rcases z : Nat.beq a b with _ | _
  · rw [z] at h; exact of_decide_eq_true h
  · exact absurd (Nat.eq_of_beq_eq_true z) hab
theorem fld_in {ci : Nat} (hc : ci < 9) : ∀ w ∈ u_ws (cN ci) (cTb ci) (nF ci), w ∈ gw := by
  intro w hw
  obtain ⟨f, hf, rfl⟩ := List.mem_map.mp hw
  have h := (fld_facts hc (List.mem_range.mp hf)).2.2.1
  have h2 := gw_of h rfl
  rw [wd_9] at h2
  exact h2
theorem cls_at {ci : Nat} (hc : ci < 9) : cls0[ci]? = some (cN ci, cTb ci, nF ci) := by
  rcases (by omega : ci = 0 ∨ ci = 1 ∨ ci = 2 ∨ ci = 3 ∨ ci = 4 ∨ ci = 5 ∨ ci = 6 ∨ ci = 7 ∨ ci = 8) with rfl | rfl | rfl | rfl | rfl | rfl | rfl | rfl | rfl <;> rfl
theorem cls999 : kCls 999 = 99 := rfl
theorem cls1000 : kCls 1000 = 99 := rfl
theorem vld_obj {n k i : Nat} (h : okV n (.inr (.inr (.inl (k, i))))) (hc : kCls k < 9) : vld n (k, i) := by
  rcases h with h | h | ⟨h, -⟩
  · exact h
  · cases h; rw [cls999] at hc; omega
  · dsimp only at h; subst h; rw [cls1000] at hc; omega
theorem fs_at {k i f : Nat} (hf : f < nF (kCls k)) : ((List.range (nF (kCls k))).map (fval ad S k i))[f]? = some (fval ad S k i f) := by
  rw [List.getElem?_map, List.getElem?_range hf]
  rfl
theorem s_get {n : Nat} (hC : Cx N m G b xs p R s mid args meth c A H0) (ih : IH N F m G b xs out p l e R s mid args below meth c A H0 Q) (hH : Here N m G b xs out p l e R s mid args below meth c A H0 Q L st S ad H locs cells slots ls)
    {raw : Instr} {len : Nat} (hd : decode (mCode m) (bpc m pc) = .ok (raw, len)) (hn : bpc m (pc + 1) = bpc m pc + len) (hlen : lenOf raw = 0 ∨ len = lenOf raw) (hz : rz m (bpc m pc) raw (.getfield n) = true)
    (he : x_get n pc L st S (exec N F m) none = some out) : W p l e R s mid args below meth c H locs cells slots Q (F0 mid (bpc m pc) ls (st.map (toV ad))) := by
  obtain ⟨hm264, hx, hb, hml, hown, hts, hini, hfr, hlo, hGS, hA, hX, hbl, hbA, hTX, hN⟩ := hC
  unfold x_get at he
  rcases st with _ | ⟨(x | (x | (⟨k, i⟩ | x))), st⟩ <;> first | (cases he; done) | skip
  have hv := okh hH.2.2.1
  have hr := okt hH.2.2.1
  dsimp only at he
  rcases hk : Nat.beq (kCls k) (n / 100) with _ | _ <;> rw [hk] at he <;> first | (cases he; done) | skip
  have hk := Nat.eq_of_beq_eq_true hk
  rw [cond_true] at he
  unfold rz at hz
  dsimp only at hz
  split at hz
  · rename_i idx
    obtain ⟨h1, h2⟩ := band_t hz
    obtain ⟨h2, h3⟩ := band_t h2
    have h2 : n / 100 + 1 ≤ 9 := Nat.le_of_ble_eq_true h2
    have h3 : n % 100 + 1 ≤ nF (n / 100) := Nat.le_of_ble_eq_true h3
    rw [← hk] at h2 h3 he
    rcases hlen with h | h
    · cases h
    rw [h] at hd hn
    obtain ⟨a, ha, ho⟩ := vld_obj hv (by omega)
    have h0 : kTag k = 0 := (ords_kd ho).2.2.2.2.2 (by dsimp only; omega)
    have hw := wl_at (G := G) (ad := ad) ha ho
    rw [ent_0 h0] at hw
    have lk := hts _ (gw_of h1 rfl)
    rw [wd_0, ← hk] at lk
    refine va_get (ref := (cTb (kCls k) (n % 100)).1) (v := fval ad S k i (n % 100)) hx hb hts (fld_in (by omega)) hown hGS.1 hH.1.1 a hw (cls_at (by omega)) (n % 100) (by omega) lk (fun _ h => h) (fs_at (by omega)) hd ?_
    have key : ∀ v : MV, fval ad S k i (n % 100) = toV ad v → okV S.1 v → exec N F m (pc + 1) L (v :: st) S = some out → W p l e R s mid args below meth c H locs cells slots Q (F0 mid (bpc m pc + 3) ls (fval ad S k i (n % 100) :: st.map (toV ad))) := by
      intro v e1 e2 e3
      have k0 := go_st ih hH e3 (ok1 e2 hr)
      rw [hn] at k0
      rw [e1]
      exact k0
    have hs := hH.1.2.2.2.2.2.1 k i (n % 100)
    have hl0 : ∀ t, fTy (kCls k) (n % 100) = t → t ≠ 2 → isL k (n % 100) = false := by
      intro t e1 e2
      unfold isL
      rw [h0, e1]
      rcases z : Nat.beq t 2 with _ | _
      · rfl
      · exact absurd (Nat.eq_of_beq_eq_true z) e2
    rcases z : fTy (kCls k) (n % 100) with _ | _ | _ | _ | q <;> rw [z] at he
    · exact key (vI _) (by unfold fval; simp only [z]; rfl) (hs.2 (hl0 _ z (by decide))) he
    · exact key (vI _) (by unfold fval; simp only [z]; rfl) (hs.2 (hl0 _ z (by decide))) he
    · exact key (vJ _) (by unfold fval; simp only [z]; rfl) hs.1 he
    · rcases z2 : elem3 (k, i, n % 100) S.2.1 with _ | _ <;> rw [z2] at he <;> first | (cases he; done) | skip
      rw [cond_false] at he
      have hok := hH.1.2.2.2.2.2.2.1 (k, i) ⟨a, ha, ho⟩ h0 (n % 100) (show n % 100 < nF (kCls k) by omega) z z2
      exact key (.inr (.inr (.inl (fRef k i (n % 100))))) (by unfold fval; simp only [z, z2, cond_false]; rfl) (Or.inl hok) he
    · cases he
  · cases hz
/-- an object's fields behind a write of one -/
theorem fs_set {S' : MS} {k i f : Nat} {w : Value} (hw : fval ad S' k i f = w) (hf : f < nF (kCls k)) (ho : ∀ f', f' ≠ f → fval ad S' k i f' = fval ad S k i f') :
    ((List.range (nF (kCls k))).map (fval ad S k i)).set f w = (List.range (nF (kCls k))).map (fval ad S' k i) := by
  apply List.ext_getElem?
  intro q
  rw [List.getElem?_set]
  by_cases h : f = q
  · subst h
    rw [if_pos rfl, if_pos (by simpa using hf), List.getElem?_map, List.getElem?_range hf, ← hw]
    rfl
  · rw [if_neg h]
    by_cases h2 : q < nF (kCls k)
    · rw [List.getElem?_map, List.getElem?_map, List.getElem?_range h2]
      simp only [Option.map_some]
      rw [ho q (fun z => h z.symm)]
    · rw [List.getElem?_eq_none (by simp; omega), List.getElem?_eq_none (by simp; omega)]
theorem fval_sup {k i f : Nat} {v : Int} {f' : Nat} (h : f' ≠ f) : fval ad (S.1, S.2.1, sup S.2.2 k i f v) k i f' = fval ad S k i f' := by
  unfold fval
  have e1 : sup S.2.2 k i f v k i f' = S.2.2 k i f' := by unfold sup; rw [if_neg (fun z => h z.2.2)]
  simp only [e1]
theorem sup_self {k i f : Nat} {v : Int} {σ : Sto} : sup σ k i f v k i f = v := by unfold sup; rw [if_pos ⟨rfl, rfl, rfl⟩]
theorem beq3_ne {a b c a' b' c' : Nat} (h : ¬ (a = a' ∧ b = b' ∧ c = c')) : (cond (Nat.beq a a') (cond (Nat.beq b b') (cond (Nat.beq c c') true false) false) false) = false := by
  rcases h1 : Nat.beq a a' with _ | _
  · rfl
  rcases h2 : Nat.beq b b' with _ | _
  · rfl
  rcases h3 : Nat.beq c c' with _ | _
  · rfl
  exact absurd ⟨Nat.eq_of_beq_eq_true h1, Nat.eq_of_beq_eq_true h2, Nat.eq_of_beq_eq_true h3⟩ h
theorem elem3_cons (a b : Nat × Nat × Nat) (l : List (Nat × Nat × Nat)) : elem3 a (b :: l) = (cond (cond (Nat.beq a.1 b.1) (cond (Nat.beq a.2.1 b.2.1) (cond (Nat.beq a.2.2 b.2.2) true false) false) false) true (elem3 a l)) := by
  show cond (Nat.beq a.1 b.1) (cond (Nat.beq a.2.1 b.2.1) (cond (Nat.beq a.2.2 b.2.2) true (elem3 a l)) (elem3 a l)) (elem3 a l) = _
  rcases Nat.beq a.1 b.1 <;> rcases Nat.beq a.2.1 b.2.1 <;> rcases Nat.beq a.2.2 b.2.2 <;> rfl
theorem rem3_cons (a b : Nat × Nat × Nat) (l : List (Nat × Nat × Nat)) : rem3 a (b :: l) = (cond (cond (Nat.beq a.1 b.1) (cond (Nat.beq a.2.1 b.2.1) (cond (Nat.beq a.2.2 b.2.2) true false) false) false) (rem3 a l) (b :: rem3 a l)) := by
  show cond (Nat.beq a.1 b.1) (cond (Nat.beq a.2.1 b.2.1) (cond (Nat.beq a.2.2 b.2.2) (rem3 a l) (b :: rem3 a l)) (b :: rem3 a l)) (b :: rem3 a l) = _
  rcases Nat.beq a.1 b.1 <;> rcases Nat.beq a.2.1 b.2.1 <;> rcases Nat.beq a.2.2 b.2.2 <;> rfl
theorem elem3_rem (a c : Nat × Nat × Nat) : ∀ l, elem3 c (rem3 a l) = (cond (cond (Nat.beq a.1 c.1) (cond (Nat.beq a.2.1 c.2.1) (cond (Nat.beq a.2.2 c.2.2) true false) false) false) false (elem3 c l))
  | [] => by
    rcases (cond (Nat.beq a.1 c.1) (cond (Nat.beq a.2.1 c.2.1) (cond (Nat.beq a.2.2 c.2.2) true false) false) false) <;> rfl
  | b :: l => by
    rw [rem3_cons, elem3_cons]
    rcases h1 : (cond (Nat.beq a.1 b.1) (cond (Nat.beq a.2.1 b.2.1) (cond (Nat.beq a.2.2 b.2.2) true false) false) false) with _ | _
    · rw [cond_false, elem3_cons, elem3_rem a c l]
      rcases h2 : (cond (Nat.beq a.1 c.1) (cond (Nat.beq a.2.1 c.2.1) (cond (Nat.beq a.2.2 c.2.2) true false) false) false) with _ | _
      · rfl
      · rcases h3 : (cond (Nat.beq c.1 b.1) (cond (Nat.beq c.2.1 b.2.1) (cond (Nat.beq c.2.2 b.2.2) true false) false) false) with _ | _
        · rfl
        · exfalso
          have e1 : a = c := by
            by_cases z : a.1 = c.1 ∧ a.2.1 = c.2.1 ∧ a.2.2 = c.2.2
            · exact Prod.ext z.1 (Prod.ext z.2.1 z.2.2)
            · rw [beq3_ne z] at h2; cases h2
          rw [e1, h3] at h1
          cases h1
    · rw [cond_true, elem3_rem a c l]
      rcases h2 : (cond (Nat.beq a.1 c.1) (cond (Nat.beq a.2.1 c.2.1) (cond (Nat.beq a.2.2 c.2.2) true false) false) false) with _ | _
      · rcases h3 : (cond (Nat.beq c.1 b.1) (cond (Nat.beq c.2.1 b.2.1) (cond (Nat.beq c.2.2 b.2.2) true false) false) false) with _ | _
        · rfl
        · exfalso
          have e1 : a = b := by
            by_cases z : a.1 = b.1 ∧ a.2.1 = b.2.1 ∧ a.2.2 = b.2.2
            · exact Prod.ext z.1 (Prod.ext z.2.1 z.2.2)
            · rw [beq3_ne z] at h1; cases h1
          have e2 : c = b := by
            by_cases z : c.1 = b.1 ∧ c.2.1 = b.2.1 ∧ c.2.2 = b.2.2
            · exact Prod.ext z.1 (Prod.ext z.2.1 z.2.2)
            · rw [beq3_ne z] at h3; cases h3
          rw [e1] at h2
          rw [e2] at h2 h3
          rw [h3] at h2
          cases h2
      · rfl
end WALK
end
section
section WALK
variable {N m : Nat} {G : GT} {b : Nat} {xs : Nat → Int32} {out : Out}
variable {p : Program} {l : Launch} {e : Env} {R : Room} {s : State} {mid : MethodId} {args : Array Value} {below : List Frame} {meth : Method} {c : Code} {A : Nat → Prop} {H0 : Heap} {Q : State → Prop}
variable {F pc : Nat} {L st : List MV} {S : MS} {ad : AdT} {H : Heap} {locs : List Loc} {cells slots : Nat} {ls : Array Slot}
theorem fRef_lt {a k i f : Nat} (ho : nth ords a = some (k, i)) (hf : f < nF (kCls k)) : (fRef k i f).1 < 999 := by
  have e : allR (fun a => match nth ords a with
    | some q => allR (fun f => Nat.blt (fRef q.1 q.2 f).1 999) 0 (nF (kCls q.1))
    | none => true) 0 55 = true := by decide +kernel
  have h1 : a < 55 := nth_lt _ _ _ ho
  have e1 := allR_at 55 0 a e (by omega) (by omega)
  rw [ho] at e1
  have e2 : Nat.blt (fRef k i f).1 999 = true := allR_at (nF (kCls k)) 0 f e1 (by omega) (by omega)
  exact Nat.le_of_ble_eq_true e2
theorem put_k {k i f a idx : Nat} {w : Value} {S' : MS} {rest : List Value} (hC : Cx N m G b xs p R s mid args meth c A H0) (hW : Wd N G b xs A H0 S ad H locs) (hd : decode (mCode m) (bpc m pc) = .ok (.putfield idx, 3))
    (ha : a < S.1) (ho : nth ords a = some (k, i)) (h9 : kCls k < 9) (hf : f < nF (kCls k)) (lk : (Cond.fieldLink (cN (mOwn m)) idx (cTb (kCls k) f).1 (cTb (kCls k) f).2.1 (cTb (kCls k) f).2.2.1).before args s = true)
    (hfi : (cTb (kCls k) f).2.2.2 = true → mInit m = true ∧ mOwn m = kCls k) (hw : narrow (tyF (kCls k) f) w = w) (hfit : fits (tyF (kCls k) f) w = true)
    (hfv : fval ad S' k i f = w) (hoth : ∀ f', f' ≠ f → fval ad S' k i f' = fval ad S k i f') (hent : ∀ q', q' ≠ (k, i) → ent G ad S' q' = ent G ad S q') (hn1 : S'.1 = S.1)
    (kk : ∀ (H1 : Heap) (locs1 : List Loc), va_P G.1 cls0 (wl G ad S') H1 → va_D A (wl G ad S') → va_S A H0 H1 locs1 → W p l e R s mid args below meth c H1 locs1 cells slots Q (F0 mid (bpc m pc + 3) ls rest)) :
    W p l e R s mid args below meth c H locs cells slots Q (F0 mid (bpc m pc) ls (w :: .ref (ad k i) :: rest)) := by
  obtain ⟨hm264, hx, hb, hml, hown, hts, hini, hfr, hlo, hGS, hA, hX, hbl, hbA, hTX, hN⟩ := hC
  have h0 : kTag k = 0 := (ords_kd ho).2.2.2.2.2 h9
  have hw0 := wl_at (G := G) (ad := ad) ha ho
  rw [ent_0 h0] at hw0
  have kk2 : ∀ (H1 : Heap) (locs1 : List Loc), va_P G.1 cls0 ((wl G ad S).set a (ad k i, .inr (kCls k, ((List.range (nF (kCls k))).map (fval ad S k i)).set f w))) H1 → va_D A ((wl G ad S).set a (ad k i, .inr (kCls k, ((List.range (nF (kCls k))).map (fval ad S k i)).set f w))) → va_S A H0 H1 locs1 → W p l e R s mid args below meth c H1 locs1 cells slots Q (F0 mid (bpc m pc + 3) ls rest) := by
    intro H1 locs1 hP hD hS
    rw [fs_set hfv hf hoth, ← ent_0 (G := G) (S := S') h0] at hP hD
    have e := wl_set (G := G) (ad := ad) (S' := S') ha ho hn1 hent
    rw [e] at hP hD
    exact kk H1 locs1 hP hD hS
  rcases hfin : (cTb (kCls k) f).2.2.2 with _ | _
  · exact va_put hx hb hts (fld_in h9) (tyF (kCls k)) (fun k' hk' => (fld_facts h9 hk').1) (fld_nm h9) hown hGS.1 hW.1 hW.2.1 hW.2.2.1 a hw0 (cls_at h9) f hf lk (fun _ h => h) hfin (fld_facts h9 hf).1 hw hfit (by simpa using hf) hd kk2
  · obtain ⟨g1, g2⟩ := hfi hfin
    exact va_putF hx hb hts (fld_in h9) (tyF (kCls k)) (fun k' hk' => (fld_facts h9 hk').1) (fld_nm h9) hown hGS.1 hW.1 hW.2.1 hW.2.2.1 a hw0 (cls_at h9) f hf lk (fun _ h => h) hfin (hini g1) (by rw [g2]; exact (fld_facts h9 hf).2.2.2) (fld_facts h9 hf).1 hw hfit (by simpa using hf) hd kk2
theorem s_put {n : Nat} (hC : Cx N m G b xs p R s mid args meth c A H0) (ih : IH N F m G b xs out p l e R s mid args below meth c A H0 Q) (hH : Here N m G b xs out p l e R s mid args below meth c A H0 Q L st S ad H locs cells slots ls)
    {raw : Instr} {len : Nat} (hd : decode (mCode m) (bpc m pc) = .ok (raw, len)) (hn : bpc m (pc + 1) = bpc m pc + len) (hlen : lenOf raw = 0 ∨ len = lenOf raw) (hz : rz m (bpc m pc) raw (.putfield n) = true)
    (he : x_put n pc L st S (exec N F m) none = some out) : W p l e R s mid args below meth c H locs cells slots Q (F0 mid (bpc m pc) ls (st.map (toV ad))) := by
  have hC0 := hC
  obtain ⟨hm264, hx, hb, hml, hown, hts, hini, hfr, hlo, hGS, hA, hX, hbl, hbA, hTX, hN⟩ := hC
  unfold x_put at he
  rcases st with _ | ⟨v, _ | ⟨(x | (x | (⟨k, i⟩ | x))), st⟩⟩ <;> first | (cases he; done) | skip
  have hw1 := okh hH.2.2.1
  have hv := okh (okt hH.2.2.1)
  have hr := okt (okt hH.2.2.1)
  dsimp only at he
  rcases hk : Nat.beq (kCls k) (n / 100) with _ | _ <;> rw [hk] at he <;> first | (cases he; done) | skip
  have hk := Nat.eq_of_beq_eq_true hk
  rw [cond_true] at he
  unfold rz at hz
  dsimp only at hz
  split at hz
  · rename_i idx
    obtain ⟨h1, h2⟩ := band_t hz
    obtain ⟨h2, h4⟩ := band_t h2
    obtain ⟨h2, h3⟩ := band_t h2
    have h2 : n / 100 + 1 ≤ 9 := Nat.le_of_ble_eq_true h2
    have h3 : n % 100 + 1 ≤ nF (n / 100) := Nat.le_of_ble_eq_true h3
    have lk := hts _ (gw_of h1 rfl)
    rw [wd_0] at lk
    change (Cond.fieldLink (cN (mOwn m)) idx (cTb (n / 100) (n % 100)).1 (cTb (n / 100) (n % 100)).2.1 (cTb (n / 100) (n % 100)).2.2.1).before args s = true at lk
    rw [← hk] at h2 h3 he h4 lk
    clear h1
    generalize n % 100 = f at h3 he h4 lk
    rcases hlen with h | h
    · cases h
    rw [h] at hd hn
    obtain ⟨a, ha, ho⟩ := vld_obj hv (by omega)
    have h0 : kTag k = 0 := (ords_kd ho).2.2.2.2.2 (by dsimp only; omega)
    have h9 : kCls k < 9 := by omega
    have hf : f < nF (kCls k) := by omega
    have hfi : (cTb (kCls k) f).2.2.2 = true → mInit m = true ∧ mOwn m = kCls k := by
      intro z
      rw [z, cond_true] at h4
      obtain ⟨g1, g2⟩ := band_t h4
      exact ⟨g1, Nat.eq_of_beq_eq_true g2⟩
    obtain ⟨-, ty0, -, -⟩ := fld_facts h9 hf
    have hisL : ∀ t, fTy (kCls k) f = t → t ≠ 2 → isL k f = false := by
      intro t e1 e2
      unfold isL
      rw [h0, e1]
      rcases z : Nat.beq t 2 with _ | _
      · rfl
      · exact absurd (Nat.eq_of_beq_eq_true z) e2
    -- a number is put
    have key : ∀ (v : MV) (x : Int), fval ad (S.1, S.2.1, sup S.2.2 k i f x) k i f = toV ad v → narrow (tyF (kCls k) f) (toV ad v) = toV ad v → fits (tyF (kCls k) f) (toV ad v) = true → in64 x → (isL k f = false → in32 x) → exec N F m (pc + 1) L st (S.1, S.2.1, sup S.2.2 k i f x) = some out → W p l e R s mid args below meth c H locs cells slots Q (F0 mid (bpc m pc) ls (toV ad v :: .ref (ad k i) :: st.map (toV ad))) := by
      intro v x e1 e2 e3 e4 e5 e6
      refine put_k hC0 hH.1 hd ha ho h9 hf lk hfi e2 e3 e1 (fun f' hf' => fval_sup hf') (fun q' hq => ent_sup hq) rfl (fun H1 locs1 hP hD hS => ?_)
      have e := wl_set (G := G) (ad := ad) (S' := (S.1, S.2.1, sup S.2.2 k i f x)) ha ho rfl (fun q' hq => ent_sup hq)
      rw [← e] at hP hD
      have k0 := go_sup ih hH e6 hr (wd_sup hH.1 ha ho e4 e5 hP hD hS)
      rw [hn] at k0
      exact k0
    rcases z : fTy (kCls k) f with _ | _ | _ | _ | q <;> rw [z] at he ty0
    · rcases v with x | (x | (x | x)) <;> first | (cases he; done) | skip
      have ht : tyF (kCls k) f = .int := by
        generalize tyF (kCls k) f = ty at ty0
        cases ty <;> first | rfl | cases ty0
      exact key (vI x) x (by unfold fval; simp only [z]; rw [sup_self]; rfl) (by rw [ht]; rfl) (by rw [ht]; rfl) (in32_64 hw1) (fun _ => hw1) he
    · rcases v with x | (x | (x | x)) <;> first | (cases he; done) | skip
      have ht : tyF (kCls k) f = .boolean := by
        generalize tyF (kCls k) f = ty at ty0
        cases ty <;> first | rfl | cases ty0
      change (if x = 0 then exec N F m (pc + 1) L st (S.1, S.2.1, sup S.2.2 k i f x) else if x = 1 then exec N F m (pc + 1) L st (S.1, S.2.1, sup S.2.2 k i f x) else none) = some out at he
      by_cases g0 : x = 0
      · rw [if_pos g0] at he
        subst g0
        exact key (vI 0) 0 (by unfold fval; simp only [z]; rw [sup_self]; rfl) (by rw [ht]; rfl) (by rw [ht]; rfl) in64_0 (fun _ => in32_0) he
      rw [if_neg g0] at he
      by_cases g1 : x = 1
      · rw [if_pos g1] at he
        subst g1
        exact key (vI 1) 1 (by unfold fval; simp only [z]; rw [sup_self]; rfl) (by rw [ht]; rfl) (by rw [ht]; rfl) (by unfold in64; omega) (fun _ => by unfold in32; omega) he
      · rw [if_neg g1] at he; cases he
    · rcases v with x | (x | (x | x)) <;> first | (cases he; done) | skip
      have ht : tyF (kCls k) f = .long := by
        generalize tyF (kCls k) f = ty at ty0
        cases ty <;> first | rfl | cases ty0
      exact key (vJ x) x (by unfold fval; simp only [z]; rw [sup_self]; rfl) (by rw [ht]; rfl) (by rw [ht]; rfl) hw1 (fun zz => by unfold isL at zz; rw [h0, z] at zz; cases zz) he
    · rcases v with x | (x | (x | x)) <;> first | (cases he; done) | skip
      change cond (Nat.beq x.1 (fRef k i f).1) (cond (Nat.beq x.2 (fRef k i f).2) (exec N F m (pc + 1) L st (S.1, rem3 (k, i, f) S.2.1, S.2.2)) none) none = some out at he
      rcases g1 : Nat.beq x.1 (fRef k i f).1 with _ | _ <;> rw [g1] at he <;> first | (cases he; done) | skip
      rcases g2 : Nat.beq x.2 (fRef k i f).2 with _ | _ <;> rw [g2] at he <;> first | (cases he; done) | skip
      rw [cond_true, cond_true] at he
      have hx1 : x = fRef k i f := Prod.ext (Nat.eq_of_beq_eq_true g1) (Nat.eq_of_beq_eq_true g2)
      subst hx1
      have hrm : ∀ q f', elem3 (q, f') S.2.1 = elem3 (q, f') S.2.1 := fun _ _ => rfl
      have hnar : narrow (tyF (kCls k) f) (.ref (ad (fRef k i f).1 (fRef k i f).2)) = .ref (ad (fRef k i f).1 (fRef k i f).2) ∧ fits (tyF (kCls k) f) (.ref (ad (fRef k i f).1 (fRef k i f).2)) = true := by
        generalize tyF (kCls k) f = ty at ty0
        cases ty <;> first | exact ⟨rfl, rfl⟩ | cases ty0
      have hother : ∀ k' i' f', ¬ (k = k' ∧ i = i' ∧ f = f') → elem3 (k', i', f') (rem3 (k, i, f) S.2.1) = elem3 (k', i', f') S.2.1 := by
        intro k' i' f' hne
        rw [elem3_rem, beq3_ne hne]
        rfl
      refine put_k (S' := (S.1, rem3 (k, i, f) S.2.1, S.2.2)) hC0 hH.1 hd ha ho h9 hf lk hfi hnar.1 hnar.2 ?_ ?_ ?_ rfl (fun H1 locs1 hP hD hS => ?_)
      · unfold fval
        simp only [z]
        rw [elem3_rem]
        have : (cond (Nat.beq k k) (cond (Nat.beq i i) (cond (Nat.beq f f) true false) false) false) = true := by rw [Nat.beq_refl, Nat.beq_refl, Nat.beq_refl]; rfl
        rw [this]
        rfl
      · intro f' hf'
        unfold fval
        simp only [hother k i f' (fun z => hf' z.2.2.symm)]
      · intro q' hq
        exact ent_un (fun _ => rfl) (fun f' => hother q'.1 q'.2 f' (fun z => hq (Prod.ext z.1.symm z.2.1.symm)))
      · obtain ⟨-, -, -, w4, w5, w6, w7, w8⟩ := hH.1
        have hok : vld S.1 (fRef k i f) := by
          rcases hw1 with g | g | ⟨g, -⟩
          · exact g
          · have := fRef_lt ho hf; rw [g] at this; dsimp only at this; omega
          · have := fRef_lt ho hf; omega
        have hW' : Wd N G b xs A H0 (S.1, rem3 (k, i, f) S.2.1, S.2.2) ad H1 locs1 := by
          refine ⟨hP, hD, hS, w4, w5, w6, fun q hq h0' f' hl' hf' he' => ?_, w8⟩
          by_cases g : k = q.1 ∧ i = q.2 ∧ f = f'
          · obtain ⟨g3, g4, g5⟩ := g
            rw [← g3, ← g4, ← g5]
            exact hok
          · rw [hother q.1 q.2 f' g] at he'
            exact w7 q hq h0' f' hl' hf' he'
        have k0 := ih (pc + 1) L st (S.1, rem3 (k, i, f) S.2.1, S.2.2) ad H1 locs1 cells slots ls he ⟨hW', hH.2.1, hr, hH.2.2.2.1, hH.2.2.2.2.1, hH.2.2.2.2.2.1, hH.2.2.2.2.2.2.1, hH.2.2.2.2.2.2.2.1, hH.2.2.2.2.2.2.2.2⟩
        rw [hn] at k0
        exact k0
    · cases he
  · cases hz
end WALK
end
section
section WALK
variable {N m : Nat} {G : GT} {b : Nat} {xs : Nat → Int32} {out : Out}
variable {p : Program} {l : Launch} {e : Env} {R : Room} {s : State} {mid : MethodId} {args : Array Value} {below : List Frame} {meth : Method} {c : Code} {A : Nat → Prop} {H0 : Heap} {Q : State → Prop}
variable {F pc : Nat} {L st : List MV} {S : MS} {ad : AdT} {H : Heap} {locs : List Loc} {cells slots : Nat} {ls : Array Slot}
def adn (ad : AdT) (k i q : Nat) : AdT := fun k' i' => if k' = k ∧ i' = i then q else ad k' i'
theorem adn_self {k i q : Nat} : adn ad k i q k i = q := by unfold adn; rw [if_pos ⟨rfl, rfl⟩]
theorem adn_ne {k i q k' i' : Nat} (h : (k', i') ≠ (k, i)) : adn ad k i q k' i' = ad k' i' := by
  unfold adn
  rw [if_neg (fun z => h (Prod.ext z.1 z.2))]
theorem elem3_app (a : Nat × Nat × Nat) : ∀ l1 l2, elem3 a (l1 ++ l2) = (elem3 a l1 || elem3 a l2)
  | [], l2 => by simp [elem3]
  | b :: l1, l2 => by
    rw [List.cons_append, elem3_cons, elem3_cons, elem3_app a l1 l2]
    rcases (cond (Nat.beq a.1 b.1) (cond (Nat.beq a.2.1 b.2.1) (cond (Nat.beq a.2.2 b.2.2) true false) false) false) <;> rfl
theorem refSlots_k {a k i : Nat} (ho : nth ords a = some (k, i)) : (∀ f, f < nF (kCls k) → kTag k = 0 → fTy (kCls k) f = 3 → elem3 (k, i, f) (refSlots k i) = true) ∧ ∀ x ∈ refSlots k i, x.1 = k ∧ x.2.1 = i := by
  have e : allR (fun a => match nth ords a with
    | some q => band (allR (fun f => cond (Nat.beq (kTag q.1) 0) (cond (Nat.beq (fTy (kCls q.1) f) 3) (elem3 (q.1, q.2, f) (refSlots q.1 q.2)) true) true) 0 (nF (kCls q.1))) (allL (fun x => band (Nat.beq x.1 q.1) (Nat.beq x.2.1 q.2)) (refSlots q.1 q.2))
    | none => true) 0 55 = true := by decide +kernel
  have h1 : a < 55 := nth_lt _ _ _ ho
  have e1 := allR_at 55 0 a e (by omega) (by omega)
  rw [ho] at e1
  obtain ⟨e2, e3⟩ := band_t e1
  refine ⟨fun f hf h0 h3 => ?_, fun x hx => ?_⟩
  · have e4 : cond (Nat.beq (kTag k) 0) (cond (Nat.beq (fTy (kCls k) f) 3) (elem3 (k, i, f) (refSlots k i)) true) true = true := allR_at (nF (kCls k)) 0 f e2 (by omega) (by omega)
    rw [h0, h3] at e4
    exact e4
  · obtain ⟨g1, g2⟩ := band_t (allL_in e3 x hx)
    exact ⟨Nat.eq_of_beq_eq_true g1, Nat.eq_of_beq_eq_true g2⟩
theorem elem3_out {a : Nat × Nat × Nat} : ∀ {l : List (Nat × Nat × Nat)}, (∀ x ∈ l, ¬ (a.1 = x.1 ∧ a.2.1 = x.2.1)) → elem3 a l = false
  | [], _ => rfl
  | b :: l, h => by
    rw [elem3_cons, elem3_out (fun x hx => h x (List.mem_cons_of_mem _ hx))]
    rw [beq3_ne (fun z => h b List.mem_cons_self ⟨z.1, z.2.1⟩)]
    rfl
/-- behind a cell that is made, what was there is as it was -/
theorem ent_new {k i q a : Nat} {un' : List (Nat × Nat × Nat)} (hRK : RK S) (ho : nth ords S.1 = some (k, i)) (hu : ∀ k' i' f, (k', i') ≠ (k, i) → elem3 (k', i', f) un' = elem3 (k', i', f) S.2.1) {q' : Nat × Nat} (ha : a < S.1) (hq : nth ords a = some q') :
    (adn ad k i q q'.1 q'.2, ent G (adn ad k i q) (S.1 + 1, un', zro S.2.2 k i) q') = (ad q'.1 q'.2, ent G ad S q') := by
  have hne : q' ≠ (k, i) := fun z => by
    have := ords_inj (z ▸ hq) ho
    omega
  have hz : ∀ j, zro S.2.2 k i q'.1 q'.2 j = S.2.2 q'.1 q'.2 j := fun j => by
    unfold zro
    rw [if_neg (fun z => hne (Prod.ext z.1 z.2))]
  rw [adn_ne hne]
  congr 1
  unfold ent
  split
  · rename_i h0
    congr 2
    apply List.map_congr_left
    intro f hf
    have hf := List.mem_range.mp hf
    unfold fval
    simp only [hz, hu q'.1 q'.2 f hne]
    split
    · rfl
    · rename_i h3
      rcases z : elem3 (q'.1, q'.2, f) S.2.1 with _ | _
      · obtain ⟨a2, ha2, ho2⟩ := hRK q' ⟨a, ha, hq⟩ h0 f hf h3 z
        rw [cond_false, cond_false, adn_ne]
        intro z2
        have z3 : fRef q'.1 q'.2 f = (k, i) := z2
        have := ords_inj (z3 ▸ ho2) ho
        omega
      · rfl
    · rfl
  · simp only [hz]
  · simp only [hz]
theorem wl_new {k i q : Nat} {un' : List (Nat × Nat × Nat)} (hRK : RK S) (ho : nth ords S.1 = some (k, i)) (hu : ∀ k' i' f, (k', i') ≠ (k, i) → elem3 (k', i', f) un' = elem3 (k', i', f) S.2.1) :
    wl G ad S ++ [(q, ent G (adn ad k i q) (S.1 + 1, un', zro S.2.2 k i) (k, i))] = wl G (adn ad k i q) (S.1 + 1, un', zro S.2.2 k i) := by
  unfold wl
  have e : ords.take (S.1 + 1) = ords.take S.1 ++ [(k, i)] := by
    rw [nth_get] at ho
    rw [List.take_add_one, ho]
    rfl
  show _ = (ords.take (S.1 + 1)).map _
  rw [e, List.map_append, List.map_cons, List.map_nil, adn_self]
  congr 1
  apply List.map_congr_left
  intro q' hq'
  obtain ⟨a, ha, hx⟩ := List.mem_take_iff_getElem.mp hq'
  have ha2 : a < S.1 := by omega
  exact (ent_new hRK ho hu ha2 (by rw [nth_get, List.getElem?_eq_getElem (by omega), hx])).symm
theorem vld_ne {k i : Nat} (ho : nth ords S.1 = some (k, i)) {q : Nat × Nat} (h : vld S.1 q) : q ≠ (k, i) := by
  obtain ⟨a, ha, hq⟩ := h
  intro z
  have := ords_inj (z ▸ hq) ho
  omega
theorem toV_new {k i q : Nat} (ho : nth ords S.1 = some (k, i)) {v : MV} (h : okV S.1 v) : toV (adn ad k i q) v = toV ad v := by
  rcases v with v | v | ⟨k', i'⟩ | v
  · rfl
  · rfl
  · show Value.ref (adn ad k i q k' i') = Value.ref (ad k' i')
    rw [adn_ne]
    have hk := (ords_kd ho).1
    dsimp only at hk
    rcases h with h | h | ⟨h, -⟩
    · exact vld_ne ho h
    · intro z
      rw [h] at z
      have := congrArg Prod.fst z
      dsimp only at this
      omega
    · intro z
      have := congrArg Prod.fst z
      dsimp only at this h
      omega
  · rfl
theorem okV_mono {n n' : Nat} (hn : n ≤ n') {v : MV} (h : okV n v) : okV n' v := by
  rcases v with v | v | q | v
  · exact h
  · exact h
  · rcases h with ⟨a, ha, ho⟩ | h
    · exact Or.inl ⟨a, by omega, ho⟩
    · exact Or.inr h
  · trivial
/-- the place behind a cell that was made -/
theorem here_new {k i q : Nat} {un' : List (Nat × Nat × Nat)} {H1 : Heap} {L st' : List MV} (hH : Here N m G b xs out p l e R s mid args below meth c A H0 Q L st S ad H locs cells slots ls) (ho : nth ords S.1 = some (k, i)) (hst : ∀ v ∈ st', okV S.1 v)
    (hu : ∀ k' i' f, (k', i') ≠ (k, i) → elem3 (k', i', f) un' = elem3 (k', i', f) S.2.1) (hun : kTag k = 0 → ∀ f, f < nF (kCls k) → fTy (kCls k) f = 3 → elem3 (k, i, f) un' = true)
    (hP : va_P G.1 cls0 (wl G ad S ++ [(q, ent G (adn ad k i q) (S.1 + 1, un', zro S.2.2 k i) (k, i))]) H1) (hD : va_D A (wl G ad S ++ [(q, ent G (adn ad k i q) (S.1 + 1, un', zro S.2.2 k i) (k, i))])) (hS : va_S A H0 H1 locs) :
    Here N m G b xs out p l e R s mid args below meth c A H0 Q L (vR k i :: st') (S.1 + 1, un', zro S.2.2 k i) (adn ad k i q) H1 locs (cells + 1) (slots + szOf (k, i)) ls := by
  obtain ⟨⟨-, -, -, w4, w5, w6, w7, w8⟩, h2, h3, h4, h5, h6, h7, h8, h9⟩ := hH
  have hk := (ords_kd ho).1
  dsimp only at hk
  rw [wl_new w7 ho hu] at hP hD
  have hne999 : ((999 : Nat), (0 : Nat)) ≠ (k, i) := fun z => by have := congrArg Prod.fst z; dsimp only at this; omega
  refine ⟨⟨hP, hD, hS, by rw [adn_ne hne999]; exact w4, fun j hj => by rw [adn_ne (fun z => by have := congrArg Prod.fst z; dsimp only at this; omega)]; exact w5 j hj, fun k' i' j => ?_, fun q' hq' h0 f hf hf3 he => ?_, fun j hj => ?_⟩, fun v hv => okV_mono (Nat.le_succ _) (h2 v hv), ok1 (Or.inl ⟨S.1, Nat.lt_succ_self _, ho⟩) (fun v hv => okV_mono (Nat.le_succ _) (hst v hv)), h4, ⟨h5.1, h5.2.1, fun j v hj hv => ?_⟩, h6, ?_, ?_, ?_⟩
  · show in64 (zro S.2.2 k i k' i' j) ∧ (isL k' j = false → in32 (zro S.2.2 k i k' i' j))
    unfold zro
    split
    · exact ⟨in64_0, fun _ => in32_0⟩
    · exact w6 k' i' j
  · by_cases g : q' = (k, i)
    · rw [g] at h0 hf hf3 he
      have := hun h0 f hf hf3
      dsimp only at he
      rw [this] at he
      cases he
    · obtain ⟨a, ha, hqa⟩ := hq'
      have ha1 : a ≠ S.1 := fun z => by
        rw [z, ho] at hqa
        cases hqa
        exact g rfl
      have ha2 : a < S.1 + 1 := ha
      have he2 : elem3 (q'.1, q'.2, f) S.2.1 = false := (hu q'.1 q'.2 f g).symm.trans he
      obtain ⟨a2, g2, g3⟩ := w7 q' ⟨a, by omega, hqa⟩ h0 f hf hf3 he2
      exact ⟨a2, Nat.lt_succ_of_lt g2, g3⟩
  · have e1 : zro S.2.2 k i 999 0 j = S.2.2 999 0 j := by unfold zro; rw [if_neg (fun z => hne999 (Prod.ext z.1 z.2))]
    show Int32.ofInt (zro S.2.2 k i 999 0 j) = xs j
    rw [e1]
    exact w8 j hj
  · rw [toV_new ho (h2 v (nth_mem _ _ _ hj))]
    exact h5.2.2 j v hj hv
  · show cells + 1 + out.2.1 ≤ R.cells + (S.1 + 1)
    omega
  · show slots + szOf (k, i) + slN out.2.1 ≤ R.slots + slN (S.1 + 1)
    rw [slN_succ ho]
    omega
  · intro ad1 H2 locs2 cells1 slots1 pc1 ls1 hag hW2 hc1 hs1 hE hV
    refine h9 ad1 H2 locs2 cells1 slots1 pc1 ls1 (fun q' hq' => ?_) hW2 ?_ ?_ hE hV
    · obtain ⟨a, ha, hqa⟩ := hq'
      rw [hag q' ⟨a, Nat.lt_succ_of_lt ha, hqa⟩, adn_ne (vld_ne ho ⟨a, ha, hqa⟩)]
    · have : cells1 + (S.1 + 1) = cells + 1 + out.2.1 := hc1
      omega
    · have h10 : slots1 + slN (S.1 + 1) = slots + szOf (k, i) + slN out.2.1 := hs1
      rw [slN_succ ho] at h10
      omega
end WALK
end
section
section WALK
variable {N m : Nat} {G : GT} {b : Nat} {xs : Nat → Int32} {out : Out}
variable {p : Program} {l : Launch} {e : Env} {R : Room} {s : State} {mid : MethodId} {args : Array Value} {below : List Frame} {meth : Method} {c : Code} {A : Nat → Prop} {H0 : Heap} {Q : State → Prop}
variable {F pc : Nat} {L st : List MV} {S : MS} {ad : AdT} {H : Heap} {locs : List Loc} {cells slots : Nat} {ls : Array Slot}
theorem slN_mono {n n' : Nat} (h : n ≤ n') : slN n ≤ slN n' := by
  induction h with
  | refl => exact Nat.le_refl _
  | @step k _ ih =>
    rcases e : nth ords k with _ | q
    · have : slN (k + 1) = slN k := by
        rw [nth_get] at e
        unfold slN
        rw [List.take_add_one, e]
        simp
      show slN _ ≤ slN (k + 1)
      omega
    · have := slN_succ e
      show slN _ ≤ slN (k + 1)
      omega
theorem s_new {ci : Nat} (hC : Cx N m G b xs p R s mid args meth c A H0) (ih : IH N F m G b xs out p l e R s mid args below meth c A H0 Q) (hH : Here N m G b xs out p l e R s mid args below meth c A H0 Q L st S ad H locs cells slots ls)
    {raw : Instr} {len : Nat} (hd : decode (mCode m) (bpc m pc) = .ok (raw, len)) (hn : bpc m (pc + 1) = bpc m pc + len) (hlen : lenOf raw = 0 ∨ len = lenOf raw) (hz : rz m (bpc m pc) raw (.new ci) = true)
    (he : x_new ci pc L st S (exec N F m) none = some out) : W p l e R s mid args below meth c H locs cells slots Q (F0 mid (bpc m pc) ls (st.map (toV ad))) := by
  obtain ⟨hm264, hx, hb, hml, hown, hts, hini, hfr, hlo, hGS, hA, hX, hbl, hbA, hTX, hN⟩ := hC
  unfold x_new at he
  rcases ho : nth ords S.1 with _ | ⟨k, i⟩ <;> rw [ho] at he <;> first | (cases he; done) | skip
  dsimp only at he
  rcases g1 : Nat.beq (kTag k) 0 with _ | _ <;> rw [g1] at he <;> first | (cases he; done) | skip
  rcases g2 : Nat.beq (kCls k) ci with _ | _ <;> rw [g2] at he <;> first | (cases he; done) | skip
  rw [cond_true, cond_true] at he
  have h0 := Nat.eq_of_beq_eq_true g1
  have hk := Nat.eq_of_beq_eq_true g2
  unfold rz at hz
  dsimp only at hz
  split at hz
  · rename_i idx
    obtain ⟨h1, h2⟩ := band_t hz
    obtain ⟨h2, h3⟩ := band_t h2
    obtain ⟨h3, h4⟩ := band_t h3
    have h2 : ci + 1 ≤ 9 := Nat.le_of_ble_eq_true h2
    have w1 := hts _ (gw_of h1 rfl)
    have w2 := hts _ (gw_of h3 rfl)
    have w3 := hts _ (gw_of h4 rfl)
    rw [wd_6] at w1
    rw [wd_7] at w2
    rw [wd_8] at w3
    subst hk
    rcases hlen with h | h
    · cases h
    rw [h] at hd hn
    have h9 : kCls k < 9 := by omega
    have hmono := exec_n _ _ _ _ _ _ _ he
    have hmono1 : S.1 + 1 ≤ out.2.1 := hmono
    have hsl : slN S.1 + szOf (k, i) ≤ slN out.2.1 := by rw [← slN_succ ho]; exact slN_mono hmono1
    have hsz : szOf (k, i) = nF (kCls k) := by unfold szOf; rw [g1]; rfl
    obtain ⟨r1, r2⟩ := refSlots_k ho
    have hu : ∀ k' i' f, (k', i') ≠ (k, i) → elem3 (k', i', f) (S.2.1 ++ refSlots k i) = elem3 (k', i', f) S.2.1 := by
      intro k' i' f hne
      rw [elem3_app, elem3_out (l := refSlots k i) (fun x hx z => hne (Prod.ext (z.1.trans (r2 x hx).1) (z.2.trans (r2 x hx).2)))]
      simp
    have hun : kTag k = 0 → ∀ f, f < nF (kCls k) → fTy (kCls k) f = 3 → elem3 (k, i, f) (S.2.1 ++ refSlots k i) = true := by
      intro _ f hf h3
      rw [elem3_app, r1 f hf h0 h3]
      simp
    have hcells := hH.2.2.2.2.2.2.1
    have hslots := hH.2.2.2.2.2.2.2.1
    refine va_new (ci := kCls k) (fs := (List.range (nF (kCls k))).map (fval ad (S.1 + 1, S.2.1 ++ refSlots k i, zro S.2.2 k i) k i)) hx hb hts (fld_in h9) (tyF (kCls k)) (fun k' hk' => (fld_facts h9 hk').1) hown w1 w2 w3 hGS.1 hH.1.1 hH.1.2.1 hH.1.2.2.1 hA (cls_at h9) (fun f hf => ?_) (by omega) (by omega) hd (fun q H1 hP hD hS => ?_)
    · unfold vp_V
      rw [List.getD_eq_getElem?_getD, fs_at hf]
      show defaultValue (tyF (kCls k) f) = fval ad (S.1 + 1, S.2.1 ++ refSlots k i, zro S.2.2 k i) k i f
      have ty0 := (fld_facts h9 hf).2.1
      have hz0 : zro S.2.2 k i k i f = 0 := by unfold zro; rw [if_pos ⟨rfl, rfl⟩]
      unfold fval
      simp only [hz0]
      rcases z : fTy (kCls k) f with _ | _ | _ | _ | q <;> rw [z] at ty0 <;> generalize tyF (kCls k) f = ty at ty0 <;> cases ty <;> first | rfl | (cases ty0; done) | (simp only [hun h0 f hf z]; rfl)
    · have e1 : ∀ f, f < nF (kCls k) → fval ad (S.1 + 1, S.2.1 ++ refSlots k i, zro S.2.2 k i) k i f = fval (adn ad k i q) (S.1 + 1, S.2.1 ++ refSlots k i, zro S.2.2 k i) k i f := by
        intro f hf
        unfold fval
        rcases z : fTy (kCls k) f with _ | _ | _ | _ | q <;> first | rfl | (simp only [hun h0 f hf z]; rfl)
      have e2 : (List.range (nF (kCls k))).map (fval ad (S.1 + 1, S.2.1 ++ refSlots k i, zro S.2.2 k i) k i) = (List.range (nF (kCls k))).map (fval (adn ad k i q) (S.1 + 1, S.2.1 ++ refSlots k i, zro S.2.2 k i) k i) := List.map_congr_left (fun f hf => e1 f (List.mem_range.mp hf))
      rw [e2, ← ent_0 (G := G) (S := (S.1 + 1, S.2.1 ++ refSlots k i, zro S.2.2 k i)) h0] at hP hD
      have hHn := here_new hH ho hH.2.2.1 hu hun hP hD hS
      have k0 := ih _ _ _ _ _ _ _ _ _ _ he hHn
      rw [hn, hsz] at k0
      have e3 : (vR k i :: st).map (toV (adn ad k i q)) = .ref q :: st.map (toV ad) := by
        rw [List.map_cons]
        congr 1
        · show Value.ref (adn ad k i q k i) = _
          rw [adn_self]
        · exact List.map_congr_left (fun v hv => toV_new ho (hH.2.2.1 v hv))
      rw [e3] at k0
      exact k0
  · cases hz
end WALK
end
section
section WALK
variable {N m : Nat} {G : GT} {b : Nat} {xs : Nat → Int32} {out : Out}
variable {p : Program} {l : Launch} {e : Env} {R : Room} {s : State} {mid : MethodId} {args : Array Value} {below : List Frame} {meth : Method} {c : Code} {A : Nat → Prop} {H0 : Heap} {Q : State → Prop}
variable {F pc : Nat} {L st : List MV} {S : MS} {ad : AdT} {H : Heap} {locs : List Loc} {cells slots : Nat} {ls : Array Slot}
theorem zro_self {σ : Sto} {k i j : Nat} : zro σ k i k i j = 0 := by unfold zro; rw [if_pos ⟨rfl, rfl⟩]
theorem newa_k {k i t0 : Nat} {ty : FieldType} {atype : ArrayType} {a0 : vp_A} {st' : List MV} (hC : Cx N m G b xs p R s mid args meth c A H0) (ih : IH N F m G b xs out p l e R s mid args below meth c A H0 Q) (hH : Here N m G b xs out p l e R s mid args below meth c A H0 Q L (vI (kLen k : Int) :: st') S ad H locs cells slots ls)
    (hd : decode (mCode m) (bpc m pc) = .ok (.newarray atype, 2)) (hn : bpc m (pc + 1) = bpc m pc + 2) (ho : nth ords S.1 = some (k, i)) (h0 : kTag k ≠ 0) (hty : newarray.typeOf atype = ty) (harr : (Cond.arrayClass ty).before args s = true)
    (ht : (tys0 G)[t0]? = some (G.2.1 (kTag k), ty)) (hRA : ∀ cA : ClassId, va_RA s cA ty → cA = G.2.1 (kTag k)) (ha : ∀ cA : ClassId, vp_cell cA a0 = arrV cA (kLen k) (fun _ => defaultValue ty)) (hcb : componentBytes ty ≤ 8)
    (hent : ∀ q, ent G (adn ad k i q) (S.1 + 1, S.2.1, zro S.2.2 k i) (k, i) = .inl (G.2.1 (kTag k), a0))
    (he : exec N F m (pc + 1) L (vR k i :: st') (S.1 + 1, S.2.1, zro S.2.2 k i) = some out) : W p l e R s mid args below meth c H locs cells slots Q (F0 mid (bpc m pc) ls ((vI (kLen k : Int) :: st').map (toV ad))) := by
  obtain ⟨hm264, hx, hb, hml, hown, hts, hini, hfr, hlo, hGS, hA, hX, hbl, hbA, hTX, hN⟩ := hC
  have hmono1 : S.1 + 1 ≤ out.2.1 := exec_n _ _ _ _ _ _ _ he
  have hsl : slN S.1 + szOf (k, i) ≤ slN out.2.1 := by rw [← slN_succ ho]; exact slN_mono hmono1
  have hsz : szOf (k, i) = kLen k := by
    unfold szOf
    dsimp only
    rcases z : Nat.beq (kTag k) 0 with _ | _
    · rfl
    · exact absurd (Nat.eq_of_beq_eq_true z) h0
  have hcells := hH.2.2.2.2.2.2.1
  have hslots := hH.2.2.2.2.2.2.2.1
  have hkl := (ords_kd ho).2.2.2.2.1
  dsimp only at hkl
  have h32 : in32 (kLen k : Int) := by unfold in32; omega
  have hmul : kLen k * componentBytes ty ≤ 100000 * 8 := Nat.mul_le_mul (by omega) hcb
  subst hty
  refine va_newa (N' := kLen k) (a0 := a0) hx hb harr rfl hGS.1 hH.1.1 hH.1.2.1 hH.1.2.2.1 hA ha (fun z => by have := (lt32 h32 in32_0).mp z; omega) (by rw [clampI (by omega) h32]; omega) (by omega) (by omega) (by omega) hd (fun q cA H1 hK2 hP hD hS => ?_)
  have hcA : cA = G.2.1 (kTag k) := hRA cA (hK2.2 3 _ rfl).2
  subst hcA
  rw [← hent q] at hP hD
  have hHn := here_new hH ho (okt hH.2.2.1) (fun _ _ _ _ => rfl) (fun z => absurd z h0) hP hD hS
  have k0 := ih _ _ _ _ _ _ _ _ _ _ he hHn
  rw [hn, hsz] at k0
  have e3 : (vR k i :: st').map (toV (adn ad k i q)) = .ref q :: st'.map (toV ad) := by
    rw [List.map_cons]
    congr 1
    · show Value.ref (adn ad k i q k i) = _
      rw [adn_self]
    · exact List.map_congr_left (fun v hv => toV_new ho (okt hH.2.2.1 v hv))
  rw [e3] at k0
  exact k0
theorem ra_eq {cA : ClassId} {t0 : Nat} {ty : FieldType} {c0 : ClassId} (hK : va_K G.1 cls0 (tys0 G) s) (ht : (tys0 G)[t0]? = some (c0, ty)) (hp : ty = .int ∨ ty = .byte ∨ ty = .long) (h : va_RA s cA ty) : cA = c0 := by
  have h2 := (hK.2 t0 _ ht).2
  rcases hp with rfl | rfl | rfl
  · have h3 : s.vm.findClass _ = some cA := h
    have h4 : s.vm.findClass _ = some c0 := h2
    exact Option.some.inj (h3.symm.trans h4)
  · have h3 : s.vm.findClass _ = some cA := h
    have h4 : s.vm.findClass _ = some c0 := h2
    exact Option.some.inj (h3.symm.trans h4)
  · have h3 : s.vm.findClass _ = some cA := h
    have h4 : s.vm.findClass _ = some c0 := h2
    exact Option.some.inj (h3.symm.trans h4)
theorem s_newa {t : ArrayType} (hC : Cx N m G b xs p R s mid args meth c A H0) (ih : IH N F m G b xs out p l e R s mid args below meth c A H0 Q) (hH : Here N m G b xs out p l e R s mid args below meth c A H0 Q L st S ad H locs cells slots ls)
    {raw : Instr} {len : Nat} (hd : decode (mCode m) (bpc m pc) = .ok (raw, len)) (hn : bpc m (pc + 1) = bpc m pc + len) (hlen : lenOf raw = 0 ∨ len = lenOf raw) (hz : rz m (bpc m pc) raw (.newarray t) = true)
    (he : x_newa (tagOf t) pc L st S (exec N F m) none = some out) : W p l e R s mid args below meth c H locs cells slots Q (F0 mid (bpc m pc) ls (st.map (toV ad))) := by
  have hC0 := hC
  obtain ⟨hm264, hx, hb, hml, hown, hts, hini, hfr, hlo, hGS, hA, hX, hbl, hbA, hTX, hN⟩ := hC
  unfold x_newa at he
  rcases st with _ | ⟨(n | (n | (n | n))), st⟩ <;> first | (cases he; done) | skip
  dsimp only at he
  rcases ho : nth ords S.1 with _ | ⟨k, i⟩ <;> rw [ho] at he <;> first | (cases he; done) | skip
  dsimp only at he
  rcases g1 : Nat.beq (kTag k) (tagOf t) with _ | _ <;> rw [g1] at he <;> first | (cases he; done) | skip
  rcases g2 : Nat.beq (tagOf t) 0 with _ | _ <;> rw [g2] at he <;> first | (cases he; done) | skip
  rw [cond_true, cond_false] at he
  by_cases g3 : n = kLenZ k
  · rw [if_pos g3] at he
    have hkt := Nat.eq_of_beq_eq_true g1
    have hlz := (ords_kd ho).2.2.2.1
    dsimp only at hlz
    rw [hlz] at g3
    subst g3
    unfold rz at hz
    dsimp only at hz
    split at hz
    · rename_i t2
      obtain ⟨h1, h2⟩ := band_t hz
      have h1 := of_decide_eq_true h1
      subst h1
      have w1 := hts _ (gw_of h2 rfl)
      rw [wd_12] at w1
      rcases hlen with h | h
      · cases h
      rw [h] at hd hn
      cases t <;> first | (cases g2; done) | skip
      · exact newa_k (t0 := 1) (a0 := (kLen k, .inl (fun _ => 0))) hC0 ih hH hd hn ho (by rw [hkt]; decide) rfl w1 (by rw [hkt]; rfl) (fun cA h => by rw [hkt]; exact ra_eq (t0 := 1) hGS.1 rfl (Or.inr (Or.inl rfl)) h) (fun cA => rfl) (by decide) (fun q => by
          have e : (fun j => Int32.ofInt ((S.1 + 1, S.2.1, zro S.2.2 k i).2.2 k i j)) = fun _ => (0 : Int32) := by
            funext j
            show Int32.ofInt (zro S.2.2 k i k i j) = 0
            rw [zro_self]
            rfl
          rw [ent_2 hkt, e, hkt]
          rfl) he
      · exact newa_k (t0 := 0) (a0 := (kLen k, .inl (fun _ => 0))) hC0 ih hH hd hn ho (by rw [hkt]; decide) rfl w1 (by rw [hkt]; rfl) (fun cA h => by rw [hkt]; exact ra_eq (t0 := 0) hGS.1 rfl (Or.inl rfl) h) (fun cA => rfl) (by decide) (fun q => by
          have e : (fun j => Int32.ofInt ((S.1 + 1, S.2.1, zro S.2.2 k i).2.2 k i j)) = fun _ => (0 : Int32) := by
            funext j
            show Int32.ofInt (zro S.2.2 k i k i j) = 0
            rw [zro_self]
            rfl
          rw [ent_1 hkt, e, hkt]
          rfl) he
      · exact newa_k (t0 := 2) (a0 := (kLen k, .inr (.inl (fun _ => 0)))) hC0 ih hH hd hn ho (by rw [hkt]; decide) rfl w1 (by rw [hkt]; rfl) (fun cA h => by rw [hkt]; exact ra_eq (t0 := 2) hGS.1 rfl (Or.inr (Or.inr rfl)) h) (fun cA => rfl) (by decide) (fun q => by
          have e : (fun j => Int64.ofInt ((S.1 + 1, S.2.1, zro S.2.2 k i).2.2 k i j)) = fun _ => (0 : Int64) := by
            funext j
            show Int64.ofInt (zro S.2.2 k i k i j) = 0
            rw [zro_self]
            rfl
          rw [ent_3 hkt, e, hkt]
          rfl) he
    · cases hz
  · rw [if_neg g3] at he; cases he
end WALK
end
section
section WALK
variable {N m : Nat} {G : GT} {b : Nat} {xs : Nat → Int32} {out : Out}
variable {p : Program} {l : Launch} {e : Env} {R : Room} {s : State} {mid : MethodId} {args : Array Value} {below : List Frame} {meth : Method} {c : Code} {A : Nat → Prop} {H0 : Heap} {Q : State → Prop}
variable {F pc : Nat} {L st : List MV} {S : MS} {ad : AdT} {H : Heap} {locs : List Loc} {cells slots : Nat} {ls : Array Slot}
theorem words_eq : ∀ st : List MV, ((st.map (toV ad)).map fun v => v.category).sum = wordsOf st
  | [] => rfl
  | .inl _ :: st => by
    have := words_eq st
    simp only [List.map_cons, List.sum_cons, wordsOf, this]
    show 1 + _ = _
    omega
  | .inr (.inl _) :: st => by
    have := words_eq st
    simp only [List.map_cons, List.sum_cons, wordsOf, this]
    show 2 + _ = _
    omega
  | .inr (.inr (.inl _)) :: st => by
    have := words_eq st
    simp only [List.map_cons, List.sum_cons, wordsOf, this]
    show 1 + _ = _
    omega
  | .inr (.inr (.inr _)) :: st => by
    have := words_eq st
    simp only [List.map_cons, List.sum_cons, wordsOf, this]
    show 1 + _ = _
    omega
theorem roomI_t {m f w : Nat} (h : roomI m f w = true) : f ≤ mFr m ∧ 8 + w ≤ mLo m := by
  obtain ⟨h1, h2⟩ := band_t h
  exact ⟨Nat.le_of_ble_eq_true h1, Nat.le_of_ble_eq_true h2⟩
theorem s_obj (hC : Cx N m G b xs p R s mid args meth c A H0) (ih : IH N F m G b xs out p l e R s mid args below meth c A H0 Q) (hH : Here N m G b xs out p l e R s mid args below meth c A H0 Q L st S ad H locs cells slots ls)
    {raw : Instr} {len : Nat} (hd : decode (mCode m) (bpc m pc) = .ok (raw, len)) (hn : bpc m (pc + 1) = bpc m pc + len) (hlen : lenOf raw = 0 ∨ len = lenOf raw) (hz : rz m (bpc m pc) raw .dneg = true)
    (he : x_obj pc L st S (exec N F m) none = some out) : W p l e R s mid args below meth c H locs cells slots Q (F0 mid (bpc m pc) ls (st.map (toV ad))) := by
  obtain ⟨hm264, hx, hb, hml, hown, hts, hini, hfr, hlo, hGS, hA, hX, hbl, hbA, hTX, hN⟩ := hC
  unfold x_obj at he
  rcases st with _ | ⟨(x | (x | (⟨k, i⟩ | x))), st⟩ <;> first | (cases he; done) | skip
  dsimp only at he
  rcases g1 : Nat.ble (wordsOf st) 8 with _ | _ <;> rw [g1] at he <;> first | (cases he; done) | skip
  have g1 := Nat.le_of_ble_eq_true g1
  rw [cond_true] at he
  unfold rz at hz
  dsimp only at hz
  split at hz
  · obtain ⟨h1, h2⟩ := band_t hz
    obtain ⟨h1, h3⟩ := roomI_t h1
    rcases hlen with h | h
    · cases h
    rw [h] at hd hn
    have k := go_st ih hH he (okt hH.2.2.1)
    rw [hn] at k
    have w1 := hts _ (gw_of h2 rfl)
    rw [wd_20] at w1
    have w2 : (Cond.instanceMethod objectInit).before args s = true := hts (wd (30, 0, 0, 0)) (gw_of (q := (30, 0, 0, 0)) (by decide +kernel) rfl)
    have w3 : (Cond.code objectInit ⟨#[0xb1]⟩ 1 none).before args s = true := hts (wd (37, 0, 0, 0)) (gw_of (q := (37, 0, 0, 0)) (by decide +kernel) rfl)
    refine W.objInit hx hb hown w1 w2 w3 rfl (by rw [hml, ← hH.2.2.2.2.2.1]; exact hH.2.2.2.2.1.1) rfl hd (by omega) ?_ k
    show 2 * 0 + ((st.map (toV ad)).map fun v => v.category).sum + 12 ≤ R.locals
    rw [words_eq]
    omega
  · cases hz
theorem s_min (hC : Cx N m G b xs p R s mid args meth c A H0) (ih : IH N F m G b xs out p l e R s mid args below meth c A H0 Q) (hH : Here N m G b xs out p l e R s mid args below meth c A H0 Q L st S ad H locs cells slots ls)
    {raw : Instr} {len : Nat} (hd : decode (mCode m) (bpc m pc) = .ok (raw, len)) (hn : bpc m (pc + 1) = bpc m pc + len) (hlen : lenOf raw = 0 ∨ len = lenOf raw) (hz : rz m (bpc m pc) raw .dadd = true)
    (he : x_iopc (fun a b => min a b) pc L st S (exec N F m) none = some out) : W p l e R s mid args below meth c H locs cells slots Q (F0 mid (bpc m pc) ls (st.map (toV ad))) := by
  obtain ⟨hm264, hx, hb, hml, hown, hts, hini, hfr, hlo, hGS, hA, hX, hbl, hbA, hTX, hN⟩ := hC
  unfold x_iopc at he
  rcases st with _ | ⟨(y | (y | (y | y))), _ | ⟨(x | (x | (x | x))), st⟩⟩ <;> first | (cases he; done) | skip
  have hy := okh hH.2.2.1
  have hv := okh (okt hH.2.2.1)
  have hr := okt (okt hH.2.2.1)
  dsimp only at he
  rcases g1 : Nat.ble (wordsOf st) 8 with _ | _ <;> rw [g1] at he <;> first | (cases he; done) | skip
  have g1 := Nat.le_of_ble_eq_true g1
  rw [cond_true] at he
  unfold rz at hz
  dsimp only at hz
  split at hz
  · obtain ⟨h1, h2⟩ := band_t hz
    obtain ⟨h1, h3⟩ := roomI_t h1
    rcases hlen with h | h
    · cases h
    rw [h] at hd hn
    have hmi : in32 (min x y) := by unfold okV in32 at hy hv; unfold in32; omega
    have k := go_st ih hH he (ok1 (show okV S.1 (vI (min x y)) from hmi) hr)
    rw [hn] at k
    have w1 := hts _ (gw_of h2 rfl)
    rw [wd_22] at w1
    have hmono := exec_n _ _ _ _ _ _ _ he
    have hcells := hH.2.2.2.2.2.2.1
    have hslots := hH.2.2.2.2.2.2.2.1
    have hsl := slN_mono hmono
    refine va_mmin hx hb (by rw [hml, ← hH.2.2.2.2.2.1]; exact hH.2.2.2.2.1.1.symm) hown w1 (hts (wd (32, 0, 0, 0)) (gw_of (q := (32, 0, 0, 0)) (by decide +kernel) rfl)) (hts (wd (8, 54, 0, 0)) (gw_of (q := (8, 54, 0, 0)) (by decide +kernel) rfl)) (hts (wd (35, 0, 0, 0)) (gw_of (q := (35, 0, 0, 0)) (by decide +kernel) rfl)) (by omega) (by rw [words_eq]; omega) (by omega) (by omega) hd ?_
    rw [min_of hv hy]
    exact k
  · cases hz
theorem max_of {a b : Int} (ha : in32 a) (hb : in32 b) : (if Int32.ofInt a < Int32.ofInt b then Int32.ofInt b else Int32.ofInt a) = Int32.ofInt (max a b) := by
  by_cases h : a < b
  · rw [if_pos ((lt32 ha hb).mpr h), Int.max_eq_right (by omega)]
  · rw [if_neg (fun z => h ((lt32 ha hb).mp z)), Int.max_eq_left (by omega)]
theorem s_max (hC : Cx N m G b xs p R s mid args meth c A H0) (ih : IH N F m G b xs out p l e R s mid args below meth c A H0 Q) (hH : Here N m G b xs out p l e R s mid args below meth c A H0 Q L st S ad H locs cells slots ls)
    {raw : Instr} {len : Nat} (hd : decode (mCode m) (bpc m pc) = .ok (raw, len)) (hn : bpc m (pc + 1) = bpc m pc + len) (hlen : lenOf raw = 0 ∨ len = lenOf raw) (hz : rz m (bpc m pc) raw .dsub = true)
    (he : x_iopc (fun a b => max a b) pc L st S (exec N F m) none = some out) : W p l e R s mid args below meth c H locs cells slots Q (F0 mid (bpc m pc) ls (st.map (toV ad))) := by
  obtain ⟨hm264, hx, hb, hml, hown, hts, hini, hfr, hlo, hGS, hA, hX, hbl, hbA, hTX, hN⟩ := hC
  unfold x_iopc at he
  rcases st with _ | ⟨(y | (y | (y | y))), _ | ⟨(x | (x | (x | x))), st⟩⟩ <;> first | (cases he; done) | skip
  have hy := okh hH.2.2.1
  have hv := okh (okt hH.2.2.1)
  have hr := okt (okt hH.2.2.1)
  dsimp only at he
  rcases g1 : Nat.ble (wordsOf st) 8 with _ | _ <;> rw [g1] at he <;> first | (cases he; done) | skip
  have g1 := Nat.le_of_ble_eq_true g1
  rw [cond_true] at he
  unfold rz at hz
  dsimp only at hz
  split at hz
  · obtain ⟨h1, h2⟩ := band_t hz
    obtain ⟨h1, h3⟩ := roomI_t h1
    rcases hlen with h | h
    · cases h
    rw [h] at hd hn
    have hmi : in32 (max x y) := by unfold okV in32 at hy hv; unfold in32; omega
    have k := go_st ih hH he (ok1 (show okV S.1 (vI (max x y)) from hmi) hr)
    rw [hn] at k
    have w1 := hts _ (gw_of h2 rfl)
    rw [wd_23] at w1
    have hmono := exec_n _ _ _ _ _ _ _ he
    have hcells := hH.2.2.2.2.2.2.1
    have hslots := hH.2.2.2.2.2.2.2.1
    have hsl := slN_mono hmono
    refine va_mmax hx hb (by rw [hml, ← hH.2.2.2.2.2.1]; exact hH.2.2.2.2.1.1.symm) hown w1 (hts (wd (33, 0, 0, 0)) (gw_of (q := (33, 0, 0, 0)) (by decide +kernel) rfl)) (hts (wd (8, 54, 0, 0)) (gw_of (q := (8, 54, 0, 0)) (by decide +kernel) rfl)) (hts (wd (36, 0, 0, 0)) (gw_of (q := (36, 0, 0, 0)) (by decide +kernel) rfl)) (by omega) (by rw [words_eq]; omega) (by omega) (by omega) hd ?_
    rw [max_of hv hy]
    exact k
  · cases hz
theorem nfw : nativeFrameWords "java/lang/System" "arraycopy" 5 + 11 ≤ 60 := by decide +kernel
theorem s_copy (hC : Cx N m G b xs p R s mid args meth c A H0) (ih : IH N F m G b xs out p l e R s mid args below meth c A H0 Q) (hH : Here N m G b xs out p l e R s mid args below meth c A H0 Q L st S ad H locs cells slots ls)
    {raw : Instr} {len : Nat} (hd : decode (mCode m) (bpc m pc) = .ok (raw, len)) (hn : bpc m (pc + 1) = bpc m pc + len) (hlen : lenOf raw = 0 ∨ len = lenOf raw) (hz : rz m (bpc m pc) raw .dmul = true)
    (he : x_copy N pc L st S (exec N F m) none = some out) : W p l e R s mid args below meth c H locs cells slots Q (F0 mid (bpc m pc) ls (st.map (toV ad))) := by
  obtain ⟨hm264, hx, hb, hml, hown, hts, hini, hfr, hlo, hGS, hA, hX, hbl, hbA, hTX, hN⟩ := hC
  unfold x_copy at he
  rcases st with _ | ⟨(n | (n | (n | n))), _ | ⟨(dp | (dp | (dp | dp))), st⟩⟩ <;> first | (cases he; done) | skip
  rcases st with _ | ⟨(a3 | (a3 | (⟨k2, i2⟩ | a3))), _ | ⟨(sp | (sp | (sp | sp))), st⟩⟩ <;> first | (cases he; done) | skip
  rcases st with _ | ⟨(a5 | (a5 | (⟨k, i⟩ | a5))), st⟩ <;> first | (cases he; done) | skip
  have hvn := okh hH.2.2.1
  have hvd := okh (okt hH.2.2.1)
  have hv2 := okh (okt (okt hH.2.2.1))
  have hvs := okh (okt (okt (okt hH.2.2.1)))
  have hv1 := okh (okt (okt (okt (okt hH.2.2.1))))
  have hr := okt (okt (okt (okt (okt hH.2.2.1))))
  dsimp only at he
  rcases g1 : Nat.beq (kTag k) 1 with _ | _ <;> rw [g1] at he <;> first | (cases he; done) | skip
  rcases g2 : Nat.beq (kTag k2) 1 with _ | _ <;> rw [g2] at he <;> first | (cases he; done) | skip
  rw [cond_true, cond_true] at he
  have g1 := Nat.eq_of_beq_eq_true g1
  have g2 := Nat.eq_of_beq_eq_true g2
  by_cases b1 : n < 0
  · rw [if_pos b1] at he; cases he
  rw [if_neg b1] at he
  by_cases b2 : sp < 0
  · rw [if_pos b2] at he; cases he
  rw [if_neg b2] at he
  by_cases b3 : dp < 0
  · rw [if_pos b3] at he; cases he
  rw [if_neg b3] at he
  by_cases b4 : kLenN N k < sp + n
  · rw [if_pos b4] at he; cases he
  rw [if_neg b4] at he
  by_cases b5 : kLenN N k2 < dp + n
  · rw [if_pos b5] at he; cases he
  rw [if_neg b5] at he
  rcases g3 : Nat.ble (wordsOf st) 8 with _ | _ <;> rw [g3] at he <;> first | (cases he; done) | skip
  have g3 := Nat.le_of_ble_eq_true g3
  rw [cond_true] at he
  unfold rz at hz
  dsimp only at hz
  split at hz
  · obtain ⟨h1, h2⟩ := band_t hz
    obtain ⟨h1, h3⟩ := roomI_t h1
    rcases hlen with h | h
    · cases h
    rw [h] at hd hn
    obtain ⟨a1, ha1, ho1⟩ := vld_row hv1 g1 (by decide) (by decide)
    obtain ⟨a2, ha2, ho2⟩ := vld_row hv2 g2 (by decide) (by decide)
    rw [kLenN_row (N := N) ho1] at b4
    rw [kLenN_row (N := N) ho2] at b5
    have hw1 := wl_at (G := G) (ad := ad) ha1 ho1
    have hw2 := wl_at (G := G) (ad := ad) ha2 ho2
    rw [ent_1 g1] at hw1
    rw [ent_1 g2] at hw2
    have w1 := hts _ (gw_of h2 rfl)
    rw [wd_21] at w1
    have hnw := nfw
    have hm1 : in32 n := hvn
    have hm2 : in32 dp := hvd
    have hm3 : in32 sp := hvs
    refine va_copyi hx hb (by rw [hml, ← hH.2.2.2.2.2.1]; exact hH.2.2.2.2.1.1.symm) hown w1 (hts (wd (34, 0, 0, 0)) (gw_of (q := (34, 0, 0, 0)) (by decide +kernel) rfl)) (hts (wd (31, 0, 0, 0)) (gw_of (q := (31, 0, 0, 0)) (by decide +kernel) rfl)) (hts (wd (8, 53, 0, 0)) (gw_of (q := (8, 53, 0, 0)) (by decide +kernel) rfl)) hGS.1 hH.1.1 hH.1.2.1 hH.1.2.2.1 a1 a2 0 0 hw1 hw2 rfl rfl rfl (fun z => b2 ((lt32 hm3 in32_0).mp z)) (fun z => b3 ((lt32 hm2 in32_0).mp z)) (fun z => b1 ((lt32 hm1 in32_0).mp z)) ?_ ?_ (fun _ _ => rfl) (by omega) (by rw [words_eq]; omega) hd (fun H1 locs1 hP hD hS => ?_)
    · rw [clampI (by omega) hm3, clampI (by omega) hm1]; omega
    · rw [clampI (by omega) hm2, clampI (by omega) hm1]; omega
    · rw [clampI (by omega) hm3, clampI (by omega) hm2, clampI (by omega) hm1] at hP hD
      have e2 : ent G ad (S.1, S.2.1, cpy S.2.2 k i sp.toNat k2 i2 dp.toNat n.toNat) (k2, i2) = .inl (G.2.1 1, kLen k2, .inl (va_cpy (fun j => Int32.ofInt (S.2.2 k i j)) (fun j => Int32.ofInt (S.2.2 k2 i2 j)) sp.toNat dp.toNat n.toNat)) := by
        have e3 : (fun j => Int32.ofInt ((S.1, S.2.1, cpy S.2.2 k i sp.toNat k2 i2 dp.toNat n.toNat).2.2 k2 i2 j)) = va_cpy (fun j => Int32.ofInt (S.2.2 k i j)) (fun j => Int32.ofInt (S.2.2 k2 i2 j)) sp.toNat dp.toNat n.toNat := by
          funext j
          show Int32.ofInt (cpy S.2.2 k i sp.toNat k2 i2 dp.toNat n.toNat k2 i2 j) = _
          unfold cpy va_cpy
          by_cases q : dp.toNat ≤ j ∧ j < dp.toNat + n.toNat
          · rw [if_pos ⟨rfl, rfl, q⟩, if_pos q]
          · rw [if_neg (fun z => q z.2.2), if_neg q]
        rw [ent_1 g2, e3]
      rw [← e2] at hP hD
      have hne : ∀ q', q' ≠ (k2, i2) → ent G ad (S.1, S.2.1, cpy S.2.2 k i sp.toNat k2 i2 dp.toNat n.toNat) q' = ent G ad S q' := fun q' hq => ent_un (fun j => by
        unfold cpy
        rw [if_neg (fun z => hq (Prod.ext z.1 z.2.1))]) (fun _ => rfl)
      have e4 := wl_set (G := G) (ad := ad) (S' := (S.1, S.2.1, cpy S.2.2 k i sp.toNat k2 i2 dp.toNat n.toNat)) ha2 ho2 rfl hne
      rw [e4] at hP hD
      obtain ⟨-, -, -, w4, w5, w6, w7, w8⟩ := hH.1
      have hW' : Wd N G b xs A H0 (S.1, S.2.1, cpy S.2.2 k i sp.toNat k2 i2 dp.toNat n.toNat) ad H1 locs1 := by
        refine ⟨hP, hD, hS, w4, w5, fun k' i' j' => ?_, w7, fun j' hj => ?_⟩
        · show in64 (cpy S.2.2 k i sp.toNat k2 i2 dp.toNat n.toNat k' i' j') ∧ (isL k' j' = false → in32 (cpy S.2.2 k i sp.toNat k2 i2 dp.toNat n.toNat k' i' j'))
          unfold cpy
          split
          · have g := w6 k i (sp.toNat + (j' - dp.toNat))
            exact ⟨g.1, fun _ => g.2 (isL_1 (Or.inl g1))⟩
          · exact w6 k' i' j'
        · have hk : k2 ≠ 999 := by have := (ords_kd ho2).1; dsimp only at this; omega
          show Int32.ofInt (cpy S.2.2 k i sp.toNat k2 i2 dp.toNat n.toNat 999 0 j') = xs j'
          unfold cpy
          rw [if_neg (fun z => hk z.1.symm)]
          exact w8 j' hj
      have k0 := ih (pc + 1) L st (S.1, S.2.1, cpy S.2.2 k i sp.toNat k2 i2 dp.toNat n.toNat) ad H1 locs1 cells slots ls he ⟨hW', hH.2.1, hr, hH.2.2.2.1, hH.2.2.2.2.1, hH.2.2.2.2.2.1, hH.2.2.2.2.2.2.1, hH.2.2.2.2.2.2.2.1, hH.2.2.2.2.2.2.2.2⟩
      rw [hn] at k0
      exact k0
  · cases hz
end WALK
end
section
section WALK
variable {N m : Nat} {G : GT} {b : Nat} {xs : Nat → Int32} {out : Out}
variable {p : Program} {l : Launch} {e : Env} {R : Room} {s : State} {mid : MethodId} {args : Array Value} {below : List Frame} {meth : Method} {c : Code} {A : Nat → Prop} {H0 : Heap} {Q : State → Prop}
variable {F pc : Nat} {L st : List MV} {S : MS} {ad : AdT} {H : Heap} {locs : List Loc} {cells slots : Nat} {ls : Array Slot}
theorem s_ldc {i : Nat} (hC : Cx N m G b xs p R s mid args meth c A H0) (ih : IH N F m G b xs out p l e R s mid args below meth c A H0 Q) (hH : Here N m G b xs out p l e R s mid args below meth c A H0 Q L st S ad H locs cells slots ls)
    {raw : Instr} {len : Nat} (hd : decode (mCode m) (bpc m pc) = .ok (raw, len)) (hn : bpc m (pc + 1) = bpc m pc + len) (hlen : lenOf raw = 0 ∨ len = lenOf raw) (hz : rz m (bpc m pc) raw (.ldc i) = true)
    (he : exec N F m (pc + 1) L (vR 1000 i :: st) S = some out) : W p l e R s mid args below meth c H locs cells slots Q (F0 mid (bpc m pc) ls (st.map (toV ad))) := by
  obtain ⟨hm264, hx, hb, hml, hown, hts, hini, hfr, hlo, hGS, hA, hX, hbl, hbA, hTX, hN⟩ := hC
  unfold rz at hz
  dsimp only at hz
  split at hz
  · rename_i idx
    obtain ⟨h1, h2⟩ := band_t hz
    have hi : i + 1 ≤ 16 := Nat.le_of_ble_eq_true h1
    rcases hlen with h | h
    · cases h
    rw [h] at hd hn
    have k := go_st ih hH he (ok1 (Or.inr (Or.inr ⟨rfl, by dsimp only; omega⟩)) hH.2.2.1)
    rw [hn] at k
    have e1 : (vR 1000 i :: st).map (toV ad) = .ref (G.2.2 i) :: st.map (toV ad) := by
      rw [List.map_cons]
      congr 1
      show Value.ref (ad 1000 i) = _
      rw [hH.1.2.2.2.2.1 i (by omega)]
    rw [e1] at k
    exact va_ldcS hx hb hown (hGS.2.2 _ _ _ h2) hd k
  · cases hz
theorem s_ret (hH : Here N m G b xs out p l e R s mid args below meth c A H0 Q L st S ad H locs cells slots ls) (he : xret m st S = some out)
    (hd1 : mRet m = 0 → st = [] → decode (mCode m) (bpc m pc) = .ok (.return_, 1)) (hd2 : ∀ x, st = [.inl x] → decode (mCode m) (bpc m pc) = .ok (.ireturn, 1)) (hd3 : ∀ x, st = [.inr (.inl x)] → decode (mCode m) (bpc m pc) = .ok (.lreturn, 1)) (hd4 : ∀ x, st = [.inr (.inr (.inl x))] → decode (mCode m) (bpc m pc) = .ok (.areturn, 1)) :
    W p l e R s mid args below meth c H locs cells slots Q (F0 mid (bpc m pc) ls (st.map (toV ad))) := by
  have kk := hH.2.2.2.2.2.2.2.2
  unfold xret at he
  rcases st with _ | ⟨v, _ | ⟨u, st⟩⟩
  · dsimp only at he
    rcases z : mRet m with _ | q <;> rw [z] at he
    · cases he
      exact kk ad H locs cells slots pc ls (fun _ _ => rfl) hH.1 rfl rfl ⟨hd1 z rfl, z⟩ (fun v h => by cases h)
    · cases he
  · have hv := okh hH.2.2.1
    rcases v with x | (x | (x | x)) <;> dsimp only at he
    · have h2 : (mRet m = 1 ∨ (mRet m = 2 ∧ (x = 0 ∨ x = 1))) ∧ out = (some (vI x), S) := by
        rcases z : mRet m with _ | _ | _ | q <;> rw [z] at he
        · cases he
        · cases he; exact ⟨Or.inl rfl, rfl⟩
        · change (if x = 0 then some (some (vI x), S) else if x = 1 then some (some (vI x), S) else none) = some out at he
          by_cases g : x = 0
          · rw [if_pos g] at he; cases he; exact ⟨Or.inr ⟨rfl, Or.inl g⟩, rfl⟩
          · rw [if_neg g] at he
            by_cases g2 : x = 1
            · rw [if_pos g2] at he; cases he; exact ⟨Or.inr ⟨rfl, Or.inr g2⟩, rfl⟩
            · rw [if_neg g2] at he; cases he
        · cases he
      obtain ⟨h2, rfl⟩ := h2
      exact kk ad H locs cells slots pc ls (fun _ _ => rfl) hH.1 rfl rfl ⟨hd2 x rfl, h2, hv⟩ (fun v h => by cases h; exact hv)
    · rcases z : mRet m with _ | _ | _ | _ | q <;> rw [z] at he <;> first | (cases he; done) | skip
      cases he
      exact kk ad H locs cells slots pc ls (fun _ _ => rfl) hH.1 rfl rfl ⟨hd3 x rfl, z, hv⟩ (fun v h => by cases h; exact hv)
    · rcases z : mRet m with _ | _ | _ | _ | _ | q <;> rw [z] at he <;> first | (cases he; done) | skip
      cases he
      exact kk ad H locs cells slots pc ls (fun _ _ => rfl) hH.1 rfl rfl ⟨hd4 x rfl, z⟩ (fun v h => by cases h; exact hv)
    · cases he
  · rcases v with x | (x | (x | x)) <;> cases he
end WALK
end
section
/-! CALLS: a method's contract out of its run -/
theorem takeR_spec : ∀ (n : Nat) (st acc as rest : List MV), takeR n st acc = some (as, rest) → ∃ ts : List MV, ts.length = n ∧ st = ts ++ rest ∧ as = ts.reverse ++ acc
  | 0, st, acc, as, rest, h => by
    simp only [takeR, Option.some.injEq, Prod.mk.injEq] at h
    exact ⟨[], rfl, by rw [h.2]; rfl, by rw [← h.1]; rfl⟩
  | n + 1, [], acc, as, rest, h => by simp [takeR] at h
  | n + 1, v :: st, acc, as, rest, h => by
    obtain ⟨ts, h1, h2, h3⟩ := takeR_spec n st (v :: acc) as rest (by simpa [takeR] using h)
    exact ⟨v :: ts, by simp [h1], by rw [h2]; rfl, by rw [h3]; simp⟩
theorem lg_len (ad : AdT) : ∀ as : List MV, (lg_sl (as.map (toV ad))).length = (spread as).length
  | [] => rfl
  | .inl x :: as => by
    have h := lg_len ad as
    show (lg_sl (Value.int (Int32.ofInt x) :: as.map (toV ad))).length = (spread as).length + 1
    unfold lg_sl at h ⊢
    rw [List.flatMap_cons, List.length_append]
    show 1 + _ = _
    omega
  | .inr (.inl x) :: as => by
    have h := lg_len ad as
    show (lg_sl (Value.long (Int64.ofInt x) :: as.map (toV ad))).length = (spread as).length + 1 + 1
    unfold lg_sl at h ⊢
    rw [List.flatMap_cons, List.length_append]
    show 2 + _ = _
    omega
  | .inr (.inr (.inl q)) :: as => by
    have h := lg_len ad as
    show (lg_sl (Value.ref (ad q.1 q.2) :: as.map (toV ad))).length = (spread as).length + 1
    unfold lg_sl at h ⊢
    rw [List.flatMap_cons, List.length_append]
    show 1 + _ = _
    omega
  | .inr (.inr (.inr u)) :: as => by
    have h := lg_len ad as
    show (lg_sl (Value.null :: as.map (toV ad))).length = (spread as).length + 1
    unfold lg_sl at h ⊢
    rw [List.flatMap_cons, List.length_append]
    show 1 + _ = _
    omega
theorem spr_at (ad : AdT) : ∀ (as : List MV) (j i : Nat) (v : MV), nth (spread as) i = some v → v ≠ vX → (j + i, toV ad v) ∈ lv_args j (as.map (toV ad))
  | [], j, i, v, h, _ => by simp [spread, nth] at h
  | .inl x :: as, j, 0, v, h, hx => by
    cases (show some (vI x) = some v from h)
    exact List.mem_cons_self
  | .inl x :: as, j, i + 1, v, h, hx => by
    have k := spr_at ad as (j + 1) i v h hx
    rw [show j + (i + 1) = j + 1 + i by omega]
    exact List.mem_cons_of_mem _ k
  | .inr (.inl x) :: as, j, 0, v, h, hx => by
    cases (show some (vJ x) = some v from h)
    exact List.mem_cons_self
  | .inr (.inl x) :: as, j, 1, v, h, hx => by
    cases (show some vX = some v from h)
    exact absurd rfl hx
  | .inr (.inl x) :: as, j, i + 2, v, h, hx => by
    have k := spr_at ad as (j + 2) i v h hx
    rw [show j + (i + 2) = j + 2 + i by omega]
    exact List.mem_cons_of_mem _ k
  | .inr (.inr (.inl q)) :: as, j, 0, v, h, hx => by
    cases (show some (.inr (.inr (.inl q))) = some v from h)
    exact List.mem_cons_self
  | .inr (.inr (.inl q)) :: as, j, i + 1, v, h, hx => by
    have k := spr_at ad as (j + 1) i v h hx
    rw [show j + (i + 1) = j + 1 + i by omega]
    exact List.mem_cons_of_mem _ k
  | .inr (.inr (.inr u)) :: as, j, 0, v, h, hx => by
    cases (show some (.inr (.inr (.inr u))) = some v from h)
    exact absurd rfl hx
  | .inr (.inr (.inr u)) :: as, j, i + 1, v, h, hx => by
    have k := spr_at ad as (j + 1) i v h hx
    rw [show j + (i + 1) = j + 1 + i by omega]
    exact List.mem_cons_of_mem _ k
theorem padX_at : ∀ (n : Nat) (l : List MV) (i : Nat) (v : MV), nth (padX n l) i = some v → v ≠ vX → nth l i = some v
  | 0, l, i, v, h, _ => by simp [padX, nth] at h
  | n + 1, [], 0, v, h, hx => by
    cases (show some vX = some v from h)
    exact absurd rfl hx
  | n + 1, [], i + 1, v, h, hx => by
    have k := padX_at n [] i v h hx
    simp [nth] at k
  | n + 1, a :: l, 0, v, h, hx => h
  | n + 1, a :: l, i + 1, v, h, hx => padX_at n l i v h hx
theorem padX_len : ∀ (n : Nat) (l : List MV), (padX n l).length = n
  | 0, l => rfl
  | n + 1, [] => by
    show (padX n []).length + 1 = n + 1
    rw [padX_len n []]
  | n + 1, a :: l => by
    show (padX n l).length + 1 = n + 1
    rw [padX_len n l]
theorem padX_mem : ∀ (n : Nat) (l : List MV) (v : MV), v ∈ padX n l → v = vX ∨ v ∈ l
  | 0, l, v, h => absurd h List.not_mem_nil
  | n + 1, [], v, h => by
    rcases List.mem_cons.mp (show v ∈ vX :: padX n [] from h) with h | h
    · exact Or.inl h
    · exact padX_mem n [] v h
  | n + 1, a :: l, v, h => by
    rcases List.mem_cons.mp (show v ∈ a :: padX n l from h) with h | h
    · exact Or.inr (by rw [h]; exact List.mem_cons_self)
    · rcases padX_mem n l v h with h | h
      · exact Or.inl h
      · exact Or.inr (List.mem_cons_of_mem _ h)
theorem spread_mem : ∀ (l : List MV) (v : MV), v ∈ spread l → v = vX ∨ v ∈ l
  | [], v, h => absurd h List.not_mem_nil
  | .inl x :: l, v, h => by
    rcases List.mem_cons.mp (show v ∈ vI x :: spread l from h) with h | h
    · exact Or.inr (by rw [h]; exact List.mem_cons_self)
    · rcases spread_mem l v h with h | h
      · exact Or.inl h
      · exact Or.inr (List.mem_cons_of_mem _ h)
  | .inr (.inl x) :: l, v, h => by
    rcases List.mem_cons.mp (show v ∈ vJ x :: vX :: spread l from h) with h | h
    · exact Or.inr (by rw [h]; exact List.mem_cons_self)
    rcases List.mem_cons.mp h with h | h
    · exact Or.inl h
    · rcases spread_mem l v h with h | h
      · exact Or.inl h
      · exact Or.inr (List.mem_cons_of_mem _ h)
  | .inr (.inr r) :: l, v, h => by
    rcases List.mem_cons.mp (show v ∈ .inr (.inr r) :: spread l from h) with h | h
    · exact Or.inr (by rw [h]; exact List.mem_cons_self)
    · rcases spread_mem l v h with h | h
      · exact Or.inl h
      · exact Or.inr (List.mem_cons_of_mem _ h)
theorem noJ_at : ∀ (l : List MV), noJ l = true → ∀ v ∈ l, isJ v = false
  | [], _, v, h => absurd h List.not_mem_nil
  | a :: l, h, v, hv => by
    unfold noJ at h
    cases z : isJ a <;> rw [z] at h
    · rcases List.mem_cons.mp hv with q | q
      · rw [q]; exact z
      · exact noJ_at l h v q
    · cases h
theorem mkL_mem {k : Nat} {as : List MV} {v : MV} (h : v ∈ mkL k as) : v = vX ∨ v ∈ as := by
  rcases padX_mem _ _ _ h with h | h
  · exact Or.inl h
  · exact spread_mem _ _ h
theorem argOk_t {k : Nat} {as : List MV} (h : recvOk k as = true) : (spread as).length ≤ mMaxL k ∧ (mLong k = false → ∀ v ∈ as, isJ v = false) ∧ cond (mSt k) true (recvC k as) = true := by
  unfold recvOk at h
  cases z : argOk k as <;> rw [z] at h
  · cases h
  · unfold argOk at z
    cases z1 : Nat.ble (spread as).length (mMaxL k) <;> rw [z1] at z
    · cases z
    · refine ⟨Nat.le_of_ble_eq_true z1, fun hl => ?_, h⟩
      rw [cond_true, hl, cond_false] at z
      exact noJ_at as z
theorem locs_entry {ad : AdT} {k : Nat} {as : List MV} {ls : Array Slot} (h : lv_has ls (mMaxL k) (lv_args 0 (as.map (toV ad)))) : Locs ad (mkL k as) ls := by
  refine ⟨by rw [h.1]; exact (padX_len _ _).symm, h.2.1, fun i v hi hv => ?_⟩
  have h1 := spr_at ad as 0 i v (padX_at _ _ _ _ hi hv) hv
  rw [Nat.zero_add] at h1
  exact h.2.2 _ h1
theorem bpc0_all : allR (fun k => Nat.beq (bpc k 0) 0) 0 264 = true := by decide +kernel
theorem bpc0 {k : Nat} (h : k < 264) : bpc k 0 = 0 := Nat.eq_of_beq_eq_true (allR_at 264 0 k bpc0_all (by omega) (by omega))
theorem plain_all : allR (fun k => plainName (cN (mOwn k))) 1 263 = true := by decide +kernel
theorem plain_k {k : Nat} (h0 : 0 < k) (h : k < 264) : plainName (mN k).cls = true := allR_at 263 1 k plain_all (by omega) (by omega)
theorem mRet_k {k : Nat} (h : k < 264) : retOk (mRet k) (mRetT k) = true := allR_at 264 0 k mRet_ok (by omega) (by omega)
theorem ret0 {r : Option FieldType} (h : retOk 0 r = true) : r = none := by
  rcases r with _ | r
  · rfl
  · cases h
theorem ret1 {r : Option FieldType} (h : retOk 1 r = true) : r = some .int := by
  rcases r with _ | r
  · cases h
  · cases r <;> first | rfl | cases h
theorem ret2 {r : Option FieldType} (h : retOk 2 r = true) : r = some .boolean := by
  rcases r with _ | r
  · cases h
  · cases r <;> first | rfl | cases h
theorem ret3 {r : Option FieldType} (h : retOk 3 r = true) : r = some .long := by
  rcases r with _ | r
  · cases h
  · cases r <;> first | rfl | cases h
theorem ret4 {r : Option FieldType} (h : retOk 4 r = true) : ∃ n, r = some (.object n) := by
  rcases r with _ | r
  · cases h
  · cases r <;> first | exact ⟨_, rfl⟩ | cases h
theorem toV_same {ad ad1 : AdT} {n : Nat} (hag : ∀ q, vld n q → ad1 q.1 q.2 = ad q.1 q.2) (h9 : ad1 999 0 = ad 999 0) (h10 : ∀ i, i < 16 → ad1 1000 i = ad 1000 i) {v : MV} (h : okV n v) : toV ad1 v = toV ad v := by
  rcases v with v | v | ⟨k, i⟩ | v
  · rfl
  · rfl
  · show Value.ref (ad1 k i) = Value.ref (ad k i)
    rcases h with h | h | ⟨h, h2⟩
    · exact congrArg _ (hag (k, i) h)
    · cases h
      exact congrArg _ h9
    · dsimp only at h h2
      subst h
      exact congrArg _ (h10 i h2)
  · rfl
section CALL
variable {N : Nat} {G : GT} {b : Nat} {xs : Nat → Int32}
/-- what else holds of the cells -/
def RestW (N : Nat) (G : GT) (b : Nat) (xs : Nat → Int32) (ad : AdT) (S : MS) : Prop := ad 999 0 = b ∧ (∀ i, i < 16 → ad 1000 i = G.2.2 i) ∧ okS S.2.2 ∧ RK S ∧ (∀ j, j < N → Int32.ofInt (S.2.2 999 0 j) = xs j)
/-- what holds as a method begins -/
def PreW (N : Nat) (G : GT) (b : Nat) (xs : Nat → Int32) (ad : AdT) (S : MS) (sz : Nat) (U : State) : Prop :=
  U.heap.size = sz ∧ va_P G.1 cls0 (wl G ad S) U.heap ∧ GS G U ∧ va_D (va_A (wl G ad S) sz) (wl G ad S) ∧ va_X b N xs U U.heap ∧ b < sz ∧ ¬ va_A (wl G ad S) sz b ∧ TXc G (va_A (wl G ad S) sz) U U.heap
def QcW (N : Nat) (G : GT) (b : Nat) (xs : Nat → Int32) (out : Out) (ad : AdT) (S : MS) (sz : Nat) : Array Value → State → Outcome → State → Prop := fun _ st oc t =>
  (∃ ad1 : AdT, oc = .returned (out.1.map (toV ad1)) ∧ (∀ q, vld S.1 q → ad1 q.1 q.2 = ad q.1 q.2) ∧ va_P G.1 cls0 (wl G ad1 out.2) t.heap ∧ va_D (va_A (wl G ad S) sz) (wl G ad1 out.2) ∧ RestW N G b xs ad1 out.2 ∧ ∀ v, out.1 = some v → okV out.2.1 v) ∧ va_F (va_A (wl G ad S) sz) st t
def rmK (k : Nat) (S S' : MS) : Room := { frames := mFr k, cells := S'.1 - S.1, slots := slN S'.1 - slN S.1, locals := mLo k }
def wsK (k : Nat) : List Cond := Cond.code (mN k) (mCode k) (mMaxL k) (mRetT k) :: gw
/-- every method's contract, out of its run with so much fuel -/
def MetK (N F : Nat) (l : Launch) : Prop := ∀ (k : Nat) (G : GT) (b : Nat) (xs : Nat → Int32) (as : List MV) (S : MS) (out : Out) (ad : AdT) (sz : Nat), 0 < k → k < 264 → exec N F k 0 (mkL k as) [] S = some out → recvOk k as = true → (∀ v ∈ as, okV S.1 v) → RestW N G b xs ad S → N < 2147483648 →
  Met l (mN k) (wsK k) (rmK k S out.2) (va_Pc (as.map (toV ad)) (PreW N G b xs ad S sz)) (QcW N G b xs out ad S sz) (out.2.1 - S.1) (slN out.2.1 - slN S.1) (va_A (wl G ad S) sz)
theorem met_of {F : Nat} {l : Launch} (hw : ∀ (m : Nat) (G : GT) (b : Nat) (xs : Nat → Int32) (out : Out) (p : Program) (e : Env) (R : Room) (s : State) (mid : MethodId) (args : Array Value) (below : List Frame) (meth : Method) (c : Code) (A : Nat → Prop) (H0 : Heap) (Q : State → Prop), Cx N m G b xs p R s mid args meth c A H0 → IH N F m G b xs out p l e R s mid args below meth c A H0 Q) : MetK N F l := by
  intro k G b xs as S out ad sz hk0 hk he hrv hok hrest hN
  have hmono := exec_n _ _ _ _ _ _ _ he
  have hsl := slN_mono hmono
  obtain ⟨hlen, hJ, -⟩ := argOk_t hrv
  refine Met.ofW (cc := mCode k) (maxL := mMaxL k) (ret := mRetT k) (plain_k hk0 hk) rfl ?_
  intro p e s mid args below meth c s₁ B hml hv
  obtain ⟨rfl, hsz, hP, hGS, hD, hX, hbl, hbA, hTX⟩ := hv
  have hts := atoms_spec (ws := wsK k) B.pre
  have hown : s.vm.findClass (cN (mOwn k)) = some mid.cls := findClass_of_methodNamed B.named
  have hlocks := B.notSynchronized
  have hx := B.exec
  have hb := B.bytes
  have hr := B.returns
  subst hsz
  rw [lg_entry_eq]
  have hl := lv_entry (as.map (toV ad)) (n := mMaxL k) (by rw [lg_len]; exact hlen)
  generalize ((lg_sl (as.map (toV ad))) ++ List.replicate (mMaxL k - (lg_sl (as.map (toV ad))).length) Slot.unset).toArray = ls at hl ⊢
  have hC : Cx N k G b xs p (headSpec (wsK k) (rmK k S out.2)).room s mid (as.map (toV ad)).toArray meth c (va_A (wl G ad S) s.heap.size) s.heap := ⟨hk, hx, hb, hml, hown, fun w hw => hts w (List.mem_cons_of_mem _ hw), fun hi => (name_of_methodNamed B.named B.method).1.trans (mInit_nm k hk hi), Nat.le_refl _, Nat.le_refl _, hGS, fun q h => Or.inr h, hX, hbl, hbA, hTX, hN⟩
  obtain ⟨r1, r2, r3, r4, r5⟩ := hrest
  have k0 := hw k G b xs out p e _ s mid _ below meth c _ _ (MQ below (QcW N G b xs out ad S s.heap.size) (as.map (toV ad)).toArray s (out.2.1 - S.1) (slN out.2.1 - slN S.1) (va_A (wl G ad S) s.heap.size)) hC 0 (mkL k as) [] S ad s.heap [] 0 0 ls he ⟨⟨hP, hD, va_S.rf, r1, r2, r3, r4, r5⟩, fun v hv => ?_, fun v hv => absurd hv List.not_mem_nil, fun hl v hv => ?_, locs_entry hl, padX_len _ _, ?_, ?_, ?_⟩
  · rw [bpc0 hk] at k0
    exact k0
  · rcases mkL_mem hv with h | h
    · rw [h]; trivial
    · exact hok v h
  · rcases mkL_mem hv with h | h
    · rw [h]; rfl
    · exact hJ hl v h
  · show 0 + out.2.1 ≤ out.2.1 - S.1 + S.1
    omega
  · show 0 + slN out.2.1 ≤ slN out.2.1 - slN S.1 + slN S.1
    omega
  · intro ad1 H1 locs1 cells1 slots1 pc1 ls1 hag hW hc1 hs1 hE hV
    have hc2 : cells1 = out.2.1 - S.1 := by omega
    have hs2 : slots1 = slN out.2.1 - slN S.1 := by omega
    subst hc2
    subst hs2
    obtain ⟨w1, w2, w3, w4, w5, w6, w7, w8⟩ := hW
    have hQ : ∀ t : State, t.heap = H1 → QcW N G b xs out ad S s.heap.size (as.map (toV ad)).toArray s (.returned (out.1.map (toV ad1))) t := fun t ht => ⟨⟨ad1, rfl, hag, by rw [ht]; exact w1, w2, ⟨w4, w5, w6, w7, w8⟩, hV⟩, w3.F ht⟩
    have hm := mRet_k hk
    obtain ⟨o1, o2⟩ := out
    rcases o1 with _ | (x | (x | (x | x)))
    · obtain ⟨hd, h0⟩ := hE
      rw [h0] at hm
      exact W.vret hx hb (hr.trans (ret0 hm)) (fun t ht _ => hQ t ht) w3.2.2 hd
    · obtain ⟨hd, h0, -⟩ := hE
      rcases h0 with h0 | ⟨h0, h1⟩
      · rw [h0] at hm
        exact W.iret hx hb (hr.trans (ret1 hm)) (fun t ht _ => hQ t ht) w3.2.2 hd
      · rw [h0] at hm
        refine W.zret hx hb (hr.trans (ret2 hm)) ?_ (fun t ht _ => hQ t ht) w3.2.2 hd
        rcases h1 with rfl | rfl <;> rfl
    · obtain ⟨hd, h0, -⟩ := hE
      rw [h0] at hm
      exact W.lret hx hb (hr.trans (ret3 hm)) (fun t ht _ => hQ t ht) w3.2.2 hd
    · obtain ⟨hd, h0⟩ := hE
      rw [h0] at hm
      obtain ⟨nm, hnm⟩ := ret4 hm
      exact W.aret hx hb (hr.trans hnm) (Or.inl ⟨_, rfl⟩) (Or.inr ⟨_, rfl⟩) (fun t ht _ => hQ t ht) w3.2.2 hd
    · exact hE.elim
end CALL
end
section
/-! CALLS: what a call goes on with -/
theorem blindW {N : Nat} {G : GT} {b : Nat} {xs : Nat → Int32} {ad : AdT} {S : MS} {sz : Nat} (vs : List Value) : FrameBlind (va_Pc vs (PreW N G b xs ad S sz)) := by
  intro a U g mk q
  obtain ⟨q0, q1, q2, q3, q4, q5, q6, q7, q8⟩ := q
  have hv : U.vm.Alike (U.calling g mk a).vm := Vm.Alike.refl U.vm
  exact ⟨q0, q1, q2, ⟨va_K.moved hv q3.1, fun a' i k h => va_Nw.same rfl rfl (q3.2.1 a' i k h), fun a' i k h => vk_R.same rfl (q3.2.2 a' i k h)⟩, q4, va_X.moved hv q5, q6, q7, TXc.moved hv q8⟩
theorem wcs1_all : allL (fun q => cond (Nat.beq q.1 1) (Nat.blt q.2.2.2 264) true) wcs = true := by decide +kernel
theorem wcs1 {a i k : Nat} (h : elemW (1, a, i, k) = true) : k < 264 := by
  have h1 := allL_in wcs1_all _ (elemW_in h)
  dsimp only at h1
  have h2 : Nat.beq 1 1 = true := rfl
  rw [h2, cond_true] at h1
  exact Nat.le_of_ble_eq_true h1
theorem fr0_all : allR (fun m => Nat.ble (mFr m) (mFr 0)) 0 264 = true := by decide +kernel
theorem roomOk_t {m k : Nat} (hm : m < 264) (h : roomOk m k = true) : 0 < k ∧ mFr k + 1 ≤ mFr m ∧ 8 + (mMaxL k + 11) + mLo k ≤ mLo m := by
  obtain ⟨h1, h2⟩ := band_t h
  have h1 := Nat.le_of_ble_eq_true h1
  have h2 := Nat.le_of_ble_eq_true h2
  have z3 : Nat.ble (mFr m) (mFr 0) = true := allR_at (f := fun m => Nat.ble (mFr m) (mFr 0)) 264 0 m fr0_all (by omega) (by omega)
  have h3 : mFr m ≤ mFr 0 := Nat.le_of_ble_eq_true z3
  refine ⟨?_, h1, h2⟩
  rcases Nat.eq_zero_or_pos k with e | e
  · subst e; omega
  · exact e
theorem cal_t {k : Nat} (h0 : 0 < k) (hk : k < 264) : elemW (3, k, 0, 0) = true ∧ elemW (8, mOwn k, 0, 0) = true ∧ mOwn k < 60 := by
  have h := calAll k hk h0
  obtain ⟨h1, h2⟩ := band_t h
  obtain ⟨h2, h3⟩ := band_t h2
  exact ⟨h1, h2, Nat.le_of_ble_eq_true h3⟩
theorem mArg_k {k : Nat} (hk : k < 264) : (parseMethodDescriptor (mN k).desc).map (fun d => d.parameters.length) = some (cond (mSt k) (mArg k) (mArg k - 1)) := of_decide_eq_true (allR_at 264 0 k mArg_ok (by omega) (by omega))
theorem parse_len {d : String} {n : Nat} (h : (parseMethodDescriptor d).map (fun d => d.parameters.length) = some n) : ∀ sig, parseMethodDescriptor d = some sig → n = sig.parameters.length := by
  intro sig hs
  rw [hs] at h
  exact (Option.some.inj h).symm
theorem nest_k {a i k : Nat} (h : nestOk a i k = true) : k = 149 := by
  unfold nestOk at h
  unfold band3 at h
  rcases z1 : Nat.beq k 149 with _ | _
  · rw [z1] at h
    generalize Nat.beq a 5 = x1 at h
    generalize Nat.beq a 2 = x2 at h
    generalize Nat.beq i 70 = x3 at h
    generalize Nat.beq i 119 = x4 at h
    cases x1 <;> cases x2 <;> cases x3 <;> cases x4 <;> cases h
  · exact Nat.eq_of_beq_eq_true z1
section WALK
variable {N m : Nat} {G : GT} {b : Nat} {xs : Nat → Int32} {out : Out}
variable {p : Program} {l : Launch} {e : Env} {R : Room} {s : State} {mid : MethodId} {args : Array Value} {below : List Frame} {meth : Method} {c : Code} {A : Nat → Prop} {H0 : Heap} {Q : State → Prop}
variable {F pc : Nat} {L st : List MV} {S : MS} {ad : AdT} {H : Heap} {locs : List Loc} {cells slots : Nat} {ls : Array Slot}
theorem code_k {k : Nat} (hts : ∀ w ∈ gw, w.before args s = true) (h0 : 0 < k) (hk : k < 264) : (∀ w ∈ wsK k, ∀ (a' : Array Value) (U : State), s.WarmedH U.vm → w.before a' U = true) ∧ (Cond.code (mN k) (mCode k) (mMaxL k) (mRetT k)).before args s = true ∧ (Cond.initialized (mN k).cls).before args s = true ∧ ((mN k).cls ≠ "java/lang/invoke/MethodHandle" ∧ (mN k).cls ≠ "java/lang/invoke/VarHandle") := by
  obtain ⟨h1, h2, h3⟩ := cal_t h0 hk
  have g1 := gw_of h1 rfl
  have g2 := gw_of h2 rfl
  rw [wd_3] at g1
  rw [wd_8] at g2
  refine ⟨pay_in hts (fun w hw => ?_), hts _ g1, hts _ g2, cN_plain _ h3⟩
  rcases List.mem_cons.mp hw with e | e
  · rw [e]; exact gw_GoodIn _ g1
  · exact gw_GoodIn w e
theorem pre_of {S : MS} (hC : Cx N m G b xs p R s mid args meth c A H0) (hW : Wd N G b xs A H0 S ad H locs) (as : List MV) : ∀ U : State, U.heap = H → s.WarmedH U.vm → va_Pc (as.map (toV ad)) (PreW N G b xs ad S H.size) (as.map (toV ad)).toArray U := by
  intro U hU hWm
  obtain ⟨hm264, hx, hb, hml, hown, hts, hini, hfr, hlo, hGS, hA, hX, hbl, hbA, hTX, hN⟩ := hC
  obtain ⟨w1, w2, w3, w4, w5, w6, w7, w8⟩ := hW
  have hF : ∀ q, va_A (wl G ad S) H.size q → A q := by
    intro q h
    rcases h with ⟨k, e, h⟩ | h
    · exact w2.2 k (q, e) h
    · exact hA q (Nat.le_trans w3.1 h)
  refine ⟨rfl, by rw [hU], by rw [hU]; exact w1, ⟨va_K.moved hWm.alike hGS.1, fun a' i k h => va_Nw.warmM hWm (hGS.2.1 a' i k h), fun a' i k h => vk_R.warm hWm (hGS.2.2 a' i k h)⟩, w2.self, ?_, Nat.lt_of_lt_of_le hbl w3.1, ?_, ?_⟩
  · rw [hU]
    exact va_X.moved hWm.alike (va_X.kept hX (w3.2.1 b hbl hbA))
  · intro h
    exact hbA (hF b h)
  · rw [hU]
    exact TXc.moved hWm.alike ((hTX.kept w3.2.1).narrow hF)
theorem go_call {rest : List MV} {y : Out} (hC : Cx N m G b xs p R s mid args meth c A H0) (ih : IH N F m G b xs out p l e R s mid args below meth c A H0 Q) (hH : Here N m G b xs out p l e R s mid args below meth c A H0 Q L st S ad H locs cells slots ls)
    (hst : ∀ v ∈ rest, okV S.1 v) (hy : S.1 ≤ y.2.1) (he : exec N F m (pc + 1) L (push y.1 rest) y.2 = some out) (hn : bpc m (pc + 1) = bpc m pc + 3) {a : Array Value}
    (hr : va_Run p l e R s mid args below meth c H locs cells slots (y.2.1 - S.1) (slN y.2.1 - slN S.1) (F0 mid (bpc m pc) ls (st.map (toV ad))) (rest.map (toV ad)) (QcW N G b xs y ad S H.size a) (va_A (wl G ad S) H.size)) : W p l e R s mid args below meth c H locs cells slots Q (F0 mid (bpc m pc) ls (st.map (toV ad))) := by
  obtain ⟨hm264, hx, hb, hml, hown, hts, hini, hfr, hlo, hGS, hA, hX, hbl, hbA, hTX, hN⟩ := hC
  intro T hT X
  obtain ⟨v, st₀, t, T', L', h0, X', hL', e1, e2, ⟨⟨ad1, hv, hag, hP1, hD1, hrest1, hV⟩, hz, hkk⟩, stp⟩ := hr T hT X
  have hv : v = y.1.map (toV ad1) := by cases hv; rfl
  subst hv
  rw [h0] at hz hkk
  obtain ⟨⟨w1, w2, w3, w4, w5, w6, w7, w8⟩, h2, h3, h4, h5, h6, h7, h8, h9⟩ := hH
  obtain ⟨r1, r2, r3, r4, r5⟩ := hrest1
  have hF : ∀ q, va_A (wl G ad S) H.size q → A q := by
    intro q h
    rcases h with ⟨k, e, h⟩ | h
    · exact w2.2 k (q, e) h
    · exact hA q (Nat.le_trans w3.1 h)
  have hsame : ∀ v, okV S.1 v → toV ad1 v = toV ad v := fun v hv => toV_same hag (r1.trans w4.symm) (fun i hi => (r2 i hi).trans (w5 i hi).symm) hv
  have hmono := exec_n _ _ _ _ _ _ _ he
  have hsl := slN_mono hy
  have hsl2 := slN_mono hmono
  have hS1 : va_S A H0 T'.heap (locs ++ L') := by
    refine ⟨Nat.le_trans w3.1 (by rw [e1]; exact hz), fun q g1 g2 => ?_, fun q hq => ?_⟩
    · rw [e1, hkk q (Nat.lt_of_lt_of_le g1 w3.1) (fun z => g2 (hF q z))]
      exact w3.2.1 q g1 g2
    · rcases List.mem_append.mp hq with h | h
      · exact w3.2.2 q h
      · exact hF _ (hL' q h)
  have k0 := ih (pc + 1) L (push y.1 rest) y.2 ad1 T'.heap (locs ++ L') (cells + (y.2.1 - S.1)) (slots + (slN y.2.1 - slN S.1)) ls he
    ⟨⟨by rw [e1]; exact hP1, hD1.weaken (fun k q _ h => hF q.1 h), hS1, r1, r2, r3, r4, r5⟩, fun v hv => okV_mono hy (h2 v hv), fun v hv => ?_, h4, ⟨h5.1, h5.2.1, fun j v hj hv => ?_⟩, h6, ?_, ?_, ?_⟩
  · obtain ⟨t2, a1, b1⟩ := k0 T' rfl X'
    refine ⟨t2, stp t2 ?_, b1⟩
    have e3 : (push y.1 rest).map (toV ad1) = (y.1.map (toV ad1)).toList ++ rest.map (toV ad) := by
      have e4 : rest.map (toV ad1) = rest.map (toV ad) := List.map_congr_left (fun v hv => hsame v (hst v hv))
      rcases y.1 with _ | v
      · exact e4
      · show toV ad1 v :: rest.map (toV ad1) = toV ad1 v :: rest.map (toV ad)
        rw [e4]
    rw [e3, hn] at a1
    exact a1
  · rcases z : y.1 with _ | u
    · rw [z] at hv
      exact okV_mono hy (hst v hv)
    · rw [z] at hv
      rcases List.mem_cons.mp (show v ∈ u :: rest from hv) with q | q
      · rw [q]; exact hV u z
      · exact okV_mono hy (hst v q)
  · rw [hsame v (h2 v (nth_mem _ _ _ hj))]
    exact h5.2.2 j v hj hv
  · show cells + (y.2.1 - S.1) + out.2.1 ≤ R.cells + y.2.1
    omega
  · show slots + (slN y.2.1 - slN S.1) + slN out.2.1 ≤ R.slots + slN y.2.1
    omega
  · intro ad2 H2 locs2 cells1 slots1 pc1 ls1 hag2 hW2 hc1 hs1 hE hV2
    refine h9 ad2 H2 locs2 cells1 slots1 pc1 ls1 (fun q' hq' => ?_) hW2 ?_ ?_ hE hV2
    · obtain ⟨a, ha, hqa⟩ := hq'
      rw [hag2 q' ⟨a, Nat.lt_of_lt_of_le ha hy, hqa⟩, hag q' ⟨a, ha, hqa⟩]
    · have : cells1 + y.2.1 = cells + (y.2.1 - S.1) + out.2.1 := hc1
      omega
    · have : slots1 + slN y.2.1 = slots + (slN y.2.1 - slN S.1) + slN out.2.1 := hs1
      omega
theorem xcall_t {k : Nat} {inv : Nat → List MV → MS → Option Out} {K : KT (Option Out)} (he : xcall inv k pc L st S K = some out) : ∃ (as rest : List MV) (y : Out), takeR (mArg k) st [] = some (as, rest) ∧ recvOk k as = true ∧ wordsOf rest ≤ 8 ∧ inv k as S = some y ∧ K (pc + 1) L (push y.1 rest) y.2 = some out := by
  unfold xcall at he
  rcases ht : takeR (mArg k) st [] with _ | ⟨as, rest⟩ <;> rw [ht] at he
  · cases he
  dsimp only at he
  rcases g1 : recvOk k as with _ | _ <;> rw [g1] at he
  · cases he
  rw [cond_true] at he
  rcases g2 : Nat.ble (wordsOf rest) 8 with _ | _ <;> rw [g2] at he
  · cases he
  rw [cond_true] at he
  obtain ⟨y, h1, h2⟩ := bnd_some he
  exact ⟨as, rest, y, rfl, g1, Nat.le_of_ble_eq_true g2, h1, h2⟩
theorem nil_sum : 2 * (0 : Nat) = 0 := rfl
theorem s_ics {k : Nat} (hM : MetK N F l) (hC : Cx N m G b xs p R s mid args meth c A H0) (ih : IH N F m G b xs out p l e R s mid args below meth c A H0 Q) (hH : Here N m G b xs out p l e R s mid args below meth c A H0 Q L st S ad H locs cells slots ls)
    {raw : Instr} {len : Nat} (hd : decode (mCode m) (bpc m pc) = .ok (raw, len)) (hn : bpc m (pc + 1) = bpc m pc + len) (hlen : lenOf raw = 0 ∨ len = lenOf raw) (hz : rz m (bpc m pc) raw (.invokestatic k) = true)
    (he : xcall (fun k as S => exec N F k 0 (mkL k as) [] S) k pc L st S (exec N F m) = some out) : W p l e R s mid args below meth c H locs cells slots Q (F0 mid (bpc m pc) ls (st.map (toV ad))) := by
  obtain ⟨as, rest, y, ht, hrv, hwr, hy, he⟩ := xcall_t he
  have hCC := hC
  obtain ⟨hm264, hx, hb, hml, hown, hts, hini, hfr, hlo, hGS, hA, hX, hbl, hbA, hTX, hN⟩ := hC
  obtain ⟨ts, t1, t2, t3⟩ := takeR_spec _ _ _ _ _ ht
  rw [List.append_nil] at t3
  have t4 : ts = as.reverse := by rw [t3, List.reverse_reverse]
  have t5 : as.length = mArg k := by rw [t3, List.length_reverse]; exact t1
  rw [t4] at t2
  have hok : ∀ v ∈ as, okV S.1 v := fun v hv => hH.2.2.1 v (by rw [t2]; exact List.mem_append_left _ (List.mem_reverse.mpr hv))
  have hor : ∀ v ∈ rest, okV S.1 v := fun v hv => hH.2.2.1 v (by rw [t2]; exact List.mem_append_right _ hv)
  have hm1 := exec_n _ _ _ _ _ _ _ hy
  have hm2 := exec_n _ _ _ _ _ _ _ he
  have hs1 := slN_mono hm1
  have hs2 := slN_mono hm2
  unfold rz at hz
  dsimp only at hz
  split at hz
  · rename_i idx
    obtain ⟨h1, h2⟩ := band_t hz
    obtain ⟨h2, h3⟩ := band_t h2
    rcases hlen with h | h
    · cases h
    rw [h] at hd hn
    obtain ⟨k0, kf, kl⟩ := roomOk_t hm264 h2
    have hcells := hH.2.2.2.2.2.2.1
    have hslots := hH.2.2.2.2.2.2.2.1
    have hk : k < 264 := by
      cases z : elemW (1, mOwn m, idx, k) <;> rw [z] at h3
      · rw [nest_k h3]; decide
      · exact wcs1 z
    obtain ⟨c1, c2, c3, c4⟩ := code_k (args := args) hts k0 hk
    have hpar := mArg_k hk
    rw [h1, cond_true] at hpar
    have hMk := hM k G b xs as S y ad H.size k0 hk hy hrv hok ⟨hH.1.2.2.2.1, hH.1.2.2.2.2.1, hH.1.2.2.2.2.2.1, hH.1.2.2.2.2.2.2.1, hH.1.2.2.2.2.2.2.2⟩ hN
    have hst : st.map (toV ad) = (as.map (toV ad)).reverse ++ rest.map (toV ad) := by rw [t2, List.map_append, List.map_reverse]
    have hmon : 2 * (F0 mid (bpc m pc) ls (st.map (toV ad))).monitorRoom + ((rest.map (toV ad)).map fun v => v.category).sum ≤ 8 := by
      rw [words_eq]
      show 2 * 0 + _ ≤ 8
      omega
    refine go_call hCC ih hH hor hm1 he hn (a := (as.map (toV ad)).toArray) ?_
    cases z : elemW (1, mOwn m, idx, k) <;> rw [z] at h3
    · rw [cond_false] at h3
      have w4 : (Cond.static (mN k)).before args s = true := by
        rw [nest_k h3]
        have := hts _ (gw_of (q := (4, 149, 0, 0)) (by decide +kernel) rfl)
        rw [wd_4] at this
        exact this
      have w1 := hGS.2.1 _ _ _ h3
      exact va_runSN ⟨hx, hb, hml, hown, hts⟩ hMk ⟨⟨⟨rfl, rfl, by show mFr k + 1 ≤ R.frames; omega, by show 8 + (mMaxL k + 11) + mLo k ≤ R.locals; omega, c1, List.mem_cons_self⟩, c2, c3, c4, parse_len hpar, va_Nw.use rfl w1⟩, w4, trivial⟩ ⟨blindW _, pre_of hCC hH.1 as⟩ rfl (by rw [List.length_map]; exact t5) (hH.2.2.2.2.1.1.trans hH.2.2.2.2.2.1) hst hmon hd ⟨by omega, by omega⟩
    · rw [cond_true] at h3
      have w1 := hts _ (gw_of z rfl)
      have w4 := hts _ (gw_of h3 rfl)
      rw [wd_1] at w1
      rw [wd_4] at w4
      exact va_runS ⟨hx, hb, hml, hown, hts⟩ hMk ⟨⟨rfl, rfl, by show mFr k + 1 ≤ R.frames; omega, by show 8 + (mMaxL k + 11) + mLo k ≤ R.locals; omega, c1, List.mem_cons_self, c2, c3, c4, parse_len hpar, w1⟩, w4⟩ ⟨blindW _, pre_of hCC hH.1 as⟩ rfl (by rw [List.length_map]; exact t5) (hH.2.2.2.2.1.1.trans hH.2.2.2.2.2.1) hst hmon hd ⟨by omega, by omega⟩
  · cases hz
/-- the receiver stands first -/
theorem recv_t {k : Nat} {as : List MV} (h : cond (mSt k) true (recvC k as) = true) (hs : mSt k = false) : ∃ (k' i' : Nat) (as' : List MV), as = .inr (.inr (.inl (k', i'))) :: as' ∧ kCls k' = mCls k := by
  rw [hs, cond_false] at h
  rcases as with _ | ⟨(x | (x | (⟨k', i'⟩ | x))), as'⟩ <;> first | (cases h; done) | skip
  exact ⟨k', i', as', rfl, Nat.eq_of_beq_eq_true h⟩
theorem not_t {x : Bool} (h : cond x false true = true) : x = false := by cases x <;> first | rfl | cases h
theorem s_icv {k : Nat} (hM : MetK N F l) (hC : Cx N m G b xs p R s mid args meth c A H0) (ih : IH N F m G b xs out p l e R s mid args below meth c A H0 Q) (hH : Here N m G b xs out p l e R s mid args below meth c A H0 Q L st S ad H locs cells slots ls)
    {raw : Instr} {len : Nat} (hd : decode (mCode m) (bpc m pc) = .ok (raw, len)) (hn : bpc m (pc + 1) = bpc m pc + len) (hlen : lenOf raw = 0 ∨ len = lenOf raw) (hz : rz m (bpc m pc) raw (.invokevirtual k) = true)
    (he : xcall (fun k as S => exec N F k 0 (mkL k as) [] S) k pc L st S (exec N F m) = some out) : W p l e R s mid args below meth c H locs cells slots Q (F0 mid (bpc m pc) ls (st.map (toV ad))) := by
  obtain ⟨as, rest, y, ht, hrv, hwr, hy, he⟩ := xcall_t he
  have hCC := hC
  obtain ⟨hm264, hx, hb, hml, hown, hts, hini, hfr, hlo, hGS, hA, hX, hbl, hbA, hTX, hN⟩ := hC
  obtain ⟨ts, t1, t2, t3⟩ := takeR_spec _ _ _ _ _ ht
  rw [List.append_nil] at t3
  have t4 : ts = as.reverse := by rw [t3, List.reverse_reverse]
  have t5 : as.length = mArg k := by rw [t3, List.length_reverse]; exact t1
  rw [t4] at t2
  have hok : ∀ v ∈ as, okV S.1 v := fun v hv => hH.2.2.1 v (by rw [t2]; exact List.mem_append_left _ (List.mem_reverse.mpr hv))
  have hor : ∀ v ∈ rest, okV S.1 v := fun v hv => hH.2.2.1 v (by rw [t2]; exact List.mem_append_right _ hv)
  have hm1 := exec_n _ _ _ _ _ _ _ hy
  have hm2 := exec_n _ _ _ _ _ _ _ he
  have hs1 := slN_mono hm1
  have hs2 := slN_mono hm2
  unfold rz at hz
  dsimp only at hz
  split at hz
  · rename_i idx
    obtain ⟨h1, h2⟩ := band_t hz
    obtain ⟨h2, h3⟩ := band_t h2
    obtain ⟨h3, h4⟩ := band_t h3
    obtain ⟨h4, h5⟩ := band_t h4
    obtain ⟨h5, h6⟩ := band_t h5
    obtain ⟨h6, h7⟩ := band_t h6
    have h1 := not_t h1
    have h6 := Nat.eq_of_beq_eq_true h6
    have h7 : mCls k + 1 ≤ 9 := Nat.le_of_ble_eq_true h7
    rcases hlen with h | h
    · cases h
    rw [h] at hd hn
    obtain ⟨k0, kf, kl⟩ := roomOk_t hm264 h2
    have hcells := hH.2.2.2.2.2.2.1
    have hslots := hH.2.2.2.2.2.2.2.1
    have hk : k < 264 := wcs1 h3
    obtain ⟨c1, c2, c3, c4⟩ := code_k (args := args) hts k0 hk
    have hpar := mArg_k hk
    rw [h1, cond_false] at hpar
    have hMk := hM k G b xs as S y ad H.size k0 hk hy hrv hok ⟨hH.1.2.2.2.1, hH.1.2.2.2.2.1, hH.1.2.2.2.2.2.1, hH.1.2.2.2.2.2.2.1, hH.1.2.2.2.2.2.2.2⟩ hN
    have hmon : 2 * (F0 mid (bpc m pc) ls (st.map (toV ad))).monitorRoom + ((rest.map (toV ad)).map fun v => v.category).sum ≤ 8 := by
      rw [words_eq]
      show 2 * 0 + _ ≤ 8
      omega
    obtain ⟨k', i', as', ha, hc'⟩ := recv_t (argOk_t hrv).2.2 h1
    subst ha
    have hst : st.map (toV ad) = (as'.map (toV ad)).reverse ++ .ref (ad k' i') :: rest.map (toV ad) := by
      rw [t2, List.map_append, List.map_reverse, List.map_cons, List.reverse_cons, List.append_assoc]
      rfl
    obtain ⟨a9, ha9, ho9⟩ := vld_obj (okh hok) (by omega)
    have h0 : kTag k' = 0 := (ords_kd ho9).2.2.2.2.2 (by dsimp only; omega)
    have hw9 := wl_at (G := G) (ad := ad) ha9 ho9
    rw [ent_0 h0] at hw9
    have w1 := hts _ (gw_of h3 rfl)
    have w2 := hts _ (gw_of h4 rfl)
    rw [wd_1] at w1
    rw [wd_2] at w2
    have w3 : (Cond.selects (cN (mOwn k)) (mN k) (mN k)).before args s = true := by
      cases z : elemW (13, k, 0, 0) <;> rw [z] at h5
      · exact hts _ (gw_sel (elemN_in _ _ h5))
      · have := hts _ (gw_of z rfl)
        rw [wd_13] at this
        exact this
    refine go_call hCC ih hH hor hm1 he hn (a := (Value.ref (ad k' i') :: as'.map (toV ad)).toArray) ?_
    refine va_runV (C := cN (mOwn k)) ⟨hx, hb, hml, hown, hts⟩ hMk ⟨⟨rfl, rfl, by show mFr k + 1 ≤ R.frames; omega, by show 8 + (mMaxL k + 11) + mLo k ≤ R.locals; omega, c1, List.mem_cons_self, c2, c3, c4, parse_len hpar, w1⟩, w2, w3⟩ ⟨blindW _, ?_, pre_of hCC hH.1 (.inr (.inr (.inl (k', i'))) :: as')⟩ rfl (by rw [List.length_map]; rw [List.length_cons] at t5; omega) (hH.2.2.2.2.1.1.trans hH.2.2.2.2.2.1) hst hmon hd ⟨by omega, by omega⟩
    have hc9 := cls_at (ci := kCls k') (by omega)
    have hr9 := va_recv hGS.1 hH.1.1 hc9 hw9
    rw [hc', ← h6] at hr9
    exact hr9
  · cases hz
theorem s_ici {k : Nat} (hM : MetK N F l) (hC : Cx N m G b xs p R s mid args meth c A H0) (ih : IH N F m G b xs out p l e R s mid args below meth c A H0 Q) (hH : Here N m G b xs out p l e R s mid args below meth c A H0 Q L st S ad H locs cells slots ls)
    {raw : Instr} {len : Nat} (hd : decode (mCode m) (bpc m pc) = .ok (raw, len)) (hn : bpc m (pc + 1) = bpc m pc + len) (hlen : lenOf raw = 0 ∨ len = lenOf raw) (hz : rz m (bpc m pc) raw (.invokespecial k) = true)
    (he : xcall (fun k as S => exec N F k 0 (mkL k as) [] S) k pc L st S (exec N F m) = some out) : W p l e R s mid args below meth c H locs cells slots Q (F0 mid (bpc m pc) ls (st.map (toV ad))) := by
  obtain ⟨as, rest, y, ht, hrv, hwr, hy, he⟩ := xcall_t he
  have hCC := hC
  obtain ⟨hm264, hx, hb, hml, hown, hts, hini, hfr, hlo, hGS, hA, hX, hbl, hbA, hTX, hN⟩ := hC
  obtain ⟨ts, t1, t2, t3⟩ := takeR_spec _ _ _ _ _ ht
  rw [List.append_nil] at t3
  have t4 : ts = as.reverse := by rw [t3, List.reverse_reverse]
  have t5 : as.length = mArg k := by rw [t3, List.length_reverse]; exact t1
  rw [t4] at t2
  have hok : ∀ v ∈ as, okV S.1 v := fun v hv => hH.2.2.1 v (by rw [t2]; exact List.mem_append_left _ (List.mem_reverse.mpr hv))
  have hor : ∀ v ∈ rest, okV S.1 v := fun v hv => hH.2.2.1 v (by rw [t2]; exact List.mem_append_right _ hv)
  have hm1 := exec_n _ _ _ _ _ _ _ hy
  have hm2 := exec_n _ _ _ _ _ _ _ he
  have hs1 := slN_mono hm1
  have hs2 := slN_mono hm2
  unfold rz at hz
  dsimp only at hz
  split at hz
  · rename_i idx
    obtain ⟨h1, h2⟩ := band_t hz
    obtain ⟨h2, h3⟩ := band_t h2
    obtain ⟨h3, h4⟩ := band_t h3
    obtain ⟨h4, h5⟩ := band_t h4
    obtain ⟨h5, h6⟩ := band_t h5
    have h1 := not_t h1
    have h6 := Nat.eq_of_beq_eq_true h6
    rcases hlen with h | h
    · cases h
    rw [h] at hd hn
    obtain ⟨k0, kf, kl⟩ := roomOk_t hm264 h2
    have hcells := hH.2.2.2.2.2.2.1
    have hslots := hH.2.2.2.2.2.2.2.1
    have hk : k < 264 := wcs1 h3
    obtain ⟨c1, c2, c3, c4⟩ := code_k (args := args) hts k0 hk
    have hpar := mArg_k hk
    rw [h1, cond_false] at hpar
    have hMk := hM k G b xs as S y ad H.size k0 hk hy hrv hok ⟨hH.1.2.2.2.1, hH.1.2.2.2.2.1, hH.1.2.2.2.2.2.1, hH.1.2.2.2.2.2.2.1, hH.1.2.2.2.2.2.2.2⟩ hN
    have hmon : 2 * (F0 mid (bpc m pc) ls (st.map (toV ad))).monitorRoom + ((rest.map (toV ad)).map fun v => v.category).sum ≤ 8 := by
      rw [words_eq]
      show 2 * 0 + _ ≤ 8
      omega
    obtain ⟨k', i', as', ha, hc'⟩ := recv_t (argOk_t hrv).2.2 h1
    subst ha
    have hst : st.map (toV ad) = (as'.map (toV ad)).reverse ++ .ref (ad k' i') :: rest.map (toV ad) := by
      rw [t2, List.map_append, List.map_reverse, List.map_cons, List.reverse_cons, List.append_assoc]
      rfl
    have w1 := hts _ (gw_of h3 rfl)
    have w2 := hts _ (gw_of h4 rfl)
    rw [wd_1] at w1
    rw [wd_2] at w2
    have hrt : mRetT k = none := ret0 (by have := mRet_k hk; rw [h6] at this; exact this)
    rw [hrt] at c2
    refine go_call hCC ih hH hor hm1 he hn (a := (Value.ref (ad k' i') :: as'.map (toV ad)).toArray) ?_
    exact va_runI ⟨hx, hb, hml, hown, hts⟩ hMk ⟨⟨rfl, rfl, by show mFr k + 1 ≤ R.frames; omega, by show 8 + (mMaxL k + 11) + mLo k ≤ R.locals; omega, c1, by rw [← hrt]; exact List.mem_cons_self, c2, c3, c4, parse_len hpar, w1⟩, mInit_nm k hk h5, w2⟩ ⟨blindW _, pre_of hCC hH.1 (.inr (.inr (.inl (k', i'))) :: as')⟩ rfl (by rw [List.length_map]; rw [List.length_cons] at t5; omega) (hH.2.2.2.2.1.1.trans hH.2.2.2.2.2.1) hst hmon hd ⟨by omega, by omega⟩
  · cases hz
end WALK
end
