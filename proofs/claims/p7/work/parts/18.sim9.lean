section WALK
variable {N m : Nat} {G : GT} {b : Nat} {xs : Nat → Int32} {out : Out}
variable {p : Program} {l : Launch} {e : Env} {R : Room} {s : State} {mid : MethodId} {args : Array Value} {below : List Frame} {meth : Method} {c : Code} {A : Nat → Prop} {H0 : Heap} {Q : State → Prop}
variable {F pc : Nat} {L st : List MV} {S : MS} {ad : AdT} {H : Heap} {locs : List Loc} {cells slots : Nat} {ls : Array Slot}
theorem fld_facts {ci f : Nat} (hc : ci < 9) (hf : f < nF ci) : parseFieldDescriptor (cTb ci f).2.2.1 = some (tyF ci f) ∧ tyOk (fTy ci f) (tyF ci f) = true ∧ elemW (9, ci, f, 0) = true ∧ (cTb ci f).1 = cN ci := by
  have a1 : allR (fun f => fldOk ci f) 0 (nF ci) = true := allR_at 9 0 ci fldAll (by omega) (by omega)
  have a2 : allR (fun f => elemW (9, ci, f, 0)) 0 (nF ci) = true := allR_at 9 0 ci layAll (by omega) (by omega)
  have a3 : allR (fun f => decide ((cTb ci f).1 = cN ci)) 0 (nF ci) = true := allR_at 9 0 ci dclAll (by omega) (by omega)
  have h : fldOk ci f = true := allR_at (nF ci) 0 f a1 (by omega) (by omega)
  have h4 : decide ((cTb ci f).1 = cN ci) = true := allR_at (nF ci) 0 f a3 (by omega) (by omega)
  have h3 : elemW (9, ci, f, 0) = true := allR_at (nF ci) 0 f a2 (by omega) (by omega)
  unfold fldOk at h
  obtain ⟨h1, h2⟩ := band_t h
  exact ⟨of_decide_eq_true h1, h2, h3, of_decide_eq_true h4⟩
theorem fld_nm {ci : Nat} (hc : ci < 9) : ∀ a, a < nF ci → ∀ b, b < nF ci → a ≠ b → (cTb ci a).2.1 ≠ (cTb ci b).2.1 := by
  intro a ha b hb hab
  have a1 : allR (fun a => allR (fun b => cond (Nat.beq a b) true (decide ((cTb ci a).2.1 ≠ (cTb ci b).2.1))) 0 (nF ci)) 0 (nF ci) = true := allR_at 9 0 ci nmAll (by omega) (by omega)
  have a2 : allR (fun b => cond (Nat.beq a b) true (decide ((cTb ci a).2.1 ≠ (cTb ci b).2.1))) 0 (nF ci) = true := allR_at (nF ci) 0 a a1 (by omega) (by omega)
  have h : cond (Nat.beq a b) true (decide ((cTb ci a).2.1 ≠ (cTb ci b).2.1)) = true := allR_at (nF ci) 0 b a2 (by omega) (by omega)
  rcases z : Nat.beq a b with _ | _
  · rw [z] at h; exact of_decide_eq_true h
  · exact absurd (Nat.eq_of_beq_eq_true z) hab
theorem fld_in {ci : Nat} (hc : ci < 9) : ∀ w ∈ u_ws (cN ci) (cTb ci) (nF ci), w ∈ gw := by
  intro w hw
  obtain ⟨f, hf, rfl⟩ := List.mem_map.mp hw
  have h := (fld_facts hc (List.mem_range.mp hf)).2.2.1
  have h2 := gw_of h rfl
  rw [wd_9] at h2
  exact h2
theorem cls_at {ci : Nat} (hc : ci < 9) : cls0[ci]? = some (cN ci, cTb ci, nF ci) := by
  rcases (by omega : ci = 0 ∨ ci = 1 ∨ ci = 2 ∨ ci = 3 ∨ ci = 4 ∨ ci = 5 ∨ ci = 6 ∨ ci = 7 ∨ ci = 8) with rfl | rfl | rfl | rfl | rfl | rfl | rfl | rfl | rfl <;> rfl
theorem cls999 : kCls 999 = 99 := rfl
theorem cls1000 : kCls 1000 = 99 := rfl
theorem vld_obj {n k i : Nat} (h : okV n (.inr (.inr (.inl (k, i))))) (hc : kCls k < 9) : vld n (k, i) := by
  rcases h with h | h | ⟨h, -⟩
  · exact h
  · cases h; rw [cls999] at hc; omega
  · dsimp only at h; subst h; rw [cls1000] at hc; omega
theorem fs_at {k i f : Nat} (hf : f < nF (kCls k)) : ((List.range (nF (kCls k))).map (fval ad S k i))[f]? = some (fval ad S k i f) := by
  rw [List.getElem?_map, List.getElem?_range hf]
  rfl
theorem s_get {n : Nat} (hC : Cx N m G b xs p R s mid args meth c A H0) (ih : IH N F m G b xs out p l e R s mid args below meth c A H0 Q) (hH : Here N m G b xs out p l e R s mid args below meth c A H0 Q L st S ad H locs cells slots ls)
    {raw : Instr} {len : Nat} (hd : decode (mCode m) (bpc m pc) = .ok (raw, len)) (hn : bpc m (pc + 1) = bpc m pc + len) (hlen : lenOf raw = 0 ∨ len = lenOf raw) (hz : rz m (bpc m pc) raw (.getfield n) = true)
    (he : x_get n pc L st S (exec N F m) none = some out) : W p l e R s mid args below meth c H locs cells slots Q (F0 mid (bpc m pc) ls (st.map (toV ad))) := by
  obtain ⟨hm264, hx, hb, hml, hown, hts, hini, hfr, hlo, hGS, hA, hX, hbl, hbA, hTX, hN⟩ := hC
  unfold x_get at he
  rcases st with _ | ⟨(x | (x | (⟨k, i⟩ | x))), st⟩ <;> first | (cases he; done) | skip
  have hv := okh hH.2.2.1
  have hr := okt hH.2.2.1
  dsimp only at he
  rcases hk : Nat.beq (kCls k) (n / 100) with _ | _ <;> rw [hk] at he <;> first | (cases he; done) | skip
  have hk := Nat.eq_of_beq_eq_true hk
  rw [cond_true] at he
  unfold rz at hz
  dsimp only at hz
  split at hz
  · rename_i idx
    obtain ⟨h1, h2⟩ := band_t hz
    obtain ⟨h2, h3⟩ := band_t h2
    have h2 : n / 100 + 1 ≤ 9 := Nat.le_of_ble_eq_true h2
    have h3 : n % 100 + 1 ≤ nF (n / 100) := Nat.le_of_ble_eq_true h3
    rw [← hk] at h2 h3 he
    rcases hlen with h | h
    · cases h
    rw [h] at hd hn
    obtain ⟨a, ha, ho⟩ := vld_obj hv (by omega)
    have h0 : kTag k = 0 := (ords_kd ho).2.2.2.2.2 (by dsimp only; omega)
    have hw := wl_at (G := G) (ad := ad) ha ho
    rw [ent_0 h0] at hw
    have lk := hts _ (gw_of h1 rfl)
    rw [wd_0, ← hk] at lk
    refine va_get (ref := (cTb (kCls k) (n % 100)).1) (v := fval ad S k i (n % 100)) hx hb hts (fld_in (by omega)) hown hGS.1 hH.1.1 a hw (cls_at (by omega)) (n % 100) (by omega) lk (fun _ h => h) (fs_at (by omega)) hd ?_
    have key : ∀ v : MV, fval ad S k i (n % 100) = toV ad v → okV S.1 v → exec N F m (pc + 1) L (v :: st) S = some out → W p l e R s mid args below meth c H locs cells slots Q (F0 mid (bpc m pc + 3) ls (fval ad S k i (n % 100) :: st.map (toV ad))) := by
      intro v e1 e2 e3
      have k0 := go_st ih hH e3 (ok1 e2 hr)
      rw [hn] at k0
      rw [e1]
      exact k0
    have hs := hH.1.2.2.2.2.2.1 k i (n % 100)
    have hl0 : ∀ t, fTy (kCls k) (n % 100) = t → t ≠ 2 → isL k (n % 100) = false := by
      intro t e1 e2
      unfold isL
      rw [h0, e1]
      rcases z : Nat.beq t 2 with _ | _
      · rfl
      · exact absurd (Nat.eq_of_beq_eq_true z) e2
    rcases z : fTy (kCls k) (n % 100) with _ | _ | _ | _ | q <;> rw [z] at he
    · exact key (vI _) (by unfold fval; simp only [z]; rfl) (hs.2 (hl0 _ z (by decide))) he
    · exact key (vI _) (by unfold fval; simp only [z]; rfl) (hs.2 (hl0 _ z (by decide))) he
    · exact key (vJ _) (by unfold fval; simp only [z]; rfl) hs.1 he
    · rcases z2 : elem3 (k, i, n % 100) S.2.1 with _ | _ <;> rw [z2] at he <;> first | (cases he; done) | skip
      rw [cond_false] at he
      have hok := hH.1.2.2.2.2.2.2.1 (k, i) ⟨a, ha, ho⟩ h0 (n % 100) (show n % 100 < nF (kCls k) by omega) z z2
      exact key (.inr (.inr (.inl (fRef k i (n % 100))))) (by unfold fval; simp only [z, z2, cond_false]; rfl) (Or.inl hok) he
    · cases he
  · cases hz
/-- an object's fields behind a write of one -/
theorem fs_set {S' : MS} {k i f : Nat} {w : Value} (hw : fval ad S' k i f = w) (hf : f < nF (kCls k)) (ho : ∀ f', f' ≠ f → fval ad S' k i f' = fval ad S k i f') :
    ((List.range (nF (kCls k))).map (fval ad S k i)).set f w = (List.range (nF (kCls k))).map (fval ad S' k i) := by
  apply List.ext_getElem?
  intro q
  rw [List.getElem?_set]
  by_cases h : f = q
  · subst h
    rw [if_pos rfl, if_pos (by simpa using hf), List.getElem?_map, List.getElem?_range hf, ← hw]
    rfl
  · rw [if_neg h]
    by_cases h2 : q < nF (kCls k)
    · rw [List.getElem?_map, List.getElem?_map, List.getElem?_range h2]
      simp only [Option.map_some]
      rw [ho q (fun z => h z.symm)]
    · rw [List.getElem?_eq_none (by simp; omega), List.getElem?_eq_none (by simp; omega)]
theorem fval_sup {k i f : Nat} {v : Int} {f' : Nat} (h : f' ≠ f) : fval ad (S.1, S.2.1, sup S.2.2 k i f v) k i f' = fval ad S k i f' := by
  unfold fval
  have e1 : sup S.2.2 k i f v k i f' = S.2.2 k i f' := by unfold sup; rw [if_neg (fun z => h z.2.2)]
  simp only [e1]
theorem sup_self {k i f : Nat} {v : Int} {σ : Sto} : sup σ k i f v k i f = v := by unfold sup; rw [if_pos ⟨rfl, rfl, rfl⟩]
theorem beq3_ne {a b c a' b' c' : Nat} (h : ¬ (a = a' ∧ b = b' ∧ c = c')) : (cond (Nat.beq a a') (cond (Nat.beq b b') (cond (Nat.beq c c') true false) false) false) = false := by
  rcases h1 : Nat.beq a a' with _ | _
  · rfl
  rcases h2 : Nat.beq b b' with _ | _
  · rfl
  rcases h3 : Nat.beq c c' with _ | _
  · rfl
  exact absurd ⟨Nat.eq_of_beq_eq_true h1, Nat.eq_of_beq_eq_true h2, Nat.eq_of_beq_eq_true h3⟩ h
theorem elem3_cons (a b : Nat × Nat × Nat) (l : List (Nat × Nat × Nat)) : elem3 a (b :: l) = (cond (cond (Nat.beq a.1 b.1) (cond (Nat.beq a.2.1 b.2.1) (cond (Nat.beq a.2.2 b.2.2) true false) false) false) true (elem3 a l)) := by
  show cond (Nat.beq a.1 b.1) (cond (Nat.beq a.2.1 b.2.1) (cond (Nat.beq a.2.2 b.2.2) true (elem3 a l)) (elem3 a l)) (elem3 a l) = _
  rcases Nat.beq a.1 b.1 <;> rcases Nat.beq a.2.1 b.2.1 <;> rcases Nat.beq a.2.2 b.2.2 <;> rfl
theorem rem3_cons (a b : Nat × Nat × Nat) (l : List (Nat × Nat × Nat)) : rem3 a (b :: l) = (cond (cond (Nat.beq a.1 b.1) (cond (Nat.beq a.2.1 b.2.1) (cond (Nat.beq a.2.2 b.2.2) true false) false) false) (rem3 a l) (b :: rem3 a l)) := by
  show cond (Nat.beq a.1 b.1) (cond (Nat.beq a.2.1 b.2.1) (cond (Nat.beq a.2.2 b.2.2) (rem3 a l) (b :: rem3 a l)) (b :: rem3 a l)) (b :: rem3 a l) = _
  rcases Nat.beq a.1 b.1 <;> rcases Nat.beq a.2.1 b.2.1 <;> rcases Nat.beq a.2.2 b.2.2 <;> rfl
theorem elem3_rem (a c : Nat × Nat × Nat) : ∀ l, elem3 c (rem3 a l) = (cond (cond (Nat.beq a.1 c.1) (cond (Nat.beq a.2.1 c.2.1) (cond (Nat.beq a.2.2 c.2.2) true false) false) false) false (elem3 c l))
  | [] => by
    rcases (cond (Nat.beq a.1 c.1) (cond (Nat.beq a.2.1 c.2.1) (cond (Nat.beq a.2.2 c.2.2) true false) false) false) <;> rfl
  | b :: l => by
    rw [rem3_cons, elem3_cons]
    rcases h1 : (cond (Nat.beq a.1 b.1) (cond (Nat.beq a.2.1 b.2.1) (cond (Nat.beq a.2.2 b.2.2) true false) false) false) with _ | _
    · rw [cond_false, elem3_cons, elem3_rem a c l]
      rcases h2 : (cond (Nat.beq a.1 c.1) (cond (Nat.beq a.2.1 c.2.1) (cond (Nat.beq a.2.2 c.2.2) true false) false) false) with _ | _
      · rfl
      · rcases h3 : (cond (Nat.beq c.1 b.1) (cond (Nat.beq c.2.1 b.2.1) (cond (Nat.beq c.2.2 b.2.2) true false) false) false) with _ | _
        · rfl
        · exfalso
          have e1 : a = c := by
            by_cases z : a.1 = c.1 ∧ a.2.1 = c.2.1 ∧ a.2.2 = c.2.2
            · exact Prod.ext z.1 (Prod.ext z.2.1 z.2.2)
            · rw [beq3_ne z] at h2; cases h2
          rw [e1, h3] at h1
          cases h1
    · rw [cond_true, elem3_rem a c l]
      rcases h2 : (cond (Nat.beq a.1 c.1) (cond (Nat.beq a.2.1 c.2.1) (cond (Nat.beq a.2.2 c.2.2) true false) false) false) with _ | _
      · rcases h3 : (cond (Nat.beq c.1 b.1) (cond (Nat.beq c.2.1 b.2.1) (cond (Nat.beq c.2.2 b.2.2) true false) false) false) with _ | _
        · rfl
        · exfalso
          have e1 : a = b := by
            by_cases z : a.1 = b.1 ∧ a.2.1 = b.2.1 ∧ a.2.2 = b.2.2
            · exact Prod.ext z.1 (Prod.ext z.2.1 z.2.2)
            · rw [beq3_ne z] at h1; cases h1
          have e2 : c = b := by
            by_cases z : c.1 = b.1 ∧ c.2.1 = b.2.1 ∧ c.2.2 = b.2.2
            · exact Prod.ext z.1 (Prod.ext z.2.1 z.2.2)
            · rw [beq3_ne z] at h3; cases h3
          rw [e1] at h2
          rw [e2] at h2 h3
          rw [h3] at h2
          cases h2
      · rfl
end WALK
