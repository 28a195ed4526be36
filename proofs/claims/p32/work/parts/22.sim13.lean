section WALK
variable {N m : Nat} {G : GT} {b : Nat} {xs : Nat → Int32} {out : Out}
variable {p : Program} {l : Launch} {e : Env} {R : Room} {s : State} {mid : MethodId} {args : Array Value} {below : List Frame} {meth : Method} {c : Code} {A : Nat → Prop} {H0 : Heap} {Q : State → Prop}
variable {F pc : Nat} {L st : List MV} {S : MS} {ad : AdT} {H : Heap} {locs : List Loc} {cells slots : Nat} {ls : Array Slot}
theorem zro_self {σ : Sto} {k i j : Nat} : zro σ k i k i j = 0 := by unfold zro; rw [if_pos ⟨rfl, rfl⟩]
theorem newa_k {k i t0 : Nat} {ty : FieldType} {atype : ArrayType} {a0 : vp_A} {st' : List MV} (hC : Cx N m G b xs p R s mid args meth c A H0) (ih : IH N F m G b xs out p l e R s mid args below meth c A H0 Q) (hH : Here N m G b xs out p l e R s mid args below meth c A H0 Q L (vI (kLen k : Int) :: st') S ad H locs cells slots ls)
    (hd : decode (mCode m) (bpc m pc) = .ok (.newarray atype, 2)) (hn : bpc m (pc + 1) = bpc m pc + 2) (ho : nth ords S.1 = some (k, i)) (h0 : kTag k ≠ 0) (hty : newarray.typeOf atype = ty) (harr : (Cond.arrayClass ty).before args s = true)
    (ht : (tys0 G)[t0]? = some (G.2.1 (kTag k), ty)) (hRA : ∀ cA : ClassId, va_RA s cA ty → cA = G.2.1 (kTag k)) (ha : ∀ cA : ClassId, vp_cell cA a0 = arrV cA (kLen k) (fun _ => defaultValue ty)) (hcb : componentBytes ty ≤ 8)
    (hent : ∀ q, ent G (adn ad k i q) (S.1 + 1, S.2.1, zro S.2.2 k i) (k, i) = .inl (G.2.1 (kTag k), a0))
    (he : exec N F m (pc + 1) L (vR k i :: st') (S.1 + 1, S.2.1, zro S.2.2 k i) = some out) : W p l e R s mid args below meth c H locs cells slots Q (F0 mid (bpc m pc) ls ((vI (kLen k : Int) :: st').map (toV ad))) := by
  obtain ⟨hm264, hx, hb, hml, hown, hts, hini, hfr, hlo, hGS, hA, hX, hbl, hbA, hTX, hN⟩ := hC
  have hmono1 : S.1 + 1 ≤ out.2.1 := exec_n _ _ _ _ _ _ _ he
  have hsl : slN S.1 + szOf (k, i) ≤ slN out.2.1 := by rw [← slN_succ ho]; exact slN_mono hmono1
  have hsz : szOf (k, i) = kLen k := by
    unfold szOf
    dsimp only
    rcases z : Nat.beq (kTag k) 0 with _ | _
    · rfl
    · exact absurd (Nat.eq_of_beq_eq_true z) h0
  have hcells := hH.2.2.2.2.2.2.1
  have hslots := hH.2.2.2.2.2.2.2.1
  have hkl := (ords_kd ho).2.2.2.2.1
  dsimp only at hkl
  have h32 : in32 (kLen k : Int) := by unfold in32; omega
  have hmul : kLen k * componentBytes ty ≤ 100000 * 8 := Nat.mul_le_mul (by omega) hcb
  subst hty
  refine va_newa (N' := kLen k) (a0 := a0) hx hb harr rfl hGS.1 hH.1.1 hH.1.2.1 hH.1.2.2.1 hA ha (fun z => by have := (lt32 h32 in32_0).mp z; omega) (by rw [clampI (by omega) h32]; omega) (by omega) (by omega) (by omega) hd (fun q cA H1 hK2 hP hD hS => ?_)
  have hcA : cA = G.2.1 (kTag k) := hRA cA (hK2.2 3 _ rfl).2
  subst hcA
  rw [← hent q] at hP hD
  have hHn := here_new hH ho (okt hH.2.2.1) (fun _ _ _ _ => rfl) (fun z => absurd z h0) hP hD hS
  have k0 := ih _ _ _ _ _ _ _ _ _ _ he hHn
  rw [hn, hsz] at k0
  have e3 : (vR k i :: st').map (toV (adn ad k i q)) = .ref q :: st'.map (toV ad) := by
    rw [List.map_cons]
    congr 1
    · show Value.ref (adn ad k i q k i) = _
      rw [adn_self]
    · exact List.map_congr_left (fun v hv => toV_new ho (okt hH.2.2.1 v hv))
  rw [e3] at k0
  exact k0
theorem ra_eq {cA : ClassId} {t0 : Nat} {ty : FieldType} {c0 : ClassId} (hK : va_K G.1 cls0 (tys0 G) s) (ht : (tys0 G)[t0]? = some (c0, ty)) (hp : ty = .int ∨ ty = .byte ∨ ty = .long) (h : va_RA s cA ty) : cA = c0 := by
  have h2 := (hK.2 t0 _ ht).2
  rcases hp with rfl | rfl | rfl
  · have h3 : s.vm.findClass _ = some cA := h
    have h4 : s.vm.findClass _ = some c0 := h2
    exact Option.some.inj (h3.symm.trans h4)
  · have h3 : s.vm.findClass _ = some cA := h
    have h4 : s.vm.findClass _ = some c0 := h2
    exact Option.some.inj (h3.symm.trans h4)
  · have h3 : s.vm.findClass _ = some cA := h
    have h4 : s.vm.findClass _ = some c0 := h2
    exact Option.some.inj (h3.symm.trans h4)
theorem s_newa {t : ArrayType} (hC : Cx N m G b xs p R s mid args meth c A H0) (ih : IH N F m G b xs out p l e R s mid args below meth c A H0 Q) (hH : Here N m G b xs out p l e R s mid args below meth c A H0 Q L st S ad H locs cells slots ls)
    {raw : Instr} {len : Nat} (hd : decode (mCode m) (bpc m pc) = .ok (raw, len)) (hn : bpc m (pc + 1) = bpc m pc + len) (hlen : lenOf raw = 0 ∨ len = lenOf raw) (hz : rz m (bpc m pc) raw (.newarray t) = true)
    (he : x_newa (tagOf t) pc L st S (exec N F m) none = some out) : W p l e R s mid args below meth c H locs cells slots Q (F0 mid (bpc m pc) ls (st.map (toV ad))) := by
  have hC0 := hC
  obtain ⟨hm264, hx, hb, hml, hown, hts, hini, hfr, hlo, hGS, hA, hX, hbl, hbA, hTX, hN⟩ := hC
  unfold x_newa at he
  rcases st with _ | ⟨(n | (n | (n | n))), st⟩ <;> first | (cases he; done) | skip
  dsimp only at he
  rcases ho : nth ords S.1 with _ | ⟨k, i⟩ <;> rw [ho] at he <;> first | (cases he; done) | skip
  dsimp only at he
  rcases g1 : Nat.beq (kTag k) (tagOf t) with _ | _ <;> rw [g1] at he <;> first | (cases he; done) | skip
  rcases g2 : Nat.beq (tagOf t) 0 with _ | _ <;> rw [g2] at he <;> first | (cases he; done) | skip
  rw [cond_true, cond_false] at he
  by_cases g3 : n = kLenZ k
  · rw [if_pos g3] at he
    have hkt := Nat.eq_of_beq_eq_true g1
    have hlz := (ords_kd ho).2.2.2.1
    dsimp only at hlz
    rw [hlz] at g3
    subst g3
    unfold rz at hz
    dsimp only at hz
    split at hz
    · rename_i t2
      obtain ⟨h1, h2⟩ := band_t hz
      have h1 := of_decide_eq_true h1
      subst h1
      have w1 := hts _ (gw_of h2 rfl)
      rw [wd_12] at w1
      rcases hlen with h | h
      · cases h
      rw [h] at hd hn
      cases t <;> first | (cases g2; done) | skip
      · exact newa_k (t0 := 1) (a0 := (kLen k, .inl (fun _ => 0))) hC0 ih hH hd hn ho (by rw [hkt]; decide) rfl w1 (by rw [hkt]; rfl) (fun cA h => by rw [hkt]; exact ra_eq (t0 := 1) hGS.1 rfl (Or.inr (Or.inl rfl)) h) (fun cA => rfl) (by decide) (fun q => by
          have e : (fun j => Int32.ofInt ((S.1 + 1, S.2.1, zro S.2.2 k i).2.2 k i j)) = fun _ => (0 : Int32) := by
            funext j
            show Int32.ofInt (zro S.2.2 k i k i j) = 0
            rw [zro_self]
            rfl
          rw [ent_2 hkt, e, hkt]
          rfl) he
      · exact newa_k (t0 := 0) (a0 := (kLen k, .inl (fun _ => 0))) hC0 ih hH hd hn ho (by rw [hkt]; decide) rfl w1 (by rw [hkt]; rfl) (fun cA h => by rw [hkt]; exact ra_eq (t0 := 0) hGS.1 rfl (Or.inl rfl) h) (fun cA => rfl) (by decide) (fun q => by
          have e : (fun j => Int32.ofInt ((S.1 + 1, S.2.1, zro S.2.2 k i).2.2 k i j)) = fun _ => (0 : Int32) := by
            funext j
            show Int32.ofInt (zro S.2.2 k i k i j) = 0
            rw [zro_self]
            rfl
          rw [ent_1 hkt, e, hkt]
          rfl) he
      · exact newa_k (t0 := 2) (a0 := (kLen k, .inr (.inl (fun _ => 0)))) hC0 ih hH hd hn ho (by rw [hkt]; decide) rfl w1 (by rw [hkt]; rfl) (fun cA h => by rw [hkt]; exact ra_eq (t0 := 2) hGS.1 rfl (Or.inr (Or.inr rfl)) h) (fun cA => rfl) (by decide) (fun q => by
          have e : (fun j => Int64.ofInt ((S.1 + 1, S.2.1, zro S.2.2 k i).2.2 k i j)) = fun _ => (0 : Int64) := by
            funext j
            show Int64.ofInt (zro S.2.2 k i k i j) = 0
            rw [zro_self]
            rfl
          rw [ent_3 hkt, e, hkt]
          rfl) he
    · cases hz
  · rw [if_neg g3] at he; cases he
end WALK
