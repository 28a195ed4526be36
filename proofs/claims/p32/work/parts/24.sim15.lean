section WALK
variable {N m : Nat} {G : GT} {b : Nat} {xs : Nat → Int32} {out : Out}
variable {p : Program} {l : Launch} {e : Env} {R : Room} {s : State} {mid : MethodId} {args : Array Value} {below : List Frame} {meth : Method} {c : Code} {A : Nat → Prop} {H0 : Heap} {Q : State → Prop}
variable {F pc : Nat} {L st : List MV} {S : MS} {ad : AdT} {H : Heap} {locs : List Loc} {cells slots : Nat} {ls : Array Slot}
theorem s_ldc {i : Nat} (hC : Cx N m G b xs p R s mid args meth c A H0) (ih : IH N F m G b xs out p l e R s mid args below meth c A H0 Q) (hH : Here N m G b xs out p l e R s mid args below meth c A H0 Q L st S ad H locs cells slots ls)
    {raw : Instr} {len : Nat} (hd : decode (mCode m) (bpc m pc) = .ok (raw, len)) (hn : bpc m (pc + 1) = bpc m pc + len) (hlen : lenOf raw = 0 ∨ len = lenOf raw) (hz : rz m (bpc m pc) raw (.ldc i) = true)
    (he : exec N F m (pc + 1) L (vR 1000 i :: st) S = some out) : W p l e R s mid args below meth c H locs cells slots Q (F0 mid (bpc m pc) ls (st.map (toV ad))) := by
  obtain ⟨hm264, hx, hb, hml, hown, hts, hini, hfr, hlo, hGS, hA, hX, hbl, hbA, hTX, hN⟩ := hC
  unfold rz at hz
  dsimp only at hz
  split at hz
  · rename_i idx
    obtain ⟨h1, h2⟩ := band_t hz
    have hi : i + 1 ≤ 16 := Nat.le_of_ble_eq_true h1
    rcases hlen with h | h
    · cases h
    rw [h] at hd hn
    have k := go_st ih hH he (ok1 (Or.inr (Or.inr ⟨rfl, by dsimp only; omega⟩)) hH.2.2.1)
    rw [hn] at k
    have e1 : (vR 1000 i :: st).map (toV ad) = .ref (G.2.2 i) :: st.map (toV ad) := by
      rw [List.map_cons]
      congr 1
      show Value.ref (ad 1000 i) = _
      rw [hH.1.2.2.2.2.1 i (by omega)]
    rw [e1] at k
    exact va_ldcS hx hb hown (hGS.2.2 _ _ _ h2) hd k
  · cases hz
theorem s_ret (hH : Here N m G b xs out p l e R s mid args below meth c A H0 Q L st S ad H locs cells slots ls) (he : xret m st S = some out)
    (hd1 : mRet m = 0 → st = [] → decode (mCode m) (bpc m pc) = .ok (.return_, 1)) (hd2 : ∀ x, st = [.inl x] → decode (mCode m) (bpc m pc) = .ok (.ireturn, 1)) (hd3 : ∀ x, st = [.inr (.inl x)] → decode (mCode m) (bpc m pc) = .ok (.lreturn, 1)) (hd4 : ∀ x, st = [.inr (.inr (.inl x))] → decode (mCode m) (bpc m pc) = .ok (.areturn, 1)) :
    W p l e R s mid args below meth c H locs cells slots Q (F0 mid (bpc m pc) ls (st.map (toV ad))) := by
  have kk := hH.2.2.2.2.2.2.2.2
  unfold xret at he
  rcases st with _ | ⟨v, _ | ⟨u, st⟩⟩
  · dsimp only at he
    rcases z : mRet m with _ | q <;> rw [z] at he
    · cases he
      exact kk ad H locs cells slots pc ls (fun _ _ => rfl) hH.1 rfl rfl ⟨hd1 z rfl, z⟩ (fun v h => by cases h)
    · cases he
  · have hv := okh hH.2.2.1
    rcases v with x | (x | (x | x)) <;> dsimp only at he
    · have h2 : (mRet m = 1 ∨ (mRet m = 2 ∧ (x = 0 ∨ x = 1))) ∧ out = (some (vI x), S) := by
        rcases z : mRet m with _ | _ | _ | q <;> rw [z] at he
        · cases he
        · cases he; exact ⟨Or.inl rfl, rfl⟩
        · change (if x = 0 then some (some (vI x), S) else if x = 1 then some (some (vI x), S) else none) = some out at he
          by_cases g : x = 0
          · rw [if_pos g] at he; cases he; exact ⟨Or.inr ⟨rfl, Or.inl g⟩, rfl⟩
          · rw [if_neg g] at he
            by_cases g2 : x = 1
            · rw [if_pos g2] at he; cases he; exact ⟨Or.inr ⟨rfl, Or.inr g2⟩, rfl⟩
            · rw [if_neg g2] at he; cases he
        · cases he
      obtain ⟨h2, rfl⟩ := h2
      exact kk ad H locs cells slots pc ls (fun _ _ => rfl) hH.1 rfl rfl ⟨hd2 x rfl, h2, hv⟩ (fun v h => by cases h; exact hv)
    · rcases z : mRet m with _ | _ | _ | _ | q <;> rw [z] at he <;> first | (cases he; done) | skip
      cases he
      exact kk ad H locs cells slots pc ls (fun _ _ => rfl) hH.1 rfl rfl ⟨hd3 x rfl, z, hv⟩ (fun v h => by cases h; exact hv)
    · rcases z : mRet m with _ | _ | _ | _ | _ | q <;> rw [z] at he <;> first | (cases he; done) | skip
      cases he
      exact kk ad H locs cells slots pc ls (fun _ _ => rfl) hH.1 rfl rfl ⟨hd4 x rfl, z⟩ (fun v h => by cases h; exact hv)
    · cases he
  · rcases v with x | (x | (x | x)) <;> cases he
end WALK
