/-! IMAGES: parts, one after another -/
section IMG
variable {N n : Nat} {T : Vec} {σ : Sto} {p : Nat}
theorem t_n {told m : Nat} (h : told + (m + 1) = 4) : ¬ 4 < (told : Int) ∧ ¬ (told : Int) = 4 ∧ told < 4 ∧ 6 + 2 * told < 14 ∧ w32 ((told : Int) + 1) = ((told + 1 : Nat) : Int) ∧ told + 1 + m = 4 ∧ told + 1 ≤ 4 ∧ 6 ≤ 6 + 2 * told ∧ told ≤ 4 := by
  refine ⟨by omega, by omega, by omega, by omega, ?_, by omega, by omega, by omega, by omega⟩
  rw [w32i (by omega) (by omega)]; omega
theorem I_n {I : Nat} (hI : I < 6) : 14 * I ≤ 84 ∧ 14 * I ≤ 70 ∧ w32 ((I : Int) * 14) = ((14 * I : Nat) : Int) ∧ ¬ (I : Int) = 6 ∧ (I : Int) < 6 := by
  refine ⟨by omega, by omega, ?_, by omega, by omega⟩
  rw [w32i (by omega) (by omega)]; omega
theorem ge_ne {a j i : Nat} (h : a ≤ j) (h2 : i < a) : j ≠ i := by omega
theorem out_n {I i j : Nat} (h : (j : Int) < 14 * (I : Int)) : j ≠ 14 * I + i ∧ (j < 14 * I ∨ 14 * I + 14 ≤ j) := by omega
theorem out2_n {I j : Nat} (h : 14 * (I + 1) ≤ j) : j < 14 * I ∨ 14 * I + 14 ≤ j := by omega
/-- a word is put by both: at i behind the image's first -/
theorem RR_word {τ : Sto} (h : RR σ τ) {I : Nat} (hi : σ 2 0 1 = (I : Int)) (A : Vec) (f : Vec) (hf : ∀ j : Nat, (j : Int) < 14 * (I : Int) → f j = τ 37 0 j) : RR (row σ 5 0 (img A (σ 5 0) (14 * I))) (row τ 37 0 f) := by
  obtain ⟨r2, r3, r7, r8, rk, rw', r39a, r39b, r39c, r9⟩ := h
  refine ⟨r2, r3, r7, r8, rk, fun j hj => ?_, r39a, r39b, r39c, r9⟩
  change (j : Int) < 14 * σ 2 0 1 at hj
  rw [hi] at hj
  show f j = img A (σ 5 0) (14 * I) j
  rw [hf j hj, img_out _ _ _ (out_n (i := 0) hj).2]
  exact rw' j (by rw [hi]; exact hj)
theorem CR_word (h : CR n T p σ) {A b : Vec} {a : Nat} (hb : ∀ j, j < 84 → 0 ≤ b j ∧ b j < 100000) (hA : ∀ j, 0 ≤ A j ∧ A j < 100000) : CR n T p (row σ 5 0 (img A b a)) := by
  obtain ⟨ct, hp, h3, h4, a1, b1, c2, d, e, ⟨f1, f2⟩, i, k⟩ := h
  refine ⟨ct, hp, h3, h4, a1, b1, c2, d, e, ⟨f1, fun j hj => ?_⟩, i, k⟩
  show 0 ≤ img A b a j ∧ img A b a j < 100000
  unfold img
  split
  · exact hA _
  · exact hb j hj
theorem CR_w84 (h : CR n T p σ) : ∀ j, j < 84 → 0 ≤ σ 5 0 j ∧ σ 5 0 j < 100000 := h.2.2.2.2.2.2.2.2.2.1.2
theorem parts_loop {I : Nat} (hI : I < 6) {ver key rev : Int} (hv : 0 ≤ ver ∧ ver ≤ 30) (x3 st : Int) : ∀ (m told : Nat), told + m = 4 → ∀ (σ : Sto) (p : Nat) (c w : Vec) (x4 : MV), CR n T p σ → σ 2 0 1 = (I : Int) → (0 ≤ key ∧ key < σ 2 0 0) → (∀ j : Nat, 14 * (I + 1) ≤ j → j < 84 → σ 5 0 j = 0) → (∀ j, j < 14 → σ 5 0 (14 * I + j) = c j) → (∀ j, 6 ≤ j → c j = w j) → (∀ j, 0 ≤ c j ∧ c j < 100000) → w 0 = ver + 1 → w 1 = key → w 2 = rev → (∀ j, 0 ≤ w j ∧ w j < 100000) → LINE n T σ (XW (14 * I) w) (bnd (ev N mX4_readParts 2 [vR 8 0, vI (told : Int)] [] (P σ)) (fun r S2 => ev N mX4_readImage 60 [vR 8 0, vI st, vI ver, vI key, vI rev, vX] (push r []) S2)) (fun τ => bnd (ev N mX9_readsParts 4 [vR 30 0, vI ((14 * I : Nat) : Int), vI (told : Int), vI 1, x4, vX] [] (P τ)) (fun r S2 => ev N mX9_readsImage 80 [vR 30 0, vI st, vI ((14 * I : Nat) : Int), vI x3] (push r []) S2)) := by
  obtain ⟨a84, a70, e14, -, -⟩ := I_n hI
  intro m
  induction m with
  | zero =>
    intro told ht σ p c w x4 h hi hk zw hc cw6 cr w0 w1 w2 wr
    have e : told = 4 := by clear h hi hk zw hc cw6 cr w0 w1 w2 wr; omega
    subst e
    refine LINE_congr ?_ ?_ (LINE_num4 (N := N) (XW_S _ _) h 0 99999 (fun r S => bnd (ev N mX4_readParts 9 [vR 8 0, vI 4] (push r []) S) (fun r S2 => ev N mX4_readImage 60 [vR 8 0, vI st, vI ver, vI key, vI rev, vX] (push r []) S2)) (fun r S => bnd (ev N mX4_readParts 20 [vR 8 0, vI 4] (push r []) S) (fun r S2 => ev N mX4_readImage 60 [vR 8 0, vI st, vI ver, vI key, vI rev, vX] (push r []) S2)) (fun r S => bnd (ev N mX9_readsParts 13 [vR 30 0, vI ((14 * I : Nat) : Int), vI 4, vI 1, x4, vX] (push r []) S) (fun r S2 => ev N mX9_readsImage 80 [vR 30 0, vI st, vI ((14 * I : Nat) : Int), vI x3] (push r []) S2)) (fun x r S => bnd (ev N mX9_readsParts 22 [vR 30 0, vI ((14 * I : Nat) : Int), vI 4, vI 1, vI x, vX] (push r []) S) (fun r S2 => ev N mX9_readsImage 80 [vR 30 0, vI st, vI ((14 * I : Nat) : Int), vI x3] (push r []) S2)) (fun ρ => ?_) (fun ρ => ?_) (fun ρ => ?_) (fun x τ => ?_) (fun x => ?_))
    · show bnd (ev N mX4_readParts 2 [vR 8 0, vI 4] [] (P σ)) _ = _
      rw [eX4_readParts_2, if_neg (by decide), bnd_bnd]
    · intro τ hx hr _
      show bnd (ev N mX9_readsParts 4 [vR 30 0, vI ((14 * I : Nat) : Int), vI 4, vI 1, x4, vX] [] (P τ)) _ = _
      rw [eX9_readsParts_4, if_neg (by decide), m_right, if_pos hr.2.1, bnd_s, push_s, eX9_readsParts_8, if_neg (by decide), bnd_bnd]
    · show bnd (ev N mX4_readParts 9 [vR 8 0, vI 4] (push (some (vI 0)) []) (P ρ)) _ = _
      rw [push_s, eX4_readParts_9, if_pos rfl, bnd_s, push_s, eX4_readImage_60, if_pos rfl]
    · show bnd (ev N mX4_readParts 9 [vR 8 0, vI 4] (push (some (vI 1)) []) (P ρ)) _ = _
      rw [push_s, eX4_readParts_9, if_neg (by decide), if_pos rfl, bnd_bnd]
    · show bnd (ev N mX4_readParts 20 [vR 8 0, vI 4] (push (some (vI 0)) []) (P ρ)) _ = _
      rw [push_s, eX4_readParts_20, bnd_s, push_s, eX4_readImage_60, if_pos rfl]
    · show bnd (ev N mX9_readsParts 13 [vR 30 0, vI ((14 * I : Nat) : Int), vI 4, vI 1, x4, vX] (push (some (vI x)) []) (P τ)) _ = _
      rw [push_s, eX9_readsParts_13, if_pos rfl, bnd_bnd]
    · intro τ hx h3 ⟨e, he, h2⟩ _ _
      obtain ⟨τ2, k1, k2, k3⟩ := m_parts_bad (N := N) hx h3 he h2 (14 * I) a84 4 (by decide) x
      obtain ⟨τ3, l1, l2, l3⟩ := m_img80_bad (N := N) (τ := τ2) (by rw [k3]; exact h3) st ((14 * I : Nat) : Int) x3
      refine ⟨τ3, ?_, MFr_trans k2 l2, l3.trans k3⟩
      show bnd (ev N mX9_readsParts 22 [vR 30 0, vI ((14 * I : Nat) : Int), vI ((4 : Nat) : Int), vI 1, vI x, vX] (push none []) (P τ)) _ = _
      rw [push_n, k1, bnd_s, push_n, l1]
  | succ m ih =>
    intro told ht σ p c w x4 h hi hk zw hc cw6 cr w0 w1 w2 wr
    obtain ⟨t1, t2, t3, t4, t5, t6, t7, t8, t9⟩ := t_n ht
    clear ht
    refine LINE_congr ?_ ?_ (LINE_num (N := N) (XW_S _ _) h 0 99999 (fun r S => bnd (ev N mX4_readParts 9 [vR 8 0, vI (told : Int)] (push r []) S) (fun r S2 => ev N mX4_readImage 60 [vR 8 0, vI st, vI ver, vI key, vI rev, vX] (push r []) S2)) (fun r S => bnd (ev N mX9_readsParts 13 [vR 30 0, vI ((14 * I : Nat) : Int), vI (told : Int), vI 1, x4, vX] (push r []) S) (fun r S2 => ev N mX9_readsImage 80 [vR 30 0, vI st, vI ((14 * I : Nat) : Int), vI x3] (push r []) S2)) (fun ρ => ?_) (fun x => ?_) ?_)
    · rw [eX4_readParts_2, if_neg t1, bnd_bnd]
    · intro τ hx hr _
      show bnd (ev N mX9_readsParts 4 [vR 30 0, vI ((14 * I : Nat) : Int), vI (told : Int), vI 1, x4, vX] [] (P τ)) _ = _
      rw [eX9_readsParts_4, if_neg (by decide), m_right, if_pos hr.2.1, bnd_s, push_s, eX9_readsParts_8, if_neg (by decide), bnd_bnd]
    · show bnd (ev N mX4_readParts 9 [vR 8 0, vI (told : Int)] (push (some (vI 0)) []) (P ρ)) _ = _
      rw [push_s, eX4_readParts_9, if_pos rfl, bnd_s, push_s, eX4_readImage_60, if_pos rfl]
    · intro τ hx h3 ⟨e, he, h2⟩ _ _
      obtain ⟨τ2, k1, k2, k3⟩ := m_parts_bad (N := N) hx h3 he h2 (14 * I) a84 told t9 x
      obtain ⟨τ3, l1, l2, l3⟩ := m_img80_bad (N := N) (τ := τ2) (by rw [k3]; exact h3) st ((14 * I : Nat) : Int) x3
      refine ⟨τ3, ?_, MFr_trans k2 l2, l3.trans k3⟩
      show bnd (ev N mX9_readsParts 13 [vR 30 0, vI ((14 * I : Nat) : Int), vI (told : Int), vI 1, x4, vX] (push (some (vI x)) []) (P τ)) _ = _
      rw [push_s, eX9_readsParts_13, if_neg t2, k1, bnd_s, push_n, l1]
    intro ρ v e crρ r5 hvv s5 r7 _ rall
    have hiρ : ρ 2 0 1 = (I : Int) := by rw [s5.1]; exact hi
    have hkρ : 0 ≤ key ∧ key < ρ 2 0 0 := by rw [s5.1]; exact hk
    have zwρ : ∀ j : Nat, 14 * (I + 1) ≤ j → j < 84 → ρ 5 0 j = 0 := by rw [s5.2.2.2]; exact zw
    have hcρ : ∀ j, j < 14 → ρ 5 0 (14 * I + j) = c j := by rw [s5.2.2.2]; exact hc
    clear rall s5 h hi hk zw hc
    have v5 : 0 ≤ v ∧ v < 100000 := ⟨hvv.1, Int.lt_of_le_of_lt hvv.2 (by decide)⟩
    have k6 := i_k (a := 14 * I) (k := told) (c := 6) a84 t3 (Or.inl rfl)
    obtain ⟨-, n2, n3, -⟩ := i_n (a := 14 * I) (i := 6 + 2 * told) a84 t4
    simp only [Int.cast_ofNat_Int] at k6
    have img0 : ρ 5 0 = img c (ρ 5 0) (14 * I) := img_of hcρ
    have cp := c_put (N := N) (σ := ρ) (14 * I) (6 + 2 * told) a70 t4 c (ρ 5 0) v img0
    have setr : ∀ (f : Vec), (∀ j, 0 ≤ f j ∧ f j < 100000) → ∀ j, 0 ≤ set f (6 + 2 * told) v j ∧ set f (6 + 2 * told) v j < 100000 := by
      intro f hf j
      unfold set
      split
      · exact v5
      · exact hf j
    have lo6 : ∀ (f : Vec) (j : Nat), j < 6 → set f (6 + 2 * told) v j = f j := fun f j hj => set_ne _ _ (Nat.ne_of_lt (Nat.lt_of_lt_of_le hj t8))
    refine LINE_step (ρ := row ρ 5 0 (img (set c (6 + 2 * told) v) (ρ 5 0) (14 * I))) (X2 := XW (14 * I) (set w (6 + 2 * told) v)) ?_ (CFr_row ρ 5 _ (by decide)) rfl (fun τ hx hr hX => ⟨row τ 37 0 (set (τ 37 0) (14 * I + (6 + 2 * told)) v), ?_, MFr_row τ 37 _ (by decide), RR_word hr hiρ _ _ (fun j hj => set_ne _ _ (out_n hj).1), ?_⟩) (LINE_skip (N := N) (p := e) (XW_S _ _) (CR_word crρ (CR_w84 crρ) (setr c cr)) (fun r S => bnd (ev N mX4_readParts 42 [vR 8 0, vI (told : Int)] (push r []) S) (fun r S2 => ev N mX4_readImage 60 [vR 8 0, vI st, vI ver, vI key, vI rev, vX] (push r []) S2)) (fun r S => bnd (ev N mX9_readsParts 39 [vR 30 0, vI ((14 * I : Nat) : Int), vI ((told + 1 : Nat) : Int), vI 1, vI v, vX] (push r []) S) (fun r S2 => ev N mX9_readsImage 80 [vR 30 0, vI st, vI ((14 * I : Nat) : Int), vI x3] (push r []) S2)) ?_)
    · show bnd (ev N mX4_readParts 9 [vR 8 0, vI (told : Int)] (push (some (vI 1)) []) (P ρ)) _ = _
      rw [push_s, eX4_readParts_9, if_neg (by decide), if_neg t2, hiρ, e14, k6, r5, cp, bnd_s, push_n, eX4_readParts_40, bnd_bnd]
    · show bnd (ev N mX9_readsParts 13 [vR 30 0, vI ((14 * I : Nat) : Int), vI (told : Int), vI 1, x4, vX] (push (some (vI v)) []) (P τ)) _ = _
      rw [push_s, eX9_readsParts_13, if_neg t2, eX9_readsParts_22, m_right, if_pos hr.2.1, bnd_s, push_s, eX9_readsParts_24, if_neg (by decide), k6, if_neg n2, if_pos n3, t5, Int.toNat_natCast, sup_row, bnd_bnd]
    · intro j hj
      show set (τ 37 0) (14 * I + (6 + 2 * told)) v (14 * I + j) = set w (6 + 2 * told) v j
      by_cases q : j = 6 + 2 * told
      · rw [q, set_same, set_same]
      · rw [set_ne _ _ q, set_ne _ _ (fun z => q (Nat.add_left_cancel z))]
        exact hX j hj
    intro ρ2 e2 cr2 s52 r82 rall2
    have h53 : ρ2 5 0 = img (set c (6 + 2 * told) v) (ρ 5 0) (14 * I) := s52.2.2.2
    have hi2 : ρ2 2 0 1 = (I : Int) := by rw [s52.1]; exact hiρ
    have hk2 : 0 ≤ key ∧ key < ρ2 2 0 0 := by rw [s52.1]; exact hkρ
    have zw2 : ∀ j : Nat, 14 * (I + 1) ≤ j → j < 84 → ρ2 5 0 j = 0 := by
      intro j h1 h2
      rw [h53, img_out _ _ _ (out2_n h1)]
      exact zwρ j h1 h2
    have hc2 : ∀ j, j < 14 → ρ2 5 0 (14 * I + j) = set c (6 + 2 * told) v j := fun j hj => by rw [h53, img_at _ _ _ hj]
    have cw62 : ∀ j, 6 ≤ j → set c (6 + 2 * told) v j = set w (6 + 2 * told) v j := by
      intro j hj
      unfold set
      rw [cw6 j hj]
    have cb := c_byteAt (N := N) cr2.1 e2
    have h83 := cr2.2.2.1
    have md := fun (τ : Sto) (hx : MX n T τ) (hr : RR ρ2 τ) => m_digit (N := N) hx cr2.2.1 (by rw [hr.1, h83])
    by_cases dg : 48 ≤ byI n T e2 ∧ byI n T e2 ≤ 57
    · refine LINE_congr ?_ ?_ (ih (told + 1) t6 ρ2 e2 _ _ (vI v) cr2 hi2 hk2 zw2 hc2 cw62 (setr c cr) ((lo6 w 0 (by decide)).trans w0) ((lo6 w 1 (by decide)).trans w1) ((lo6 w 2 (by decide)).trans w2) (setr w wr))
      · show bnd (ev N mX4_readParts 42 [vR 8 0, vI (told : Int)] (push none []) (P ρ2)) _ = _
        rw [push_n, eX4_readParts_42, h83, cb, bnd_s, push_s, eX4_readParts_46, c_digit, if_pos dg, bnd_s, push_s, eX4_readParts_47, if_neg (by decide), t5]
      · intro τ hx hr _
        show bnd (ev N mX9_readsParts 39 [vR 30 0, vI ((14 * I : Nat) : Int), vI ((told + 1 : Nat) : Int), vI 1, vI v, vX] (push (some (vI (byI n T e2))) []) (P τ)) _ = _
        rw [push_s, eX9_readsParts_39, m_right, if_pos hr.2.1, bnd_s, push_s, eX9_readsParts_42, if_neg (by decide), md τ hx hr, if_pos dg, bnd_s, push_s, eX9_readsParts_45, if_neg (by decide)]
    · refine LINE_congr ?_ ?_ (image_end (N := N) cr2 hI hi2 zw2 hc2 cw62 (setr c cr) ((lo6 w 0 (by decide)).trans w0) ((lo6 w 1 (by decide)).trans w1) ((lo6 w 2 (by decide)).trans w2) (setr w wr) hv hk2 (told + 1) (Nat.succ_le_succ (Nat.zero_le told)) t7 x3 st (vI v))
      · show bnd (ev N mX4_readParts 42 [vR 8 0, vI (told : Int)] (push none []) (P ρ2)) _ = _
        rw [push_n, eX4_readParts_42, h83, cb, bnd_s, push_s, eX4_readParts_46, c_digit, if_neg dg, bnd_s, push_s, eX4_readParts_47, if_pos rfl, t5, bnd_s, push_s]
      · intro τ hx hr _
        show bnd (ev N mX9_readsParts 39 [vR 30 0, vI ((14 * I : Nat) : Int), vI ((told + 1 : Nat) : Int), vI 1, vI v, vX] (push (some (vI (byI n T e2))) []) (P τ)) _ = _
        rw [push_s, eX9_readsParts_39, m_right, if_pos hr.2.1, bnd_s, push_s, eX9_readsParts_42, if_neg (by decide), md τ hx hr, if_neg dg, bnd_s, push_s, eX9_readsParts_45, if_pos rfl]
end IMG
