/-! IMAGES: revoked keys, the whole line -/
section IMG
variable {N n : Nat} {T : Vec} {σ : Sto} {p : Nat}
theorem XW_set {a : Nat} {w : Vec} {τ : Sto} (h : XW a w τ) (i : Nat) (v : Int) : XW a (set w i v) (row τ 37 0 (set (τ 37 0) (a + i) v)) := by
  intro j hj
  show set (τ 37 0) (a + i) v (a + j) = set w i v j
  by_cases q : j = i
  · rw [q, set_same, set_same]
  · rw [set_ne _ _ q, set_ne _ _ (fun z => q (Nat.add_left_cancel z))]
    exact h j hj
theorem RR_37 {τ : Sto} (h : RR σ τ) {I : Nat} (hi : σ 2 0 1 = (I : Int)) (f : Vec) (hf : ∀ j : Nat, (j : Int) < 14 * (I : Int) → f j = τ 37 0 j) : RR σ (row τ 37 0 f) := by
  obtain ⟨r2, r3, r7, r8, rk, rw', r39a, r39b, r39c, r9⟩ := h
  refine ⟨r2, r3, r7, r8, rk, fun j hj => ?_, r39a, r39b, r39c, r9⟩
  show f j = σ 5 0 j
  rw [hf j (by rw [← hi]; exact hj)]
  exact rw' j hj
theorem set_r {w : Vec} (h : ∀ j, 0 ≤ w j ∧ w j < 100000) (i : Nat) {v : Int} (hv : 0 ≤ v ∧ v < 100000) : ∀ j, 0 ≤ set w i v j ∧ set w i v j < 100000 := by
  intro j
  unfold set
  split
  · exact hv
  · exact h j
theorem zw_I {I : Nat} (hi : σ 2 0 1 = (I : Int)) (zw : ZW σ) : (∀ j : Nat, 14 * (I + 1) ≤ j → j < 84 → σ 5 0 j = 0) ∧ (I < 6 → ∀ j, j < 14 → σ 5 0 (14 * I + j) = Z j) := by
  unfold ZW at zw
  rw [hi] at zw
  refine ⟨fun j h1 h2 => zw j (by omega) h2, fun h6 j hj => zw (14 * I + j) (by omega) (by omega)⟩
/-- behind the revoked keys -/
theorem image_tail (h : CR n T p σ) {I : Nat} (hI : I < 6) (hi : σ 2 0 1 = (I : Int)) (zw : ZW σ) {w : Vec} {ver key rev : Int} (w0 : w 0 = ver + 1) (w1 : w 1 = key) (w2 : w 2 = rev) (w6 : ∀ j, 6 ≤ j → w j = 0) (wr : ∀ j, 0 ≤ w j ∧ w j < 100000) (hv : 0 ≤ ver ∧ ver ≤ 30) (hk : 0 ≤ key ∧ key < σ 2 0 0) (x3 st : Int) : LINE n T σ (XW (14 * I) w) (bnd (inv N mX4_takeWord [vR 8 0, vR 1000 4] (P σ)) (fun r S2 => ev N mX4_readImage 51 [vR 8 0, vI st, vI ver, vI key, vI rev, vX] (push r []) S2)) (fun τ => ev N mX9_readsImage 62 [vR 30 0, vI st, vI ((14 * I : Nat) : Int), vI x3] [] (P τ)) := by
  refine LINE_congr rfl ?_ (LINE_word (N := N) (XW_S _ _) h 7 (by decide) (fun r S2 => ev N mX4_readImage 51 [vR 8 0, vI st, vI ver, vI key, vI rev, vX] (push r []) S2) (fun r S2 => ev N mX9_readsImage 68 [vR 30 0, vI st, vI ((14 * I : Nat) : Int), vI x3] (push r []) S2) ?_)
  · intro τ hx hr _
    rw [eX9_readsImage_62, m_right, if_pos hr.2.1, bnd_s, push_s, eX9_readsImage_64, if_neg (by decide)]
    rfl
  intro a ρ e ha cr s5 r8 rall
  have h83 := cr.2.2.1
  have zz := zw_I (σ := ρ) (I := I) (by rw [s5.1]; exact hi) (ZW_o zw (by rw [s5.1]) s5.2.2.2)
  rcases ha with rfl | rfl
  · refine LINE_congr ?_ ?_ (LINE_fail (N := N) (XW_S _ _) cr e 1 cr.2.1 (by decide) (fun r S2 => ev N mX4_readImage 57 [vR 8 0, vI st, vI ver, vI key, vI rev, vX] (push r []) S2) (fun r S2 => ev N mX9_readsImage 74 [vR 30 0, vI st, vI ((14 * I : Nat) : Int), vI x3] (push r []) S2) (fun ρ => ?_) ?_)
    · show ev N mX4_readImage 51 [vR 8 0, vI st, vI ver, vI key, vI rev, vX] (push (some (vI 0)) []) (P ρ) = _
      rw [push_s, eX4_readImage_51, if_pos rfl, h83]
      rfl
    · intro τ hx hr _
      show ev N mX9_readsImage 68 [vR 30 0, vI st, vI ((14 * I : Nat) : Int), vI x3] (push (some (vI 0)) []) (P τ) = _
      rw [push_s, eX9_readsImage_68, if_pos rfl, hr.1, h83]
      rfl
    · show ev N mX4_readImage 57 [vR 8 0, vI st, vI ver, vI key, vI rev, vX] (push (some (vI 0)) []) (P ρ) = _
      rw [push_s, eX4_readImage_57, if_pos rfl]
    · intro τ hx h3 _ _ _
      exact m_img74_bad h3 _ _ _
  · refine LINE_congr ?_ ?_ (parts_loop (N := N) (n := n) (T := T) (rev := rev) hI hv x3 st 4 0 rfl ρ e Z w vX cr (by rw [s5.1]; exact hi) (by rw [s5.1]; exact hk) zz.1 (zz.2 hI) (fun j hj => (w6 j hj).symm) (fun j => ⟨by show (0 : Int) ≤ 0; decide, by show (0 : Int) < 100000; decide⟩) w0 w1 w2 wr)
    · show ev N mX4_readImage 51 [vR 8 0, vI st, vI ver, vI key, vI rev, vX] (push (some (vI 1)) []) (P ρ) = _
      rw [push_s, eX4_readImage_51, if_neg (by decide), iX4_readParts, eX4_readParts_0]
      rfl
    · intro τ hx hr _
      show ev N mX9_readsImage 68 [vR 30 0, vI st, vI ((14 * I : Nat) : Int), vI x3] (push (some (vI 1)) []) (P τ) = _
      rw [push_s, eX9_readsImage_68, if_neg (by decide), eX9_readsImage_74, m_right, if_pos hr.2.1, bnd_s, push_s, eX9_readsImage_76, if_neg (by decide), iX9_readsParts, eX9_readsParts_0]
      rfl
theorem p0_n {p n : Nat} (hp : p ≤ n) (h : n ≤ 300) : w32 ((p : Int) + 0) = (p : Int) := by
  rw [w32i (by omega) (by omega)]
  omega
theorem key_r {v K : Int} (h : 0 ≤ v ∧ v ≤ K - 1) (hK : K ≤ 6) : (0 ≤ v ∧ v < K) ∧ v < 6 ∧ v.toNat < 6 ∧ ((v.toNat : Nat) : Int) = v ∧ 0 ≤ v ∧ v < 100000 := by omega
theorem rev_r {b : Int} (h : 0 ≤ b ∧ b < 64) : (0 ≤ b ∧ b < 100000) ∧ ¬ b = -1 := by omega
theorem rev_loop {I : Nat} (hI : I < 6) {ver key : Int} (hv : 0 ≤ ver ∧ ver ≤ 30) (x3 st : Int) : ∀ (m told : Nat), told + m = 4 → ∀ (σ : Sto) (p : Nat) (w : Vec) (x4 : MV) (bits : Int), CR n T p σ → σ 2 0 1 = (I : Int) → (0 ≤ key ∧ key < σ 2 0 0) → ZW σ → w 0 = ver + 1 → w 1 = key → w 2 = bits → (0 ≤ bits ∧ bits < 64) → (∀ j, 6 ≤ j → w j = 0) → (∀ j, 0 ≤ w j ∧ w j < 100000) → LINE n T σ (XW (14 * I) w) (bnd (ev N mX4_readRevoked 4 [vR 8 0, vI bits, vI (told : Int)] [] (P σ)) (fun r S2 => ev N mX4_readImage 40 [vR 8 0, vI st, vI ver, vI key, vX, vX] (push r []) S2)) (fun τ => bnd (ev N mX9_readsRevoked 4 [vR 30 0, vI ((14 * I : Nat) : Int), vI (told : Int), vI 1, x4] [] (P τ)) (fun r S2 => ev N mX9_readsImage 62 [vR 30 0, vI st, vI ((14 * I : Nat) : Int), vI x3] (push r []) S2)) := by
  obtain ⟨a84, a70, e14, -, -⟩ := I_n hI
  obtain ⟨n21, n22, n23, -⟩ := i_n (a := 14 * I) (i := 2) a84 (by decide)
  simp only [Int.cast_ofNat_Int] at n21
  intro m
  induction m with
  | zero =>
    intro told ht σ p w x4 bits h hi hk zw w0 w1 w2 hb w6 wr
    have e : told = 4 := ht
    subst e
    obtain ⟨K, eK⟩ := Int.eq_ofNat_of_zero_le h.2.2.2.2.1.1
    have K6 : (K : Int) ≤ 6 := by rw [← eK]; exact h.2.2.2.2.1.2
    obtain ⟨-, -, -, -, kw⟩ := key_n (K := K) (Int.ofNat_le.mp K6)
    refine LINE_congr ?_ ?_ (LINE_num4 (N := N) (XW_S _ _) h 0 ((K : Int) - 1) (fun r S => bnd (ev N mX4_readRevoked 15 [vR 8 0, vI bits, vI 4] (push r []) S) (fun r S2 => ev N mX4_readImage 40 [vR 8 0, vI st, vI ver, vI key, vX, vX] (push r []) S2)) (fun r S => bnd (ev N mX4_readRevoked 26 [vR 8 0, vI bits, vI 4] (push r []) S) (fun r S2 => ev N mX4_readImage 40 [vR 8 0, vI st, vI ver, vI key, vX, vX] (push r []) S2)) (fun r S => bnd (ev N mX9_readsRevoked 16 [vR 30 0, vI ((14 * I : Nat) : Int), vI 4, vI 1, x4] (push r []) S) (fun r S2 => ev N mX9_readsImage 62 [vR 30 0, vI st, vI ((14 * I : Nat) : Int), vI x3] (push r []) S2)) (fun x r S => bnd (ev N mX9_readsRevoked 25 [vR 30 0, vI ((14 * I : Nat) : Int), vI 4, vI 1, vI x] (push r []) S) (fun r S2 => ev N mX9_readsImage 62 [vR 30 0, vI st, vI ((14 * I : Nat) : Int), vI x3] (push r []) S2)) (fun ρ => ?_) (fun ρ => ?_) (fun ρ => ?_) (fun x τ => ?_) (fun x => ?_))
    · show bnd (ev N mX4_readRevoked 4 [vR 8 0, vI bits, vI 4] [] (P σ)) _ = _
      rw [eX4_readRevoked_4, if_neg (by decide), eK, kw, bnd_bnd]
    · intro τ hx hr _
      show bnd (ev N mX9_readsRevoked 4 [vR 30 0, vI ((14 * I : Nat) : Int), vI 4, vI 1, x4] [] (P τ)) _ = _
      rw [eX9_readsRevoked_4, if_neg (by decide), m_right, if_pos hr.2.1, bnd_s, push_s, eX9_readsRevoked_8, if_neg (by decide), hr.2.2.1, eK, kw, bnd_bnd]
    · show bnd (ev N mX4_readRevoked 15 [vR 8 0, vI bits, vI 4] (push (some (vI 0)) []) (P ρ)) _ = _
      rw [push_s, eX4_readRevoked_15, if_pos rfl, bnd_s, push_s, eX4_readImage_40, if_pos rfl]
    · show bnd (ev N mX4_readRevoked 15 [vR 8 0, vI bits, vI 4] (push (some (vI 1)) []) (P ρ)) _ = _
      rw [push_s, eX4_readRevoked_15, if_neg (by decide), if_pos rfl, bnd_bnd]
    · show bnd (ev N mX4_readRevoked 26 [vR 8 0, vI bits, vI 4] (push (some (vI 0)) []) (P ρ)) _ = _
      rw [push_s, eX4_readRevoked_26, bnd_s, push_s, eX4_readImage_40, if_pos rfl]
    · show bnd (ev N mX9_readsRevoked 16 [vR 30 0, vI ((14 * I : Nat) : Int), vI 4, vI 1, x4] (push (some (vI x)) []) (P τ)) _ = _
      rw [push_s, eX9_readsRevoked_16, if_pos rfl, bnd_bnd]
    · intro τ hx h3 ⟨e, he, h2⟩ _ _
      obtain ⟨τ2, k1, k2, k3⟩ := m_rev_bad (N := N) h3 (Nat.le_trans he hx.2.1) h2 (14 * I) a84 4 x
      obtain ⟨τ3, l1, l2, l3⟩ := m_img62_bad (N := N) (τ := τ2) (by rw [k3]; exact h3) st ((14 * I : Nat) : Int) x3
      refine ⟨τ3, ?_, MFr_trans k2 l2, l3.trans k3⟩
      show bnd (ev N mX9_readsRevoked 25 [vR 30 0, vI ((14 * I : Nat) : Int), vI ((4 : Nat) : Int), vI 1, vI x] (push none []) (P τ)) _ = _
      rw [push_n, k1, bnd_s, push_n, l1]
  | succ m ih =>
    intro told ht σ p w x4 bits h hi hk zw w0 w1 w2 hb w6 wr
    obtain ⟨t1, t2, t3, t4, t5, t6, t7, t8, t9⟩ := t_n ht
    clear ht
    obtain ⟨K, eK⟩ := Int.eq_ofNat_of_zero_le h.2.2.2.2.1.1
    have K6 : (K : Int) ≤ 6 := by rw [← eK]; exact h.2.2.2.2.1.2
    obtain ⟨-, -, -, -, kw⟩ := key_n (K := K) (Int.ofNat_le.mp K6)
    refine LINE_congr ?_ ?_ (LINE_num (N := N) (XW_S _ _) h 0 ((K : Int) - 1) (fun r S => bnd (ev N mX4_readRevoked 15 [vR 8 0, vI bits, vI (told : Int)] (push r []) S) (fun r S2 => ev N mX4_readImage 40 [vR 8 0, vI st, vI ver, vI key, vX, vX] (push r []) S2)) (fun r S => bnd (ev N mX9_readsRevoked 16 [vR 30 0, vI ((14 * I : Nat) : Int), vI (told : Int), vI 1, x4] (push r []) S) (fun r S2 => ev N mX9_readsImage 62 [vR 30 0, vI st, vI ((14 * I : Nat) : Int), vI x3] (push r []) S2)) (fun ρ => ?_) (fun x => ?_) ?_)
    · rw [eX4_readRevoked_4, if_neg t1, eK, kw, bnd_bnd]
    · intro τ hx hr _
      show bnd (ev N mX9_readsRevoked 4 [vR 30 0, vI ((14 * I : Nat) : Int), vI (told : Int), vI 1, x4] [] (P τ)) _ = _
      rw [eX9_readsRevoked_4, if_neg (by decide), m_right, if_pos hr.2.1, bnd_s, push_s, eX9_readsRevoked_8, if_neg (by decide), hr.2.2.1, eK, kw, bnd_bnd]
    · show bnd (ev N mX4_readRevoked 15 [vR 8 0, vI bits, vI (told : Int)] (push (some (vI 0)) []) (P ρ)) _ = _
      rw [push_s, eX4_readRevoked_15, if_pos rfl, bnd_s, push_s, eX4_readImage_40, if_pos rfl]
    · intro τ hx h3 ⟨e, he, h2⟩ _ _
      obtain ⟨τ2, k1, k2, k3⟩ := m_rev_bad (N := N) h3 (Nat.le_trans he hx.2.1) h2 (14 * I) a84 told x
      obtain ⟨τ3, l1, l2, l3⟩ := m_img62_bad (N := N) (τ := τ2) (by rw [k3]; exact h3) st ((14 * I : Nat) : Int) x3
      refine ⟨τ3, ?_, MFr_trans k2 l2, l3.trans k3⟩
      show bnd (ev N mX9_readsRevoked 16 [vR 30 0, vI ((14 * I : Nat) : Int), vI (told : Int), vI 1, x4] (push (some (vI x)) []) (P τ)) _ = _
      rw [push_s, eX9_readsRevoked_16, if_neg t2, k1, bnd_s, push_n, l1]
    intro ρ v e crρ r5 hvv s5 r7 _ rall
    have hiρ : ρ 2 0 1 = (I : Int) := by rw [s5.1]; exact hi
    have hkρ : 0 ≤ key ∧ key < ρ 2 0 0 := by rw [s5.1]; exact hk
    have zwρ : ZW ρ := ZW_o zw (by rw [s5.1]) s5.2.2.2
    clear rall s5 h hi hk zw
    obtain ⟨-, -, v6, vt, -⟩ := key_r hvv K6
    have b2 := bOr_lt hb.1 hb.2 v.toNat v6
    rw [vt] at b2
    obtain ⟨b2r, b2n⟩ := rev_r b2
    have e37 : ∀ (τ : Sto) f, row τ 37 0 f 30 0 = τ 30 0 := fun _ _ => rfl
    refine LINE_step (ρ := ρ) (X2 := XW (14 * I) (set w 2 (bOr bits (shl32 1 v)))) ?_ (CFr_refl ρ) rfl (fun τ hx hr hX => ⟨row τ 37 0 (set (τ 37 0) (14 * I + 2) (bOr bits (shl32 1 v))), ?_, MFr_row τ 37 _ (by decide), RR_37 hr hiρ _ (fun j hj => set_ne _ _ (out_n hj).1), XW_set hX 2 _⟩) (LINE_skip (N := N) (p := e) (XW_S _ _) crρ (fun r S => bnd (ev N mX4_readRevoked 38 [vR 8 0, vI (bOr bits (shl32 1 v)), vI (told : Int)] (push r []) S) (fun r S2 => ev N mX4_readImage 40 [vR 8 0, vI st, vI ver, vI key, vX, vX] (push r []) S2)) (fun r S => bnd (ev N mX9_readsRevoked 48 [vR 30 0, vI ((14 * I : Nat) : Int), vI ((told + 1 : Nat) : Int), vI 1, vI v] (push r []) S) (fun r S2 => ev N mX9_readsImage 62 [vR 30 0, vI st, vI ((14 * I : Nat) : Int), vI x3] (push r []) S2)) ?_)
    · show bnd (ev N mX4_readRevoked 15 [vR 8 0, vI bits, vI (told : Int)] (push (some (vI 1)) []) (P ρ)) _ = _
      rw [push_s, eX4_readRevoked_15, if_neg (by decide), if_neg t2, r5, bnd_bnd]
    · show bnd (ev N mX9_readsRevoked 16 [vR 30 0, vI ((14 * I : Nat) : Int), vI (told : Int), vI 1, x4] (push (some (vI v)) []) (P τ)) _ = _
      have hw2 : τ 37 0 (14 * I + 2) = bits := (hX 2 (by decide)).trans w2
      have r2 := m_right (N := N) (σ := row τ 37 0 (set (τ 37 0) (14 * I + 2) (bOr bits (shl32 1 v))))
      rw [e37, if_pos hr.2.1] at r2
      rw [push_s, eX9_readsRevoked_16, if_neg t2, eX9_readsRevoked_25, n21, if_neg n22, if_pos n23, Int.toNat_natCast, m_right, if_pos hr.2.1, bnd_s, push_s, hw2, eX9_readsRevoked_34, if_neg (by decide), if_neg n22, if_pos n23, Int.toNat_natCast, sup_row, r2, t5, bnd_s, push_s, eX9_readsRevoked_45, if_neg (by decide), bnd_bnd]
    intro ρ2 e2 cr2 s52 r82 rall2
    have hi2 : ρ2 2 0 1 = (I : Int) := by rw [s52.1]; exact hiρ
    have hk2 : 0 ≤ key ∧ key < ρ2 2 0 0 := by rw [s52.1]; exact hkρ
    have zw2 : ZW ρ2 := ZW_o zwρ (by rw [s52.1]) s52.2.2.2
    have w62 : ∀ j, 6 ≤ j → set w 2 (bOr bits (shl32 1 v)) j = 0 := fun j hj => (set_ne _ _ (ge_ne hj (by decide))).trans (w6 j hj)
    have w02 : set w 2 (bOr bits (shl32 1 v)) 0 = ver + 1 := (set_ne _ _ (by decide)).trans w0
    have w12 : set w 2 (bOr bits (shl32 1 v)) 1 = key := (set_ne _ _ (by decide)).trans w1
    have w22 : set w 2 (bOr bits (shl32 1 v)) 2 = bOr bits (shl32 1 v) := set_same _ _ _
    have wr2 := set_r wr 2 b2r
    have cb := c_byteAt (N := N) cr2.1 e2
    have h83 := cr2.2.2.1
    have n300 := cr2.1.2.1
    generalize set w 2 (bOr bits (shl32 1 v)) = w' at w02 w12 w22 w62 wr2
    generalize bOr bits (shl32 1 v) = bits' at w22 b2 b2r b2n
    by_cases dg : byI n T e2 = 44
    · have e2n : e2 < n := byI_lt (by rw [dg]; decide)
      have pn := p_n (Nat.le_of_lt e2n) n300
      have ne7 : ∀ j, 7 ≤ j → j ≠ 3 := fun j hj => ge_ne hj (by decide)
      refine LINE_step (mo := by rw [row_same, set_same, h83]; exact Int.ofNat_le.mpr (Nat.le_succ e2)) (ρ := row ρ2 8 0 (set (ρ2 8 0) 3 ((e2 + 1 : Nat) : Int))) (X2 := XW (14 * I) w') ?_ (CFr_row ρ2 8 _ (by decide)) (by rw [row_same, set_ne _ _ (by decide)]) (fun τ hx hr hX => ⟨row τ 30 0 (set (τ 30 0) 2 ((e2 + 1 : Nat) : Int)), ?_, MFr_30 τ _ (fun j z _ _ _ _ _ => set_ne _ _ z), RR_mv hr (fun j hj => set_ne _ _ (ne7 j hj)) ?_ ?_ ?_ ?_ ?_ rfl rfl rfl rfl, hX⟩) (ih (told + 1) t6 _ (e2 + 1) w' (vI v) bits' (CR_8 cr2 e2n (set_ne _ _ (by decide)) (set_same _ _ _) ((set_ne _ _ (by decide)).trans cr2.2.2.2.1) (fun j hj => set_ne _ _ (ne7 j hj))) hi2 hk2 zw2 w02 w12 w22 b2 w62 wr2)
      · show bnd (ev N mX4_readRevoked 38 [vR 8 0, vI bits', vI (told : Int)] (push none []) (P ρ2)) _ = _
        rw [push_n, eX4_readRevoked_38, h83, cb, bnd_s, push_s, eX4_readRevoked_42, if_pos dg, sup_row, h83, pn, t5]
      · show bnd (ev N mX9_readsRevoked 48 [vR 30 0, vI ((14 * I : Nat) : Int), vI ((told + 1 : Nat) : Int), vI 1, vI v] (push (some (vI (byI n T e2))) []) (P τ)) _ = _
        rw [push_s, eX9_readsRevoked_48, if_pos dg, s9_truth, if_neg (by decide), bnd_s, push_s, eX9_readsRevoked_59, sup_row, hr.1, h83, pn]
      · rw [row_same, set_same, set_same]
      · rw [row_same, set_ne _ _ (by decide)]; exact hr.2.1
      · rw [row_same, set_ne _ _ (by decide)]
      · rw [row_same, set_ne _ _ (by decide)]
      · rw [row_same, set_ne _ _ (by decide)]
    · have pe := p0_n cr2.2.1 n300
      refine LINE_congr ?_ ?_ (image_tail (N := N) cr2 hI hi2 zw2 w02 w12 w22 w62 wr2 hv hk2 x3 st)
      · show bnd (ev N mX4_readRevoked 38 [vR 8 0, vI bits', vI (told : Int)] (push none []) (P ρ2)) _ = _
        rw [push_n, eX4_readRevoked_38, h83, cb, bnd_s, push_s, eX4_readRevoked_42, if_neg dg, bnd_s, push_s, eX4_readImage_40, if_neg b2n]
      · intro τ hx hr _
        have idr : row τ 30 0 (set (τ 30 0) 2 (e2 : Int)) = τ := by
          rw [← h83, ← hr.1, set_id, row_id]
        show bnd (ev N mX9_readsRevoked 48 [vR 30 0, vI ((14 * I : Nat) : Int), vI ((told + 1 : Nat) : Int), vI 1, vI v] (push (some (vI (byI n T e2))) []) (P τ)) _ = _
        rw [push_s, eX9_readsRevoked_48, if_neg dg, s9_truth, if_pos rfl, bnd_s, push_s, eX9_readsRevoked_59, sup_row, hr.1, h83, pe, idr, eX9_readsRevoked_4, if_pos rfl, bnd_s, push_n]
end IMG
