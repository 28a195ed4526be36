/-! LINES: an image's, any -/
section IMG
variable {N n : Nat} {T : Vec} {σ : Sto} {p : Nat}
theorem m_img58_bad {τ : Sto} (hx : MX n T τ) {e : Nat} (he : e ≤ n) (h2 : τ 30 0 2 = (e : Int)) (h3 : ¬ τ 30 0 3 = -1) (x1 x2 x3 : Int) (f : Vec) : ∃ τ2, bnd (inv N mX9_takes [vR 30 0, vI 6] (P (row τ 37 0 f))) (fun r S2 => ev N mX9_readsImage 58 [vR 30 0, vI x1, vI x2, vI x3] (push r []) S2) = some (none, P τ2) ∧ MFr τ τ2 ∧ τ2 30 0 3 = τ 30 0 3 := by
  have mf := MFr_row τ 37 f (by decide)
  obtain ⟨τ2, a, b, c⟩ := m_img62_bad (N := N) (τ := row τ 37 0 f) h3 x1 x2 x3
  exact ⟨τ2, by rw [m_takes_bad (MX_MFr hx mf) he h2 h3, bnd_s, push_s, eX9_readsImage_58, if_pos rfl, a], MFr_trans mf b, c⟩
theorem m_img52_bad {τ : Sto} (hx : MX n T τ) {e : Nat} (he : e ≤ n) (h2 : τ 30 0 2 = (e : Int)) (h3 : ¬ τ 30 0 3 = -1) (x1 x3 : Int) {a : Nat} (ha : a ≤ 84) (y0 : Int) : ∃ τ2, ev N mX9_readsImage 52 [vR 30 0, vI x1, vI (a : Int), vI x3] [vI y0, vI ((a + 1 : Nat) : Int), vR 37 0] (P τ) = some (none, P τ2) ∧ MFr τ τ2 ∧ τ2 30 0 3 = τ 30 0 3 := by
  obtain ⟨n1, n2, n3, -⟩ := i_n (a := a) (i := 1) ha (by decide)
  obtain ⟨τ2, b⟩ := m_img58_bad (N := N) hx he h2 h3 x1 (a : Int) x3 (set (τ 37 0) (a + 1) y0)
  exact ⟨τ2, by rw [eX9_readsImage_52, if_neg n2, if_pos n3, Int.toNat_natCast, sup_row, b.1], b.2⟩
theorem m_img34_bad {τ : Sto} (hx : MX n T τ) {e : Nat} (he : e ≤ n) (h2 : τ 30 0 2 = (e : Int)) (h3 : ¬ τ 30 0 3 = -1) (x1 x3 : Int) {a : Nat} (ha : a ≤ 84) (y0 : Int) : ∃ τ2, ev N mX9_readsImage 34 [vR 30 0, vI x1, vI (a : Int), vI x3] [vI y0, vI (a : Int), vR 37 0] (P τ) = some (none, P τ2) ∧ MFr τ τ2 ∧ τ2 30 0 3 = τ 30 0 3 := by
  obtain ⟨n1, n2, n3, -⟩ := i_n (a := a) (i := 1) ha (by decide)
  obtain ⟨-, l2, l3, -⟩ := i_n (a := a) (i := 0) ha (by decide)
  rw [Nat.add_zero] at l2 l3
  simp only [Int.cast_ofNat_Int] at n1
  have mf := MFr_row τ 37 (set (τ 37 0) a (w32 (y0 + 1))) (by decide)
  have rt := m_right (N := N) (σ := row τ 37 0 (set (τ 37 0) a (w32 (y0 + 1))))
  have e30 : row τ 37 0 (set (τ 37 0) a (w32 (y0 + 1))) 30 0 = τ 30 0 := rfl
  rw [e30, if_neg h3] at rt
  obtain ⟨τ2, b⟩ := m_img58_bad (N := N) (τ := row τ 37 0 (set (τ 37 0) a (w32 (y0 + 1)))) (MX_MFr hx mf) he h2 h3 x1 (a : Int) x3 (set (set (τ 37 0) a (w32 (y0 + 1))) (a + 1) 0)
  refine ⟨τ2, ?_, MFr_trans mf b.2.1, b.2.2⟩
  rw [eX9_readsImage_34, if_neg l2, if_pos l3, Int.toNat_natCast, sup_row, rt, bnd_s, push_s, n1, eX9_readsImage_44, if_pos rfl, if_neg n2, if_pos n3, Int.toNat_natCast, sup_row, row_same]
  exact b.1
theorem I84 : w32 (14 * 6) = ((84 : Nat) : Int) := rfl
theorem I14 {I : Nat} (hI : I < 6) : w32 (14 * (I : Int)) = ((14 * I : Nat) : Int) := by
  rw [w32i (by omega) (by omega)]
  omega
theorem ver_n {v : Int} (h : 0 ≤ v ∧ v ≤ 30) : w32 (v + 1) = v + 1 ∧ 0 ≤ v + 1 ∧ v + 1 < 100000 := ⟨w32i (by omega) (by omega), by omega, by omega⟩
theorem Z_r : ∀ j, 0 ≤ Z j ∧ Z j < 100000 := fun j => ⟨by show (0 : Int) ≤ 0; decide, by show (0 : Int) < 100000; decide⟩
theorem line_image (h : CR n T p σ) (zw : ZW σ) (st : Nat) (hst : st ≤ n) : LINE n T σ (fun _ => True) (inv N mX4_readImage [vR 8 0, vI (st : Int)] (P σ)) (fun τ => inv N mX9_readsImage [vR 30 0, vI (st : Int)] (P τ)) := by
  obtain ⟨I, eI⟩ := Int.eq_ofNat_of_zero_le h.2.2.2.2.2.1.1
  have I6 : (I : Int) ≤ 6 := by rw [← eI]; exact h.2.2.2.2.2.1.2
  by_cases q : I = 6
  · subst q
    refine LINE_congr ?_ ?_ (LINE_fail (N := N) (XT rfl) h st 3 hst (by decide) (fun r S2 => ev N mX4_readImage 9 [vR 8 0, vI (st : Int), vX, vX, vX, vX] (push r []) S2) (fun r S2 => ev N mX9_readsImage 8 [vR 30 0, vI (st : Int), vX, vX] (push r []) S2) (fun ρ => ?_) ?_)
    · rw [iX4_readImage, eX4_readImage_0, eI, if_neg (by decide)]
      rfl
    · intro τ hx hr _
      rw [iX9_readsImage, eX9_readsImage_0, hr.2.2.2.1, eI, if_pos (by decide)]
      rfl
    · rw [push_s, eX4_readImage_9, if_pos rfl]
    · intro τ hx h3 ⟨e, he, h2⟩ h7 h8
      have mf := MFr_row τ 37 (img Z (τ 37 0) 84) (by decide)
      obtain ⟨f, e2, n1, n2, n3, n4⟩ := m_number_bad (N := N) (MX_MFr hx mf) he h2 h3 0 30
      have mf2 := MFr_30 (row τ 37 0 (img Z (τ 37 0) 84)) f (fun j a _ c _ _ _ => n4 j a c)
      have f3 : f 3 = τ 30 0 3 := n4 3 (by decide) (by decide)
      obtain ⟨τ2, b1, b2, b3⟩ := m_img34_bad (N := N) (MX_MFr (MX_MFr hx mf) mf2) n3 (by rw [row_same]; exact n2) (by rw [row_same, f3]; exact h3) (st : Int) 14 (a := 84) (Nat.le_refl _) 0
      refine ⟨τ2, ?_, MFr_trans mf (MFr_trans mf2 b2), by rw [b3, row_same, f3]⟩
      show ev N mX9_readsImage 8 [vR 30 0, vI (st : Int), vX, vX] (push none []) (P τ) = _
      rw [push_n, eX9_readsImage_8, h8, eI, show w32 (14 * ((6 : Nat) : Int)) = ((84 : Nat) : Int) from rfl, m_zero _ 84 (Nat.le_refl _), eX9_readsImage_15, if_neg (by decide), n1, bnd_s, push_s, b1]
  have hI : I < 6 := Nat.lt_of_le_of_ne (Int.ofNat_le.mp I6) q
  obtain ⟨a84, a70, e14, In6, Il6⟩ := I_n hI
  obtain ⟨n1, n2, n3, -⟩ := i_n (a := 14 * I) (i := 1) a84 (by decide)
  obtain ⟨-, l2, l3, -⟩ := i_n (a := 14 * I) (i := 0) a84 (by decide)
  rw [Nat.add_zero] at l2 l3
  simp only [Int.cast_ofNat_Int] at n1
  obtain ⟨K, eK⟩ := Int.eq_ofNat_of_zero_le h.2.2.2.2.1.1
  have K6 : (K : Int) ≤ 6 := by rw [← eK]; exact h.2.2.2.2.1.2
  obtain ⟨-, -, -, -, kw⟩ := key_n (K := K) (Int.ofNat_le.mp K6)
  -- the model's words are cleared
  refine LINE_step (ρ := σ) (X2 := XW (14 * I) Z) (C2 := bnd (inv N mX4_takeNumber [vR 8 0, vI 0, vI 30] (P σ)) (fun r S2 => ev N mX4_readImage 14 [vR 8 0, vI (st : Int), vX, vX, vX, vX] (push r []) S2)) ?_ (CFr_refl σ) rfl (fun τ hx hr _ => ⟨row τ 37 0 (img Z (τ 37 0) (14 * I)), ?_, MFr_row τ 37 _ (by decide), RR_37 hr eI _ (fun j hj => img_out _ _ _ (out_n (i := 0) hj).2), fun j hj => img_at _ _ _ hj⟩) (LINE_num (N := N) (XW_S _ _) h 0 30 (fun r S2 => ev N mX4_readImage 14 [vR 8 0, vI (st : Int), vX, vX, vX, vX] (push r []) S2) (fun r S2 => ev N mX9_readsImage 34 [vR 30 0, vI (st : Int), vI ((14 * I : Nat) : Int), vI 14] (push r [vI ((14 * I : Nat) : Int), vR 37 0]) S2) (fun ρ => ?_) (fun x => ?_) ?_)
  · rw [iX4_readImage, eX4_readImage_0, eI, if_pos Il6]
  · show inv N mX9_readsImage [vR 30 0, vI (st : Int)] (P τ) = _
    rw [iX9_readsImage, eX9_readsImage_0, hr.2.2.2.1, eI, if_neg In6, eX9_readsImage_8, hr.2.2.2.1, eI, I14 hI, m_zero _ _ a84, eX9_readsImage_15, if_neg (by decide)]
  · rw [push_s, eX4_readImage_14, if_pos rfl]
  · intro τ hx h3 ⟨e, he, h2⟩ _ _
    exact m_img34_bad hx he h2 h3 _ _ a84 x
  intro ρ ver e cr r5 hv s5 r7 _ rall
  obtain ⟨vw, v1⟩ := ver_n hv
  have hiρ : ρ 2 0 1 = (I : Int) := by rw [s5.1]; exact eI
  have eKρ : ρ 2 0 0 = (K : Int) := by rw [s5.1]; exact eK
  have zwρ : ZW ρ := ZW_o zw (by rw [s5.1]) s5.2.2.2
  clear rall s5 h eI eK zw
  have e30 : ∀ (τ : Sto) f, row τ 37 0 f 30 0 = τ 30 0 := fun _ _ => rfl
  refine LINE_step (ρ := ρ) (X2 := XW (14 * I) (set Z 0 (ver + 1))) (C2 := bnd (inv N mX4_takeNumber [vR 8 0, vI 0, vI ((K : Int) - 1)] (P ρ)) (fun r S2 => ev N mX4_readImage 28 [vR 8 0, vI (st : Int), vI ver, vX, vX, vX] (push r []) S2)) ?_ (CFr_refl ρ) rfl (fun τ hx hr hX => ⟨row τ 37 0 (set (τ 37 0) (14 * I + 0) (ver + 1)), ?_, MFr_row τ 37 _ (by decide), RR_37 hr hiρ _ (fun j hj => set_ne _ _ (out_n hj).1), XW_set hX 0 _⟩) (LINE_num (N := N) (XW_S _ _) cr 0 ((K : Int) - 1) (fun r S2 => ev N mX4_readImage 28 [vR 8 0, vI (st : Int), vI ver, vX, vX, vX] (push r []) S2) (fun r S2 => ev N mX9_readsImage 52 [vR 30 0, vI (st : Int), vI ((14 * I : Nat) : Int), vI 14] (push r [vI ((14 * I + 1 : Nat) : Int), vR 37 0]) S2) (fun ρ => ?_) (fun x => ?_) ?_)
  · show ev N mX4_readImage 14 [vR 8 0, vI (st : Int), vX, vX, vX, vX] (push (some (vI 1)) []) (P ρ) = _
    rw [push_s, eX4_readImage_14, if_neg (by decide), r5, eKρ, kw]
  · show ev N mX9_readsImage 34 [vR 30 0, vI (st : Int), vI ((14 * I : Nat) : Int), vI 14] (push (some (vI ver)) [vI ((14 * I : Nat) : Int), vR 37 0]) (P τ) = _
    have rt := m_right (N := N) (σ := row τ 37 0 (set (τ 37 0) (14 * I) (ver + 1)))
    rw [e30, if_pos hr.2.1] at rt
    rw [push_s, eX9_readsImage_34, if_neg l2, if_pos l3, Int.toNat_natCast, sup_row, vw, rt, bnd_s, push_s, n1, eX9_readsImage_44, if_neg (by decide), e30, hr.2.2.1, eKρ, kw]
    rfl
  · rw [push_s, eX4_readImage_28, if_pos rfl]
  · intro τ hx h3 ⟨e, he, h2⟩ _ _
    exact m_img52_bad hx he h2 h3 _ _ a84 x
  intro ρ2 key e2 cr2 r52 hk s52 r72 _ rall2
  obtain ⟨kK, k6, -, -, kr⟩ := key_r hk K6
  have hi2 : ρ2 2 0 1 = (I : Int) := by rw [s52.1]; exact hiρ
  have eK2 : ρ2 2 0 0 = (K : Int) := by rw [s52.1]; exact eKρ
  have zw2 : ZW ρ2 := ZW_o zwρ (by rw [s52.1]) s52.2.2.2
  clear rall2 s52 hiρ eKρ zwρ cr
  refine LINE_step (ρ := ρ2) (X2 := XW (14 * I) (set (set Z 0 (ver + 1)) 1 key)) (C2 := bnd (inv N mX4_takeWord [vR 8 0, vR 1000 (cw 6)] (P ρ2)) (fun r S2 => ev N mX4_readImage 37 [vR 8 0, vI (st : Int), vI ver, vI key, vX, vX] (push r []) S2)) ?_ (CFr_refl ρ2) rfl (fun τ hx hr hX => ⟨row τ 37 0 (set (τ 37 0) (14 * I + 1) key), ?_, MFr_row τ 37 _ (by decide), RR_37 hr hi2 _ (fun j hj => set_ne _ _ (out_n hj).1), XW_set hX 1 _⟩) (LINE_word (N := N) (XW_S _ _) cr2 6 (by decide) (fun r S2 => ev N mX4_readImage 37 [vR 8 0, vI (st : Int), vI ver, vI key, vX, vX] (push r []) S2) (fun r S2 => ev N mX9_readsImage 58 [vR 30 0, vI (st : Int), vI ((14 * I : Nat) : Int), vI 14] (push r []) S2) ?_)
  · show ev N mX4_readImage 28 [vR 8 0, vI (st : Int), vI ver, vX, vX, vX] (push (some (vI 1)) []) (P ρ2) = _
    rw [push_s, eX4_readImage_28, if_neg (by decide), r52]
    rfl
  · show ev N mX9_readsImage 52 [vR 30 0, vI (st : Int), vI ((14 * I : Nat) : Int), vI 14] (push (some (vI key)) [vI ((14 * I + 1 : Nat) : Int), vR 37 0]) (P τ) = _
    rw [push_s, eX9_readsImage_52, if_neg n2, if_pos n3, Int.toNat_natCast, sup_row]
    rfl
  intro a ρ3 e3 ha cr3 s53 r83 rall3
  have hi3 : ρ3 2 0 1 = (I : Int) := by rw [s53.1]; exact hi2
  have hk3 : 0 ≤ key ∧ key < ρ3 2 0 0 := by rw [s53.1, eK2]; exact kK
  have zw3 : ZW ρ3 := ZW_o zw2 (by rw [s53.1]) s53.2.2.2
  have w0 : set (set Z 0 (ver + 1)) 1 key 0 = ver + 1 := rfl
  have w1 : set (set Z 0 (ver + 1)) 1 key 1 = key := rfl
  have w2 : set (set Z 0 (ver + 1)) 1 key 2 = 0 := rfl
  have w6 : ∀ j, 6 ≤ j → set (set Z 0 (ver + 1)) 1 key j = 0 := fun j hj => by
    rw [set_ne _ _ (ge_ne hj (by decide)), set_ne _ _ (ge_ne hj (by decide))]
    rfl
  have wr := set_r (set_r Z_r 0 v1) 1 kr
  generalize set (set Z 0 (ver + 1)) 1 key = w at w0 w1 w2 w6 wr
  rcases ha with rfl | rfl
  · refine LINE_congr ?_ ?_ (image_tail (N := N) cr3 hI hi3 zw3 w0 w1 w2 w6 wr hv hk3 14 (st : Int))
    · show ev N mX4_readImage 37 [vR 8 0, vI (st : Int), vI ver, vI key, vX, vX] (push (some (vI 0)) []) (P ρ3) = _
      rw [push_s, eX4_readImage_37, if_pos rfl]
    · intro τ hx hr _
      show ev N mX9_readsImage 58 [vR 30 0, vI (st : Int), vI ((14 * I : Nat) : Int), vI 14] (push (some (vI 0)) []) (P τ) = _
      rw [push_s, eX9_readsImage_58, if_pos rfl]
  · refine LINE_congr ?_ ?_ (rev_loop (N := N) (n := n) (T := T) hI hv 14 (st : Int) 4 0 rfl ρ3 e3 w vX 0 cr3 hi3 hk3 zw3 w0 w1 w2 (by decide) w6 wr)
    · show ev N mX4_readImage 37 [vR 8 0, vI (st : Int), vI ver, vI key, vX, vX] (push (some (vI 1)) []) (P ρ3) = _
      rw [push_s, eX4_readImage_37, if_neg (by decide), iX4_readRevoked, eX4_readRevoked_0]
      rfl
    · intro τ hx hr _
      show ev N mX9_readsImage 58 [vR 30 0, vI (st : Int), vI ((14 * I : Nat) : Int), vI 14] (push (some (vI 1)) []) (P τ) = _
      rw [push_s, eX9_readsImage_58, if_neg (by decide), iX9_readsRevoked, eX9_readsRevoked_0]
      rfl
/-- behind a line of a kind -/
theorem LINE_then {X : Sto → Prop} {C : Option Out} {M : Sto → Option Out} (h : LINE n T σ X C M) (fc fm : Option MV → MS → Option Out) (h0 : ∀ ρ, fc (some (vI 0)) (P ρ) = some (some (vI 0), P ρ)) (h1 : ∀ ρ, fc (some (vI 1)) (P ρ) = some (some (vI 1), P ρ)) (hm : ∀ τ, fm none (P τ) = some (none, P τ)) : LINE n T σ X (bnd C fc) (fun τ => bnd (M τ) fm) := by
  obtain ⟨ok, σ2, a, b, c, d, e, f, g⟩ := h
  refine ⟨ok, σ2, ?_, b, c, d, e, f, fun τ hx hr hX => ?_⟩
  · rw [a, bnd_s]
    rcases f with ⟨z, -⟩ | ⟨z, -⟩
    · rw [z]; exact h1 σ2
    · rw [z]; exact h0 σ2
  · obtain ⟨τ2, k1, k2⟩ := g τ hx hr hX
    exact ⟨τ2, by show bnd (M τ) fm = _; rw [k1, bnd_s, hm], k2⟩
theorem XTT : ∀ (τ : Sto) (f : Vec), (fun _ : Sto => True) τ → (fun _ : Sto => True) (row τ 30 0 f) := fun _ _ _ => trivial
theorem line_any (h : CR n T p σ) (zw : ZW σ) : LINE n T σ (fun _ => True) (inv N mX4_readLine [vR 8 0] (P σ)) (fun τ => inv N mX9_readsLine [vR 30 0] (P τ)) := by
  refine LINE_congr ?_ ?_ (LINE_skip (N := N) XTT h (fun r S2 => ev N mX4_readLine 2 [vR 8 0, vX] (push r []) S2) (fun r S2 => ev N mX9_readsLine 2 [vR 30 0, vX] (push r []) S2) ?_)
  · rw [iX4_readLine, eX4_readLine_0]
  · intro τ hx hr _
    rw [iX9_readsLine, eX9_readsLine_0]
  intro ρ st cr s5 r8 rall
  have hst := cr.2.1
  have zw0 : ZW ρ := ZW_o zw (by rw [s5.1]) s5.2.2.2
  have h83 := cr.2.2.1
  clear s5 r8 rall h zw
  refine LINE_congr ?_ ?_ (LINE_word (N := N) XTT cr 0 (by decide) (fun r S2 => ev N mX4_readLine 8 [vR 8 0, vI (st : Int)] (push r []) S2) (fun r S2 => ev N mX9_readsLine 9 [vR 30 0, vI (st : Int)] (push r []) S2) ?_)
  · show ev N mX4_readLine 2 [vR 8 0, vX] (push none []) (P ρ) = _
    rw [push_n, eX4_readLine_2, h83]
    rfl
  · intro τ hx hr _
    show ev N mX9_readsLine 2 [vR 30 0, vX] (push (some (vI (byI n T st))) []) (P τ) = _
    rw [push_s, eX9_readsLine_2, hr.1, h83]
    rfl
  intro a1 ρ1 e1 ha1 cr1 s5_1 _ _
  have zw1 : ZW ρ1 := ZW_o zw0 (by rw [s5_1.1]) s5_1.2.2.2
  rcases ha1 with rfl | rfl
  case inr =>
    refine LINE_congr ?_ ?_ (LINE_then (line_key (N := N) cr1 zw1 st hst) (fun r S2 => ev N mX4_readLine 12 [vR 8 0, vI (st : Int)] (push r []) S2) (fun r S2 => ev N mX9_readsLine 13 [vR 30 0, vI (st : Int)] (push r []) S2) (fun ρ => ?_) (fun ρ => ?_) (fun τ => ?_))
    · show ev N mX4_readLine 8 [vR 8 0, vI (st : Int)] (push (some (vI 1)) []) (P ρ1) = _
      rw [push_s, eX4_readLine_8, if_neg (by decide)]
    · intro τ hx hr _
      show ev N mX9_readsLine 9 [vR 30 0, vI (st : Int)] (push (some (vI 1)) []) (P τ) = _
      rw [push_s, eX9_readsLine_9, if_neg (by decide)]
    · rw [push_s, eX4_readLine_12, if_pos rfl]
    · rw [push_s, eX4_readLine_12, if_neg (by decide), if_pos rfl]
    · rw [push_n, eX9_readsLine_13, eX9_readsLine_53]
  refine LINE_congr ?_ ?_ (LINE_word (N := N) XTT cr1 1 (by decide) (fun r S2 => ev N mX4_readLine 16 [vR 8 0, vI (st : Int)] (push r []) S2) (fun r S2 => ev N mX9_readsLine 17 [vR 30 0, vI (st : Int)] (push r []) S2) ?_)
  · show ev N mX4_readLine 8 [vR 8 0, vI (st : Int)] (push (some (vI 0)) []) (P ρ1) = _
    rw [push_s, eX4_readLine_8, if_pos rfl]
    rfl
  · intro τ hx hr _
    show ev N mX9_readsLine 9 [vR 30 0, vI (st : Int)] (push (some (vI 0)) []) (P τ) = _
    rw [push_s, eX9_readsLine_9, if_pos rfl]
    rfl
  intro a2 ρ2 e2 ha2 cr2 s5_2 _ _
  have zw2 : ZW ρ2 := ZW_o zw1 (by rw [s5_2.1]) s5_2.2.2.2
  rcases ha2 with rfl | rfl
  case inr =>
    refine LINE_congr ?_ ?_ (LINE_then (line_image (N := N) cr2 zw2 st hst) (fun r S2 => ev N mX4_readLine 20 [vR 8 0, vI (st : Int)] (push r []) S2) (fun r S2 => ev N mX9_readsLine 21 [vR 30 0, vI (st : Int)] (push r []) S2) (fun ρ => ?_) (fun ρ => ?_) (fun τ => ?_))
    · show ev N mX4_readLine 16 [vR 8 0, vI (st : Int)] (push (some (vI 1)) []) (P ρ2) = _
      rw [push_s, eX4_readLine_16, if_neg (by decide)]
    · intro τ hx hr _
      show ev N mX9_readsLine 17 [vR 30 0, vI (st : Int)] (push (some (vI 1)) []) (P τ) = _
      rw [push_s, eX9_readsLine_17, if_neg (by decide)]
    · rw [push_s, eX4_readLine_20, if_pos rfl]
    · rw [push_s, eX4_readLine_20, if_neg (by decide), if_pos rfl]
    · rw [push_n, eX9_readsLine_21, eX9_readsLine_53]
  refine LINE_congr ?_ ?_ (LINE_word (N := N) XTT cr2 2 (by decide) (fun r S2 => ev N mX4_readLine 24 [vR 8 0, vI (st : Int)] (push r []) S2) (fun r S2 => ev N mX9_readsLine 25 [vR 30 0, vI (st : Int)] (push r []) S2) ?_)
  · show ev N mX4_readLine 16 [vR 8 0, vI (st : Int)] (push (some (vI 0)) []) (P ρ2) = _
    rw [push_s, eX4_readLine_16, if_pos rfl]
    rfl
  · intro τ hx hr _
    show ev N mX9_readsLine 17 [vR 30 0, vI (st : Int)] (push (some (vI 0)) []) (P τ) = _
    rw [push_s, eX9_readsLine_17, if_pos rfl]
    rfl
  intro a3 ρ3 e3 ha3 cr3 s5_3 _ _
  have zw3 : ZW ρ3 := ZW_o zw2 (by rw [s5_3.1]) s5_3.2.2.2
  rcases ha3 with rfl | rfl
  case inr =>
    refine LINE_congr ?_ ?_ (LINE_then (line_limit (N := N) cr3 zw3 st hst) (fun r S2 => ev N mX4_readLine 28 [vR 8 0, vI (st : Int)] (push r []) S2) (fun r S2 => ev N mX9_readsLine 30 [vR 30 0, vI (st : Int)] (push r []) S2) (fun ρ => ?_) (fun ρ => ?_) (fun τ => ?_))
    · show ev N mX4_readLine 24 [vR 8 0, vI (st : Int)] (push (some (vI 1)) []) (P ρ3) = _
      rw [push_s, eX4_readLine_24, if_neg (by decide)]
    · intro τ hx hr _
      show ev N mX9_readsLine 25 [vR 30 0, vI (st : Int)] (push (some (vI 1)) []) (P τ) = _
      rw [push_s, eX9_readsLine_25, if_neg (by decide)]
    · rw [push_s, eX4_readLine_28, if_pos rfl]
    · rw [push_s, eX4_readLine_28, if_neg (by decide), if_pos rfl]
    · rw [push_n, eX9_readsLine_30, eX9_readsLine_53]
  refine LINE_congr ?_ ?_ (LINE_word (N := N) XTT cr3 3 (by decide) (fun r S2 => ev N mX4_readLine 32 [vR 8 0, vI (st : Int)] (push r []) S2) (fun r S2 => ev N mX9_readsLine 34 [vR 30 0, vI (st : Int)] (push r []) S2) ?_)
  · show ev N mX4_readLine 24 [vR 8 0, vI (st : Int)] (push (some (vI 0)) []) (P ρ3) = _
    rw [push_s, eX4_readLine_24, if_pos rfl]
    rfl
  · intro τ hx hr _
    show ev N mX9_readsLine 25 [vR 30 0, vI (st : Int)] (push (some (vI 0)) []) (P τ) = _
    rw [push_s, eX9_readsLine_25, if_pos rfl]
    rfl
  intro a4 ρ4 e4 ha4 cr4 s5_4 _ _
  have zw4 : ZW ρ4 := ZW_o zw3 (by rw [s5_4.1]) s5_4.2.2.2
  rcases ha4 with rfl | rfl
  case inr =>
    refine LINE_congr ?_ ?_ (LINE_then (line_tries (N := N) cr4 zw4 st hst) (fun r S2 => ev N mX4_readLine 36 [vR 8 0, vI (st : Int)] (push r []) S2) (fun r S2 => ev N mX9_readsLine 39 [vR 30 0, vI (st : Int)] (push r []) S2) (fun ρ => ?_) (fun ρ => ?_) (fun τ => ?_))
    · show ev N mX4_readLine 32 [vR 8 0, vI (st : Int)] (push (some (vI 1)) []) (P ρ4) = _
      rw [push_s, eX4_readLine_32, if_neg (by decide)]
    · intro τ hx hr _
      show ev N mX9_readsLine 34 [vR 30 0, vI (st : Int)] (push (some (vI 1)) []) (P τ) = _
      rw [push_s, eX9_readsLine_34, if_neg (by decide)]
    · rw [push_s, eX4_readLine_36, if_pos rfl]
    · rw [push_s, eX4_readLine_36, if_neg (by decide), if_pos rfl]
    · rw [push_n, eX9_readsLine_39, eX9_readsLine_53]
  refine LINE_congr ?_ ?_ (LINE_word (N := N) XTT cr4 4 (by decide) (fun r S2 => ev N mX4_readLine 40 [vR 8 0, vI (st : Int)] (push r []) S2) (fun r S2 => ev N mX9_readsLine 43 [vR 30 0, vI (st : Int)] (push r []) S2) ?_)
  · show ev N mX4_readLine 32 [vR 8 0, vI (st : Int)] (push (some (vI 0)) []) (P ρ4) = _
    rw [push_s, eX4_readLine_32, if_pos rfl]
    rfl
  · intro τ hx hr _
    show ev N mX9_readsLine 34 [vR 30 0, vI (st : Int)] (push (some (vI 0)) []) (P τ) = _
    rw [push_s, eX9_readsLine_34, if_pos rfl]
    rfl
  intro a5 ρ5 e5 ha5 cr5 s5_5 _ _
  have zw5 : ZW ρ5 := ZW_o zw4 (by rw [s5_5.1]) s5_5.2.2.2
  rcases ha5 with rfl | rfl
  case inr =>
    refine LINE_congr ?_ ?_ (LINE_then (line_watch (N := N) cr5 zw5 st hst) (fun r S2 => ev N mX4_readLine 44 [vR 8 0, vI (st : Int)] (push r []) S2) (fun r S2 => ev N mX9_readsLine 48 [vR 30 0, vI (st : Int)] (push r []) S2) (fun ρ => ?_) (fun ρ => ?_) (fun τ => ?_))
    · show ev N mX4_readLine 40 [vR 8 0, vI (st : Int)] (push (some (vI 1)) []) (P ρ5) = _
      rw [push_s, eX4_readLine_40, if_neg (by decide)]
    · intro τ hx hr _
      show ev N mX9_readsLine 43 [vR 30 0, vI (st : Int)] (push (some (vI 1)) []) (P τ) = _
      rw [push_s, eX9_readsLine_43, if_neg (by decide)]
    · rw [push_s, eX4_readLine_44, if_pos rfl]
    · rw [push_s, eX4_readLine_44, if_neg (by decide), if_pos rfl]
    · rw [push_n, eX9_readsLine_48, eX9_readsLine_53]
  refine LINE_congr ?_ ?_ (LINE_fail (N := N) XTT cr5 st 1 hst (by decide) (fun r S2 => ev N mX4_readLine 49 [vR 8 0, vI (st : Int)] (push r []) S2) (fun r S2 => ev N mX9_readsLine 53 [vR 30 0, vI (st : Int)] (push r []) S2) (fun ρ => ?_) ?_)
  · show ev N mX4_readLine 40 [vR 8 0, vI (st : Int)] (push (some (vI 0)) []) (P ρ5) = _
    rw [push_s, eX4_readLine_40, if_pos rfl]
    rfl
  · intro τ hx hr _
    show ev N mX9_readsLine 43 [vR 30 0, vI (st : Int)] (push (some (vI 0)) []) (P τ) = _
    rw [push_s, eX9_readsLine_43, if_pos rfl]
    rfl
  · rw [push_s, eX4_readLine_49, if_pos rfl]
  · intro τ hx h3 _ _ _
    exact ⟨τ, by show ev N mX9_readsLine 53 [vR 30 0, vI (st : Int)] (push none []) (P τ) = _; rw [push_n, eX9_readsLine_53], MFr_refl τ, rfl⟩
end IMG
