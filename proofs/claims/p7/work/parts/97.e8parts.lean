/-! IMAGES: the end of a line, its parts -/
def XW (a : Nat) (w : Vec) (τ : Sto) : Prop := ∀ j, j < 14 → τ 37 0 (a + j) = w j
theorem XW_S (a : Nat) (w : Vec) : ∀ τ f, XW a w τ → XW a w (row τ 30 0 f) := fun _ _ h => h
theorem addW_eq {c w : Vec} (cw6 : ∀ j, 6 ≤ j → c j = w j) {ver key rev : Int} (w0 : w 0 = ver + 1) (w1 : w 1 = key) (w2 : w 2 = rev) (m : Nat) (sg : Int) (i : Nat) : addW c m ver key rev sg i = set (set (digL m (set w 3 (m : Int)) 0).1 4 (digL m (set w 3 (m : Int)) 0).2) 5 sg i := by
  have e := digL_eq m c (set w 3 (m : Int)) 0 (fun j hj => by rw [set_ne _ _ (by omega)]; exact cw6 j hj)
  have lo := fun j (hj : j < 6) => digL_lo m (set w 3 (m : Int)) 0 hj
  unfold addW
  rw [e.1]
  generalize (digL m c 0).1 = D at e
  generalize digL m (set w 3 (m : Int)) 0 = E at e lo
  by_cases q : 6 ≤ i
  · rw [set_ne _ _ (by omega), set_ne _ _ (by omega), set_ne _ _ (by omega), set_ne _ _ (by omega), set_ne _ _ (by omega), set_ne _ _ (by omega), set_ne _ _ (by omega), set_ne _ _ (by omega)]
    exact e.2 i q
  · rcases (show i = 0 ∨ i = 1 ∨ i = 2 ∨ i = 3 ∨ i = 4 ∨ i = 5 by omega) with rfl | rfl | rfl | rfl | rfl | rfl
    · show ver + 1 = E.1 0
      rw [lo 0 (by decide), set_ne _ _ (by decide), w0]
    · show key = E.1 1
      rw [lo 1 (by decide), set_ne _ _ (by decide), w1]
    · show rev = E.1 2
      rw [lo 2 (by decide), set_ne _ _ (by decide), w2]
    · show (m : Int) = E.1 3
      rw [lo 3 (by decide), set_same]
    · rfl
    · rfl
theorem addW_r {c : Vec} (cr : ∀ j, 0 ≤ c j ∧ c j < 100000) {ver key rev sg : Int} (hv : 0 ≤ ver ∧ ver ≤ 30) (hk : 0 ≤ key ∧ key < 6) (hr : 0 ≤ rev ∧ rev < 100000) {m : Nat} (hm : m ≤ 4) (hs : 0 ≤ sg ∧ sg < 65536) (i : Nat) : 0 ≤ addW c m ver key rev sg i ∧ addW c m ver key rev sg i < 100000 := by
  have d := digL_r m c 0 (by decide) cr
  unfold addW
  generalize digL m c 0 = D at d
  have d2 := d.2 i
  have d1 := d.1
  clear d cr
  unfold set
  split
  · omega
  split
  · omega
  split
  · omega
  split
  · omega
  split
  · omega
  split
  · omega
  · exact d2
theorem sgn_r (s a b c d e : Int) : 0 ≤ sgn s a b c d e ∧ sgn s a b c d e < 65536 := by
  unfold sgn
  generalize ((((((((s + 7) * 31 + a) % 65536) * 31 + b) % 65536) * 31 + c) % 65536) * 31 + d) % 65536 = x
  omega
section IMG
variable {N n : Nat} {T : Vec} {σ : Sto} {p : Nat}
theorem end_n {I m : Nat} (hI : I < 6) (hm : m ≤ 4) (m1 : 1 ≤ m) : 14 * I ≤ 84 ∧ 14 * I + 4 < 98 ∧ ¬ (m : Int) = -1 ∧ w32 ((m : Int) - 1) = (m : Int) - 1 ∧ w32 ((I : Int) + 1) = ((I + 1 : Nat) : Int) ∧ (I : Int) < 6 := by
  refine ⟨by omega, by omega, by omega, w32i (by omega) (by omega), ?_, by omega⟩
  rw [w32i (by omega) (by omega)]; omega
theorem i1_n {I : Nat} (hI : I < 6) : 0 ≤ ((I + 1 : Nat) : Int) ∧ ((I + 1 : Nat) : Int) ≤ 6 := by omega
theorem j1_n {I j : Nat} (h : 14 * ((I + 1 : Nat) : Int) ≤ (j : Int)) : 14 * (I + 1) ≤ j ∧ 14 * I + 14 ≤ j := by omega
theorem j1_lt {I j : Nat} (h : (j : Int) < 14 * ((I + 1 : Nat) : Int)) (q : ¬ (14 * I ≤ j ∧ j < 14 * I + 14)) : (j : Int) < 14 * (I : Int) := by omega
theorem kt_n {key : Int} (h : 0 ≤ key ∧ key < 6) : key.toNat < 6 := by omega
theorem v1_n {v : Int} (h : 0 ≤ v ∧ v ≤ 30) : 0 ≤ v + 1 ∧ v + 1 < 2147483648 := by omega
theorem m1_n {m : Nat} (h : m ≤ 4) : (0 ≤ (m : Int) ∧ (m : Int) < 100000) ∧ 0 ≤ (m : Int) ∧ (m : Int) < 2147483648 := by omega
theorem k5_n {k : Nat} (h : k < 5) : k < 14 ∧ (k = 0 ∨ k = 1 ∨ k = 2 ∨ k = 3 ∨ k = 4) := by omega
theorem image_end (h : CR n T p σ) {I : Nat} (hI : I < 6) (hi : σ 2 0 1 = (I : Int)) (zw : ∀ j : Nat, 14 * (I + 1) ≤ j → j < 84 → σ 5 0 j = 0) {c w : Vec} (hc : ∀ j, j < 14 → σ 5 0 (14 * I + j) = c j) (cw6 : ∀ j, 6 ≤ j → c j = w j) (cr : ∀ j, 0 ≤ c j ∧ c j < 100000) {ver key rev : Int} (w0 : w 0 = ver + 1) (w1 : w 1 = key) (w2 : w 2 = rev) (wr : ∀ j, 0 ≤ w j ∧ w j < 100000) (hv : 0 ≤ ver ∧ ver ≤ 30) (hk : 0 ≤ key ∧ key < σ 2 0 0) (m : Nat) (m1 : 1 ≤ m) (hm : m ≤ 4) (x3 st : Int) (x4 : MV) : LINE n T σ (XW (14 * I) w) (ev N mX4_readImage 60 [vR 8 0, vI st, vI ver, vI key, vI rev, vX] [vI (m : Int)] (P σ)) (fun τ => bnd (ev N mX9_readsParts 4 [vR 30 0, vI ((14 * I : Nat) : Int), vI (m : Int), vI 0, x4, vX] [] (P τ)) (fun r S2 => ev N mX9_readsImage 80 [vR 30 0, vI st, vI ((14 * I : Nat) : Int), vI x3] (push r []) S2)) := by
  obtain ⟨a84, a98, mz, em, eI, I6⟩ := end_n hI hm m1
  have hk6 : 0 ≤ key ∧ key < 6 := ⟨hk.1, Int.lt_of_lt_of_le hk.2 h.2.2.2.2.1.2⟩
  have hsec := h.2.2.2.2.2.2.2.2.2.1.1
  have hrev : 0 ≤ rev ∧ rev < 100000 := by rw [← w2]; exact wr 2
  have ca := c_addImage (N := N) I hI hi c hc m hm ver key rev hv hk6 hsec
  have sr := sgn_r (σ 3 0 key.toNat) (ver + 1) key rev (m : Int) (digL m c 0).2
  change 0 ≤ sgW (σ 3 0) c m ver key rev ∧ sgW (σ 3 0) c m ver key rev < 65536 at sr
  have Ar := addW_r cr hv hk6 hrev hm sr
  have Ae := addW_eq cw6 w0 w1 w2 m (sgW (σ 3 0) c m ver key rev)
  have dE := digL_eq m c (set w 3 (m : Int)) 0 (fun j hj => by rw [set_ne _ _ (Nat.ne_of_gt (Nat.lt_of_lt_of_le (by decide) hj))]; exact cw6 j hj)
  have lo := fun j (hj : j < 6) => digL_lo m (set w 3 (m : Int)) 0 hj
  have sgE : sgW (σ 3 0) c m ver key rev = sgn (σ 3 0 key.toNat) (ver + 1) key rev (m : Int) (digL m (set w 3 (m : Int)) 0).2 := by
    unfold sgW
    rw [dE.1]
  generalize sgW (σ 3 0) c m ver key rev = sg at ca sr Ar Ae sgE
  generalize addW c m ver key rev sg = A at ca Ar Ae
  have mdl := fun (b : Vec) (τ : Sto) (hb : τ 37 0 = img (set w 3 (m : Int)) b (14 * I)) => m_digs (N := N) (14 * I) a84 b (m : Int) 0 m (set w 3 (m : Int)) 0 τ hm hb (fun j => by
    unfold set
    split
    · exact (m1_n hm).1
    · exact wr j) (by decide)
  generalize digL m (set w 3 (m : Int)) 0 = E at Ae dE lo sgE mdl
  refine LINE_ok p (σ2 := row (row σ 5 0 (img A (σ 5 0) (14 * I))) 2 0 (set (σ 2 0) 1 ((I + 1 : Nat) : Int))) ?_ (CFr_trans (CFr_row σ 5 _ (by decide)) (CFr_row _ 2 _ (by decide))) ?_ ?_ rfl (fun τ hx hr hX => ?_)
  · rw [eX4_readImage_60, if_neg mz, ca, bnd_s, push_n, eX4_readImage_73]
  · obtain ⟨ct, hp, h3, h4, a, b, c2, d, e, ⟨f1, f2⟩, i, k⟩ := h
    refine ⟨ct, hp, h3, h4, a, ?_, c2, d, e, ⟨f1, fun j hj => ?_⟩, i, k⟩
    · show 0 ≤ ((I + 1 : Nat) : Int) ∧ ((I + 1 : Nat) : Int) ≤ 6
      exact i1_n hI
    · show 0 ≤ img A (σ 5 0) (14 * I) j ∧ img A (σ 5 0) (14 * I) j < 100000
      unfold img
      split
      · exact Ar _
      · exact f2 j hj
  · intro j hj hj2
    change 14 * ((I + 1 : Nat) : Int) ≤ (j : Int) at hj
    obtain ⟨hj3, hj4⟩ := j1_n hj
    show img A (σ 5 0) (14 * I) j = 0
    rw [img_out _ _ _ (Or.inr hj4)]
    exact zw j hj3 hj2
  · have hw : τ 37 0 = img w (τ 37 0) (14 * I) := img_of hX
    obtain ⟨r2, r3, r7, r8, rk, rw', r39a, r39b, r39c, r9⟩ := hr
    obtain ⟨n31, n32, n33, n34⟩ := i_n (a := 14 * I) (i := 3) a84 (by decide)
    obtain ⟨n11, n12, n13, n14⟩ := i_n (a := 14 * I) (i := 1) a84 (by decide)
    obtain ⟨n51, n52, n53, n54⟩ := i_n (a := 14 * I) (i := 5) a84 (by decide)
    simp only [Int.cast_ofNat_Int] at n31 n11 n51
    have s3 : set (τ 37 0) (14 * I + 3) (m : Int) = img (set w 3 (m : Int)) (τ 37 0) (14 * I) := by
      conv => lhs; rw [hw]
      exact img_set _ _ _ (by decide) _
    have md := mdl (τ 37 0) (row τ 37 0 (img (set w 3 (m : Int)) (τ 37 0) (14 * I))) (row_same _ _ _ _)
    rw [row_row] at md
    have F1 : set E.1 4 E.2 1 = key := by rw [set_ne _ _ (by decide), lo 1 (by decide), set_ne _ _ (by decide), w1]
    have F0 : set E.1 4 E.2 0 = ver + 1 := by rw [set_ne _ _ (by decide), lo 0 (by decide), set_ne _ _ (by decide), w0]
    have F2 : set E.1 4 E.2 2 = rev := by rw [set_ne _ _ (by decide), lo 2 (by decide), set_ne _ _ (by decide), w2]
    have F3 : set E.1 4 E.2 3 = (m : Int) := by rw [set_ne _ _ (by decide), lo 3 (by decide), set_same]
    have F4 : set E.1 4 E.2 4 = E.2 := set_same _ _ _
    have e2r := sgn_r
    generalize hF : set E.1 4 E.2 = F at md F0 F1 F2 F3 F4 Ae
    have rt := m_right (N := N) (σ := row τ 37 0 (img F (τ 37 0) (14 * I)))
    have e30 : ∀ f, row τ 37 0 f 30 0 = τ 30 0 := fun _ => rfl
    have e34 : ∀ f, row τ 37 0 f 34 0 = τ 34 0 := fun _ => rfl
    rw [e30, if_pos r3] at rt
    have k34 := rk key.toNat (by rw [Int.toNat_of_nonneg hk.1]; exact hk.2)
    have i0 := img_at F (τ 37 0) (14 * I) (i := 0) (by decide)
    rw [Nat.add_zero] at i0
    have sgm := m_signOf37 (N := N) (σ := row τ 37 0 (img F (τ 37 0) (14 * I))) (τ 34 0 key.toNat) (14 * I) a98 (by
      rw [k34.1]
      exact hsec key.toNat (kt_n hk6)) (fun k hk5 => by
      rw [row_same, img_at _ _ _ (k5_n hk5).1]
      rcases (k5_n hk5).2 with rfl | rfl | rfl | rfl | rfl
      · rw [F0]; exact v1_n hv
      · rw [F1]; exact ⟨hk6.1, Int.lt_trans hk6.2 (by decide)⟩
      · rw [F2]; exact ⟨hrev.1, Int.lt_trans hrev.2 (by decide)⟩
      · rw [F3]; exact (m1_n hm).2
      · rw [F4, ← dE.1]
        have := (digL_r m c 0 (by decide) cr).1
        exact ⟨this.1, Int.lt_trans this.2 (by decide)⟩)
    rw [row_same, i0, img_at _ _ _ (show 1 < 14 by decide), img_at _ _ _ (show 2 < 14 by decide), img_at _ _ _ (show 3 < 14 by decide), img_at _ _ _ (show 4 < 14 by decide), F0, F1, F2, F3, F4, k34.1, ← sgE] at sgm
    have r8I : τ 30 0 8 = (I : Int) := r8.trans hi
    have key7 : ¬ key < 0 ∧ key < 7 := ⟨Int.not_lt.mpr hk.1, Int.lt_trans hk6.2 (by decide)⟩
    refine ⟨row (row τ 37 0 (img (set F 5 sg) (τ 37 0) (14 * I))) 30 0 (set (τ 30 0) 8 ((I + 1 : Nat) : Int)), ?_, ?_, ?_⟩
    · show bnd (ev N mX9_readsParts 4 [vR 30 0, vI ((14 * I : Nat) : Int), vI (m : Int), vI 0, x4, vX] [] (P τ)) (fun r S2 => ev N mX9_readsImage 80 [vR 30 0, vI st, vI ((14 * I : Nat) : Int), vI x3] (push r []) S2) = _
      rw [eX9_readsParts_4, if_pos rfl, n31, if_neg n32, if_pos n33, Int.toNat_natCast, sup_row, s3, em, md, bnd_s, push_n, eX9_readsImage_80, rt, bnd_s, push_s, eX9_readsImage_82, if_neg (by decide), n11, if_neg n12, if_pos n13, Int.toNat_natCast, row_same, img_at _ _ _ (show 1 < 14 by decide), F1, if_neg key7.1, if_pos key7.2, e34, k34.1, sgm, bnd_s, push_s, n51, eX9_readsImage_101, if_neg n52, if_pos n53, Int.toNat_natCast]
      simp only [sup_row, row_same, row_row, e30, r8I, eI]
      rw [img_set _ _ _ (by decide)]
    · exact MFr_trans (MFr_row τ 37 _ (by decide)) (MFr_30 _ _ (fun j a b c d e z => by rw [set_ne _ _ e, e30]))
    · refine ⟨?_, ?_, ?_, ?_, rk, fun j hj => ?_, r39a, r39b, r39c, ?_⟩
      · rw [row_same, set_ne _ _ (by decide)]; exact r2
      · rw [row_same, set_ne _ _ (by decide)]; exact r3
      · rw [row_same, set_ne _ _ (by decide)]; exact r7
      · rw [row_same, set_same]; rfl
      · change (j : Int) < 14 * ((I + 1 : Nat) : Int) at hj
        show img (set F 5 sg) (τ 37 0) (14 * I) j = img A (σ 5 0) (14 * I) j
        unfold img
        by_cases q : 14 * I ≤ j ∧ j < 14 * I + 14
        · rw [if_pos q, if_pos q]
          exact (Ae _).symm
        · rw [if_neg q, if_neg q]
          refine rw' j ?_
          rw [hi]
          exact j1_lt hj q
      · rw [row_same, set_ne _ _ (by decide)]; exact r9
end IMG
