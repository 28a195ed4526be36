/-! IMAGES: the model's ways, behind a fault and without -/
section IMG
variable {N n : Nat} {T : Vec} {σ : Sto} {p : Nat}
def Z : Vec := fun _ => 0
theorem fill_img (b : Vec) (a : Nat) : fill b a 14 0 = img Z b a := rfl
theorem m_zero (x1 : Int) (a : Nat) (ha : a ≤ 84) (τ : Sto) : ev N mX9_readsImage 15 [vR 30 0, vI x1, vI (a : Int), vI 0] [] (P τ) = ev N mX9_readsImage 15 [vR 30 0, vI x1, vI (a : Int), vI 14] [] (P (row τ 37 0 (img Z (τ 37 0) a))) := by
  have lp : ∀ (m k : Nat) (τ : Sto), k + m = 14 → ev N mX9_readsImage 15 [vR 30 0, vI x1, vI (a : Int), vI (k : Int)] [] (P τ) = ev N mX9_readsImage 15 [vR 30 0, vI x1, vI (a : Int), vI 14] [] (P (row τ 37 0 (fill (τ 37 0) (a + k) m 0))) := by
    intro m
    induction m with
    | zero =>
      intro k τ hk
      have e : k = 14 := by omega
      subst e
      rw [fill_0, row_id]
      rfl
    | succ m ih =>
      intro k τ hk
      have hk14 : k < 14 := by omega
      obtain ⟨n1, n2, n3, n4⟩ := i_n (a := a) (i := k) ha hk14
      have e1 : w32 ((k : Int) + 1) = ((k + 1 : Nat) : Int) := by rw [w32i (by omega) (by omega)]; omega
      have kl : (k : Int) < 14 := by omega
      have hm : k + 1 + m = 14 := by omega
      rw [eX9_readsImage_15, if_pos kl, n1, if_neg n2, if_pos n3, e1, sup_row, ih (k + 1) _ hm, row_same, row_row, Int.toNat_natCast, show a + (k + 1) = a + k + 1 from rfl, fill_s]
  have z := lp 14 0 τ rfl
  rw [Nat.add_zero, fill_img] at z
  exact z
theorem m_sg_step (x0 : Int) (b k : Nat) (h : Int) (hk : k < 5) (hb : b + 4 < 98) (h0 : 0 ≤ h) (h1 : h < 100000) (w0 : 0 ≤ σ 37 0 (b + k)) (w1 : σ 37 0 (b + k) < 2147483648) : ev N mX9_signOf 7 [vI x0, vR 37 0, vI (b : Int), vJ h, vX, vI (k : Int)] [] (P σ) = ev N mX9_signOf 7 [vI x0, vR 37 0, vI (b : Int), vJ ((h * 31 + σ 37 0 (b + k)) % 65536), vX, vI ((k + 1 : Nat) : Int)] [] (P σ) := by
  have e1 : w32 ((b : Int) + (k : Int)) = ((b + k : Nat) : Int) := by rw [w32i (by omega) (by omega)]; omega
  have e2 : w32 ((k : Int) + 1) = ((k + 1 : Nat) : Int) := by rw [w32i (by omega) (by omega)]; omega
  have t : Int.tmod (h * 31 + σ 37 0 (b + k)) 65536 = (h * 31 + σ 37 0 (b + k)) % 65536 := Int.tmod_eq_emod_of_nonneg (by omega)
  have e3 : w64 (h * 31) = h * 31 := w64i (by omega) (by omega)
  have e4 : w64 (h * 31 + σ 37 0 (b + k)) = h * 31 + σ 37 0 (b + k) := w64i (by omega) (by omega)
  rw [eX9_signOf_7_k37, e1, if_pos (by omega), if_neg (by omega), if_pos (by omega), Int.toNat_natCast, e3, e4, t, e2]
theorem m_signOf37 (s : Int) (b : Nat) (hb : b + 4 < 98) (hs : 0 ≤ s ∧ s < 10000) (hw : ∀ k, k < 5 → 0 ≤ σ 37 0 (b + k) ∧ σ 37 0 (b + k) < 2147483648) : inv N mX9_signOf [vI s, vR 37 0, vI (b : Int)] (P σ) = some (some (vI (sgn s (σ 37 0 b) (σ 37 0 (b + 1)) (σ 37 0 (b + 2)) (σ 37 0 (b + 3)) (σ 37 0 (b + 4)))), P σ) := by
  have st := fun (k : Nat) (h : Int) (hk : k < 5) (h0 : 0 ≤ h) (h1 : h < 100000) => m_sg_step (N := N) (σ := σ) s b k h hk hb h0 h1 (hw k hk).1 (hw k hk).2
  have r : ∀ x : Int, 0 ≤ x % 65536 ∧ x % 65536 < 100000 := fun x => by omega
  rw [iX9_signOf_k37, eX9_signOf_0_k37, w32i (x := s + 7) (by omega) (by omega)]
  have st0 := st 0 (s + 7) (by omega) (by omega) (by omega)
  rw [Int.cast_ofNat_Int, Nat.add_zero] at st0
  rw [st0, st 1 _ (by omega) (r _).1 (r _).2, st 2 _ (by omega) (r _).1 (r _).2, st 3 _ (by omega) (r _).1 (r _).2, st 4 _ (by omega) (r _).1 (r _).2, eX9_signOf_7_k37, if_neg (by omega), w32i (Int.le_trans (by omega) (r _).1) (Int.lt_of_lt_of_le (r _).2 (by omega))]
  rfl
theorem m_digs (a : Nat) (ha : a ≤ 84) (b : Vec) (x2 x3 : Int) : ∀ (m : Nat) (w : Vec) (d : Int) (τ : Sto), m ≤ 4 → τ 37 0 = img w b a → (∀ j, 0 ≤ w j ∧ w j < 100000) → 0 ≤ d ∧ d < 65536 → ev N mX9_readsParts 64 [vR 30 0, vI (a : Int), vI x2, vI x3, vI d, vI ((m : Int) - 1)] [] (P τ) = some (none, P (row τ 37 0 (img (set (digL m w d).1 4 (digL m w d).2) b a))) := by
  intro m
  induction m with
  | zero =>
    intro w d τ _ h _ _
    obtain ⟨n1, n2, n3, n4⟩ := i_n (a := a) (i := 4) ha (by decide)
    simp only [Int.cast_ofNat_Int] at n1
    rw [eX9_readsParts_64, if_pos (by decide), n1, if_neg n2, if_pos n3, sup_row, Int.toNat_natCast, h, img_set _ _ _ (by decide)]
    rfl
  | succ m ih =>
    intro w d τ hm h hw hd
    have e0 : ((m + 1 : Nat) : Int) - 1 = (m : Int) := by omega
    have e1 : w32 ((m : Int) + -1) = (m : Int) - 1 := by rw [w32i (by omega) (by omega)]; omega
    have k7 := i_k (a := a) (k := m) (c := 7) ha (by omega) (Or.inr rfl)
    have k6 := i_k (a := a) (k := m) (c := 6) ha (by omega) (Or.inl rfl)
    have nn : ¬ (m : Int) < 0 := by omega
    have i7 : 7 + 2 * m < 14 := by omega
    have i6 : 6 + 2 * m < 14 := by omega
    have i67 : 6 + 2 * m ≠ 7 + 2 * m := by omega
    have m4 : m ≤ 4 := by omega
    obtain ⟨-, n2, n3, n4⟩ := i_n (a := a) (i := 7 + 2 * m) ha i7
    obtain ⟨-, l2, l3, l4⟩ := i_n (a := a) (i := 6 + 2 * m) ha i6
    simp only [Int.cast_ofNat_Int] at k7 k6
    have wr := hw (6 + 2 * m)
    have dg := s9_digestOf (N := N) (σ := row τ 37 0 (img (set w (7 + 2 * m) d) b a)) (w (6 + 2 * m)) d wr.1 (Int.lt_trans wr.2 (by decide)) hd.1 (Int.lt_trans hd.2 (by decide))
    rw [e0, eX9_readsParts_64, if_neg nn, k7, if_neg n2, if_pos n3, k6, if_neg l2, if_pos l3, Int.toNat_natCast, Int.toNat_natCast, sup_row, h, img_set _ _ _ i7, row_same, img_at _ _ _ i6, set_ne _ _ i67, dg, bnd_s, push_s, eX9_readsParts_91, e1]
    have hw2 : ∀ j, 0 ≤ set w (7 + 2 * m) d j ∧ set w (7 + 2 * m) d j < 100000 := by
      intro j
      unfold set
      split
      · exact ⟨hd.1, Int.lt_trans hd.2 (by decide)⟩
      · exact hw j
    rw [ih (set w (7 + 2 * m) d) (dig (w (6 + 2 * m)) d) _ m4 (row_same _ _ _ _) hw2 (dig_r _ _), row_row]
    rfl
/-- digests of whatever stands there -/
theorem m_digs_bad (a : Nat) (ha : a ≤ 84) (x2 x3 : Int) : ∀ (m : Nat) (d : Int) (τ : Sto), m ≤ 4 → ∃ f : Vec, ev N mX9_readsParts 64 [vR 30 0, vI (a : Int), vI x2, vI x3, vI d, vI ((m : Int) - 1)] [] (P τ) = some (none, P (row τ 37 0 f)) := by
  intro m
  induction m with
  | zero =>
    intro d τ _
    obtain ⟨n1, n2, n3, n4⟩ := i_n (a := a) (i := 4) ha (by decide)
    simp only [Int.cast_ofNat_Int] at n1
    exact ⟨_, by rw [eX9_readsParts_64, if_pos (by decide), n1, if_neg n2, if_pos n3, sup_row]⟩
  | succ m ih =>
    intro d τ hm
    have e0 : ((m + 1 : Nat) : Int) - 1 = (m : Int) := by omega
    have e1 : w32 ((m : Int) + -1) = (m : Int) - 1 := by rw [w32i (by omega) (by omega)]; omega
    have k7 := i_k (a := a) (k := m) (c := 7) ha (by omega) (Or.inr rfl)
    have k6 := i_k (a := a) (k := m) (c := 6) ha (by omega) (Or.inl rfl)
    have nn : ¬ (m : Int) < 0 := by omega
    have i7 : 7 + 2 * m < 14 := by omega
    have i6 : 6 + 2 * m < 14 := by omega
    have m4 : m ≤ 4 := by omega
    obtain ⟨-, n2, n3, n4⟩ := i_n (a := a) (i := 7 + 2 * m) ha i7
    obtain ⟨-, l2, l3, l4⟩ := i_n (a := a) (i := 6 + 2 * m) ha i6
    simp only [Int.cast_ofNat_Int] at k7 k6
    have dg : ∀ (x y : Int) (ρ : Sto), ∃ z, inv N mX9_digestOf [vJ x, vJ y] (P ρ) = some (some (vI z), P ρ) := fun x y ρ => ⟨_, by rw [iX9_digestOf, eX9_digestOf_0]⟩
    rw [e0, eX9_readsParts_64, if_neg nn, k7, if_neg n2, if_pos n3, k6, if_neg l2, if_pos l3, sup_row]
    obtain ⟨z, hz⟩ := dg (row τ 37 0 (set (τ 37 0) ((a + (7 + 2 * m) : Nat) : Int).toNat d) 37 0 ((a + (6 + 2 * m) : Nat) : Int).toNat) d (row τ 37 0 (set (τ 37 0) ((a + (7 + 2 * m) : Nat) : Int).toNat d))
    rw [hz, bnd_s, push_s, eX9_readsParts_91, e1]
    obtain ⟨f, hf⟩ := ih z (row τ 37 0 (set (τ 37 0) ((a + (7 + 2 * m) : Nat) : Int).toNat d)) m4
    exact ⟨f, by rw [hf, row_row]⟩
/-- the end of an image's line behind a fault -/
theorem m_img80_bad {τ : Sto} (h3 : ¬ τ 30 0 3 = -1) (x1 x2 x3 : Int) : ∃ τ2, ev N mX9_readsImage 80 [vR 30 0, vI x1, vI x2, vI x3] [] (P τ) = some (none, P τ2) ∧ MFr τ τ2 ∧ τ2 30 0 3 = τ 30 0 3 := by
  refine ⟨row τ 30 0 (set (τ 30 0) 8 (w32 (τ 30 0 8 + 1))), ?_, MFr_30 τ _ (fun j _ _ _ _ z _ => set_ne _ _ z), by rw [row_same, set_ne _ _ (by decide)]⟩
  rw [eX9_readsImage_80, m_right, if_neg h3, bnd_s, push_s, eX9_readsImage_82, if_pos rfl, sup_row]
theorem m_img74_bad {τ : Sto} (h3 : ¬ τ 30 0 3 = -1) (x1 x2 x3 : Int) : ∃ τ2, ev N mX9_readsImage 74 [vR 30 0, vI x1, vI x2, vI x3] [] (P τ) = some (none, P τ2) ∧ MFr τ τ2 ∧ τ2 30 0 3 = τ 30 0 3 := by
  obtain ⟨τ2, a, b⟩ := m_img80_bad (N := N) h3 x1 x2 x3
  exact ⟨τ2, by rw [eX9_readsImage_74, m_right, if_neg h3, bnd_s, push_s, eX9_readsImage_76, if_pos rfl, a], b⟩
theorem m_img62_bad {τ : Sto} (h3 : ¬ τ 30 0 3 = -1) (x1 x2 x3 : Int) : ∃ τ2, ev N mX9_readsImage 62 [vR 30 0, vI x1, vI x2, vI x3] [] (P τ) = some (none, P τ2) ∧ MFr τ τ2 ∧ τ2 30 0 3 = τ 30 0 3 := by
  obtain ⟨τ2, a, b⟩ := m_img74_bad (N := N) h3 x1 x2 x3
  exact ⟨τ2, by rw [eX9_readsImage_62, m_right, if_neg h3, bnd_s, push_s, eX9_readsImage_64, if_pos rfl, a], b⟩
/-- revoked keys, parts: what is done behind a fault -/
theorem m_rev_bad {τ : Sto} (h3 : ¬ τ 30 0 3 = -1) {e : Nat} (he : e ≤ 300) (h2 : τ 30 0 2 = (e : Int)) (a : Nat) (ha : a ≤ 84) (k : Nat) (x4 : Int) : ∃ τ2, ev N mX9_readsRevoked 25 [vR 30 0, vI (a : Int), vI (k : Int), vI 1, vI x4] [] (P τ) = some (none, P τ2) ∧ MFr τ τ2 ∧ τ2 30 0 3 = τ 30 0 3 := by
  obtain ⟨n1, n2, n3, n4⟩ := i_n (a := a) (i := 2) ha (by decide)
  simp only [Int.cast_ofNat_Int] at n1
  have ee : w32 ((e : Int) + 0) = (e : Int) := by rw [w32i (by omega) (by omega)]; omega
  have r := m_right (N := N) (σ := τ)
  rw [if_neg h3] at r
  have r2 := fun f => m_right (N := N) (σ := row τ 37 0 f)
  have e30 : ∀ f, row τ 37 0 f 30 0 = τ 30 0 := fun _ => rfl
  simp only [e30, if_neg h3] at r2
  refine ⟨row τ 37 0 (set (τ 37 0) (a + 2) (bOr (τ 37 0 (a + 2)) 0)), ?_, MFr_row τ 37 _ (by decide), rfl⟩
  have id30 : row (row τ 37 0 (set (τ 37 0) (a + 2) (bOr (τ 37 0 (a + 2)) 0))) 30 0 (set (τ 30 0) 2 (e : Int)) = row τ 37 0 (set (τ 37 0) (a + 2) (bOr (τ 37 0 (a + 2)) 0)) := by
    rw [← h2, set_id, row_comm _ 37 0 30 0 _ _ (by decide), row_id]
  rw [eX9_readsRevoked_25, n1, if_neg n2, if_pos n3, Int.toNat_natCast, r, bnd_s, push_s, eX9_readsRevoked_34, if_pos rfl, if_neg n2, if_pos n3, Int.toNat_natCast, sup_row, r2, bnd_s, push_s, eX9_readsRevoked_45, if_pos rfl, s9_truth, if_pos rfl, bnd_s, push_s, eX9_readsRevoked_59, sup_row, e30, h2, ee, id30, eX9_readsRevoked_4, if_pos rfl]
theorem m_parts_bad {τ : Sto} (hx : MX n T τ) (h3 : ¬ τ 30 0 3 = -1) {e : Nat} (he : e ≤ n) (h2 : τ 30 0 2 = (e : Int)) (a : Nat) (ha : a ≤ 84) (k : Nat) (hk : k ≤ 4) (x4 : Int) : ∃ τ2, ev N mX9_readsParts 22 [vR 30 0, vI (a : Int), vI (k : Int), vI 1, vI x4, vX] [] (P τ) = some (none, P τ2) ∧ MFr τ τ2 ∧ τ2 30 0 3 = τ 30 0 3 := by
  obtain ⟨n1, n2, n3, n4⟩ := i_n (a := a) (i := 3) ha (by decide)
  simp only [Int.cast_ofNat_Int] at n1
  have ek : w32 ((k : Int) - 1) = (k : Int) - 1 := w32i (by omega) (by omega)
  have r := m_right (N := N) (σ := τ)
  rw [if_neg h3] at r
  have mn := m_next (N := N) hx he h2
  have r2 := m_right (N := N) (σ := row τ 30 0 (set (τ 30 0) 2 (SK n T e : Int)))
  rw [row_same, set_ne _ _ (show 3 ≠ 2 by decide), if_neg h3] at r2
  obtain ⟨f, hf⟩ := m_digs_bad (N := N) a ha (k : Int) 0 k 0 (row (row τ 30 0 (set (τ 30 0) 2 (SK n T e : Int))) 37 0 (set (τ 37 0) (a + 3) (k : Int))) hk
  have e37 : ∀ f, row τ 30 0 f 37 0 = τ 37 0 := fun _ => rfl
  rw [row_row] at hf
  refine ⟨row (row τ 30 0 (set (τ 30 0) 2 (SK n T e : Int))) 37 0 f, ?_, MFr_trans (MFr_30 τ _ (fun j z _ _ _ _ _ => set_ne _ _ z)) (MFr_row _ 37 _ (by decide)), ?_⟩
  · rw [eX9_readsParts_22, r, bnd_s, push_s, eX9_readsParts_24, if_pos rfl, mn, bnd_s, push_s, eX9_readsParts_39, r2, bnd_s, push_s, eX9_readsParts_42, if_pos rfl, eX9_readsParts_4, if_pos rfl, n1, if_neg n2, if_pos n3, Int.toNat_natCast, sup_row, e37, ek, hf]
  · show set (τ 30 0) 2 (SK n T e : Int) 3 = τ 30 0 3
    exact set_ne _ _ (by decide)
end IMG
