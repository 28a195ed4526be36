section
/-! IMAGES: the model's ways, behind a fault and without -/
section IMG
variable {N n : Nat} {T : Vec} {σ : Sto} {p : Nat}
def Z : Vec := fun _ => 0
theorem fill_img (b : Vec) (a : Nat) : fill b a 14 0 = img Z b a := rfl
theorem m_zero (x1 : Int) (a : Nat) (ha : a ≤ 84) (τ : Sto) : ev N mX9_readsImage 15 [vR 30 0, vI x1, vI (a : Int), vI 0] [] (P τ) = ev N mX9_readsImage 15 [vR 30 0, vI x1, vI (a : Int), vI 14] [] (P (row τ 37 0 (img Z (τ 37 0) a))) := by
  have lp : ∀ (m k : Nat) (τ : Sto), k + m = 14 → ev N mX9_readsImage 15 [vR 30 0, vI x1, vI (a : Int), vI (k : Int)] [] (P τ) = ev N mX9_readsImage 15 [vR 30 0, vI x1, vI (a : Int), vI 14] [] (P (row τ 37 0 (fill (τ 37 0) (a + k) m 0))) := by
    intro m
    induction m with
    | zero =>
      intro k τ hk
      have e : k = 14 := by omega
      subst e
      rw [fill_0, row_id]
      rfl
    | succ m ih =>
      intro k τ hk
      have hk14 : k < 14 := by omega
      obtain ⟨n1, n2, n3, n4⟩ := i_n (a := a) (i := k) ha hk14
      have e1 : w32 ((k : Int) + 1) = ((k + 1 : Nat) : Int) := by rw [w32i (by omega) (by omega)]; omega
      have kl : (k : Int) < 14 := by omega
      have hm : k + 1 + m = 14 := by omega
      rw [eX9_readsImage_15, if_pos kl, n1, if_neg n2, if_pos n3, e1, sup_row, ih (k + 1) _ hm, row_same, row_row, Int.toNat_natCast, show a + (k + 1) = a + k + 1 from rfl, fill_s]
  have z := lp 14 0 τ rfl
  rw [Nat.add_zero, fill_img] at z
  exact z
theorem m_sg_step (x0 : Int) (b k : Nat) (h : Int) (hk : k < 5) (hb : b + 4 < 98) (h0 : 0 ≤ h) (h1 : h < 100000) (w0 : 0 ≤ σ 37 0 (b + k)) (w1 : σ 37 0 (b + k) < 2147483648) : ev N mX9_signOf 7 [vI x0, vR 37 0, vI (b : Int), vJ h, vX, vI (k : Int)] [] (P σ) = ev N mX9_signOf 7 [vI x0, vR 37 0, vI (b : Int), vJ ((h * 31 + σ 37 0 (b + k)) % 65536), vX, vI ((k + 1 : Nat) : Int)] [] (P σ) := by
  have e1 : w32 ((b : Int) + (k : Int)) = ((b + k : Nat) : Int) := by rw [w32i (by omega) (by omega)]; omega
  have e2 : w32 ((k : Int) + 1) = ((k + 1 : Nat) : Int) := by rw [w32i (by omega) (by omega)]; omega
  have t : Int.tmod (h * 31 + σ 37 0 (b + k)) 65536 = (h * 31 + σ 37 0 (b + k)) % 65536 := Int.tmod_eq_emod_of_nonneg (by omega)
  have e3 : w64 (h * 31) = h * 31 := w64i (by omega) (by omega)
  have e4 : w64 (h * 31 + σ 37 0 (b + k)) = h * 31 + σ 37 0 (b + k) := w64i (by omega) (by omega)
  rw [eX9_signOf_7_k37, e1, if_pos (by omega), if_neg (by omega), if_pos (by omega), Int.toNat_natCast, e3, e4, t, e2]
theorem m_signOf37 (s : Int) (b : Nat) (hb : b + 4 < 98) (hs : 0 ≤ s ∧ s < 10000) (hw : ∀ k, k < 5 → 0 ≤ σ 37 0 (b + k) ∧ σ 37 0 (b + k) < 2147483648) : inv N mX9_signOf [vI s, vR 37 0, vI (b : Int)] (P σ) = some (some (vI (sgn s (σ 37 0 b) (σ 37 0 (b + 1)) (σ 37 0 (b + 2)) (σ 37 0 (b + 3)) (σ 37 0 (b + 4)))), P σ) := by
  have st := fun (k : Nat) (h : Int) (hk : k < 5) (h0 : 0 ≤ h) (h1 : h < 100000) => m_sg_step (N := N) (σ := σ) s b k h hk hb h0 h1 (hw k hk).1 (hw k hk).2
  have r : ∀ x : Int, 0 ≤ x % 65536 ∧ x % 65536 < 100000 := fun x => by omega
  rw [iX9_signOf_k37, eX9_signOf_0_k37, w32i (x := s + 7) (by omega) (by omega)]
  have st0 := st 0 (s + 7) (by omega) (by omega) (by omega)
  rw [Int.cast_ofNat_Int, Nat.add_zero] at st0
  rw [st0, st 1 _ (by omega) (r _).1 (r _).2, st 2 _ (by omega) (r _).1 (r _).2, st 3 _ (by omega) (r _).1 (r _).2, st 4 _ (by omega) (r _).1 (r _).2, eX9_signOf_7_k37, if_neg (by omega), w32i (Int.le_trans (by omega) (r _).1) (Int.lt_of_lt_of_le (r _).2 (by omega))]
  rfl
theorem m_digs (a : Nat) (ha : a ≤ 84) (b : Vec) (x2 x3 : Int) : ∀ (m : Nat) (w : Vec) (d : Int) (τ : Sto), m ≤ 4 → τ 37 0 = img w b a → (∀ j, 0 ≤ w j ∧ w j < 100000) → 0 ≤ d ∧ d < 65536 → ev N mX9_readsParts 64 [vR 30 0, vI (a : Int), vI x2, vI x3, vI d, vI ((m : Int) - 1)] [] (P τ) = some (none, P (row τ 37 0 (img (set (digL m w d).1 4 (digL m w d).2) b a))) := by
  intro m
  induction m with
  | zero =>
    intro w d τ _ h _ _
    obtain ⟨n1, n2, n3, n4⟩ := i_n (a := a) (i := 4) ha (by decide)
    simp only [Int.cast_ofNat_Int] at n1
    rw [eX9_readsParts_64, if_pos (by decide), n1, if_neg n2, if_pos n3, sup_row, Int.toNat_natCast, h, img_set _ _ _ (by decide)]
    rfl
  | succ m ih =>
    intro w d τ hm h hw hd
    have e0 : ((m + 1 : Nat) : Int) - 1 = (m : Int) := by omega
    have e1 : w32 ((m : Int) + -1) = (m : Int) - 1 := by rw [w32i (by omega) (by omega)]; omega
    have k7 := i_k (a := a) (k := m) (c := 7) ha (by omega) (Or.inr rfl)
    have k6 := i_k (a := a) (k := m) (c := 6) ha (by omega) (Or.inl rfl)
    have nn : ¬ (m : Int) < 0 := by omega
    have i7 : 7 + 2 * m < 14 := by omega
    have i6 : 6 + 2 * m < 14 := by omega
    have i67 : 6 + 2 * m ≠ 7 + 2 * m := by omega
    have m4 : m ≤ 4 := by omega
    obtain ⟨-, n2, n3, n4⟩ := i_n (a := a) (i := 7 + 2 * m) ha i7
    obtain ⟨-, l2, l3, l4⟩ := i_n (a := a) (i := 6 + 2 * m) ha i6
    simp only [Int.cast_ofNat_Int] at k7 k6
    have wr := hw (6 + 2 * m)
    have dg := s9_digestOf (N := N) (σ := row τ 37 0 (img (set w (7 + 2 * m) d) b a)) (w (6 + 2 * m)) d wr.1 (Int.lt_trans wr.2 (by decide)) hd.1 (Int.lt_trans hd.2 (by decide))
    rw [e0, eX9_readsParts_64, if_neg nn, k7, if_neg n2, if_pos n3, k6, if_neg l2, if_pos l3, Int.toNat_natCast, Int.toNat_natCast, sup_row, h, img_set _ _ _ i7, row_same, img_at _ _ _ i6, set_ne _ _ i67, dg, bnd_s, push_s, eX9_readsParts_91, e1]
    have hw2 : ∀ j, 0 ≤ set w (7 + 2 * m) d j ∧ set w (7 + 2 * m) d j < 100000 := by
      intro j
      unfold set
      split
      · exact ⟨hd.1, Int.lt_trans hd.2 (by decide)⟩
      · exact hw j
    rw [ih (set w (7 + 2 * m) d) (dig (w (6 + 2 * m)) d) _ m4 (row_same _ _ _ _) hw2 (dig_r _ _), row_row]
    rfl
/-- digests of whatever stands there -/
theorem m_digs_bad (a : Nat) (ha : a ≤ 84) (x2 x3 : Int) : ∀ (m : Nat) (d : Int) (τ : Sto), m ≤ 4 → ∃ f : Vec, ev N mX9_readsParts 64 [vR 30 0, vI (a : Int), vI x2, vI x3, vI d, vI ((m : Int) - 1)] [] (P τ) = some (none, P (row τ 37 0 f)) := by
  intro m
  induction m with
  | zero =>
    intro d τ _
    obtain ⟨n1, n2, n3, n4⟩ := i_n (a := a) (i := 4) ha (by decide)
    simp only [Int.cast_ofNat_Int] at n1
    exact ⟨_, by rw [eX9_readsParts_64, if_pos (by decide), n1, if_neg n2, if_pos n3, sup_row]⟩
  | succ m ih =>
    intro d τ hm
    have e0 : ((m + 1 : Nat) : Int) - 1 = (m : Int) := by omega
    have e1 : w32 ((m : Int) + -1) = (m : Int) - 1 := by rw [w32i (by omega) (by omega)]; omega
    have k7 := i_k (a := a) (k := m) (c := 7) ha (by omega) (Or.inr rfl)
    have k6 := i_k (a := a) (k := m) (c := 6) ha (by omega) (Or.inl rfl)
    have nn : ¬ (m : Int) < 0 := by omega
    have i7 : 7 + 2 * m < 14 := by omega
    have i6 : 6 + 2 * m < 14 := by omega
    have m4 : m ≤ 4 := by omega
    obtain ⟨-, n2, n3, n4⟩ := i_n (a := a) (i := 7 + 2 * m) ha i7
    obtain ⟨-, l2, l3, l4⟩ := i_n (a := a) (i := 6 + 2 * m) ha i6
    simp only [Int.cast_ofNat_Int] at k7 k6
    have dg : ∀ (x y : Int) (ρ : Sto), ∃ z, inv N mX9_digestOf [vJ x, vJ y] (P ρ) = some (some (vI z), P ρ) := fun x y ρ => ⟨_, by rw [iX9_digestOf, eX9_digestOf_0]⟩
    rw [e0, eX9_readsParts_64, if_neg nn, k7, if_neg n2, if_pos n3, k6, if_neg l2, if_pos l3, sup_row]
    obtain ⟨z, hz⟩ := dg (row τ 37 0 (set (τ 37 0) ((a + (7 + 2 * m) : Nat) : Int).toNat d) 37 0 ((a + (6 + 2 * m) : Nat) : Int).toNat) d (row τ 37 0 (set (τ 37 0) ((a + (7 + 2 * m) : Nat) : Int).toNat d))
    rw [hz, bnd_s, push_s, eX9_readsParts_91, e1]
    obtain ⟨f, hf⟩ := ih z (row τ 37 0 (set (τ 37 0) ((a + (7 + 2 * m) : Nat) : Int).toNat d)) m4
    exact ⟨f, by rw [hf, row_row]⟩
/-- the end of an image's line behind a fault -/
theorem m_img80_bad {τ : Sto} (h3 : ¬ τ 30 0 3 = -1) (x1 x2 x3 : Int) : ∃ τ2, ev N mX9_readsImage 80 [vR 30 0, vI x1, vI x2, vI x3] [] (P τ) = some (none, P τ2) ∧ MFr τ τ2 ∧ τ2 30 0 3 = τ 30 0 3 := by
  refine ⟨row τ 30 0 (set (τ 30 0) 8 (w32 (τ 30 0 8 + 1))), ?_, MFr_30 τ _ (fun j _ _ _ _ z _ => set_ne _ _ z), by rw [row_same, set_ne _ _ (by decide)]⟩
  rw [eX9_readsImage_80, m_right, if_neg h3, bnd_s, push_s, eX9_readsImage_82, if_pos rfl, sup_row]
theorem m_img74_bad {τ : Sto} (h3 : ¬ τ 30 0 3 = -1) (x1 x2 x3 : Int) : ∃ τ2, ev N mX9_readsImage 74 [vR 30 0, vI x1, vI x2, vI x3] [] (P τ) = some (none, P τ2) ∧ MFr τ τ2 ∧ τ2 30 0 3 = τ 30 0 3 := by
  obtain ⟨τ2, a, b⟩ := m_img80_bad (N := N) h3 x1 x2 x3
  exact ⟨τ2, by rw [eX9_readsImage_74, m_right, if_neg h3, bnd_s, push_s, eX9_readsImage_76, if_pos rfl, a], b⟩
theorem m_img62_bad {τ : Sto} (h3 : ¬ τ 30 0 3 = -1) (x1 x2 x3 : Int) : ∃ τ2, ev N mX9_readsImage 62 [vR 30 0, vI x1, vI x2, vI x3] [] (P τ) = some (none, P τ2) ∧ MFr τ τ2 ∧ τ2 30 0 3 = τ 30 0 3 := by
  obtain ⟨τ2, a, b⟩ := m_img74_bad (N := N) h3 x1 x2 x3
  exact ⟨τ2, by rw [eX9_readsImage_62, m_right, if_neg h3, bnd_s, push_s, eX9_readsImage_64, if_pos rfl, a], b⟩
/-- revoked keys, parts: what is done behind a fault -/
theorem m_rev_bad {τ : Sto} (h3 : ¬ τ 30 0 3 = -1) {e : Nat} (he : e ≤ 300) (h2 : τ 30 0 2 = (e : Int)) (a : Nat) (ha : a ≤ 84) (k : Nat) (x4 : Int) : ∃ τ2, ev N mX9_readsRevoked 25 [vR 30 0, vI (a : Int), vI (k : Int), vI 1, vI x4] [] (P τ) = some (none, P τ2) ∧ MFr τ τ2 ∧ τ2 30 0 3 = τ 30 0 3 := by
  obtain ⟨n1, n2, n3, n4⟩ := i_n (a := a) (i := 2) ha (by decide)
  simp only [Int.cast_ofNat_Int] at n1
  have ee : w32 ((e : Int) + 0) = (e : Int) := by rw [w32i (by omega) (by omega)]; omega
  have r := m_right (N := N) (σ := τ)
  rw [if_neg h3] at r
  have r2 := fun f => m_right (N := N) (σ := row τ 37 0 f)
  have e30 : ∀ f, row τ 37 0 f 30 0 = τ 30 0 := fun _ => rfl
  simp only [e30, if_neg h3] at r2
  refine ⟨row τ 37 0 (set (τ 37 0) (a + 2) (bOr (τ 37 0 (a + 2)) 0)), ?_, MFr_row τ 37 _ (by decide), rfl⟩
  have id30 : row (row τ 37 0 (set (τ 37 0) (a + 2) (bOr (τ 37 0 (a + 2)) 0))) 30 0 (set (τ 30 0) 2 (e : Int)) = row τ 37 0 (set (τ 37 0) (a + 2) (bOr (τ 37 0 (a + 2)) 0)) := by
    rw [← h2, set_id, row_comm _ 37 0 30 0 _ _ (by decide), row_id]
  rw [eX9_readsRevoked_25, n1, if_neg n2, if_pos n3, Int.toNat_natCast, r, bnd_s, push_s, eX9_readsRevoked_34, if_pos rfl, if_neg n2, if_pos n3, Int.toNat_natCast, sup_row, r2, bnd_s, push_s, eX9_readsRevoked_45, if_pos rfl, s9_truth, if_pos rfl, bnd_s, push_s, eX9_readsRevoked_59, sup_row, e30, h2, ee, id30, eX9_readsRevoked_4, if_pos rfl]
theorem m_parts_bad {τ : Sto} (hx : MX n T τ) (h3 : ¬ τ 30 0 3 = -1) {e : Nat} (he : e ≤ n) (h2 : τ 30 0 2 = (e : Int)) (a : Nat) (ha : a ≤ 84) (k : Nat) (hk : k ≤ 4) (x4 : Int) : ∃ τ2, ev N mX9_readsParts 22 [vR 30 0, vI (a : Int), vI (k : Int), vI 1, vI x4, vX] [] (P τ) = some (none, P τ2) ∧ MFr τ τ2 ∧ τ2 30 0 3 = τ 30 0 3 := by
  obtain ⟨n1, n2, n3, n4⟩ := i_n (a := a) (i := 3) ha (by decide)
  simp only [Int.cast_ofNat_Int] at n1
  have ek : w32 ((k : Int) - 1) = (k : Int) - 1 := w32i (by omega) (by omega)
  have r := m_right (N := N) (σ := τ)
  rw [if_neg h3] at r
  have mn := m_next (N := N) hx he h2
  have r2 := m_right (N := N) (σ := row τ 30 0 (set (τ 30 0) 2 (SK n T e : Int)))
  rw [row_same, set_ne _ _ (show 3 ≠ 2 by decide), if_neg h3] at r2
  obtain ⟨f, hf⟩ := m_digs_bad (N := N) a ha (k : Int) 0 k 0 (row (row τ 30 0 (set (τ 30 0) 2 (SK n T e : Int))) 37 0 (set (τ 37 0) (a + 3) (k : Int))) hk
  have e37 : ∀ f, row τ 30 0 f 37 0 = τ 37 0 := fun _ => rfl
  rw [row_row] at hf
  refine ⟨row (row τ 30 0 (set (τ 30 0) 2 (SK n T e : Int))) 37 0 f, ?_, MFr_trans (MFr_30 τ _ (fun j z _ _ _ _ _ => set_ne _ _ z)) (MFr_row _ 37 _ (by decide)), ?_⟩
  · rw [eX9_readsParts_22, r, bnd_s, push_s, eX9_readsParts_24, if_pos rfl, mn, bnd_s, push_s, eX9_readsParts_39, r2, bnd_s, push_s, eX9_readsParts_42, if_pos rfl, eX9_readsParts_4, if_pos rfl, n1, if_neg n2, if_pos n3, Int.toNat_natCast, sup_row, e37, ek, hf]
  · show set (τ 30 0) 2 (SK n T e : Int) 3 = τ 30 0 3
    exact set_ne _ _ (by decide)
end IMG
end
section
/-! IMAGES: the end of a line, its parts -/
def XW (a : Nat) (w : Vec) (τ : Sto) : Prop := ∀ j, j < 14 → τ 37 0 (a + j) = w j
theorem XW_S (a : Nat) (w : Vec) : ∀ τ f, XW a w τ → XW a w (row τ 30 0 f) := fun _ _ h => h
theorem addW_eq {c w : Vec} (cw6 : ∀ j, 6 ≤ j → c j = w j) {ver key rev : Int} (w0 : w 0 = ver + 1) (w1 : w 1 = key) (w2 : w 2 = rev) (m : Nat) (sg : Int) (i : Nat) : addW c m ver key rev sg i = set (set (digL m (set w 3 (m : Int)) 0).1 4 (digL m (set w 3 (m : Int)) 0).2) 5 sg i := by
  have e := digL_eq m c (set w 3 (m : Int)) 0 (fun j hj => by rw [set_ne _ _ (by omega)]; exact cw6 j hj)
  have lo := fun j (hj : j < 6) => digL_lo m (set w 3 (m : Int)) 0 hj
  unfold addW
  rw [e.1]
  generalize (digL m c 0).1 = D at e
  generalize digL m (set w 3 (m : Int)) 0 = E at e lo
  by_cases q : 6 ≤ i
  · rw [set_ne _ _ (by omega), set_ne _ _ (by omega), set_ne _ _ (by omega), set_ne _ _ (by omega), set_ne _ _ (by omega), set_ne _ _ (by omega), set_ne _ _ (by omega), set_ne _ _ (by omega)]
    exact e.2 i q
  · rcases (show i = 0 ∨ i = 1 ∨ i = 2 ∨ i = 3 ∨ i = 4 ∨ i = 5 by omega) with rfl | rfl | rfl | rfl | rfl | rfl
    · show ver + 1 = E.1 0
      rw [lo 0 (by decide), set_ne _ _ (by decide), w0]
    · show key = E.1 1
      rw [lo 1 (by decide), set_ne _ _ (by decide), w1]
    · show rev = E.1 2
      rw [lo 2 (by decide), set_ne _ _ (by decide), w2]
    · show (m : Int) = E.1 3
      rw [lo 3 (by decide), set_same]
    · rfl
    · rfl
theorem addW_r {c : Vec} (cr : ∀ j, 0 ≤ c j ∧ c j < 100000) {ver key rev sg : Int} (hv : 0 ≤ ver ∧ ver ≤ 30) (hk : 0 ≤ key ∧ key < 6) (hr : 0 ≤ rev ∧ rev < 100000) {m : Nat} (hm : m ≤ 4) (hs : 0 ≤ sg ∧ sg < 65536) (i : Nat) : 0 ≤ addW c m ver key rev sg i ∧ addW c m ver key rev sg i < 100000 := by
  have d := digL_r m c 0 (by decide) cr
  unfold addW
  generalize digL m c 0 = D at d
  have d2 := d.2 i
  have d1 := d.1
  clear d cr
  unfold set
  split
  · omega
  split
  · omega
  split
  · omega
  split
  · omega
  split
  · omega
  split
  · omega
  · exact d2
theorem sgn_r (s a b c d e : Int) : 0 ≤ sgn s a b c d e ∧ sgn s a b c d e < 65536 := by
  unfold sgn
  generalize ((((((((s + 7) * 31 + a) % 65536) * 31 + b) % 65536) * 31 + c) % 65536) * 31 + d) % 65536 = x
  omega
section IMG
variable {N n : Nat} {T : Vec} {σ : Sto} {p : Nat}
theorem end_n {I m : Nat} (hI : I < 6) (hm : m ≤ 4) (m1 : 1 ≤ m) : 14 * I ≤ 84 ∧ 14 * I + 4 < 98 ∧ ¬ (m : Int) = -1 ∧ w32 ((m : Int) - 1) = (m : Int) - 1 ∧ w32 ((I : Int) + 1) = ((I + 1 : Nat) : Int) ∧ (I : Int) < 6 := by
  refine ⟨by omega, by omega, by omega, w32i (by omega) (by omega), ?_, by omega⟩
  rw [w32i (by omega) (by omega)]; omega
theorem i1_n {I : Nat} (hI : I < 6) : 0 ≤ ((I + 1 : Nat) : Int) ∧ ((I + 1 : Nat) : Int) ≤ 6 := by omega
theorem j1_n {I j : Nat} (h : 14 * ((I + 1 : Nat) : Int) ≤ (j : Int)) : 14 * (I + 1) ≤ j ∧ 14 * I + 14 ≤ j := by omega
theorem j1_lt {I j : Nat} (h : (j : Int) < 14 * ((I + 1 : Nat) : Int)) (q : ¬ (14 * I ≤ j ∧ j < 14 * I + 14)) : (j : Int) < 14 * (I : Int) := by omega
theorem kt_n {key : Int} (h : 0 ≤ key ∧ key < 6) : key.toNat < 6 := by omega
theorem v1_n {v : Int} (h : 0 ≤ v ∧ v ≤ 30) : 0 ≤ v + 1 ∧ v + 1 < 2147483648 := by omega
theorem m1_n {m : Nat} (h : m ≤ 4) : (0 ≤ (m : Int) ∧ (m : Int) < 100000) ∧ 0 ≤ (m : Int) ∧ (m : Int) < 2147483648 := by omega
theorem k5_n {k : Nat} (h : k < 5) : k < 14 ∧ (k = 0 ∨ k = 1 ∨ k = 2 ∨ k = 3 ∨ k = 4) := by omega
theorem image_end (h : CR n T p σ) {I : Nat} (hI : I < 6) (hi : σ 2 0 1 = (I : Int)) (zw : ∀ j : Nat, 14 * (I + 1) ≤ j → j < 84 → σ 5 0 j = 0) {c w : Vec} (hc : ∀ j, j < 14 → σ 5 0 (14 * I + j) = c j) (cw6 : ∀ j, 6 ≤ j → c j = w j) (cr : ∀ j, 0 ≤ c j ∧ c j < 100000) {ver key rev : Int} (w0 : w 0 = ver + 1) (w1 : w 1 = key) (w2 : w 2 = rev) (wr : ∀ j, 0 ≤ w j ∧ w j < 100000) (hv : 0 ≤ ver ∧ ver ≤ 30) (hk : 0 ≤ key ∧ key < σ 2 0 0) (m : Nat) (m1 : 1 ≤ m) (hm : m ≤ 4) (x3 st : Int) (x4 : MV) : LINE n T σ (XW (14 * I) w) (ev N mX4_readImage 60 [vR 8 0, vI st, vI ver, vI key, vI rev, vX] [vI (m : Int)] (P σ)) (fun τ => bnd (ev N mX9_readsParts 4 [vR 30 0, vI ((14 * I : Nat) : Int), vI (m : Int), vI 0, x4, vX] [] (P τ)) (fun r S2 => ev N mX9_readsImage 80 [vR 30 0, vI st, vI ((14 * I : Nat) : Int), vI x3] (push r []) S2)) := by
  obtain ⟨a84, a98, mz, em, eI, I6⟩ := end_n hI hm m1
  have hk6 : 0 ≤ key ∧ key < 6 := ⟨hk.1, Int.lt_of_lt_of_le hk.2 h.2.2.2.2.1.2⟩
  have hsec := h.2.2.2.2.2.2.2.2.2.1.1
  have hrev : 0 ≤ rev ∧ rev < 100000 := by rw [← w2]; exact wr 2
  have ca := c_addImage (N := N) I hI hi c hc m hm ver key rev hv hk6 hsec
  have sr := sgn_r (σ 3 0 key.toNat) (ver + 1) key rev (m : Int) (digL m c 0).2
  change 0 ≤ sgW (σ 3 0) c m ver key rev ∧ sgW (σ 3 0) c m ver key rev < 65536 at sr
  have Ar := addW_r cr hv hk6 hrev hm sr
  have Ae := addW_eq cw6 w0 w1 w2 m (sgW (σ 3 0) c m ver key rev)
  have dE := digL_eq m c (set w 3 (m : Int)) 0 (fun j hj => by rw [set_ne _ _ (Nat.ne_of_gt (Nat.lt_of_lt_of_le (by decide) hj))]; exact cw6 j hj)
  have lo := fun j (hj : j < 6) => digL_lo m (set w 3 (m : Int)) 0 hj
  have sgE : sgW (σ 3 0) c m ver key rev = sgn (σ 3 0 key.toNat) (ver + 1) key rev (m : Int) (digL m (set w 3 (m : Int)) 0).2 := by
    unfold sgW
    rw [dE.1]
  generalize sgW (σ 3 0) c m ver key rev = sg at ca sr Ar Ae sgE
  generalize addW c m ver key rev sg = A at ca Ar Ae
  have mdl := fun (b : Vec) (τ : Sto) (hb : τ 37 0 = img (set w 3 (m : Int)) b (14 * I)) => m_digs (N := N) (14 * I) a84 b (m : Int) 0 m (set w 3 (m : Int)) 0 τ hm hb (fun j => by
    unfold set
    split
    · exact (m1_n hm).1
    · exact wr j) (by decide)
  generalize digL m (set w 3 (m : Int)) 0 = E at Ae dE lo sgE mdl
  refine LINE_ok p (σ2 := row (row σ 5 0 (img A (σ 5 0) (14 * I))) 2 0 (set (σ 2 0) 1 ((I + 1 : Nat) : Int))) ?_ (CFr_trans (CFr_row σ 5 _ (by decide)) (CFr_row _ 2 _ (by decide))) ?_ ?_ rfl (fun τ hx hr hX => ?_)
  · rw [eX4_readImage_60, if_neg mz, ca, bnd_s, push_n, eX4_readImage_73]
  · obtain ⟨ct, hp, h3, h4, a, b, c2, d, e, ⟨f1, f2⟩, i, k⟩ := h
    refine ⟨ct, hp, h3, h4, a, ?_, c2, d, e, ⟨f1, fun j hj => ?_⟩, i, k⟩
    · show 0 ≤ ((I + 1 : Nat) : Int) ∧ ((I + 1 : Nat) : Int) ≤ 6
      exact i1_n hI
    · show 0 ≤ img A (σ 5 0) (14 * I) j ∧ img A (σ 5 0) (14 * I) j < 100000
      unfold img
      split
      · exact Ar _
      · exact f2 j hj
  · intro j hj hj2
    change 14 * ((I + 1 : Nat) : Int) ≤ (j : Int) at hj
    obtain ⟨hj3, hj4⟩ := j1_n hj
    show img A (σ 5 0) (14 * I) j = 0
    rw [img_out _ _ _ (Or.inr hj4)]
    exact zw j hj3 hj2
  · have hw : τ 37 0 = img w (τ 37 0) (14 * I) := img_of hX
    obtain ⟨r2, r3, r7, r8, rk, rw', r39a, r39b, r39c, r9⟩ := hr
    obtain ⟨n31, n32, n33, n34⟩ := i_n (a := 14 * I) (i := 3) a84 (by decide)
    obtain ⟨n11, n12, n13, n14⟩ := i_n (a := 14 * I) (i := 1) a84 (by decide)
    obtain ⟨n51, n52, n53, n54⟩ := i_n (a := 14 * I) (i := 5) a84 (by decide)
    simp only [Int.cast_ofNat_Int] at n31 n11 n51
    have s3 : set (τ 37 0) (14 * I + 3) (m : Int) = img (set w 3 (m : Int)) (τ 37 0) (14 * I) := by
      conv => lhs; rw [hw]
      exact img_set _ _ _ (by decide) _
    have md := mdl (τ 37 0) (row τ 37 0 (img (set w 3 (m : Int)) (τ 37 0) (14 * I))) (row_same _ _ _ _)
    rw [row_row] at md
    have F1 : set E.1 4 E.2 1 = key := by rw [set_ne _ _ (by decide), lo 1 (by decide), set_ne _ _ (by decide), w1]
    have F0 : set E.1 4 E.2 0 = ver + 1 := by rw [set_ne _ _ (by decide), lo 0 (by decide), set_ne _ _ (by decide), w0]
    have F2 : set E.1 4 E.2 2 = rev := by rw [set_ne _ _ (by decide), lo 2 (by decide), set_ne _ _ (by decide), w2]
    have F3 : set E.1 4 E.2 3 = (m : Int) := by rw [set_ne _ _ (by decide), lo 3 (by decide), set_same]
    have F4 : set E.1 4 E.2 4 = E.2 := set_same _ _ _
    have e2r := sgn_r
    generalize hF : set E.1 4 E.2 = F at md F0 F1 F2 F3 F4 Ae
    have rt := m_right (N := N) (σ := row τ 37 0 (img F (τ 37 0) (14 * I)))
    have e30 : ∀ f, row τ 37 0 f 30 0 = τ 30 0 := fun _ => rfl
    have e34 : ∀ f, row τ 37 0 f 34 0 = τ 34 0 := fun _ => rfl
    rw [e30, if_pos r3] at rt
    have k34 := rk key.toNat (by rw [Int.toNat_of_nonneg hk.1]; exact hk.2)
    have i0 := img_at F (τ 37 0) (14 * I) (i := 0) (by decide)
    rw [Nat.add_zero] at i0
    have sgm := m_signOf37 (N := N) (σ := row τ 37 0 (img F (τ 37 0) (14 * I))) (τ 34 0 key.toNat) (14 * I) a98 (by
      rw [k34.1]
      exact hsec key.toNat (kt_n hk6)) (fun k hk5 => by
      rw [row_same, img_at _ _ _ (k5_n hk5).1]
      rcases (k5_n hk5).2 with rfl | rfl | rfl | rfl | rfl
      · rw [F0]; exact v1_n hv
      · rw [F1]; exact ⟨hk6.1, Int.lt_trans hk6.2 (by decide)⟩
      · rw [F2]; exact ⟨hrev.1, Int.lt_trans hrev.2 (by decide)⟩
      · rw [F3]; exact (m1_n hm).2
      · rw [F4, ← dE.1]
        have := (digL_r m c 0 (by decide) cr).1
        exact ⟨this.1, Int.lt_trans this.2 (by decide)⟩)
    rw [row_same, i0, img_at _ _ _ (show 1 < 14 by decide), img_at _ _ _ (show 2 < 14 by decide), img_at _ _ _ (show 3 < 14 by decide), img_at _ _ _ (show 4 < 14 by decide), F0, F1, F2, F3, F4, k34.1, ← sgE] at sgm
    have r8I : τ 30 0 8 = (I : Int) := r8.trans hi
    have key7 : ¬ key < 0 ∧ key < 7 := ⟨Int.not_lt.mpr hk.1, Int.lt_trans hk6.2 (by decide)⟩
    refine ⟨row (row τ 37 0 (img (set F 5 sg) (τ 37 0) (14 * I))) 30 0 (set (τ 30 0) 8 ((I + 1 : Nat) : Int)), ?_, ?_, ?_⟩
    · show bnd (ev N mX9_readsParts 4 [vR 30 0, vI ((14 * I : Nat) : Int), vI (m : Int), vI 0, x4, vX] [] (P τ)) (fun r S2 => ev N mX9_readsImage 80 [vR 30 0, vI st, vI ((14 * I : Nat) : Int), vI x3] (push r []) S2) = _
      rw [eX9_readsParts_4, if_pos rfl, n31, if_neg n32, if_pos n33, Int.toNat_natCast, sup_row, s3, em, md, bnd_s, push_n, eX9_readsImage_80, rt, bnd_s, push_s, eX9_readsImage_82, if_neg (by decide), n11, if_neg n12, if_pos n13, Int.toNat_natCast, row_same, img_at _ _ _ (show 1 < 14 by decide), F1, if_neg key7.1, if_pos key7.2, e34, k34.1, sgm, bnd_s, push_s, n51, eX9_readsImage_101, if_neg n52, if_pos n53, Int.toNat_natCast]
      simp only [sup_row, row_same, row_row, e30, r8I, eI]
      rw [img_set _ _ _ (by decide)]
    · exact MFr_trans (MFr_row τ 37 _ (by decide)) (MFr_30 _ _ (fun j a b c d e z => by rw [set_ne _ _ e, e30]))
    · refine ⟨?_, ?_, ?_, ?_, rk, fun j hj => ?_, r39a, r39b, r39c, ?_⟩
      · rw [row_same, set_ne _ _ (by decide)]; exact r2
      · rw [row_same, set_ne _ _ (by decide)]; exact r3
      · rw [row_same, set_ne _ _ (by decide)]; exact r7
      · rw [row_same, set_same]; rfl
      · change (j : Int) < 14 * ((I + 1 : Nat) : Int) at hj
        show img (set F 5 sg) (τ 37 0) (14 * I) j = img A (σ 5 0) (14 * I) j
        unfold img
        by_cases q : 14 * I ≤ j ∧ j < 14 * I + 14
        · rw [if_pos q, if_pos q]
          exact (Ae _).symm
        · rw [if_neg q, if_neg q]
          refine rw' j ?_
          rw [hi]
          exact j1_lt hj q
      · rw [row_same, set_ne _ _ (by decide)]; exact r9
end IMG
end
section
/-! IMAGES: parts, one after another -/
section IMG
variable {N n : Nat} {T : Vec} {σ : Sto} {p : Nat}
theorem t_n {told m : Nat} (h : told + (m + 1) = 4) : ¬ 4 < (told : Int) ∧ ¬ (told : Int) = 4 ∧ told < 4 ∧ 6 + 2 * told < 14 ∧ w32 ((told : Int) + 1) = ((told + 1 : Nat) : Int) ∧ told + 1 + m = 4 ∧ told + 1 ≤ 4 ∧ 6 ≤ 6 + 2 * told ∧ told ≤ 4 := by
  refine ⟨by omega, by omega, by omega, by omega, ?_, by omega, by omega, by omega, by omega⟩
  rw [w32i (by omega) (by omega)]; omega
theorem I_n {I : Nat} (hI : I < 6) : 14 * I ≤ 84 ∧ 14 * I ≤ 70 ∧ w32 ((I : Int) * 14) = ((14 * I : Nat) : Int) ∧ ¬ (I : Int) = 6 ∧ (I : Int) < 6 := by
  refine ⟨by omega, by omega, ?_, by omega, by omega⟩
  rw [w32i (by omega) (by omega)]; omega
theorem ge_ne {a j i : Nat} (h : a ≤ j) (h2 : i < a) : j ≠ i := by omega
theorem out_n {I i j : Nat} (h : (j : Int) < 14 * (I : Int)) : j ≠ 14 * I + i ∧ (j < 14 * I ∨ 14 * I + 14 ≤ j) := by omega
theorem out2_n {I j : Nat} (h : 14 * (I + 1) ≤ j) : j < 14 * I ∨ 14 * I + 14 ≤ j := by omega
/-- a word is put by both: at i behind the image's first -/
theorem RR_word {τ : Sto} (h : RR σ τ) {I : Nat} (hi : σ 2 0 1 = (I : Int)) (A : Vec) (f : Vec) (hf : ∀ j : Nat, (j : Int) < 14 * (I : Int) → f j = τ 37 0 j) : RR (row σ 5 0 (img A (σ 5 0) (14 * I))) (row τ 37 0 f) := by
  obtain ⟨r2, r3, r7, r8, rk, rw', r39a, r39b, r39c, r9⟩ := h
  refine ⟨r2, r3, r7, r8, rk, fun j hj => ?_, r39a, r39b, r39c, r9⟩
  change (j : Int) < 14 * σ 2 0 1 at hj
  rw [hi] at hj
  show f j = img A (σ 5 0) (14 * I) j
  rw [hf j hj, img_out _ _ _ (out_n (i := 0) hj).2]
  exact rw' j (by rw [hi]; exact hj)
theorem CR_word (h : CR n T p σ) {A b : Vec} {a : Nat} (hb : ∀ j, j < 84 → 0 ≤ b j ∧ b j < 100000) (hA : ∀ j, 0 ≤ A j ∧ A j < 100000) : CR n T p (row σ 5 0 (img A b a)) := by
  obtain ⟨ct, hp, h3, h4, a1, b1, c2, d, e, ⟨f1, f2⟩, i, k⟩ := h
  refine ⟨ct, hp, h3, h4, a1, b1, c2, d, e, ⟨f1, fun j hj => ?_⟩, i, k⟩
  show 0 ≤ img A b a j ∧ img A b a j < 100000
  unfold img
  split
  · exact hA _
  · exact hb j hj
theorem CR_w84 (h : CR n T p σ) : ∀ j, j < 84 → 0 ≤ σ 5 0 j ∧ σ 5 0 j < 100000 := h.2.2.2.2.2.2.2.2.2.1.2
theorem parts_loop {I : Nat} (hI : I < 6) {ver key rev : Int} (hv : 0 ≤ ver ∧ ver ≤ 30) (x3 st : Int) : ∀ (m told : Nat), told + m = 4 → ∀ (σ : Sto) (p : Nat) (c w : Vec) (x4 : MV), CR n T p σ → σ 2 0 1 = (I : Int) → (0 ≤ key ∧ key < σ 2 0 0) → (∀ j : Nat, 14 * (I + 1) ≤ j → j < 84 → σ 5 0 j = 0) → (∀ j, j < 14 → σ 5 0 (14 * I + j) = c j) → (∀ j, 6 ≤ j → c j = w j) → (∀ j, 0 ≤ c j ∧ c j < 100000) → w 0 = ver + 1 → w 1 = key → w 2 = rev → (∀ j, 0 ≤ w j ∧ w j < 100000) → LINE n T σ (XW (14 * I) w) (bnd (ev N mX4_readParts 2 [vR 8 0, vI (told : Int)] [] (P σ)) (fun r S2 => ev N mX4_readImage 60 [vR 8 0, vI st, vI ver, vI key, vI rev, vX] (push r []) S2)) (fun τ => bnd (ev N mX9_readsParts 4 [vR 30 0, vI ((14 * I : Nat) : Int), vI (told : Int), vI 1, x4, vX] [] (P τ)) (fun r S2 => ev N mX9_readsImage 80 [vR 30 0, vI st, vI ((14 * I : Nat) : Int), vI x3] (push r []) S2)) := by
  obtain ⟨a84, a70, e14, -, -⟩ := I_n hI
  intro m
  induction m with
  | zero =>
    intro told ht σ p c w x4 h hi hk zw hc cw6 cr w0 w1 w2 wr
    have e : told = 4 := by clear h hi hk zw hc cw6 cr w0 w1 w2 wr; omega
    subst e
    refine LINE_congr ?_ ?_ (LINE_num4 (N := N) (XW_S _ _) h 0 99999 (fun r S => bnd (ev N mX4_readParts 9 [vR 8 0, vI 4] (push r []) S) (fun r S2 => ev N mX4_readImage 60 [vR 8 0, vI st, vI ver, vI key, vI rev, vX] (push r []) S2)) (fun r S => bnd (ev N mX4_readParts 20 [vR 8 0, vI 4] (push r []) S) (fun r S2 => ev N mX4_readImage 60 [vR 8 0, vI st, vI ver, vI key, vI rev, vX] (push r []) S2)) (fun r S => bnd (ev N mX9_readsParts 13 [vR 30 0, vI ((14 * I : Nat) : Int), vI 4, vI 1, x4, vX] (push r []) S) (fun r S2 => ev N mX9_readsImage 80 [vR 30 0, vI st, vI ((14 * I : Nat) : Int), vI x3] (push r []) S2)) (fun x r S => bnd (ev N mX9_readsParts 22 [vR 30 0, vI ((14 * I : Nat) : Int), vI 4, vI 1, vI x, vX] (push r []) S) (fun r S2 => ev N mX9_readsImage 80 [vR 30 0, vI st, vI ((14 * I : Nat) : Int), vI x3] (push r []) S2)) (fun ρ => ?_) (fun ρ => ?_) (fun ρ => ?_) (fun x τ => ?_) (fun x => ?_))
    · show bnd (ev N mX4_readParts 2 [vR 8 0, vI 4] [] (P σ)) _ = _
      rw [eX4_readParts_2, if_neg (by decide), bnd_bnd]
    · intro τ hx hr _
      show bnd (ev N mX9_readsParts 4 [vR 30 0, vI ((14 * I : Nat) : Int), vI 4, vI 1, x4, vX] [] (P τ)) _ = _
      rw [eX9_readsParts_4, if_neg (by decide), m_right, if_pos hr.2.1, bnd_s, push_s, eX9_readsParts_8, if_neg (by decide), bnd_bnd]
    · show bnd (ev N mX4_readParts 9 [vR 8 0, vI 4] (push (some (vI 0)) []) (P ρ)) _ = _
      rw [push_s, eX4_readParts_9, if_pos rfl, bnd_s, push_s, eX4_readImage_60, if_pos rfl]
    · show bnd (ev N mX4_readParts 9 [vR 8 0, vI 4] (push (some (vI 1)) []) (P ρ)) _ = _
      rw [push_s, eX4_readParts_9, if_neg (by decide), if_pos rfl, bnd_bnd]
    · show bnd (ev N mX4_readParts 20 [vR 8 0, vI 4] (push (some (vI 0)) []) (P ρ)) _ = _
      rw [push_s, eX4_readParts_20, bnd_s, push_s, eX4_readImage_60, if_pos rfl]
    · show bnd (ev N mX9_readsParts 13 [vR 30 0, vI ((14 * I : Nat) : Int), vI 4, vI 1, x4, vX] (push (some (vI x)) []) (P τ)) _ = _
      rw [push_s, eX9_readsParts_13, if_pos rfl, bnd_bnd]
    · intro τ hx h3 ⟨e, he, h2⟩ _ _
      obtain ⟨τ2, k1, k2, k3⟩ := m_parts_bad (N := N) hx h3 he h2 (14 * I) a84 4 (by decide) x
      obtain ⟨τ3, l1, l2, l3⟩ := m_img80_bad (N := N) (τ := τ2) (by rw [k3]; exact h3) st ((14 * I : Nat) : Int) x3
      refine ⟨τ3, ?_, MFr_trans k2 l2, l3.trans k3⟩
      show bnd (ev N mX9_readsParts 22 [vR 30 0, vI ((14 * I : Nat) : Int), vI ((4 : Nat) : Int), vI 1, vI x, vX] (push none []) (P τ)) _ = _
      rw [push_n, k1, bnd_s, push_n, l1]
  | succ m ih =>
    intro told ht σ p c w x4 h hi hk zw hc cw6 cr w0 w1 w2 wr
    obtain ⟨t1, t2, t3, t4, t5, t6, t7, t8, t9⟩ := t_n ht
    clear ht
    refine LINE_congr ?_ ?_ (LINE_num (N := N) (XW_S _ _) h 0 99999 (fun r S => bnd (ev N mX4_readParts 9 [vR 8 0, vI (told : Int)] (push r []) S) (fun r S2 => ev N mX4_readImage 60 [vR 8 0, vI st, vI ver, vI key, vI rev, vX] (push r []) S2)) (fun r S => bnd (ev N mX9_readsParts 13 [vR 30 0, vI ((14 * I : Nat) : Int), vI (told : Int), vI 1, x4, vX] (push r []) S) (fun r S2 => ev N mX9_readsImage 80 [vR 30 0, vI st, vI ((14 * I : Nat) : Int), vI x3] (push r []) S2)) (fun ρ => ?_) (fun x => ?_) ?_)
    · rw [eX4_readParts_2, if_neg t1, bnd_bnd]
    · intro τ hx hr _
      show bnd (ev N mX9_readsParts 4 [vR 30 0, vI ((14 * I : Nat) : Int), vI (told : Int), vI 1, x4, vX] [] (P τ)) _ = _
      rw [eX9_readsParts_4, if_neg (by decide), m_right, if_pos hr.2.1, bnd_s, push_s, eX9_readsParts_8, if_neg (by decide), bnd_bnd]
    · show bnd (ev N mX4_readParts 9 [vR 8 0, vI (told : Int)] (push (some (vI 0)) []) (P ρ)) _ = _
      rw [push_s, eX4_readParts_9, if_pos rfl, bnd_s, push_s, eX4_readImage_60, if_pos rfl]
    · intro τ hx h3 ⟨e, he, h2⟩ _ _
      obtain ⟨τ2, k1, k2, k3⟩ := m_parts_bad (N := N) hx h3 he h2 (14 * I) a84 told t9 x
      obtain ⟨τ3, l1, l2, l3⟩ := m_img80_bad (N := N) (τ := τ2) (by rw [k3]; exact h3) st ((14 * I : Nat) : Int) x3
      refine ⟨τ3, ?_, MFr_trans k2 l2, l3.trans k3⟩
      show bnd (ev N mX9_readsParts 13 [vR 30 0, vI ((14 * I : Nat) : Int), vI (told : Int), vI 1, x4, vX] (push (some (vI x)) []) (P τ)) _ = _
      rw [push_s, eX9_readsParts_13, if_neg t2, k1, bnd_s, push_n, l1]
    intro ρ v e crρ r5 hvv s5 r7 _ rall
    have hiρ : ρ 2 0 1 = (I : Int) := by rw [s5.1]; exact hi
    have hkρ : 0 ≤ key ∧ key < ρ 2 0 0 := by rw [s5.1]; exact hk
    have zwρ : ∀ j : Nat, 14 * (I + 1) ≤ j → j < 84 → ρ 5 0 j = 0 := by rw [s5.2.2.2]; exact zw
    have hcρ : ∀ j, j < 14 → ρ 5 0 (14 * I + j) = c j := by rw [s5.2.2.2]; exact hc
    clear rall s5 h hi hk zw hc
    have v5 : 0 ≤ v ∧ v < 100000 := ⟨hvv.1, Int.lt_of_le_of_lt hvv.2 (by decide)⟩
    have k6 := i_k (a := 14 * I) (k := told) (c := 6) a84 t3 (Or.inl rfl)
    obtain ⟨-, n2, n3, -⟩ := i_n (a := 14 * I) (i := 6 + 2 * told) a84 t4
    simp only [Int.cast_ofNat_Int] at k6
    have img0 : ρ 5 0 = img c (ρ 5 0) (14 * I) := img_of hcρ
    have cp := c_put (N := N) (σ := ρ) (14 * I) (6 + 2 * told) a70 t4 c (ρ 5 0) v img0
    have setr : ∀ (f : Vec), (∀ j, 0 ≤ f j ∧ f j < 100000) → ∀ j, 0 ≤ set f (6 + 2 * told) v j ∧ set f (6 + 2 * told) v j < 100000 := by
      intro f hf j
      unfold set
      split
      · exact v5
      · exact hf j
    have lo6 : ∀ (f : Vec) (j : Nat), j < 6 → set f (6 + 2 * told) v j = f j := fun f j hj => set_ne _ _ (Nat.ne_of_lt (Nat.lt_of_lt_of_le hj t8))
    refine LINE_step (ρ := row ρ 5 0 (img (set c (6 + 2 * told) v) (ρ 5 0) (14 * I))) (X2 := XW (14 * I) (set w (6 + 2 * told) v)) ?_ (CFr_row ρ 5 _ (by decide)) rfl (fun τ hx hr hX => ⟨row τ 37 0 (set (τ 37 0) (14 * I + (6 + 2 * told)) v), ?_, MFr_row τ 37 _ (by decide), RR_word hr hiρ _ _ (fun j hj => set_ne _ _ (out_n hj).1), ?_⟩) (LINE_skip (N := N) (p := e) (XW_S _ _) (CR_word crρ (CR_w84 crρ) (setr c cr)) (fun r S => bnd (ev N mX4_readParts 42 [vR 8 0, vI (told : Int)] (push r []) S) (fun r S2 => ev N mX4_readImage 60 [vR 8 0, vI st, vI ver, vI key, vI rev, vX] (push r []) S2)) (fun r S => bnd (ev N mX9_readsParts 39 [vR 30 0, vI ((14 * I : Nat) : Int), vI ((told + 1 : Nat) : Int), vI 1, vI v, vX] (push r []) S) (fun r S2 => ev N mX9_readsImage 80 [vR 30 0, vI st, vI ((14 * I : Nat) : Int), vI x3] (push r []) S2)) ?_)
    · show bnd (ev N mX4_readParts 9 [vR 8 0, vI (told : Int)] (push (some (vI 1)) []) (P ρ)) _ = _
      rw [push_s, eX4_readParts_9, if_neg (by decide), if_neg t2, hiρ, e14, k6, r5, cp, bnd_s, push_n, eX4_readParts_40, bnd_bnd]
    · show bnd (ev N mX9_readsParts 13 [vR 30 0, vI ((14 * I : Nat) : Int), vI (told : Int), vI 1, x4, vX] (push (some (vI v)) []) (P τ)) _ = _
      rw [push_s, eX9_readsParts_13, if_neg t2, eX9_readsParts_22, m_right, if_pos hr.2.1, bnd_s, push_s, eX9_readsParts_24, if_neg (by decide), k6, if_neg n2, if_pos n3, t5, Int.toNat_natCast, sup_row, bnd_bnd]
    · intro j hj
      show set (τ 37 0) (14 * I + (6 + 2 * told)) v (14 * I + j) = set w (6 + 2 * told) v j
      by_cases q : j = 6 + 2 * told
      · rw [q, set_same, set_same]
      · rw [set_ne _ _ q, set_ne _ _ (fun z => q (Nat.add_left_cancel z))]
        exact hX j hj
    intro ρ2 e2 cr2 s52 r82 rall2
    have h53 : ρ2 5 0 = img (set c (6 + 2 * told) v) (ρ 5 0) (14 * I) := s52.2.2.2
    have hi2 : ρ2 2 0 1 = (I : Int) := by rw [s52.1]; exact hiρ
    have hk2 : 0 ≤ key ∧ key < ρ2 2 0 0 := by rw [s52.1]; exact hkρ
    have zw2 : ∀ j : Nat, 14 * (I + 1) ≤ j → j < 84 → ρ2 5 0 j = 0 := by
      intro j h1 h2
      rw [h53, img_out _ _ _ (out2_n h1)]
      exact zwρ j h1 h2
    have hc2 : ∀ j, j < 14 → ρ2 5 0 (14 * I + j) = set c (6 + 2 * told) v j := fun j hj => by rw [h53, img_at _ _ _ hj]
    have cw62 : ∀ j, 6 ≤ j → set c (6 + 2 * told) v j = set w (6 + 2 * told) v j := by
      intro j hj
      unfold set
      rw [cw6 j hj]
    have cb := c_byteAt (N := N) cr2.1 e2
    have h83 := cr2.2.2.1
    have md := fun (τ : Sto) (hx : MX n T τ) (hr : RR ρ2 τ) => m_digit (N := N) hx cr2.2.1 (by rw [hr.1, h83])
    by_cases dg : 48 ≤ byI n T e2 ∧ byI n T e2 ≤ 57
    · refine LINE_congr ?_ ?_ (ih (told + 1) t6 ρ2 e2 _ _ (vI v) cr2 hi2 hk2 zw2 hc2 cw62 (setr c cr) ((lo6 w 0 (by decide)).trans w0) ((lo6 w 1 (by decide)).trans w1) ((lo6 w 2 (by decide)).trans w2) (setr w wr))
      · show bnd (ev N mX4_readParts 42 [vR 8 0, vI (told : Int)] (push none []) (P ρ2)) _ = _
        rw [push_n, eX4_readParts_42, h83, cb, bnd_s, push_s, eX4_readParts_46, c_digit, if_pos dg, bnd_s, push_s, eX4_readParts_47, if_neg (by decide), t5]
      · intro τ hx hr _
        show bnd (ev N mX9_readsParts 39 [vR 30 0, vI ((14 * I : Nat) : Int), vI ((told + 1 : Nat) : Int), vI 1, vI v, vX] (push (some (vI (byI n T e2))) []) (P τ)) _ = _
        rw [push_s, eX9_readsParts_39, m_right, if_pos hr.2.1, bnd_s, push_s, eX9_readsParts_42, if_neg (by decide), md τ hx hr, if_pos dg, bnd_s, push_s, eX9_readsParts_45, if_neg (by decide)]
    · refine LINE_congr ?_ ?_ (image_end (N := N) cr2 hI hi2 zw2 hc2 cw62 (setr c cr) ((lo6 w 0 (by decide)).trans w0) ((lo6 w 1 (by decide)).trans w1) ((lo6 w 2 (by decide)).trans w2) (setr w wr) hv hk2 (told + 1) (Nat.succ_le_succ (Nat.zero_le told)) t7 x3 st (vI v))
      · show bnd (ev N mX4_readParts 42 [vR 8 0, vI (told : Int)] (push none []) (P ρ2)) _ = _
        rw [push_n, eX4_readParts_42, h83, cb, bnd_s, push_s, eX4_readParts_46, c_digit, if_neg dg, bnd_s, push_s, eX4_readParts_47, if_pos rfl, t5, bnd_s, push_s]
      · intro τ hx hr _
        show bnd (ev N mX9_readsParts 39 [vR 30 0, vI ((14 * I : Nat) : Int), vI ((told + 1 : Nat) : Int), vI 1, vI v, vX] (push (some (vI (byI n T e2))) []) (P τ)) _ = _
        rw [push_s, eX9_readsParts_39, m_right, if_pos hr.2.1, bnd_s, push_s, eX9_readsParts_42, if_neg (by decide), md τ hx hr, if_neg dg, bnd_s, push_s, eX9_readsParts_45, if_pos rfl]
end IMG
end
section
/-! IMAGES: revoked keys, the whole line -/
section IMG
variable {N n : Nat} {T : Vec} {σ : Sto} {p : Nat}
theorem XW_set {a : Nat} {w : Vec} {τ : Sto} (h : XW a w τ) (i : Nat) (v : Int) : XW a (set w i v) (row τ 37 0 (set (τ 37 0) (a + i) v)) := by
  intro j hj
  show set (τ 37 0) (a + i) v (a + j) = set w i v j
  by_cases q : j = i
  · rw [q, set_same, set_same]
  · rw [set_ne _ _ q, set_ne _ _ (fun z => q (Nat.add_left_cancel z))]
    exact h j hj
theorem RR_37 {τ : Sto} (h : RR σ τ) {I : Nat} (hi : σ 2 0 1 = (I : Int)) (f : Vec) (hf : ∀ j : Nat, (j : Int) < 14 * (I : Int) → f j = τ 37 0 j) : RR σ (row τ 37 0 f) := by
  obtain ⟨r2, r3, r7, r8, rk, rw', r39a, r39b, r39c, r9⟩ := h
  refine ⟨r2, r3, r7, r8, rk, fun j hj => ?_, r39a, r39b, r39c, r9⟩
  show f j = σ 5 0 j
  rw [hf j (by rw [← hi]; exact hj)]
  exact rw' j hj
theorem set_r {w : Vec} (h : ∀ j, 0 ≤ w j ∧ w j < 100000) (i : Nat) {v : Int} (hv : 0 ≤ v ∧ v < 100000) : ∀ j, 0 ≤ set w i v j ∧ set w i v j < 100000 := by
  intro j
  unfold set
  split
  · exact hv
  · exact h j
theorem zw_I {I : Nat} (hi : σ 2 0 1 = (I : Int)) (zw : ZW σ) : (∀ j : Nat, 14 * (I + 1) ≤ j → j < 84 → σ 5 0 j = 0) ∧ (I < 6 → ∀ j, j < 14 → σ 5 0 (14 * I + j) = Z j) := by
  unfold ZW at zw
  rw [hi] at zw
  refine ⟨fun j h1 h2 => zw j (by omega) h2, fun h6 j hj => zw (14 * I + j) (by omega) (by omega)⟩
/-- behind the revoked keys -/
theorem image_tail (h : CR n T p σ) {I : Nat} (hI : I < 6) (hi : σ 2 0 1 = (I : Int)) (zw : ZW σ) {w : Vec} {ver key rev : Int} (w0 : w 0 = ver + 1) (w1 : w 1 = key) (w2 : w 2 = rev) (w6 : ∀ j, 6 ≤ j → w j = 0) (wr : ∀ j, 0 ≤ w j ∧ w j < 100000) (hv : 0 ≤ ver ∧ ver ≤ 30) (hk : 0 ≤ key ∧ key < σ 2 0 0) (x3 st : Int) : LINE n T σ (XW (14 * I) w) (bnd (inv N mX4_takeWord [vR 8 0, vR 1000 4] (P σ)) (fun r S2 => ev N mX4_readImage 51 [vR 8 0, vI st, vI ver, vI key, vI rev, vX] (push r []) S2)) (fun τ => ev N mX9_readsImage 62 [vR 30 0, vI st, vI ((14 * I : Nat) : Int), vI x3] [] (P τ)) := by
  refine LINE_congr rfl ?_ (LINE_word (N := N) (XW_S _ _) h 7 (by decide) (fun r S2 => ev N mX4_readImage 51 [vR 8 0, vI st, vI ver, vI key, vI rev, vX] (push r []) S2) (fun r S2 => ev N mX9_readsImage 68 [vR 30 0, vI st, vI ((14 * I : Nat) : Int), vI x3] (push r []) S2) ?_)
  · intro τ hx hr _
    rw [eX9_readsImage_62, m_right, if_pos hr.2.1, bnd_s, push_s, eX9_readsImage_64, if_neg (by decide)]
    rfl
  intro a ρ e ha cr s5 r8 rall
  have h83 := cr.2.2.1
  have zz := zw_I (σ := ρ) (I := I) (by rw [s5.1]; exact hi) (ZW_o zw (by rw [s5.1]) s5.2.2.2)
  rcases ha with rfl | rfl
  · refine LINE_congr ?_ ?_ (LINE_fail (N := N) (XW_S _ _) cr e 1 cr.2.1 (by decide) (fun r S2 => ev N mX4_readImage 57 [vR 8 0, vI st, vI ver, vI key, vI rev, vX] (push r []) S2) (fun r S2 => ev N mX9_readsImage 74 [vR 30 0, vI st, vI ((14 * I : Nat) : Int), vI x3] (push r []) S2) (fun ρ => ?_) ?_)
    · show ev N mX4_readImage 51 [vR 8 0, vI st, vI ver, vI key, vI rev, vX] (push (some (vI 0)) []) (P ρ) = _
      rw [push_s, eX4_readImage_51, if_pos rfl, h83]
      rfl
    · intro τ hx hr _
      show ev N mX9_readsImage 68 [vR 30 0, vI st, vI ((14 * I : Nat) : Int), vI x3] (push (some (vI 0)) []) (P τ) = _
      rw [push_s, eX9_readsImage_68, if_pos rfl, hr.1, h83]
      rfl
    · show ev N mX4_readImage 57 [vR 8 0, vI st, vI ver, vI key, vI rev, vX] (push (some (vI 0)) []) (P ρ) = _
      rw [push_s, eX4_readImage_57, if_pos rfl]
    · intro τ hx h3 _ _ _
      exact m_img74_bad h3 _ _ _
  · refine LINE_congr ?_ ?_ (parts_loop (N := N) (n := n) (T := T) (rev := rev) hI hv x3 st 4 0 rfl ρ e Z w vX cr (by rw [s5.1]; exact hi) (by rw [s5.1]; exact hk) zz.1 (zz.2 hI) (fun j hj => (w6 j hj).symm) (fun j => ⟨by show (0 : Int) ≤ 0; decide, by show (0 : Int) < 100000; decide⟩) w0 w1 w2 wr)
    · show ev N mX4_readImage 51 [vR 8 0, vI st, vI ver, vI key, vI rev, vX] (push (some (vI 1)) []) (P ρ) = _
      rw [push_s, eX4_readImage_51, if_neg (by decide), iX4_readParts, eX4_readParts_0]
      rfl
    · intro τ hx hr _
      show ev N mX9_readsImage 68 [vR 30 0, vI st, vI ((14 * I : Nat) : Int), vI x3] (push (some (vI 1)) []) (P τ) = _
      rw [push_s, eX9_readsImage_68, if_neg (by decide), eX9_readsImage_74, m_right, if_pos hr.2.1, bnd_s, push_s, eX9_readsImage_76, if_neg (by decide), iX9_readsParts, eX9_readsParts_0]
      rfl
theorem p0_n {p n : Nat} (hp : p ≤ n) (h : n ≤ 300) : w32 ((p : Int) + 0) = (p : Int) := by
  rw [w32i (by omega) (by omega)]
  omega
theorem key_r {v K : Int} (h : 0 ≤ v ∧ v ≤ K - 1) (hK : K ≤ 6) : (0 ≤ v ∧ v < K) ∧ v < 6 ∧ v.toNat < 6 ∧ ((v.toNat : Nat) : Int) = v ∧ 0 ≤ v ∧ v < 100000 := by omega
theorem rev_r {b : Int} (h : 0 ≤ b ∧ b < 64) : (0 ≤ b ∧ b < 100000) ∧ ¬ b = -1 := by omega
theorem rev_loop {I : Nat} (hI : I < 6) {ver key : Int} (hv : 0 ≤ ver ∧ ver ≤ 30) (x3 st : Int) : ∀ (m told : Nat), told + m = 4 → ∀ (σ : Sto) (p : Nat) (w : Vec) (x4 : MV) (bits : Int), CR n T p σ → σ 2 0 1 = (I : Int) → (0 ≤ key ∧ key < σ 2 0 0) → ZW σ → w 0 = ver + 1 → w 1 = key → w 2 = bits → (0 ≤ bits ∧ bits < 64) → (∀ j, 6 ≤ j → w j = 0) → (∀ j, 0 ≤ w j ∧ w j < 100000) → LINE n T σ (XW (14 * I) w) (bnd (ev N mX4_readRevoked 4 [vR 8 0, vI bits, vI (told : Int)] [] (P σ)) (fun r S2 => ev N mX4_readImage 40 [vR 8 0, vI st, vI ver, vI key, vX, vX] (push r []) S2)) (fun τ => bnd (ev N mX9_readsRevoked 4 [vR 30 0, vI ((14 * I : Nat) : Int), vI (told : Int), vI 1, x4] [] (P τ)) (fun r S2 => ev N mX9_readsImage 62 [vR 30 0, vI st, vI ((14 * I : Nat) : Int), vI x3] (push r []) S2)) := by
  obtain ⟨a84, a70, e14, -, -⟩ := I_n hI
  obtain ⟨n21, n22, n23, -⟩ := i_n (a := 14 * I) (i := 2) a84 (by decide)
  simp only [Int.cast_ofNat_Int] at n21
  intro m
  induction m with
  | zero =>
    intro told ht σ p w x4 bits h hi hk zw w0 w1 w2 hb w6 wr
    have e : told = 4 := ht
    subst e
    obtain ⟨K, eK⟩ := Int.eq_ofNat_of_zero_le h.2.2.2.2.1.1
    have K6 : (K : Int) ≤ 6 := by rw [← eK]; exact h.2.2.2.2.1.2
    obtain ⟨-, -, -, -, kw⟩ := key_n (K := K) (Int.ofNat_le.mp K6)
    refine LINE_congr ?_ ?_ (LINE_num4 (N := N) (XW_S _ _) h 0 ((K : Int) - 1) (fun r S => bnd (ev N mX4_readRevoked 15 [vR 8 0, vI bits, vI 4] (push r []) S) (fun r S2 => ev N mX4_readImage 40 [vR 8 0, vI st, vI ver, vI key, vX, vX] (push r []) S2)) (fun r S => bnd (ev N mX4_readRevoked 26 [vR 8 0, vI bits, vI 4] (push r []) S) (fun r S2 => ev N mX4_readImage 40 [vR 8 0, vI st, vI ver, vI key, vX, vX] (push r []) S2)) (fun r S => bnd (ev N mX9_readsRevoked 16 [vR 30 0, vI ((14 * I : Nat) : Int), vI 4, vI 1, x4] (push r []) S) (fun r S2 => ev N mX9_readsImage 62 [vR 30 0, vI st, vI ((14 * I : Nat) : Int), vI x3] (push r []) S2)) (fun x r S => bnd (ev N mX9_readsRevoked 25 [vR 30 0, vI ((14 * I : Nat) : Int), vI 4, vI 1, vI x] (push r []) S) (fun r S2 => ev N mX9_readsImage 62 [vR 30 0, vI st, vI ((14 * I : Nat) : Int), vI x3] (push r []) S2)) (fun ρ => ?_) (fun ρ => ?_) (fun ρ => ?_) (fun x τ => ?_) (fun x => ?_))
    · show bnd (ev N mX4_readRevoked 4 [vR 8 0, vI bits, vI 4] [] (P σ)) _ = _
      rw [eX4_readRevoked_4, if_neg (by decide), eK, kw, bnd_bnd]
    · intro τ hx hr _
      show bnd (ev N mX9_readsRevoked 4 [vR 30 0, vI ((14 * I : Nat) : Int), vI 4, vI 1, x4] [] (P τ)) _ = _
      rw [eX9_readsRevoked_4, if_neg (by decide), m_right, if_pos hr.2.1, bnd_s, push_s, eX9_readsRevoked_8, if_neg (by decide), hr.2.2.1, eK, kw, bnd_bnd]
    · show bnd (ev N mX4_readRevoked 15 [vR 8 0, vI bits, vI 4] (push (some (vI 0)) []) (P ρ)) _ = _
      rw [push_s, eX4_readRevoked_15, if_pos rfl, bnd_s, push_s, eX4_readImage_40, if_pos rfl]
    · show bnd (ev N mX4_readRevoked 15 [vR 8 0, vI bits, vI 4] (push (some (vI 1)) []) (P ρ)) _ = _
      rw [push_s, eX4_readRevoked_15, if_neg (by decide), if_pos rfl, bnd_bnd]
    · show bnd (ev N mX4_readRevoked 26 [vR 8 0, vI bits, vI 4] (push (some (vI 0)) []) (P ρ)) _ = _
      rw [push_s, eX4_readRevoked_26, bnd_s, push_s, eX4_readImage_40, if_pos rfl]
    · show bnd (ev N mX9_readsRevoked 16 [vR 30 0, vI ((14 * I : Nat) : Int), vI 4, vI 1, x4] (push (some (vI x)) []) (P τ)) _ = _
      rw [push_s, eX9_readsRevoked_16, if_pos rfl, bnd_bnd]
    · intro τ hx h3 ⟨e, he, h2⟩ _ _
      obtain ⟨τ2, k1, k2, k3⟩ := m_rev_bad (N := N) h3 (Nat.le_trans he hx.2.1) h2 (14 * I) a84 4 x
      obtain ⟨τ3, l1, l2, l3⟩ := m_img62_bad (N := N) (τ := τ2) (by rw [k3]; exact h3) st ((14 * I : Nat) : Int) x3
      refine ⟨τ3, ?_, MFr_trans k2 l2, l3.trans k3⟩
      show bnd (ev N mX9_readsRevoked 25 [vR 30 0, vI ((14 * I : Nat) : Int), vI ((4 : Nat) : Int), vI 1, vI x] (push none []) (P τ)) _ = _
      rw [push_n, k1, bnd_s, push_n, l1]
  | succ m ih =>
    intro told ht σ p w x4 bits h hi hk zw w0 w1 w2 hb w6 wr
    obtain ⟨t1, t2, t3, t4, t5, t6, t7, t8, t9⟩ := t_n ht
    clear ht
    obtain ⟨K, eK⟩ := Int.eq_ofNat_of_zero_le h.2.2.2.2.1.1
    have K6 : (K : Int) ≤ 6 := by rw [← eK]; exact h.2.2.2.2.1.2
    obtain ⟨-, -, -, -, kw⟩ := key_n (K := K) (Int.ofNat_le.mp K6)
    refine LINE_congr ?_ ?_ (LINE_num (N := N) (XW_S _ _) h 0 ((K : Int) - 1) (fun r S => bnd (ev N mX4_readRevoked 15 [vR 8 0, vI bits, vI (told : Int)] (push r []) S) (fun r S2 => ev N mX4_readImage 40 [vR 8 0, vI st, vI ver, vI key, vX, vX] (push r []) S2)) (fun r S => bnd (ev N mX9_readsRevoked 16 [vR 30 0, vI ((14 * I : Nat) : Int), vI (told : Int), vI 1, x4] (push r []) S) (fun r S2 => ev N mX9_readsImage 62 [vR 30 0, vI st, vI ((14 * I : Nat) : Int), vI x3] (push r []) S2)) (fun ρ => ?_) (fun x => ?_) ?_)
    · rw [eX4_readRevoked_4, if_neg t1, eK, kw, bnd_bnd]
    · intro τ hx hr _
      show bnd (ev N mX9_readsRevoked 4 [vR 30 0, vI ((14 * I : Nat) : Int), vI (told : Int), vI 1, x4] [] (P τ)) _ = _
      rw [eX9_readsRevoked_4, if_neg (by decide), m_right, if_pos hr.2.1, bnd_s, push_s, eX9_readsRevoked_8, if_neg (by decide), hr.2.2.1, eK, kw, bnd_bnd]
    · show bnd (ev N mX4_readRevoked 15 [vR 8 0, vI bits, vI (told : Int)] (push (some (vI 0)) []) (P ρ)) _ = _
      rw [push_s, eX4_readRevoked_15, if_pos rfl, bnd_s, push_s, eX4_readImage_40, if_pos rfl]
    · intro τ hx h3 ⟨e, he, h2⟩ _ _
      obtain ⟨τ2, k1, k2, k3⟩ := m_rev_bad (N := N) h3 (Nat.le_trans he hx.2.1) h2 (14 * I) a84 told x
      obtain ⟨τ3, l1, l2, l3⟩ := m_img62_bad (N := N) (τ := τ2) (by rw [k3]; exact h3) st ((14 * I : Nat) : Int) x3
      refine ⟨τ3, ?_, MFr_trans k2 l2, l3.trans k3⟩
      show bnd (ev N mX9_readsRevoked 16 [vR 30 0, vI ((14 * I : Nat) : Int), vI (told : Int), vI 1, x4] (push (some (vI x)) []) (P τ)) _ = _
      rw [push_s, eX9_readsRevoked_16, if_neg t2, k1, bnd_s, push_n, l1]
    intro ρ v e crρ r5 hvv s5 r7 _ rall
    have hiρ : ρ 2 0 1 = (I : Int) := by rw [s5.1]; exact hi
    have hkρ : 0 ≤ key ∧ key < ρ 2 0 0 := by rw [s5.1]; exact hk
    have zwρ : ZW ρ := ZW_o zw (by rw [s5.1]) s5.2.2.2
    clear rall s5 h hi hk zw
    obtain ⟨-, -, v6, vt, -⟩ := key_r hvv K6
    have b2 := bOr_lt hb.1 hb.2 v.toNat v6
    rw [vt] at b2
    obtain ⟨b2r, b2n⟩ := rev_r b2
    have e37 : ∀ (τ : Sto) f, row τ 37 0 f 30 0 = τ 30 0 := fun _ _ => rfl
    refine LINE_step (ρ := ρ) (X2 := XW (14 * I) (set w 2 (bOr bits (shl32 1 v)))) ?_ (CFr_refl ρ) rfl (fun τ hx hr hX => ⟨row τ 37 0 (set (τ 37 0) (14 * I + 2) (bOr bits (shl32 1 v))), ?_, MFr_row τ 37 _ (by decide), RR_37 hr hiρ _ (fun j hj => set_ne _ _ (out_n hj).1), XW_set hX 2 _⟩) (LINE_skip (N := N) (p := e) (XW_S _ _) crρ (fun r S => bnd (ev N mX4_readRevoked 38 [vR 8 0, vI (bOr bits (shl32 1 v)), vI (told : Int)] (push r []) S) (fun r S2 => ev N mX4_readImage 40 [vR 8 0, vI st, vI ver, vI key, vX, vX] (push r []) S2)) (fun r S => bnd (ev N mX9_readsRevoked 48 [vR 30 0, vI ((14 * I : Nat) : Int), vI ((told + 1 : Nat) : Int), vI 1, vI v] (push r []) S) (fun r S2 => ev N mX9_readsImage 62 [vR 30 0, vI st, vI ((14 * I : Nat) : Int), vI x3] (push r []) S2)) ?_)
    · show bnd (ev N mX4_readRevoked 15 [vR 8 0, vI bits, vI (told : Int)] (push (some (vI 1)) []) (P ρ)) _ = _
      rw [push_s, eX4_readRevoked_15, if_neg (by decide), if_neg t2, r5, bnd_bnd]
    · show bnd (ev N mX9_readsRevoked 16 [vR 30 0, vI ((14 * I : Nat) : Int), vI (told : Int), vI 1, x4] (push (some (vI v)) []) (P τ)) _ = _
      have hw2 : τ 37 0 (14 * I + 2) = bits := (hX 2 (by decide)).trans w2
      have r2 := m_right (N := N) (σ := row τ 37 0 (set (τ 37 0) (14 * I + 2) (bOr bits (shl32 1 v))))
      rw [e37, if_pos hr.2.1] at r2
      rw [push_s, eX9_readsRevoked_16, if_neg t2, eX9_readsRevoked_25, n21, if_neg n22, if_pos n23, Int.toNat_natCast, m_right, if_pos hr.2.1, bnd_s, push_s, hw2, eX9_readsRevoked_34, if_neg (by decide), if_neg n22, if_pos n23, Int.toNat_natCast, sup_row, r2, t5, bnd_s, push_s, eX9_readsRevoked_45, if_neg (by decide), bnd_bnd]
    intro ρ2 e2 cr2 s52 r82 rall2
    have hi2 : ρ2 2 0 1 = (I : Int) := by rw [s52.1]; exact hiρ
    have hk2 : 0 ≤ key ∧ key < ρ2 2 0 0 := by rw [s52.1]; exact hkρ
    have zw2 : ZW ρ2 := ZW_o zwρ (by rw [s52.1]) s52.2.2.2
    have w62 : ∀ j, 6 ≤ j → set w 2 (bOr bits (shl32 1 v)) j = 0 := fun j hj => (set_ne _ _ (ge_ne hj (by decide))).trans (w6 j hj)
    have w02 : set w 2 (bOr bits (shl32 1 v)) 0 = ver + 1 := (set_ne _ _ (by decide)).trans w0
    have w12 : set w 2 (bOr bits (shl32 1 v)) 1 = key := (set_ne _ _ (by decide)).trans w1
    have w22 : set w 2 (bOr bits (shl32 1 v)) 2 = bOr bits (shl32 1 v) := set_same _ _ _
    have wr2 := set_r wr 2 b2r
    have cb := c_byteAt (N := N) cr2.1 e2
    have h83 := cr2.2.2.1
    have n300 := cr2.1.2.1
    generalize set w 2 (bOr bits (shl32 1 v)) = w' at w02 w12 w22 w62 wr2
    generalize bOr bits (shl32 1 v) = bits' at w22 b2 b2r b2n
    by_cases dg : byI n T e2 = 44
    · have e2n : e2 < n := byI_lt (by rw [dg]; decide)
      have pn := p_n (Nat.le_of_lt e2n) n300
      have ne7 : ∀ j, 7 ≤ j → j ≠ 3 := fun j hj => ge_ne hj (by decide)
      refine LINE_step (mo := by rw [row_same, set_same, h83]; exact Int.ofNat_le.mpr (Nat.le_succ e2)) (ρ := row ρ2 8 0 (set (ρ2 8 0) 3 ((e2 + 1 : Nat) : Int))) (X2 := XW (14 * I) w') ?_ (CFr_row ρ2 8 _ (by decide)) (by rw [row_same, set_ne _ _ (by decide)]) (fun τ hx hr hX => ⟨row τ 30 0 (set (τ 30 0) 2 ((e2 + 1 : Nat) : Int)), ?_, MFr_30 τ _ (fun j z _ _ _ _ _ => set_ne _ _ z), RR_mv hr (fun j hj => set_ne _ _ (ne7 j hj)) ?_ ?_ ?_ ?_ ?_ rfl rfl rfl rfl, hX⟩) (ih (told + 1) t6 _ (e2 + 1) w' (vI v) bits' (CR_8 cr2 e2n (set_ne _ _ (by decide)) (set_same _ _ _) ((set_ne _ _ (by decide)).trans cr2.2.2.2.1) (fun j hj => set_ne _ _ (ne7 j hj))) hi2 hk2 zw2 w02 w12 w22 b2 w62 wr2)
      · show bnd (ev N mX4_readRevoked 38 [vR 8 0, vI bits', vI (told : Int)] (push none []) (P ρ2)) _ = _
        rw [push_n, eX4_readRevoked_38, h83, cb, bnd_s, push_s, eX4_readRevoked_42, if_pos dg, sup_row, h83, pn, t5]
      · show bnd (ev N mX9_readsRevoked 48 [vR 30 0, vI ((14 * I : Nat) : Int), vI ((told + 1 : Nat) : Int), vI 1, vI v] (push (some (vI (byI n T e2))) []) (P τ)) _ = _
        rw [push_s, eX9_readsRevoked_48, if_pos dg, s9_truth, if_neg (by decide), bnd_s, push_s, eX9_readsRevoked_59, sup_row, hr.1, h83, pn]
      · rw [row_same, set_same, set_same]
      · rw [row_same, set_ne _ _ (by decide)]; exact hr.2.1
      · rw [row_same, set_ne _ _ (by decide)]
      · rw [row_same, set_ne _ _ (by decide)]
      · rw [row_same, set_ne _ _ (by decide)]
    · have pe := p0_n cr2.2.1 n300
      refine LINE_congr ?_ ?_ (image_tail (N := N) cr2 hI hi2 zw2 w02 w12 w22 w62 wr2 hv hk2 x3 st)
      · show bnd (ev N mX4_readRevoked 38 [vR 8 0, vI bits', vI (told : Int)] (push none []) (P ρ2)) _ = _
        rw [push_n, eX4_readRevoked_38, h83, cb, bnd_s, push_s, eX4_readRevoked_42, if_neg dg, bnd_s, push_s, eX4_readImage_40, if_neg b2n]
      · intro τ hx hr _
        have idr : row τ 30 0 (set (τ 30 0) 2 (e2 : Int)) = τ := by
          rw [← h83, ← hr.1, set_id, row_id]
        show bnd (ev N mX9_readsRevoked 48 [vR 30 0, vI ((14 * I : Nat) : Int), vI ((told + 1 : Nat) : Int), vI 1, vI v] (push (some (vI (byI n T e2))) []) (P τ)) _ = _
        rw [push_s, eX9_readsRevoked_48, if_neg dg, s9_truth, if_pos rfl, bnd_s, push_s, eX9_readsRevoked_59, sup_row, hr.1, h83, pe, idr, eX9_readsRevoked_4, if_pos rfl, bnd_s, push_n]
end IMG
end
section
/-! LINES: an image's, any -/
section IMG
variable {N n : Nat} {T : Vec} {σ : Sto} {p : Nat}
theorem m_img58_bad {τ : Sto} (hx : MX n T τ) {e : Nat} (he : e ≤ n) (h2 : τ 30 0 2 = (e : Int)) (h3 : ¬ τ 30 0 3 = -1) (x1 x2 x3 : Int) (f : Vec) : ∃ τ2, bnd (inv N mX9_takes [vR 30 0, vI 6] (P (row τ 37 0 f))) (fun r S2 => ev N mX9_readsImage 58 [vR 30 0, vI x1, vI x2, vI x3] (push r []) S2) = some (none, P τ2) ∧ MFr τ τ2 ∧ τ2 30 0 3 = τ 30 0 3 := by
  have mf := MFr_row τ 37 f (by decide)
  obtain ⟨τ2, a, b, c⟩ := m_img62_bad (N := N) (τ := row τ 37 0 f) h3 x1 x2 x3
  exact ⟨τ2, by rw [m_takes_bad (MX_MFr hx mf) he h2 h3, bnd_s, push_s, eX9_readsImage_58, if_pos rfl, a], MFr_trans mf b, c⟩
theorem m_img52_bad {τ : Sto} (hx : MX n T τ) {e : Nat} (he : e ≤ n) (h2 : τ 30 0 2 = (e : Int)) (h3 : ¬ τ 30 0 3 = -1) (x1 x3 : Int) {a : Nat} (ha : a ≤ 84) (y0 : Int) : ∃ τ2, ev N mX9_readsImage 52 [vR 30 0, vI x1, vI (a : Int), vI x3] [vI y0, vI ((a + 1 : Nat) : Int), vR 37 0] (P τ) = some (none, P τ2) ∧ MFr τ τ2 ∧ τ2 30 0 3 = τ 30 0 3 := by
  obtain ⟨n1, n2, n3, -⟩ := i_n (a := a) (i := 1) ha (by decide)
  obtain ⟨τ2, b⟩ := m_img58_bad (N := N) hx he h2 h3 x1 (a : Int) x3 (set (τ 37 0) (a + 1) y0)
  exact ⟨τ2, by rw [eX9_readsImage_52, if_neg n2, if_pos n3, Int.toNat_natCast, sup_row, b.1], b.2⟩
theorem m_img34_bad {τ : Sto} (hx : MX n T τ) {e : Nat} (he : e ≤ n) (h2 : τ 30 0 2 = (e : Int)) (h3 : ¬ τ 30 0 3 = -1) (x1 x3 : Int) {a : Nat} (ha : a ≤ 84) (y0 : Int) : ∃ τ2, ev N mX9_readsImage 34 [vR 30 0, vI x1, vI (a : Int), vI x3] [vI y0, vI (a : Int), vR 37 0] (P τ) = some (none, P τ2) ∧ MFr τ τ2 ∧ τ2 30 0 3 = τ 30 0 3 := by
  obtain ⟨n1, n2, n3, -⟩ := i_n (a := a) (i := 1) ha (by decide)
  obtain ⟨-, l2, l3, -⟩ := i_n (a := a) (i := 0) ha (by decide)
  rw [Nat.add_zero] at l2 l3
  simp only [Int.cast_ofNat_Int] at n1
  have mf := MFr_row τ 37 (set (τ 37 0) a (w32 (y0 + 1))) (by decide)
  have rt := m_right (N := N) (σ := row τ 37 0 (set (τ 37 0) a (w32 (y0 + 1))))
  have e30 : row τ 37 0 (set (τ 37 0) a (w32 (y0 + 1))) 30 0 = τ 30 0 := rfl
  rw [e30, if_neg h3] at rt
  obtain ⟨τ2, b⟩ := m_img58_bad (N := N) (τ := row τ 37 0 (set (τ 37 0) a (w32 (y0 + 1)))) (MX_MFr hx mf) he h2 h3 x1 (a : Int) x3 (set (set (τ 37 0) a (w32 (y0 + 1))) (a + 1) 0)
  refine ⟨τ2, ?_, MFr_trans mf b.2.1, b.2.2⟩
  rw [eX9_readsImage_34, if_neg l2, if_pos l3, Int.toNat_natCast, sup_row, rt, bnd_s, push_s, n1, eX9_readsImage_44, if_pos rfl, if_neg n2, if_pos n3, Int.toNat_natCast, sup_row, row_same]
  exact b.1
theorem I84 : w32 (14 * 6) = ((84 : Nat) : Int) := rfl
theorem I14 {I : Nat} (hI : I < 6) : w32 (14 * (I : Int)) = ((14 * I : Nat) : Int) := by
  rw [w32i (by omega) (by omega)]
  omega
theorem ver_n {v : Int} (h : 0 ≤ v ∧ v ≤ 30) : w32 (v + 1) = v + 1 ∧ 0 ≤ v + 1 ∧ v + 1 < 100000 := ⟨w32i (by omega) (by omega), by omega, by omega⟩
theorem Z_r : ∀ j, 0 ≤ Z j ∧ Z j < 100000 := fun j => ⟨by show (0 : Int) ≤ 0; decide, by show (0 : Int) < 100000; decide⟩
theorem line_image (h : CR n T p σ) (zw : ZW σ) (st : Nat) (hst : st ≤ n) : LINE n T σ (fun _ => True) (inv N mX4_readImage [vR 8 0, vI (st : Int)] (P σ)) (fun τ => inv N mX9_readsImage [vR 30 0, vI (st : Int)] (P τ)) := by
  obtain ⟨I, eI⟩ := Int.eq_ofNat_of_zero_le h.2.2.2.2.2.1.1
  have I6 : (I : Int) ≤ 6 := by rw [← eI]; exact h.2.2.2.2.2.1.2
  by_cases q : I = 6
  · subst q
    refine LINE_congr ?_ ?_ (LINE_fail (N := N) (XT rfl) h st 3 hst (by decide) (fun r S2 => ev N mX4_readImage 9 [vR 8 0, vI (st : Int), vX, vX, vX, vX] (push r []) S2) (fun r S2 => ev N mX9_readsImage 8 [vR 30 0, vI (st : Int), vX, vX] (push r []) S2) (fun ρ => ?_) ?_)
    · rw [iX4_readImage, eX4_readImage_0, eI, if_neg (by decide)]
      rfl
    · intro τ hx hr _
      rw [iX9_readsImage, eX9_readsImage_0, hr.2.2.2.1, eI, if_pos (by decide)]
      rfl
    · rw [push_s, eX4_readImage_9, if_pos rfl]
    · intro τ hx h3 ⟨e, he, h2⟩ h7 h8
      have mf := MFr_row τ 37 (img Z (τ 37 0) 84) (by decide)
      obtain ⟨f, e2, n1, n2, n3, n4⟩ := m_number_bad (N := N) (MX_MFr hx mf) he h2 h3 0 30
      have mf2 := MFr_30 (row τ 37 0 (img Z (τ 37 0) 84)) f (fun j a _ c _ _ _ => n4 j a c)
      have f3 : f 3 = τ 30 0 3 := n4 3 (by decide) (by decide)
      obtain ⟨τ2, b1, b2, b3⟩ := m_img34_bad (N := N) (MX_MFr (MX_MFr hx mf) mf2) n3 (by rw [row_same]; exact n2) (by rw [row_same, f3]; exact h3) (st : Int) 14 (a := 84) (Nat.le_refl _) 0
      refine ⟨τ2, ?_, MFr_trans mf (MFr_trans mf2 b2), by rw [b3, row_same, f3]⟩
      show ev N mX9_readsImage 8 [vR 30 0, vI (st : Int), vX, vX] (push none []) (P τ) = _
      rw [push_n, eX9_readsImage_8, h8, eI, show w32 (14 * ((6 : Nat) : Int)) = ((84 : Nat) : Int) from rfl, m_zero _ 84 (Nat.le_refl _), eX9_readsImage_15, if_neg (by decide), n1, bnd_s, push_s, b1]
  have hI : I < 6 := Nat.lt_of_le_of_ne (Int.ofNat_le.mp I6) q
  obtain ⟨a84, a70, e14, In6, Il6⟩ := I_n hI
  obtain ⟨n1, n2, n3, -⟩ := i_n (a := 14 * I) (i := 1) a84 (by decide)
  obtain ⟨-, l2, l3, -⟩ := i_n (a := 14 * I) (i := 0) a84 (by decide)
  rw [Nat.add_zero] at l2 l3
  simp only [Int.cast_ofNat_Int] at n1
  obtain ⟨K, eK⟩ := Int.eq_ofNat_of_zero_le h.2.2.2.2.1.1
  have K6 : (K : Int) ≤ 6 := by rw [← eK]; exact h.2.2.2.2.1.2
  obtain ⟨-, -, -, -, kw⟩ := key_n (K := K) (Int.ofNat_le.mp K6)
  -- the model's words are cleared
  refine LINE_step (ρ := σ) (X2 := XW (14 * I) Z) (C2 := bnd (inv N mX4_takeNumber [vR 8 0, vI 0, vI 30] (P σ)) (fun r S2 => ev N mX4_readImage 14 [vR 8 0, vI (st : Int), vX, vX, vX, vX] (push r []) S2)) ?_ (CFr_refl σ) rfl (fun τ hx hr _ => ⟨row τ 37 0 (img Z (τ 37 0) (14 * I)), ?_, MFr_row τ 37 _ (by decide), RR_37 hr eI _ (fun j hj => img_out _ _ _ (out_n (i := 0) hj).2), fun j hj => img_at _ _ _ hj⟩) (LINE_num (N := N) (XW_S _ _) h 0 30 (fun r S2 => ev N mX4_readImage 14 [vR 8 0, vI (st : Int), vX, vX, vX, vX] (push r []) S2) (fun r S2 => ev N mX9_readsImage 34 [vR 30 0, vI (st : Int), vI ((14 * I : Nat) : Int), vI 14] (push r [vI ((14 * I : Nat) : Int), vR 37 0]) S2) (fun ρ => ?_) (fun x => ?_) ?_)
  · rw [iX4_readImage, eX4_readImage_0, eI, if_pos Il6]
  · show inv N mX9_readsImage [vR 30 0, vI (st : Int)] (P τ) = _
    rw [iX9_readsImage, eX9_readsImage_0, hr.2.2.2.1, eI, if_neg In6, eX9_readsImage_8, hr.2.2.2.1, eI, I14 hI, m_zero _ _ a84, eX9_readsImage_15, if_neg (by decide)]
  · rw [push_s, eX4_readImage_14, if_pos rfl]
  · intro τ hx h3 ⟨e, he, h2⟩ _ _
    exact m_img34_bad hx he h2 h3 _ _ a84 x
  intro ρ ver e cr r5 hv s5 r7 _ rall
  obtain ⟨vw, v1⟩ := ver_n hv
  have hiρ : ρ 2 0 1 = (I : Int) := by rw [s5.1]; exact eI
  have eKρ : ρ 2 0 0 = (K : Int) := by rw [s5.1]; exact eK
  have zwρ : ZW ρ := ZW_o zw (by rw [s5.1]) s5.2.2.2
  clear rall s5 h eI eK zw
  have e30 : ∀ (τ : Sto) f, row τ 37 0 f 30 0 = τ 30 0 := fun _ _ => rfl
  refine LINE_step (ρ := ρ) (X2 := XW (14 * I) (set Z 0 (ver + 1))) (C2 := bnd (inv N mX4_takeNumber [vR 8 0, vI 0, vI ((K : Int) - 1)] (P ρ)) (fun r S2 => ev N mX4_readImage 28 [vR 8 0, vI (st : Int), vI ver, vX, vX, vX] (push r []) S2)) ?_ (CFr_refl ρ) rfl (fun τ hx hr hX => ⟨row τ 37 0 (set (τ 37 0) (14 * I + 0) (ver + 1)), ?_, MFr_row τ 37 _ (by decide), RR_37 hr hiρ _ (fun j hj => set_ne _ _ (out_n hj).1), XW_set hX 0 _⟩) (LINE_num (N := N) (XW_S _ _) cr 0 ((K : Int) - 1) (fun r S2 => ev N mX4_readImage 28 [vR 8 0, vI (st : Int), vI ver, vX, vX, vX] (push r []) S2) (fun r S2 => ev N mX9_readsImage 52 [vR 30 0, vI (st : Int), vI ((14 * I : Nat) : Int), vI 14] (push r [vI ((14 * I + 1 : Nat) : Int), vR 37 0]) S2) (fun ρ => ?_) (fun x => ?_) ?_)
  · show ev N mX4_readImage 14 [vR 8 0, vI (st : Int), vX, vX, vX, vX] (push (some (vI 1)) []) (P ρ) = _
    rw [push_s, eX4_readImage_14, if_neg (by decide), r5, eKρ, kw]
  · show ev N mX9_readsImage 34 [vR 30 0, vI (st : Int), vI ((14 * I : Nat) : Int), vI 14] (push (some (vI ver)) [vI ((14 * I : Nat) : Int), vR 37 0]) (P τ) = _
    have rt := m_right (N := N) (σ := row τ 37 0 (set (τ 37 0) (14 * I) (ver + 1)))
    rw [e30, if_pos hr.2.1] at rt
    rw [push_s, eX9_readsImage_34, if_neg l2, if_pos l3, Int.toNat_natCast, sup_row, vw, rt, bnd_s, push_s, n1, eX9_readsImage_44, if_neg (by decide), e30, hr.2.2.1, eKρ, kw]
    rfl
  · rw [push_s, eX4_readImage_28, if_pos rfl]
  · intro τ hx h3 ⟨e, he, h2⟩ _ _
    exact m_img52_bad hx he h2 h3 _ _ a84 x
  intro ρ2 key e2 cr2 r52 hk s52 r72 _ rall2
  obtain ⟨kK, k6, -, -, kr⟩ := key_r hk K6
  have hi2 : ρ2 2 0 1 = (I : Int) := by rw [s52.1]; exact hiρ
  have eK2 : ρ2 2 0 0 = (K : Int) := by rw [s52.1]; exact eKρ
  have zw2 : ZW ρ2 := ZW_o zwρ (by rw [s52.1]) s52.2.2.2
  clear rall2 s52 hiρ eKρ zwρ cr
  refine LINE_step (ρ := ρ2) (X2 := XW (14 * I) (set (set Z 0 (ver + 1)) 1 key)) (C2 := bnd (inv N mX4_takeWord [vR 8 0, vR 1000 (cw 6)] (P ρ2)) (fun r S2 => ev N mX4_readImage 37 [vR 8 0, vI (st : Int), vI ver, vI key, vX, vX] (push r []) S2)) ?_ (CFr_refl ρ2) rfl (fun τ hx hr hX => ⟨row τ 37 0 (set (τ 37 0) (14 * I + 1) key), ?_, MFr_row τ 37 _ (by decide), RR_37 hr hi2 _ (fun j hj => set_ne _ _ (out_n hj).1), XW_set hX 1 _⟩) (LINE_word (N := N) (XW_S _ _) cr2 6 (by decide) (fun r S2 => ev N mX4_readImage 37 [vR 8 0, vI (st : Int), vI ver, vI key, vX, vX] (push r []) S2) (fun r S2 => ev N mX9_readsImage 58 [vR 30 0, vI (st : Int), vI ((14 * I : Nat) : Int), vI 14] (push r []) S2) ?_)
  · show ev N mX4_readImage 28 [vR 8 0, vI (st : Int), vI ver, vX, vX, vX] (push (some (vI 1)) []) (P ρ2) = _
    rw [push_s, eX4_readImage_28, if_neg (by decide), r52]
    rfl
  · show ev N mX9_readsImage 52 [vR 30 0, vI (st : Int), vI ((14 * I : Nat) : Int), vI 14] (push (some (vI key)) [vI ((14 * I + 1 : Nat) : Int), vR 37 0]) (P τ) = _
    rw [push_s, eX9_readsImage_52, if_neg n2, if_pos n3, Int.toNat_natCast, sup_row]
    rfl
  intro a ρ3 e3 ha cr3 s53 r83 rall3
  have hi3 : ρ3 2 0 1 = (I : Int) := by rw [s53.1]; exact hi2
  have hk3 : 0 ≤ key ∧ key < ρ3 2 0 0 := by rw [s53.1, eK2]; exact kK
  have zw3 : ZW ρ3 := ZW_o zw2 (by rw [s53.1]) s53.2.2.2
  have w0 : set (set Z 0 (ver + 1)) 1 key 0 = ver + 1 := rfl
  have w1 : set (set Z 0 (ver + 1)) 1 key 1 = key := rfl
  have w2 : set (set Z 0 (ver + 1)) 1 key 2 = 0 := rfl
  have w6 : ∀ j, 6 ≤ j → set (set Z 0 (ver + 1)) 1 key j = 0 := fun j hj => by
    rw [set_ne _ _ (ge_ne hj (by decide)), set_ne _ _ (ge_ne hj (by decide))]
    rfl
  have wr := set_r (set_r Z_r 0 v1) 1 kr
  generalize set (set Z 0 (ver + 1)) 1 key = w at w0 w1 w2 w6 wr
  rcases ha with rfl | rfl
  · refine LINE_congr ?_ ?_ (image_tail (N := N) cr3 hI hi3 zw3 w0 w1 w2 w6 wr hv hk3 14 (st : Int))
    · show ev N mX4_readImage 37 [vR 8 0, vI (st : Int), vI ver, vI key, vX, vX] (push (some (vI 0)) []) (P ρ3) = _
      rw [push_s, eX4_readImage_37, if_pos rfl]
    · intro τ hx hr _
      show ev N mX9_readsImage 58 [vR 30 0, vI (st : Int), vI ((14 * I : Nat) : Int), vI 14] (push (some (vI 0)) []) (P τ) = _
      rw [push_s, eX9_readsImage_58, if_pos rfl]
  · refine LINE_congr ?_ ?_ (rev_loop (N := N) (n := n) (T := T) hI hv 14 (st : Int) 4 0 rfl ρ3 e3 w vX 0 cr3 hi3 hk3 zw3 w0 w1 w2 (by decide) w6 wr)
    · show ev N mX4_readImage 37 [vR 8 0, vI (st : Int), vI ver, vI key, vX, vX] (push (some (vI 1)) []) (P ρ3) = _
      rw [push_s, eX4_readImage_37, if_neg (by decide), iX4_readRevoked, eX4_readRevoked_0]
      rfl
    · intro τ hx hr _
      show ev N mX9_readsImage 58 [vR 30 0, vI (st : Int), vI ((14 * I : Nat) : Int), vI 14] (push (some (vI 1)) []) (P τ) = _
      rw [push_s, eX9_readsImage_58, if_neg (by decide), iX9_readsRevoked, eX9_readsRevoked_0]
      rfl
/-- behind a line of a kind -/
theorem LINE_then {X : Sto → Prop} {C : Option Out} {M : Sto → Option Out} (h : LINE n T σ X C M) (fc fm : Option MV → MS → Option Out) (h0 : ∀ ρ, fc (some (vI 0)) (P ρ) = some (some (vI 0), P ρ)) (h1 : ∀ ρ, fc (some (vI 1)) (P ρ) = some (some (vI 1), P ρ)) (hm : ∀ τ, fm none (P τ) = some (none, P τ)) : LINE n T σ X (bnd C fc) (fun τ => bnd (M τ) fm) := by
  obtain ⟨ok, σ2, a, b, c, d, e, f, g⟩ := h
  refine ⟨ok, σ2, ?_, b, c, d, e, f, fun τ hx hr hX => ?_⟩
  · rw [a, bnd_s]
    rcases f with ⟨z, -⟩ | ⟨z, -⟩
    · rw [z]; exact h1 σ2
    · rw [z]; exact h0 σ2
  · obtain ⟨τ2, k1, k2⟩ := g τ hx hr hX
    exact ⟨τ2, by show bnd (M τ) fm = _; rw [k1, bnd_s, hm], k2⟩
theorem XTT : ∀ (τ : Sto) (f : Vec), (fun _ : Sto => True) τ → (fun _ : Sto => True) (row τ 30 0 f) := fun _ _ _ => trivial
theorem line_any (h : CR n T p σ) (zw : ZW σ) : LINE n T σ (fun _ => True) (inv N mX4_readLine [vR 8 0] (P σ)) (fun τ => inv N mX9_readsLine [vR 30 0] (P τ)) := by
  refine LINE_congr ?_ ?_ (LINE_skip (N := N) XTT h (fun r S2 => ev N mX4_readLine 2 [vR 8 0, vX] (push r []) S2) (fun r S2 => ev N mX9_readsLine 2 [vR 30 0, vX] (push r []) S2) ?_)
  · rw [iX4_readLine, eX4_readLine_0]
  · intro τ hx hr _
    rw [iX9_readsLine, eX9_readsLine_0]
  intro ρ st cr s5 r8 rall
  have hst := cr.2.1
  have zw0 : ZW ρ := ZW_o zw (by rw [s5.1]) s5.2.2.2
  have h83 := cr.2.2.1
  clear s5 r8 rall h zw
  refine LINE_congr ?_ ?_ (LINE_word (N := N) XTT cr 0 (by decide) (fun r S2 => ev N mX4_readLine 8 [vR 8 0, vI (st : Int)] (push r []) S2) (fun r S2 => ev N mX9_readsLine 9 [vR 30 0, vI (st : Int)] (push r []) S2) ?_)
  · show ev N mX4_readLine 2 [vR 8 0, vX] (push none []) (P ρ) = _
    rw [push_n, eX4_readLine_2, h83]
    rfl
  · intro τ hx hr _
    show ev N mX9_readsLine 2 [vR 30 0, vX] (push (some (vI (byI n T st))) []) (P τ) = _
    rw [push_s, eX9_readsLine_2, hr.1, h83]
    rfl
  intro a1 ρ1 e1 ha1 cr1 s5_1 _ _
  have zw1 : ZW ρ1 := ZW_o zw0 (by rw [s5_1.1]) s5_1.2.2.2
  rcases ha1 with rfl | rfl
  case inr =>
    refine LINE_congr ?_ ?_ (LINE_then (line_key (N := N) cr1 zw1 st hst) (fun r S2 => ev N mX4_readLine 12 [vR 8 0, vI (st : Int)] (push r []) S2) (fun r S2 => ev N mX9_readsLine 13 [vR 30 0, vI (st : Int)] (push r []) S2) (fun ρ => ?_) (fun ρ => ?_) (fun τ => ?_))
    · show ev N mX4_readLine 8 [vR 8 0, vI (st : Int)] (push (some (vI 1)) []) (P ρ1) = _
      rw [push_s, eX4_readLine_8, if_neg (by decide)]
    · intro τ hx hr _
      show ev N mX9_readsLine 9 [vR 30 0, vI (st : Int)] (push (some (vI 1)) []) (P τ) = _
      rw [push_s, eX9_readsLine_9, if_neg (by decide)]
    · rw [push_s, eX4_readLine_12, if_pos rfl]
    · rw [push_s, eX4_readLine_12, if_neg (by decide), if_pos rfl]
    · rw [push_n, eX9_readsLine_13, eX9_readsLine_53]
  refine LINE_congr ?_ ?_ (LINE_word (N := N) XTT cr1 1 (by decide) (fun r S2 => ev N mX4_readLine 16 [vR 8 0, vI (st : Int)] (push r []) S2) (fun r S2 => ev N mX9_readsLine 17 [vR 30 0, vI (st : Int)] (push r []) S2) ?_)
  · show ev N mX4_readLine 8 [vR 8 0, vI (st : Int)] (push (some (vI 0)) []) (P ρ1) = _
    rw [push_s, eX4_readLine_8, if_pos rfl]
    rfl
  · intro τ hx hr _
    show ev N mX9_readsLine 9 [vR 30 0, vI (st : Int)] (push (some (vI 0)) []) (P τ) = _
    rw [push_s, eX9_readsLine_9, if_pos rfl]
    rfl
  intro a2 ρ2 e2 ha2 cr2 s5_2 _ _
  have zw2 : ZW ρ2 := ZW_o zw1 (by rw [s5_2.1]) s5_2.2.2.2
  rcases ha2 with rfl | rfl
  case inr =>
    refine LINE_congr ?_ ?_ (LINE_then (line_image (N := N) cr2 zw2 st hst) (fun r S2 => ev N mX4_readLine 20 [vR 8 0, vI (st : Int)] (push r []) S2) (fun r S2 => ev N mX9_readsLine 21 [vR 30 0, vI (st : Int)] (push r []) S2) (fun ρ => ?_) (fun ρ => ?_) (fun τ => ?_))
    · show ev N mX4_readLine 16 [vR 8 0, vI (st : Int)] (push (some (vI 1)) []) (P ρ2) = _
      rw [push_s, eX4_readLine_16, if_neg (by decide)]
    · intro τ hx hr _
      show ev N mX9_readsLine 17 [vR 30 0, vI (st : Int)] (push (some (vI 1)) []) (P τ) = _
      rw [push_s, eX9_readsLine_17, if_neg (by decide)]
    · rw [push_s, eX4_readLine_20, if_pos rfl]
    · rw [push_s, eX4_readLine_20, if_neg (by decide), if_pos rfl]
    · rw [push_n, eX9_readsLine_21, eX9_readsLine_53]
  refine LINE_congr ?_ ?_ (LINE_word (N := N) XTT cr2 2 (by decide) (fun r S2 => ev N mX4_readLine 24 [vR 8 0, vI (st : Int)] (push r []) S2) (fun r S2 => ev N mX9_readsLine 25 [vR 30 0, vI (st : Int)] (push r []) S2) ?_)
  · show ev N mX4_readLine 16 [vR 8 0, vI (st : Int)] (push (some (vI 0)) []) (P ρ2) = _
    rw [push_s, eX4_readLine_16, if_pos rfl]
    rfl
  · intro τ hx hr _
    show ev N mX9_readsLine 17 [vR 30 0, vI (st : Int)] (push (some (vI 0)) []) (P τ) = _
    rw [push_s, eX9_readsLine_17, if_pos rfl]
    rfl
  intro a3 ρ3 e3 ha3 cr3 s5_3 _ _
  have zw3 : ZW ρ3 := ZW_o zw2 (by rw [s5_3.1]) s5_3.2.2.2
  rcases ha3 with rfl | rfl
  case inr =>
    refine LINE_congr ?_ ?_ (LINE_then (line_limit (N := N) cr3 zw3 st hst) (fun r S2 => ev N mX4_readLine 28 [vR 8 0, vI (st : Int)] (push r []) S2) (fun r S2 => ev N mX9_readsLine 30 [vR 30 0, vI (st : Int)] (push r []) S2) (fun ρ => ?_) (fun ρ => ?_) (fun τ => ?_))
    · show ev N mX4_readLine 24 [vR 8 0, vI (st : Int)] (push (some (vI 1)) []) (P ρ3) = _
      rw [push_s, eX4_readLine_24, if_neg (by decide)]
    · intro τ hx hr _
      show ev N mX9_readsLine 25 [vR 30 0, vI (st : Int)] (push (some (vI 1)) []) (P τ) = _
      rw [push_s, eX9_readsLine_25, if_neg (by decide)]
    · rw [push_s, eX4_readLine_28, if_pos rfl]
    · rw [push_s, eX4_readLine_28, if_neg (by decide), if_pos rfl]
    · rw [push_n, eX9_readsLine_30, eX9_readsLine_53]
  refine LINE_congr ?_ ?_ (LINE_word (N := N) XTT cr3 3 (by decide) (fun r S2 => ev N mX4_readLine 32 [vR 8 0, vI (st : Int)] (push r []) S2) (fun r S2 => ev N mX9_readsLine 34 [vR 30 0, vI (st : Int)] (push r []) S2) ?_)
  · show ev N mX4_readLine 24 [vR 8 0, vI (st : Int)] (push (some (vI 0)) []) (P ρ3) = _
    rw [push_s, eX4_readLine_24, if_pos rfl]
    rfl
  · intro τ hx hr _
    show ev N mX9_readsLine 25 [vR 30 0, vI (st : Int)] (push (some (vI 0)) []) (P τ) = _
    rw [push_s, eX9_readsLine_25, if_pos rfl]
    rfl
  intro a4 ρ4 e4 ha4 cr4 s5_4 _ _
  have zw4 : ZW ρ4 := ZW_o zw3 (by rw [s5_4.1]) s5_4.2.2.2
  rcases ha4 with rfl | rfl
  case inr =>
    refine LINE_congr ?_ ?_ (LINE_then (line_tries (N := N) cr4 zw4 st hst) (fun r S2 => ev N mX4_readLine 36 [vR 8 0, vI (st : Int)] (push r []) S2) (fun r S2 => ev N mX9_readsLine 39 [vR 30 0, vI (st : Int)] (push r []) S2) (fun ρ => ?_) (fun ρ => ?_) (fun τ => ?_))
    · show ev N mX4_readLine 32 [vR 8 0, vI (st : Int)] (push (some (vI 1)) []) (P ρ4) = _
      rw [push_s, eX4_readLine_32, if_neg (by decide)]
    · intro τ hx hr _
      show ev N mX9_readsLine 34 [vR 30 0, vI (st : Int)] (push (some (vI 1)) []) (P τ) = _
      rw [push_s, eX9_readsLine_34, if_neg (by decide)]
    · rw [push_s, eX4_readLine_36, if_pos rfl]
    · rw [push_s, eX4_readLine_36, if_neg (by decide), if_pos rfl]
    · rw [push_n, eX9_readsLine_39, eX9_readsLine_53]
  refine LINE_congr ?_ ?_ (LINE_word (N := N) XTT cr4 4 (by decide) (fun r S2 => ev N mX4_readLine 40 [vR 8 0, vI (st : Int)] (push r []) S2) (fun r S2 => ev N mX9_readsLine 43 [vR 30 0, vI (st : Int)] (push r []) S2) ?_)
  · show ev N mX4_readLine 32 [vR 8 0, vI (st : Int)] (push (some (vI 0)) []) (P ρ4) = _
    rw [push_s, eX4_readLine_32, if_pos rfl]
    rfl
  · intro τ hx hr _
    show ev N mX9_readsLine 34 [vR 30 0, vI (st : Int)] (push (some (vI 0)) []) (P τ) = _
    rw [push_s, eX9_readsLine_34, if_pos rfl]
    rfl
  intro a5 ρ5 e5 ha5 cr5 s5_5 _ _
  have zw5 : ZW ρ5 := ZW_o zw4 (by rw [s5_5.1]) s5_5.2.2.2
  rcases ha5 with rfl | rfl
  case inr =>
    refine LINE_congr ?_ ?_ (LINE_then (line_watch (N := N) cr5 zw5 st hst) (fun r S2 => ev N mX4_readLine 44 [vR 8 0, vI (st : Int)] (push r []) S2) (fun r S2 => ev N mX9_readsLine 48 [vR 30 0, vI (st : Int)] (push r []) S2) (fun ρ => ?_) (fun ρ => ?_) (fun τ => ?_))
    · show ev N mX4_readLine 40 [vR 8 0, vI (st : Int)] (push (some (vI 1)) []) (P ρ5) = _
      rw [push_s, eX4_readLine_40, if_neg (by decide)]
    · intro τ hx hr _
      show ev N mX9_readsLine 43 [vR 30 0, vI (st : Int)] (push (some (vI 1)) []) (P τ) = _
      rw [push_s, eX9_readsLine_43, if_neg (by decide)]
    · rw [push_s, eX4_readLine_44, if_pos rfl]
    · rw [push_s, eX4_readLine_44, if_neg (by decide), if_pos rfl]
    · rw [push_n, eX9_readsLine_48, eX9_readsLine_53]
  refine LINE_congr ?_ ?_ (LINE_fail (N := N) XTT cr5 st 1 hst (by decide) (fun r S2 => ev N mX4_readLine 49 [vR 8 0, vI (st : Int)] (push r []) S2) (fun r S2 => ev N mX9_readsLine 53 [vR 30 0, vI (st : Int)] (push r []) S2) (fun ρ => ?_) ?_)
  · show ev N mX4_readLine 40 [vR 8 0, vI (st : Int)] (push (some (vI 0)) []) (P ρ5) = _
    rw [push_s, eX4_readLine_40, if_pos rfl]
    rfl
  · intro τ hx hr _
    show ev N mX9_readsLine 43 [vR 30 0, vI (st : Int)] (push (some (vI 0)) []) (P τ) = _
    rw [push_s, eX9_readsLine_43, if_pos rfl]
    rfl
  · rw [push_s, eX4_readLine_49, if_pos rfl]
  · intro τ hx h3 _ _ _
    exact ⟨τ, by show ev N mX9_readsLine 53 [vR 30 0, vI (st : Int)] (push none []) (P τ) = _; rw [push_n, eX9_readsLine_53], MFr_refl τ, rfl⟩
end IMG
end
section
/-! THE TEXT is read to its end, or to its first fault -/
section RD
variable {N n : Nat} {T : Vec} {σ : Sto} {p : Nat}
theorem k_n3 {k q : Nat} (hq : q ≤ n) (h : n ≤ 300) (hk : k ≤ q) : ¬ (n : Int) < (k : Int) ∧ w32 ((k : Int) + 1) = ((k + 1 : Nat) : Int) := by
  refine ⟨by omega, ?_⟩
  rw [w32i (by omega) (by omega)]; omega
theorem lt_n {q : Nat} (h : q < n) : (q : Int) < (n : Int) := Int.ofNat_lt.mpr h
theorem CR_10 (h : CR n T p σ) (v : Int) : CR n T p (row σ 8 0 (set (σ 8 0) 10 v)) := by
  obtain ⟨ct, hp, h3, h4, a, b, c, d, e, f, i, k⟩ := h
  exact ⟨CT_row ct rfl, hp, h3, h4, a, b, c, d, e, f, i, fun l h1 h2 => by
    rw [row_same, set_ne _ _ (Nat.ne_of_lt h2)]
    exact k l h1 h2⟩
theorem RR_10 {τ : Sto} (h : RR σ τ) (v : Int) : RR (row σ 8 0 (set (σ 8 0) 10 v)) τ := h
/-- the model's way behind a fault, to its last question -/
theorem m_read_bad {τ : Sto} (h3 : ¬ τ 30 0 3 = -1) (x1 : Int) : ∃ τ2, ev N mX9_bundle 38 [vR 30 0, vI x1, vI 1] [] (P τ) = ev N mX9_bundle 70 [vR 30 0, vI (w32 (x1 + 1)), vI 0] [] (P τ2) ∧ MFr τ τ2 ∧ τ2 30 0 3 = τ 30 0 3 := by
  have rt := m_right (N := N) (σ := row τ 30 0 (set (τ 30 0) 2 (w32 (τ 30 0 2 + 0))))
  rw [row_same, set_ne _ _ (show 3 ≠ 2 by decide), if_neg h3] at rt
  refine ⟨row τ 30 0 (set (τ 30 0) 2 (w32 (τ 30 0 2 + 0))), ?_, MFr_30 τ _ (fun j z _ _ _ _ _ => set_ne _ _ z), by rw [row_same, set_ne _ _ (by decide)]⟩
  rw [eX9_bundle_38, m_right, if_neg h3, bnd_s, push_s, eX9_bundle_41, if_pos rfl, s9_truth, if_pos rfl, bnd_s, push_s, eX9_bundle_55, sup_row, eX9_bundle_34, if_pos rfl, rt, bnd_s, push_s, eX9_bundle_60, if_pos rfl]
def RD1 (n : Nat) (T : Vec) (σ : Sto) (C : Option Out) (M : Sto → Option Out) (N : Nat) : Prop := ∃ (f : Int) (σ2 : Sto) (k2 : Int), C = some (some (vI f), P σ2) ∧ CFr σ σ2 ∧ DRAFT σ2 ∧ (f = -1 → σ2 8 0 10 = k2 ∧ ∃ p2, CR n T p2 σ2) ∧ ∀ τ, MX n T τ → RR σ τ → ∃ τ2, M τ = ev N mX9_bundle 70 [vR 30 0, vI k2, vI 0] [] (P τ2) ∧ MFr τ τ2 ∧ τ2 30 0 3 = f ∧ (f = -1 → RR σ2 τ2)
theorem pk_n {p p1 q k : Nat} (h1 : k ≤ p) (h2 : (p : Int) ≤ (p1 : Int)) (h3 : p1 ≤ q) : k ≤ q ∧ p ≤ q := by omega
theorem mq_n {p q m : Nat} (h : n - p < m + 1) (h1 : p ≤ q) (h2 : q < n) : n - (q + 1) < m := by omega
theorem f8_n {q : Nat} : ¬ 8 * (q : Int) + 1 = -1 := by omega
theorem read_loop (x1 : Int) : ∀ (m : Nat) (σ : Sto) (p k : Nat), n - p < m → CR n T p σ → ZW σ → k ≤ p → σ 8 0 10 = (k : Int) → RD1 n T σ (ev N mX4_read 26 [vR 8 0, vI x1, vI (k : Int)] [] (P σ)) (fun τ => ev N mX9_bundle 34 [vR 30 0, vI (k : Int), vI 1] [] (P τ)) N := by
  intro m
  induction m with
  | zero =>
    intro σ p k hm
    exact absurd hm (Nat.not_lt_zero _)
  | succ m ih =>
    intro σ p k hm h zw hk h10
    have n300 := h.1.2.1
    have h3σ := h.2.2.1
    obtain ⟨nk, wk⟩ := k_n3 h.2.1 n300 hk
    obtain ⟨ok, σ1, a, fr, ct, dr, e10, oc, g⟩ := line_any (N := N) h zw
    have cls : ev N mX4_read 26 [vR 8 0, vI x1, vI (k : Int)] [] (P σ) = ev N mX4_read 32 [vR 8 0, vI x1, vI (k : Int)] [vI ok] (P σ1) := by
      rw [eX4_read_26, h.1.1, if_neg nk, a, bnd_s, push_s]
    rcases oc with ⟨ok1, zw1, mo, p1, cr1⟩ | ⟨ok0, bad⟩
    case inr =>
      refine ⟨σ1 8 0 4, σ1, ((k + 1 : Nat) : Int), ?_, fr, dr, fun z => absurd z bad, fun τ hx hr => ?_⟩
      · rw [cls, ok0, eX4_read_32, if_pos rfl]
      · obtain ⟨τ1, b1, b2, -, b4⟩ := g τ hx hr trivial
        change inv N mX9_readsLine [vR 30 0] (P τ) = some (none, P τ1) at b1
        obtain ⟨τ2, c1, c2, c3⟩ := m_read_bad (N := N) (τ := τ1) (by rw [b4 ok0]; exact bad) (k : Int)
        refine ⟨τ2, ?_, MFr_trans b2 c2, c3.trans (b4 ok0), fun z => absurd z bad⟩
        show ev N mX9_bundle 34 [vR 30 0, vI (k : Int), vI 1] [] (P τ) = _
        rw [eX9_bundle_34, if_neg (by decide), b1, bnd_s, push_n, c1, wk]
    subst ok1
    have sk := SK_le (T := T) cr1.2.1
    have skk := SK_SK (T := T) cr1.2.1
    rw [h3σ, cr1.2.2.1] at mo
    have cs := c_skip (N := N) (CR_10 cr1 ((k + 1 : Nat) : Int)).1 cr1.2.1 (by rw [row_same, set_ne _ _ (by decide)]; exact cr1.2.2.1)
    have mnf := fun (τ1 : Sto) (hx1 : MX n T τ1) (hr1 : RR σ1 τ1) => m_next (N := N) hx1 cr1.2.1 (hr1.1.trans cr1.2.2.1)
    have e10' : σ1 8 0 10 = (k : Int) := e10.trans h10
    generalize SK n T p1 = q at sk skk cs mnf
    obtain ⟨kq, pq⟩ := pk_n hk mo sk.1
    rw [row_same, row_row] at cs
    have cr2 : CR n T q (row σ1 8 0 (set (set (σ1 8 0) 10 ((k + 1 : Nat) : Int)) 3 (q : Int))) := by
      have z := CR_8 (CR_10 cr1 ((k + 1 : Nat) : Int)) (g := set (set (σ1 8 0) 10 ((k + 1 : Nat) : Int)) 3 (q : Int)) sk.2 rfl (set_same _ _ _) ((set_ne _ _ (by decide)).trans ((set_ne _ _ (by decide)).trans cr1.2.2.2.1)) (fun j hj => by rw [row_same, set_ne _ _ (ge_ne hj (by decide))])
      rw [row_row] at z
      exact z
    have s10 : row σ1 8 0 (set (set (σ1 8 0) 10 ((k + 1 : Nat) : Int)) 3 (q : Int)) 8 0 10 = ((k + 1 : Nat) : Int) := rfl
    have fr2 : CFr σ (row σ1 8 0 (set (set (σ1 8 0) 10 ((k + 1 : Nat) : Int)) 3 (q : Int))) := CFr_trans fr (CFr_row σ1 8 _ (by decide))
    have zw2 : ZW (row σ1 8 0 (set (set (σ1 8 0) 10 ((k + 1 : Nat) : Int)) 3 (q : Int))) := ZW_o zw1 rfl rfl
    have rr2 : ∀ τ1 : Sto, RR σ1 τ1 → RR (row σ1 8 0 (set (set (σ1 8 0) 10 ((k + 1 : Nat) : Int)) 3 (q : Int))) (row τ1 30 0 (set (τ1 30 0) 2 (q : Int))) := fun τ1 hr => ⟨rfl, hr.2⟩
    have cls2 : ev N mX4_read 26 [vR 8 0, vI x1, vI (k : Int)] [] (P σ) = ev N mX4_read 44 [vR 8 0, vI x1, vI (k : Int)] [] (P (row σ1 8 0 (set (set (σ1 8 0) 10 ((k + 1 : Nat) : Int)) 3 (q : Int)))) := by
      rw [cls, eX4_read_32, if_neg (by decide), sup_row, e10', wk, cs, bnd_s, push_n]
    -- the model: a line, the next sign
    have mdl : ∀ τ, MX n T τ → RR σ τ → ∃ τ1, RR σ1 τ1 ∧ MX n T τ1 ∧ MFr τ τ1 ∧ ev N mX9_bundle 34 [vR 30 0, vI (k : Int), vI 1] [] (P τ) = ev N mX9_bundle 44 [vR 30 0, vI ((k + 1 : Nat) : Int), vI 1] [vI (byI n T q)] (P (row τ1 30 0 (set (τ1 30 0) 2 (q : Int)))) := by
      intro τ hx hr
      obtain ⟨τ1, b1, b2, b3, -⟩ := g τ hx hr trivial
      have hr1 := b3 rfl
      have hx1 := MX_MFr hx b2
      change inv N mX9_readsLine [vR 30 0] (P τ) = some (none, P τ1) at b1
      refine ⟨τ1, hr1, hx1, b2, ?_⟩
      rw [eX9_bundle_34, if_neg (by decide), b1, bnd_s, push_n, eX9_bundle_38, m_right, if_pos hr1.2.1, bnd_s, push_s, wk, eX9_bundle_41, if_neg (by decide), mnf τ1 hx1 hr1, bnd_s, push_s]
    clear mnf a g cls cs dr ct fr zw1
    generalize hσ2 : row σ1 8 0 (set (set (σ1 8 0) 10 ((k + 1 : Nat) : Int)) 3 (q : Int)) = σ2 at cr2 s10 fr2 zw2 rr2 cls2
    have h83 := cr2.2.2.1
    have h82 := cr2.1.1
    have p0 := p0_n cr2.2.1 n300
    -- behind the last line: the model's end
    have mend : ∀ τ1, RR σ1 τ1 → MX n T τ1 → ¬ byI n T q = 59 → ev N mX9_bundle 44 [vR 30 0, vI ((k + 1 : Nat) : Int), vI 1] [vI (byI n T q)] (P (row τ1 30 0 (set (τ1 30 0) 2 (q : Int)))) = ev N mX9_bundle 63 [vR 30 0, vI ((k + 1 : Nat) : Int), vI 0] [vI (byI n T q)] (P (row τ1 30 0 (set (τ1 30 0) 2 (q : Int)))) := by
      intro τ1 hr1 hx1 ne
      have rt := m_right (N := N) (σ := row τ1 30 0 (set (τ1 30 0) 2 (q : Int)))
      rw [row_same, set_ne _ _ (show 3 ≠ 2 by decide), if_pos hr1.2.1] at rt
      have mn := m_next (N := N) (MX_30 hx1 (f := set (τ1 30 0) 2 (q : Int)) (set_ne _ _ (by decide))) cr2.2.1 (by rw [row_same, set_same])
      rw [skk, row_same, row_row, set_set] at mn
      rw [eX9_bundle_44, if_neg ne, s9_truth, if_pos rfl, bnd_s, push_s, row_same, set_same, eX9_bundle_55, sup_row, p0, row_same, row_row, set_set, eX9_bundle_34, if_pos rfl, rt, bnd_s, push_s, eX9_bundle_60, if_neg (by decide), mn, bnd_s, push_s]
    by_cases ql : q < n
    · have cb := c_byteAt (N := N) cr2.1 q
      by_cases b59 : byI n T q = 59
      · -- a further line
        have pn := p_n (Nat.le_of_lt ql) n300
        have cr3 : CR n T (q + 1) (row σ2 8 0 (set (σ2 8 0) 3 ((q + 1 : Nat) : Int))) := CR_8 cr2 ql (set_ne _ _ (by decide)) (set_same _ _ _) ((set_ne _ _ (by decide)).trans cr2.2.2.2.1) (fun j hj => set_ne _ _ (ge_ne hj (by decide)))
        obtain ⟨f, σ3, k3, d1, d2, d3, d4, d5⟩ := ih _ (q + 1) (k + 1) (mq_n hm pq ql) cr3 (ZW_o zw2 rfl rfl) (Nat.succ_le_succ kq) (by rw [row_same, set_ne _ _ (by decide)]; exact s10)
        refine ⟨f, σ3, k3, ?_, CFr_trans fr2 (CFr_trans (CFr_row σ2 8 _ (by decide)) d2), d3, d4, fun τ hx hr => ?_⟩
        · rw [cls2, eX4_read_44, h83, h82, if_pos (lt_n ql), cb, bnd_s, push_s, eX4_read_55, if_pos b59, sup_row, h83, pn, wk]
          exact d1
        · obtain ⟨τ1, m1, m2, m3, m4⟩ := mdl τ hx hr
          have r2 := rr2 τ1 m1
          have mf : MFr τ1 (row τ1 30 0 (set (τ1 30 0) 2 ((q + 1 : Nat) : Int))) := MFr_30 τ1 _ (fun j z _ _ _ _ _ => set_ne _ _ z)
          obtain ⟨τ4, e1, e2, e3⟩ := d5 (row τ1 30 0 (set (τ1 30 0) 2 ((q + 1 : Nat) : Int))) (MX_MFr m2 mf) ⟨by rw [row_same, row_same, set_same, set_same], r2.2⟩
          refine ⟨τ4, ?_, MFr_trans m3 (MFr_trans mf e2), e3⟩
          show ev N mX9_bundle 34 [vR 30 0, vI (k : Int), vI 1] [] (P τ) = _
          rw [m4, eX9_bundle_44, if_pos b59, s9_truth, if_neg (by decide), bnd_s, push_s, row_same, set_same, eX9_bundle_55, sup_row, pn, row_same, row_row, set_set]
          exact e1
      · -- no further line, and no end
        have cf := c_fail (N := N) (σ := σ2) q 1 (Nat.le_trans cr2.2.1 n300) (by decide)
        rw [Int.cast_ofNat_Int] at cf
        refine ⟨8 * (q : Int) + 1, row σ2 8 0 (set (σ2 8 0) 4 (8 * (q : Int) + 1)), ((k + 1 : Nat) : Int), ?_, CFr_trans fr2 (CFr_row σ2 8 _ (by decide)), cr2.2.2.2.2.2.2.2.2.2.1, fun z => absurd z f8_n, fun τ hx hr => ?_⟩
        · rw [cls2, eX4_read_44, h83, h82, if_pos (lt_n ql), cb, bnd_s, push_s, eX4_read_55, if_neg b59, h83, cf, bnd_s, push_s, eX4_read_62, row_same, set_same]
        · obtain ⟨τ1, m1, m2, m3, m4⟩ := mdl τ hx hr
          have mf1 : MFr τ1 (row τ1 30 0 (set (τ1 30 0) 2 (q : Int))) := MFr_30 τ1 _ (fun j z _ _ _ _ _ => set_ne _ _ z)
          have bn : ¬ byI n T q = -1 := by
            have t0 := (hx.2.2.2 q (Nat.lt_of_lt_of_le ql n300)).1
            unfold byI
            rw [if_pos ql]
            exact fun z => absurd (z ▸ t0) (by decide)
          have ff := m_fails (N := N) (σ := row τ1 30 0 (set (τ1 30 0) 2 (q : Int))) q 1 (Nat.le_trans cr2.2.1 n300) (by decide)
          rw [Int.cast_ofNat_Int, row_same, row_row, set_ne _ _ (show 3 ≠ 2 by decide), if_pos m1.2.1] at ff
          refine ⟨row τ1 30 0 (set (set (τ1 30 0) 2 (q : Int)) 3 (8 * (q : Int) + 1)), ?_, MFr_trans m3 (MFr_30 τ1 _ (fun j z z3 _ _ _ _ => (set_ne _ _ z3).trans (set_ne _ _ z))), by rw [row_same, set_same], fun z => absurd z f8_n⟩
          show ev N mX9_bundle 34 [vR 30 0, vI (k : Int), vI 1] [] (P τ) = _
          rw [m4, mend τ1 m1 m2 b59, eX9_bundle_63, if_neg bn, row_same, set_same, ff, bnd_s, push_n]
    · -- the text's end
      have bm : byI n T q = -1 := by
        unfold byI
        rw [if_neg ql]
      refine ⟨-1, σ2, ((k + 1 : Nat) : Int), ?_, fr2, cr2.2.2.2.2.2.2.2.2.2.1, fun _ => ⟨s10, q, cr2⟩, fun τ hx hr => ?_⟩
      · rw [cls2, eX4_read_44, h83, h82, if_neg (fun z => ql (Int.ofNat_lt.mp z))]
      · obtain ⟨τ1, m1, m2, m3, m4⟩ := mdl τ hx hr
        refine ⟨row τ1 30 0 (set (τ1 30 0) 2 (q : Int)), ?_, MFr_trans m3 (MFr_30 τ1 _ (fun j z _ _ _ _ _ => set_ne _ _ z)), by rw [row_same, set_ne _ _ (by decide)]; exact m1.2.1, fun _ => rr2 τ1 m1⟩
        show ev N mX9_bundle 34 [vR 30 0, vI (k : Int), vI 1] [] (P τ) = _
        rw [m4, mend τ1 m1 m2 (by rw [bm]; decide), eX9_bundle_63, if_pos bm]
end RD
end
section
/-! BUNDLE -/
section BU
variable {N n : Nat} {T : Vec} {σ : Sto} {L : Int}
theorem c_fill5 (i : Nat) : inv N mJ7_fill_53178 [vR 5 i, vI 0] (P σ) = some (none, P (row σ 5 i (fill (σ 5 i) 0 84 0))) := by
  have lp : ∀ (m k : Nat) (τ : Sto), k + m = 84 → ev N mJ7_fill_53178 5 [vR 5 i, vI 0, vI (k : Int), vI 84] [] (P τ) = some (none, P (row τ 5 i (fill (τ 5 i) k m 0))) := by
    intro m
    induction m with
    | zero =>
      intro k τ hk
      have e : k = 84 := by omega
      subst e
      rw [eJ7_fill_53178_5_k5, if_neg (by decide), fill_0, row_id]
    | succ m ih =>
      intro k τ hk
      have l1 : (k : Int) < 84 ∧ ¬ (k : Int) < 0 ∧ k + 1 + m = 84 := by omega
      have e1 : w32 ((k : Int) + 1) = ((k + 1 : Nat) : Int) := by rw [w32i (by omega) (by omega)]; omega
      rw [eJ7_fill_53178_5_k5, if_pos l1.1, if_neg l1.2.1, if_pos l1.1, e1, sup_row, ih (k + 1) _ l1.2.2, row_same, row_row, Int.toNat_natCast, fill_s]
  rw [iJ7_fill_53178_k5, eJ7_fill_53178_0_k5]
  exact lp 84 0 σ rfl
def clr2 (f : Vec) : Vec := set (set (set (set (set f 0 0) 1 0) 2 3) 3 3) 4 20
theorem c_clear : inv N mX0_clear [vR 2 0] (P σ) = some (none, P (row (row σ 2 0 (clr2 (σ 2 0))) 5 0 (fill (σ 5 0) 0 84 0))) := by
  have e : ∀ f, row σ 2 0 f 5 0 = σ 5 0 := fun _ => rfl
  rw [iX0_clear, eX0_clear_0]
  simp only [sup_row, row_same, row_row]
  rw [c_fill5, bnd_s, push_n, eX0_clear_19, e]
  rfl
def rd8 (f : Vec) (n : Int) : Vec := set (set (set (set (set (set (set f 2 n) 3 0) 4 (-1)) 10 0) 7 0) 8 0) 9 0
def rdQ (σ : Sto) (n : Int) : Sto := row (row (row σ 8 0 (rd8 (σ 8 0) n)) 2 0 (clr2 (σ 2 0))) 5 0 (fill (σ 5 0) 0 84 0)
theorem c_read0 (n : Int) : inv N mX4_read [vR 8 0, vI n] (P σ) = ev N mX4_read 26 [vR 8 0, vI n, vI 0] [] (P (rdQ σ n)) := by
  rw [iX4_read, eX4_read_0]
  simp only [sup_row, row_same, row_row]
  rw [c_clear, bnd_s, push_n, eX4_read_24]
  rfl
theorem rd_CR {n : Nat} (hn : n ≤ 300) (h3 : ∀ k, k < 6 → 0 ≤ σ 3 0 k ∧ σ 3 0 k < 10000) : CR n (σ 1 0) 0 (rdQ σ (n : Int)) ∧ ZW (rdQ σ (n : Int)) ∧ rdQ σ (n : Int) 8 0 10 = 0 := by
  have z5 : ∀ j, j < 84 → rdQ σ (n : Int) 5 0 j = 0 := fun j hj => by
    show fill (σ 5 0) 0 84 0 j = 0
    unfold fill
    rw [if_pos ⟨Nat.zero_le j, by omega⟩]
  have a0 : rdQ σ (n : Int) 2 0 0 = 0 := rfl
  have a1 : rdQ σ (n : Int) 2 0 1 = 0 := rfl
  have a2 : rdQ σ (n : Int) 2 0 2 = 3 := rfl
  have a3 : rdQ σ (n : Int) 2 0 3 = 3 := rfl
  have a4 : rdQ σ (n : Int) 2 0 4 = 20 := rfl
  refine ⟨⟨⟨rfl, hn, fun _ _ => rfl⟩, Nat.zero_le n, rfl, rfl, ?_, ?_, ?_, ?_, ?_, ⟨h3, fun j hj => by rw [z5 j hj]; decide⟩, ?_, ?_⟩, fun j _ hj => z5 j hj, rfl⟩
  · rw [a0]; decide
  · rw [a1]; decide
  · rw [a2]; decide
  · rw [a3]; decide
  · rw [a4]; decide
  · rw [a0]
    exact ⟨by decide, fun k hk => absurd hk (by omega)⟩
  · intro l h1 h2
    rcases (show l = 7 ∨ l = 8 ∨ l = 9 by omega) with rfl | rfl | rfl <;> exact Or.inl rfl
theorem CFr_rd (n : Int) : CFr σ (rdQ σ n) := CFr_trans (CFr_row σ 8 _ (by decide)) (CFr_trans (CFr_row _ 2 _ (by decide)) (CFr_row _ 5 _ (by decide)))
def mb30 (f : Vec) : Vec := set (set (set (set (set f 2 0) 3 (-1)) 7 0) 8 0) 9 0
def mbS (τ : Sto) : Sto := row (row τ 30 0 (mb30 (τ 30 0))) 39 0 (set (set (set (τ 39 0) 2 3) 3 3) 4 20)
theorem m_bundle0 (τ : Sto) : inv N mX9_bundle [vR 30 0] (P τ) = ev N mX9_bundle 34 [vR 30 0, vI 0, vI 1] [] (P (mbS τ)) := by
  rw [iX9_bundle, eX9_bundle_0]
  simp only [sup_row, row_same, row_row]
  rfl
theorem MFr_mb (τ : Sto) : MFr τ (mbS τ) := MFr_trans (MFr_30 τ _ (fun j a b _ c d e => by unfold mb30; rw [set_ne _ _ e, set_ne _ _ d, set_ne _ _ c, set_ne _ _ b, set_ne _ _ a])) (MFr_row _ 39 _ (by decide))
theorem mb_RR {σr τ : Sto} (h0 : σr 2 0 0 = 0) (h1 : σr 2 0 1 = 0) (h2 : σr 2 0 2 = 3) (h3 : σr 2 0 3 = 3) (h4 : σr 2 0 4 = 20) (p3 : σr 8 0 3 = 0) (b7 : σr 8 0 7 = 0) (b8 : σr 8 0 8 = 0) (b9 : σr 8 0 9 = 0) : RR σr (mbS τ) := by
  refine ⟨p3.symm, rfl, h0.symm, h1.symm, fun k hk => ?_, fun j hj => ?_, h2.symm, h3.symm, h4.symm, ?_⟩
  · rw [h0] at hk
    exact absurd hk (by omega)
  · rw [h1] at hj
    exact absurd hj (by omega)
  · rw [b7, b8, b9]
    rfl
end BU
end
section
/-! BUNDLE, whole -/
section BU
variable {N n : Nat} {T : Vec} {σ : Sto} {L : Int}
def tk2 (g f : Vec) : Vec := set (set (set (set (set f 0 (g 0)) 1 (g 1)) 2 (g 2)) 3 (g 3)) 4 (g 4)
def tkQ (σ : Sto) : Sto := row (row (row (row σ 2 1 (tk2 (σ 2 0) (σ 2 1))) 3 1 (cpyV (σ 3 0) (σ 3 1) 0 0 6)) 4 1 (cpyV (σ 4 0) (σ 4 1) 0 0 6)) 5 1 (cpyV (σ 5 0) (σ 5 1) 0 0 84)
theorem c_take21 : inv N mX0_take [vR 2 1, vR 2 0] (P σ) = some (none, P (tkQ σ)) := by
  have w0 : w32 (6 - 6) = 0 := rfl
  have w84 : w32 (84 - 84) = 0 := rfl
  have e20 : ∀ f, row σ 2 1 f 2 0 = σ 2 0 := fun _ => rfl
  rw [iX0_take, eX0_take_0]
  simp only [sup_row, row_same, row_row, e20]
  rw [iX6_copy_k3_k3, eX6_copy_0_k3_k3, w0, if_neg (by decide), if_neg (by decide), if_neg (by decide), if_neg (by decide), if_neg (by decide), if_neg (by decide), if_neg (by decide), if_neg (by decide), if_neg (by decide), if_neg (by decide), bnd_s, push_n, eX0_take_28, iX6_copy_k4_k4, eX6_copy_0_k4_k4, w0, if_neg (by decide), if_neg (by decide), if_neg (by decide), if_neg (by decide), if_neg (by decide), if_neg (by decide), if_neg (by decide), if_neg (by decide), if_neg (by decide), if_neg (by decide), bnd_s, push_n, eX0_take_36, iX6_copy_k5_k5, eX6_copy_0_k5_k5, w84, if_neg (by decide), if_neg (by decide), if_neg (by decide), if_neg (by decide), if_neg (by decide), if_neg (by decide), if_neg (by decide), if_neg (by decide), if_neg (by decide), if_neg (by decide), bnd_s, push_n, eX0_take_44, cpy_row, cpy_row, cpy_row]
  rfl
/-- the model's copies -/
def cpQ (τ : Sto) (K J : Nat) : Sto := row (row (row (row (row τ 30 0 (set (set (set (τ 30 0) 5 (τ 30 0 7)) 6 (τ 30 0 8)) 21 0)) 32 0 (cpyV (τ 34 0) (τ 32 0) 0 0 K)) 33 0 (cpyV (τ 35 0) (τ 33 0) 0 0 K)) 36 0 (cpyV (τ 37 0) (τ 36 0) 0 0 J)) 38 0 (set (set (set (τ 38 0) 2 (τ 39 0 2)) 3 (τ 39 0 3)) 4 (τ 39 0 4))
theorem cpy_s0 (f g : Vec) (k : Nat) : set (cpyV f g 0 0 k) k (f k) = cpyV f g 0 0 (k + 1) := by
  have := cpyV_s f g 0 0 k
  rw [Nat.zero_add] at this
  exact this
theorem m_cp1 (K : Nat) (hK : K ≤ 6) : ∀ (m k : Nat) (τ : Sto), k + m = K → τ 30 0 5 = (K : Int) → ev N mX9_copiesBundle 10 [vR 30 0, vI (k : Int)] [] (P (row (row τ 32 0 (cpyV (τ 34 0) (τ 32 0) 0 0 k)) 33 0 (cpyV (τ 35 0) (τ 33 0) 0 0 k))) = ev N mX9_copiesBundle 34 [vR 30 0, vI 0] [] (P (row (row τ 32 0 (cpyV (τ 34 0) (τ 32 0) 0 0 K)) 33 0 (cpyV (τ 35 0) (τ 33 0) 0 0 K))) := by
  intro m
  induction m with
  | zero =>
    intro k τ hk h5
    have e : k = K := by omega
    subst e
    have r5 : ∀ f g, row (row τ 32 0 f) 33 0 g 30 0 5 = (k : Int) := fun _ _ => h5
    rw [eX9_copiesBundle_10, r5, if_neg (Int.lt_irrefl _)]
  | succ m ih =>
    intro k τ hk h5
    have r5 : ∀ f g, row (row τ 32 0 f) 33 0 g 30 0 5 = (K : Int) := fun _ _ => h5
    have l : (k : Int) < (K : Int) ∧ ¬ (k : Int) < 0 ∧ (k : Int) < 7 ∧ (k : Int) < 6 ∧ k + 1 + m = K := by omega
    have e1 : w32 ((k : Int) + 1) = ((k + 1 : Nat) : Int) := by rw [w32i (by omega) (by omega)]; omega
    have z := ih (k + 1) τ l.2.2.2.2 h5
    have r34 : ∀ f g, row (row τ 32 0 f) 33 0 g 34 0 = τ 34 0 := fun _ _ => rfl
    have r35 : ∀ f g h, row (row (row τ 32 0 f) 33 0 g) 32 0 h 35 0 = τ 35 0 := fun _ _ _ => rfl
    have r32 : ∀ f g, row (row τ 32 0 f) 33 0 g 32 0 = f := fun _ _ => rfl
    have r33 : ∀ f g h, row (row (row τ 32 0 f) 33 0 g) 32 0 h 33 0 = g := fun _ _ _ => rfl
    rw [eX9_copiesBundle_10, r5, if_pos l.1, if_neg l.2.1, if_pos l.2.2.1, if_neg l.2.1, if_pos l.2.2.2.1, if_neg l.2.1, if_pos l.2.2.1, if_neg l.2.1, if_pos l.2.2.2.1, e1, Int.toNat_natCast, sup_row, sup_row, r34, r32, r35, r33, cpy_s0, cpy_s0, row_comm (row τ 32 0 _) 33 0 32 0 _ _ (by decide), row_row, row_row]
    exact z
theorem m_cp2 (I : Nat) (hI : I ≤ 6) : ∀ (m k : Nat) (τ : Sto), k + m = 14 * I → τ 30 0 6 = (I : Int) → ev N mX9_copiesBundle 34 [vR 30 0, vI (k : Int)] [] (P (row τ 36 0 (cpyV (τ 37 0) (τ 36 0) 0 0 k))) = ev N mX9_copiesBundle 52 [vR 30 0, vI 2] [] (P (row τ 36 0 (cpyV (τ 37 0) (τ 36 0) 0 0 (14 * I)))) := by
  have e14 : w32 (14 * (I : Int)) = ((14 * I : Nat) : Int) := by rw [w32i (by omega) (by omega)]; omega
  intro m
  induction m with
  | zero =>
    intro k τ hk h6
    have e : k = 14 * I := by omega
    have r6 : ∀ f, row τ 36 0 f 30 0 6 = (I : Int) := fun _ => h6
    rw [eX9_copiesBundle_34, r6, e14, if_neg (by rw [e]; exact Int.lt_irrefl _), e]
  | succ m ih =>
    intro k τ hk h6
    have r6 : ∀ f, row τ 36 0 f 30 0 6 = (I : Int) := fun _ => h6
    have l : (k : Int) < ((14 * I : Nat) : Int) ∧ ¬ (k : Int) < 0 ∧ (k : Int) < 98 ∧ (k : Int) < 84 ∧ k + 1 + m = 14 * I := by omega
    have e1 : w32 ((k : Int) + 1) = ((k + 1 : Nat) : Int) := by rw [w32i (by omega) (by omega)]; omega
    have r37 : ∀ f, row τ 36 0 f 37 0 = τ 37 0 := fun _ => rfl
    rw [eX9_copiesBundle_34, r6, e14, if_pos l.1, if_neg l.2.1, if_pos l.2.2.1, if_neg l.2.1, if_pos l.2.2.2.1, e1, Int.toNat_natCast, sup_row, r37, row_same, cpy_s0, row_row]
    exact ih (k + 1) τ l.2.2.2.2 h6
theorem m_cp3 (τ : Sto) : ev N mX9_copiesBundle 52 [vR 30 0, vI 2] [] (P τ) = some (none, P (row (row τ 38 0 (set (set (set (τ 38 0) 2 (τ 39 0 2)) 3 (τ 39 0 3)) 4 (τ 39 0 4))) 30 0 (set (τ 30 0) 21 0))) := by
  have t2 : (2 : Int).toNat = 2 := rfl
  have t3 : (3 : Int).toNat = 3 := rfl
  have t4 : (4 : Int).toNat = 4 := rfl
  have a3 : w32 (2 + 1) = 3 := rfl
  have a4 : w32 (3 + 1) = 4 := rfl
  have a5 : w32 (4 + 1) = 5 := rfl
  have e39 : ∀ f, row τ 38 0 f 39 0 = τ 39 0 := fun _ => rfl
  have e30 : ∀ f, row τ 38 0 f 30 0 = τ 30 0 := fun _ => rfl
  rw [eX9_copiesBundle_52, if_neg (by decide), if_neg (by decide), if_pos (by decide), if_neg (by decide), if_pos (by decide), t2, a3, sup_row, eX9_copiesBundle_52, if_neg (by decide), if_neg (by decide), if_pos (by decide), if_neg (by decide), if_pos (by decide), t3, a4, sup_row, row_same, row_row, e39, eX9_copiesBundle_52, if_neg (by decide), if_neg (by decide), if_pos (by decide), if_neg (by decide), if_pos (by decide), t4, a5, sup_row, row_same, row_row, e39, eX9_copiesBundle_52, if_pos (by decide), sup_row, e30]
theorem m_copies {τ : Sto} {K I : Nat} (hK : K ≤ 6) (hI : I ≤ 6) (h7 : τ 30 0 7 = (K : Int)) (h8 : τ 30 0 8 = (I : Int)) : inv N mX9_copiesBundle [vR 30 0] (P τ) = some (none, P (cpQ τ K (14 * I))) := by
  have r8 : ∀ f, row τ 30 0 f 30 0 = f := fun _ => row_same _ _ _ _
  have c1 := m_cp1 (N := N) K hK K 0 (row τ 30 0 (set (set (τ 30 0) 5 (K : Int)) 6 (I : Int))) (Nat.zero_add K) (by rw [row_same, set_ne _ _ (by decide), set_same])
  have e : ∀ f k', (k' = 32 ∨ k' = 33 ∨ k' = 34 ∨ k' = 35) → row τ 30 0 f k' 0 = τ k' 0 := fun f k' hk => by rw [row_at, if_neg (by omega)]
  rw [e _ 34 (by decide), e _ 32 (by decide), e _ 35 (by decide), e _ 33 (by decide), cpyV_0, cpyV_0] at c1
  have id1 : row (row (row τ 30 0 (set (set (τ 30 0) 5 (K : Int)) 6 (I : Int))) 32 0 (τ 32 0)) 33 0 (τ 33 0) = row τ 30 0 (set (set (τ 30 0) 5 (K : Int)) 6 (I : Int)) := by
    rw [row_comm τ 30 0 32 0 _ _ (by decide), row_comm (row τ 32 0 (τ 32 0)) 30 0 33 0 _ _ (by decide), row_id, row_id]
  rw [id1] at c1
  have c2 := m_cp2 (N := N) I hI (14 * I) 0 (row (row (row τ 30 0 (set (set (τ 30 0) 5 (K : Int)) 6 (I : Int))) 32 0 (cpyV (τ 34 0) (τ 32 0) 0 0 K)) 33 0 (cpyV (τ 35 0) (τ 33 0) 0 0 K)) (Nat.zero_add _) rfl
  rw [cpyV_0, row_id] at c2
  rw [iX9_copiesBundle, eX9_copiesBundle_0]
  simp only [sup_row, row_same, row_row]
  rw [set_ne _ _ (show 8 ≠ 5 by decide), h7, h8]
  refine Eq.trans c1 (Eq.trans c2 ?_)
  rw [m_cp3]
  show some (none, P _) = some (none, P _)
  unfold cpQ
  rw [h7, h8]
  have cm := fun (a b c d : Vec) (x y z w v : Vec) => (rfl : row (row (row (row (row (row τ 30 0 a) 32 0 x) 33 0 y) 36 0 z) 38 0 w) 30 0 v = row (row (row (row (row (row τ 30 0 a) 32 0 x) 33 0 y) 36 0 z) 38 0 w) 30 0 v)
  congr 2
  rw [row_comm _ 38 0 30 0 _ _ (by decide), row_comm _ 36 0 30 0 _ _ (by decide), row_comm _ 33 0 30 0 _ _ (by decide), row_comm _ 32 0 30 0 _ _ (by decide), row_row]
  rfl
end BU
end
