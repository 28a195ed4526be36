section
/-! BUNDLE: the pair -/
section BU
variable {N n : Nat} {T : Vec} {σ : Sto} {L : Int}
theorem all_fr {σ σa σr σ2 τm τ2 τ3 : Sto} (a : ∀ k k', ¬ (k = 0 ∧ k' = 0) → σa k k' = σ k k') (b : CFr σa σr) (c : CFr σr σ2) (d : MFr σ2 τm) (e : MFr τm τ2) (f : ∀ k k', ¬ (k = 30 ∧ k' = 0) → τ3 k k' = τ2 k k') : ∀ k k', ¬ (k' = 0 ∧ (k = 0 ∨ k = 2 ∨ k = 3 ∨ k = 4 ∨ k = 5 ∨ k = 8 ∨ k = 30 ∨ k = 34 ∨ k = 35 ∨ k = 37 ∨ k = 39)) → τ3 k k' = σ k k' := by
  intro k k' q
  rw [f k k' (by omega), e.1 k k' (by omega), d.1 k k' (by omega), c k k' (by omega), b k k' (by omega), a k k' (by omega)]
theorem all_30 {σ σa σr σ2 τm τ2 : Sto} (a : ∀ k k', ¬ (k = 0 ∧ k' = 0) → σa k k' = σ k k') (b : CFr σa σr) (c : CFr σr σ2) (d : MFr σ2 τm) (e : MFr τm τ2) {j : Nat} (hj : j ≠ 2 ∧ j ≠ 3 ∧ j ≠ 4 ∧ j ≠ 7 ∧ j ≠ 8 ∧ j ≠ 9) : τ2 30 0 j = σ 30 0 j := by
  rw [e.2 j hj.1 hj.2.1 hj.2.2.1 hj.2.2.2.1 hj.2.2.2.2.1 hj.2.2.2.2.2, d.2 j hj.1 hj.2.1 hj.2.2.1 hj.2.2.2.1 hj.2.2.2.2.1 hj.2.2.2.2.2, c 30 0 (by decide), b 30 0 (by decide), a 30 0 (by decide)]
theorem all_00 {σa σr σ2 τm τ2 τ3 : Sto} (b : CFr σa σr) (c : CFr σr σ2) (d : MFr σ2 τm) (e : MFr τm τ2) (f : ∀ k k', ¬ (k = 30 ∧ k' = 0) → τ3 k k' = τ2 k k') : τ3 0 0 = σa 0 0 := by
  rw [f 0 0 (by decide), e.1 0 0 (by decide), d.1 0 0 (by decide), c 0 0 (by decide), b 0 0 (by decide)]
theorem tape_n (h : TAPE σ) : ∃ n : Nat, σ 0 0 1 = (n : Int) ∧ n ≤ 300 := by
  obtain ⟨a, b, -⟩ := h
  exact ⟨(σ 0 0 1).toNat, by omega, by omega⟩
theorem TAPE_0 (h : TAPE σ) {τ : Sto} (e0 : τ 0 0 = set (σ 0 0) 1 0) (e1 : τ 1 0 = σ 1 0) (e31 : τ 31 0 = σ 31 0) (e30 : τ 30 0 1 = 0) : TAPE τ := by
  unfold TAPE at h ⊢
  rw [e0, e1, e31, e30, set_same]
  exact ⟨by decide, by decide, rfl, h.2.2.2⟩
theorem DRAWN_0 (h : DRAWN σ) {τ : Sto} (e0 : τ 0 0 = set (σ 0 0) 1 0) (e35 : τ 30 0 35 = σ 30 0 35) : DRAWN τ := by
  unfold DRAWN at h ⊢
  rw [e0, e35, set_ne _ _ (by decide)]
  exact h
theorem MX_tape (h : TAPE σ) {n : Nat} (hn : σ 0 0 1 = (n : Int)) (h300 : n ≤ 300) {τ : Sto} (e31 : τ 31 0 = σ 31 0) (e30 : τ 30 0 1 = σ 30 0 1) : MX n (σ 1 0) τ := by
  obtain ⟨-, -, a, b⟩ := h
  refine ⟨by rw [e30, a, hn], h300, fun j hj => ?_, fun j hj => ⟨(b j hj).1, (b j hj).2.1⟩⟩
  rw [e31]
  exact ⟨⟨(b j hj).2.2.1, (b j hj).2.2.2.1⟩, (b j hj).2.2.2.2⟩
theorem rd_run (h : INV L σ) {n : Nat} (hn : σ 0 0 1 = (n : Int)) (h300 : n ≤ 300) : RD1 n (σ 1 0) (rdQ (row σ 0 0 (set (σ 0 0) 1 0)) (n : Int)) (inv N mX4_read [vR 8 0, vI (n : Int)] (P (row σ 0 0 (set (σ 0 0) 1 0)))) (fun τ => ev N mX9_bundle 34 [vR 30 0, vI 0, vI 1] [] (P τ)) N := by
  obtain ⟨cr, zw, h10⟩ := rd_CR (σ := row σ 0 0 (set (σ 0 0) 1 0)) h300 h.1.2.2.2.2.1
  have lp := read_loop (N := N) (n : Int) (n + 1) _ 0 0 (by omega) cr zw (Nat.le_refl 0) h10
  rw [c_read0]
  exact lp
theorem tk_at (g f : Vec) : tk2 g f 0 = g 0 ∧ tk2 g f 1 = g 1 ∧ tk2 g f 2 = g 2 ∧ tk2 g f 3 = g 3 ∧ tk2 g f 4 = g 4 := ⟨rfl, rfl, rfl, rfl, rfl⟩
theorem cpy_in0 (f g : Vec) {n k : Nat} (h : k < n) : cpyV f g 0 0 n k = f k := by
  have := cpyV_in f g 0 0 n k h
  rw [Nat.zero_add] at this
  exact this
theorem lt6_n {k K : Nat} (h : (k : Int) < (K : Int)) (hK : K ≤ 6) : k < K ∧ k < 6 := by omega
theorem lt84_n {k I : Nat} (h : (k : Int) < 14 * (I : Int)) (hI : I ≤ 6) : k < 14 * I ∧ k < 84 := by omega
/-- both bundles, of the same text -/
theorem EnvM_new {ω σ2 τ2 : Sto} {K I : Nat} (hK : K ≤ 6) (hI : I ≤ 6) (eK : σ2 2 0 0 = (K : Int)) (eI : σ2 2 0 1 = (I : Int)) (dr : DR σ2) (rr : RR σ2 τ2) (old32 : ∀ k, k < 6 → 0 ≤ τ2 32 0 k ∧ τ2 32 0 k < 10000) (old36 : ∀ k, k < 84 → 0 ≤ τ2 36 0 k ∧ τ2 36 0 k < 100000) (w21 : ω 2 1 = tk2 (σ2 2 0) (σ2 2 1)) (w31 : ω 3 1 = cpyV (σ2 3 0) (σ2 3 1) 0 0 6) (w41 : ω 4 1 = cpyV (σ2 4 0) (σ2 4 1) 0 0 6) (w51 : ω 5 1 = cpyV (σ2 5 0) (σ2 5 1) 0 0 84) (w5 : ω 30 0 5 = (K : Int)) (w6 : ω 30 0 6 = (I : Int)) (w32 : ω 32 0 = cpyV (τ2 34 0) (τ2 32 0) 0 0 K) (w33 : ω 33 0 = cpyV (τ2 35 0) (τ2 33 0) 0 0 K) (w36 : ω 36 0 = cpyV (τ2 37 0) (τ2 36 0) 0 0 (14 * I)) (w38 : ω 38 0 2 = τ2 39 0 2 ∧ ω 38 0 3 = τ2 39 0 3 ∧ ω 38 0 4 = τ2 39 0 4) : OKG ω 1 ∧ EnvM ω ω := by
  obtain ⟨a, b, c, d, e, ⟨f1, f2⟩, i, -⟩ := dr
  obtain ⟨-, -, -, -, rk, rw', l, m, o, -⟩ := rr
  have i2 := i.2
  rw [eK] at i2 rk
  rw [eI] at rw'
  obtain ⟨t0, t1, t2, t3, t4⟩ := tk_at (σ2 2 0) (σ2 2 1)
  have z3 : ∀ k, k < 6 → ω 3 1 k = σ2 3 0 k := fun k hk => by rw [w31]; exact cpy_in0 _ _ hk
  have z4 : ∀ k, k < 6 → ω 4 1 k = σ2 4 0 k := fun k hk => by rw [w41]; exact cpy_in0 _ _ hk
  have z5 : ∀ k, k < 84 → ω 5 1 k = σ2 5 0 k := fun k hk => by rw [w51]; exact cpy_in0 _ _ hk
  have x32 : ∀ k : Nat, (k : Int) < (K : Int) → ω 32 0 k = σ2 3 0 k := fun k hk => by rw [w32, cpy_in0 _ _ (lt6_n hk hK).1]; exact (rk k hk).1
  have x33 : ∀ k : Nat, (k : Int) < (K : Int) → ω 33 0 k = σ2 4 0 k := fun k hk => by rw [w33, cpy_in0 _ _ (lt6_n hk hK).1]; exact (rk k hk).2
  have x36 : ∀ k : Nat, (k : Int) < 14 * (I : Int) → ω 36 0 k = σ2 5 0 k := fun k hk => by rw [w36, cpy_in0 _ _ (lt84_n hk hI).1]; exact rw' k hk
  have ouG : OKU (K : Int) (ω 4 1) := ⟨Int.ofNat_le.mpr hK, fun k hk => by rw [z4 k (lt6_n hk hK).2]; exact i2 k hk⟩
  have ouM : OKU (K : Int) (ω 33 0) := ⟨Int.ofNat_le.mpr hK, fun k hk => by rw [x33 k hk]; exact i2 k hk⟩
  refine ⟨?_, ⟨?_, fun c s => ?_, ?_, ?_, ?_, ?_, ?_, fun j hj => ?_, fun k hk => ?_⟩⟩
  · unfold OKG
    rw [w21, t0, t1, t2, t3, t4, eK]
    exact ⟨by rw [← eK]; exact a.1, by rw [← eK]; exact a.2, b.1, b.2, c.1, c.2, d.1, d.2, e.1, e.2, fun k hk => by rw [z3 k hk]; exact f1 k hk, ouG, fun k hk => by rw [z5 k hk]; exact f2 k hk⟩
  · unfold OKM
    rw [w5, w6, w38.1, w38.2.1, w38.2.2, l, m, o]
    refine ⟨by rw [← eK]; exact a.1, by rw [← eK]; exact a.2, by rw [← eI]; exact b.1, by rw [← eI]; exact b.2, c.1, c.2, d.1, d.2, e.1, e.2, fun k hk => ?_, ouM, fun k hk => ?_⟩
    · by_cases q : k < K
      · rw [x32 k (Int.ofNat_lt.mpr q)]; exact f1 k hk
      · rw [w32, cpyV_out _ _ _ _ _ _ (Or.inr (by rw [Nat.zero_add]; exact Nat.le_of_not_lt q))]; exact old32 k hk
    · by_cases q : k < 14 * I
      · rw [x36 k (by rw [show 14 * (I : Int) = ((14 * I : Nat) : Int) from rfl]; exact Int.ofNat_lt.mpr q)]; exact f2 k hk
      · rw [w36, cpyV_out _ _ _ _ _ _ (Or.inr (by rw [Nat.zero_add]; exact Nat.le_of_not_lt q))]; exact old36 k hk
  · show whyF (ω 30 0 5) (ω 32 0) (ω 33 0) c s = whyF (ω 2 1 0) (ω 3 1) (ω 4 1) c s
    rw [w5, w21, t0, eK]
    exact whyF_bundle ouG (fun k hk => (x32 k hk).trans (z3 k (lt6_n hk hK).2).symm) (fun k hk => (x33 k hk).trans (z4 k (lt6_n hk hK).2).symm) c s
  · rw [w5, w21, t0, eK]
  · rw [w6, w21, t1, eI]
  · rw [w38.1, w21, t2, l]
  · rw [w38.2.1, w21, t3, m]
  · rw [w38.2.2, w21, t4, o]
  · rw [w21, t1, eI] at hj
    rw [x36 j hj, z5 j (lt84_n hj hI).2]
  · rw [w21, t0, eK] at hk
    rw [x33 k hk, z4 k (lt6_n hk hK).2]
theorem pair_bundle : PAIR N mX8_bundle mX9_bundle [] := by
  intro L σ h hL
  obtain ⟨n, hn, h300⟩ := tape_n h.1.2.2.1
  have hT := h.1.2.2.1
  obtain ⟨f, σ2, k2, d1, d2, d3, d4, d5⟩ := rd_run (N := N) h hn h300
  have fa : ∀ k k', ¬ (k = 0 ∧ k' = 0) → row σ 0 0 (set (σ 0 0) 1 0) k k' = σ k k' := fun k k' q => by rw [row_at, if_neg q]
  have a00 : row σ 0 0 (set (σ 0 0) 1 0) 0 0 = set (σ 0 0) 1 0 := row_same _ _ _ _
  have fb := CFr_rd (σ := row σ 0 0 (set (σ 0 0) 1 0)) (n : Int)
  have rr := fun τ : Sto => mb_RR (σr := rdQ (row σ 0 0 (set (σ 0 0) 1 0)) (n : Int)) (τ := τ) rfl rfl rfl rfl rfl rfl rfl rfl rfl
  have cls : inv N mX8_bundle [vR 0 0] (P σ) = ev N mX8_bundle 10 [vR 0 0, vI (n : Int), vX] [vI f] (P σ2) := by
    rw [iX8_bundle, eX8_bundle_0, sup_row, hn, d1, bnd_s, push_s]
  generalize rdQ (row σ 0 0 (set (σ 0 0) 1 0)) (n : Int) = σr at d2 d5 fb rr
  generalize row σ 0 0 (set (σ 0 0) 1 0) = σa at fa a00 fb
  by_cases ff : f = -1
  case neg =>
    -- a fault
    have c30 : σ2 30 0 = σ 30 0 := by rw [d2 30 0 (by decide), fb 30 0 (by decide), fa 30 0 (by decide)]
    have c31 : σ2 31 0 = σ 31 0 := by rw [d2 31 0 (by decide), fb 31 0 (by decide), fa 31 0 (by decide)]
    have mx := MX_tape hT hn h300 (τ := mbS σ2) c31 (by show mb30 (σ2 30 0) 1 = _; unfold mb30; rw [set_ne _ _ (by decide), set_ne _ _ (by decide), set_ne _ _ (by decide), set_ne _ _ (by decide), set_ne _ _ (by decide), c30])
    obtain ⟨τ2, m1, m2, m3, -⟩ := d5 (mbS σ2) mx (rr σ2)
    have mfr := MFr_mb σ2
    have f3 : ∀ k k', ¬ (k = 30 ∧ k' = 0) → row τ2 30 0 (set (τ2 30 0) 1 0) k k' = τ2 k k' := fun k k' q => by rw [row_at, if_neg q]
    have al := all_fr fa fb d2 mfr m2 f3
    have a3 := fun (j : Nat) hj => all_30 fa fb d2 mfr m2 (j := j) hj
    have z0 := all_00 fb d2 mfr m2 f3
    rw [a00] at z0
    have rt := m_right (N := N) (σ := row τ2 30 0 (set (τ2 30 0) 1 0))
    rw [row_same, set_ne _ _ (show 3 ≠ 1 by decide), m3, if_neg ff] at rt
    change ev N mX9_bundle 34 [vR 30 0, vI 0, vI 1] [] (P (mbS σ2)) = _ at m1
    have dr : DRAFT (row τ2 30 0 (set (τ2 30 0) 1 0)) := by
      unfold DRAFT at d3 ⊢
      rw [f3 3 0 (by decide), f3 5 0 (by decide), m2.1 3 0 (by decide), m2.1 5 0 (by decide), mfr.1 3 0 (by decide), mfr.1 5 0 (by decide)]
      exact d3
    refine ⟨w32 (-2 - f), σ2, row τ2 30 0 (set (τ2 30 0) 1 0), ?_, ?_, up300 (L := L) ⟨⟨?_, ?_, TAPE_0 hT z0 (al 1 0 (by decide)) (al 31 0 (by decide)) (by rw [row_same, set_same]), DRAWN_0 h.1.2.2.2.1 z0 (by rw [row_same, set_ne _ _ (by decide)]; exact a3 35 (by decide)), dr⟩, ?_, ?_⟩ (by omega)⟩
    · rw [cls, eX8_bundle_10, if_neg ff]
    · rw [m_bundle0, m1, eX9_bundle_70, sup_row, rt, bnd_s, push_s, eX9_bundle_75, if_pos rfl, row_same, set_ne _ _ (show 3 ≠ 1 by decide), m3]
    · have b1 := h.1.1
      unfold OKG at b1 ⊢
      rw [al 2 1 (by decide), al 3 1 (by decide), al 4 1 (by decide), al 5 1 (by decide)]
      exact b1
    · have b2 := h.1.2.1
      have e5 : row τ2 30 0 (set (τ2 30 0) 1 0) 30 0 5 = σ 30 0 5 := by rw [row_same, set_ne _ _ (by decide)]; exact a3 5 (by decide)
      have e6 : row τ2 30 0 (set (τ2 30 0) 1 0) 30 0 6 = σ 30 0 6 := by rw [row_same, set_ne _ _ (by decide)]; exact a3 6 (by decide)
      unfold EnvM OKM whyM whyS at b2 ⊢
      rw [al 32 0 (by decide), al 33 0 (by decide), al 36 0 (by decide), al 38 0 (by decide), e5, e6, al 2 1 (by decide), al 3 1 (by decide), al 4 1 (by decide), al 5 1 (by decide)]
      exact b2
    · rw [al 7 0 (by decide), al 40 0 (by decide)]
      exact h.2.1
    · have e21 : row τ2 30 0 (set (τ2 30 0) 1 0) 30 0 21 = σ 30 0 21 := by rw [row_same, set_ne _ _ (by decide)]; exact a3 21 (by decide)
      rw [al 10 0 (by decide), al 9 0 (by decide), al 41 0 (by decide), e21]
      exact h.2.2
  · -- the bundle is taken
    subst ff
    obtain ⟨h10, p2, cr⟩ := d4 rfl
    have ct := c_take21 (N := N) (σ := σ2)
    have e9 : tkQ σ2 9 0 = σ2 9 0 := rfl
    generalize hσ3 : row (tkQ σ2) 9 0 (set (σ2 9 0) 3 0) = σ3
    have s21 : σ3 2 1 = tk2 (σ2 2 0) (σ2 2 1) := by rw [← hσ3]; rfl
    have s31 : σ3 3 1 = cpyV (σ2 3 0) (σ2 3 1) 0 0 6 := by rw [← hσ3]; rfl
    have s41 : σ3 4 1 = cpyV (σ2 4 0) (σ2 4 1) 0 0 6 := by rw [← hσ3]; rfl
    have s51 : σ3 5 1 = cpyV (σ2 5 0) (σ2 5 1) 0 0 84 := by rw [← hσ3]; rfl
    have s9 : σ3 9 0 = set (σ2 9 0) 3 0 := by rw [← hσ3]; rfl
    have so : ∀ k, k ≠ 9 → σ3 k 0 = σ2 k 0 := by
      intro k hk
      rw [← hσ3, row_at, if_neg (fun z => hk z.1)]
      unfold tkQ
      rw [row_at, if_neg (fun z => absurd z.2 (by decide)), row_at, if_neg (fun z => absurd z.2 (by decide)), row_at, if_neg (fun z => absurd z.2 (by decide)), row_at, if_neg (fun z => absurd z.2 (by decide))]
    have c30 : σ3 30 0 = σ 30 0 := by rw [so 30 (by decide), d2 30 0 (by decide), fb 30 0 (by decide), fa 30 0 (by decide)]
    have c31 : σ3 31 0 = σ 31 0 := by rw [so 31 (by decide), d2 31 0 (by decide), fb 31 0 (by decide), fa 31 0 (by decide)]
    have mx := MX_tape hT hn h300 (τ := mbS σ3) c31 (by show mb30 (σ3 30 0) 1 = _; unfold mb30; rw [set_ne _ _ (by decide), set_ne _ _ (by decide), set_ne _ _ (by decide), set_ne _ _ (by decide), set_ne _ _ (by decide), c30])
    obtain ⟨τ2, m1, m2, m3, m4⟩ := d5 (mbS σ3) mx (rr σ3)
    have r4 := m4 rfl
    have mfr := MFr_mb σ3
    change ev N mX9_bundle 34 [vR 30 0, vI 0, vI 1] [] (P (mbS σ3)) = _ at m1
    obtain ⟨K, eK⟩ := Int.eq_ofNat_of_zero_le cr.2.2.2.2.1.1
    obtain ⟨I, eI⟩ := Int.eq_ofNat_of_zero_le cr.2.2.2.2.2.1.1
    have K6 : K ≤ 6 := Int.ofNat_le.mp (by rw [← eK]; exact cr.2.2.2.2.1.2)
    have I6 : I ≤ 6 := Int.ofNat_le.mp (by rw [← eI]; exact cr.2.2.2.2.2.1.2)
    have t7 : τ2 30 0 7 = (K : Int) := r4.2.2.1.trans eK
    have t8 : τ2 30 0 8 = (I : Int) := r4.2.2.2.1.trans eI
    have mc := m_copies (N := N) (τ := row τ2 30 0 (set (τ2 30 0) 1 0)) K6 I6 (by rw [row_same, set_ne _ _ (by decide)]; exact t7) (by rw [row_same, set_ne _ _ (by decide)]; exact t8)
    -- what the model leaves
    have mo : ∀ k k', ¬ (k' = 0 ∧ (k = 30 ∨ k = 34 ∨ k = 35 ∨ k = 37 ∨ k = 39)) → τ2 k k' = σ3 k k' := fun k k' q => (m2.1 k k' q).trans (mfr.1 k k' q)
    have ol : ∀ k, k ≠ 9 → k ≠ 0 → k ≠ 2 → k ≠ 3 → k ≠ 4 → k ≠ 5 → k ≠ 8 → k ≠ 30 → k ≠ 34 → k ≠ 35 → k ≠ 37 → k ≠ 39 → τ2 k 0 = σ k 0 := by
      intro k h9 h0 h2 h3 h4 h5 h8 h30 h34 h35 h37 h39
      rw [mo k 0 (fun z => by rcases z.2 with y | y | y | y | y; exact h30 y; exact h34 y; exact h35 y; exact h37 y; exact h39 y), so k h9, d2 k 0 (fun z => by rcases z.2 with y | y | y | y | y; exact h2 y; exact h3 y; exact h4 y; exact h5 y; exact h8 y), fb k 0 (fun z => by rcases z.2 with y | y | y | y | y; exact h2 y; exact h3 y; exact h4 y; exact h5 y; exact h8 y), fa k 0 (fun z => h0 z.1)]
    have j35 : τ2 30 0 35 = σ 30 0 35 := by
      rw [m2.2 35 (by decide) (by decide) (by decide) (by decide) (by decide) (by decide), mfr.2 35 (by decide) (by decide) (by decide) (by decide) (by decide) (by decide), c30]
    have rt := m_right (N := N) (σ := row τ2 30 0 (set (τ2 30 0) 1 0))
    rw [row_same, set_ne _ _ (show 3 ≠ 1 by decide), m3, if_pos rfl] at rt
    generalize hω : cpQ (row τ2 30 0 (set (τ2 30 0) 1 0)) K (14 * I) = ω at mc
    have w30 : ω 30 0 = set (set (set (set (τ2 30 0) 1 0) 5 (set (τ2 30 0) 1 0 7)) 6 (set (τ2 30 0) 1 0 8)) 21 0 := by rw [← hω]; rfl
    have w32 : ω 32 0 = cpyV (τ2 34 0) (τ2 32 0) 0 0 K := by rw [← hω]; rfl
    have w33 : ω 33 0 = cpyV (τ2 35 0) (τ2 33 0) 0 0 K := by rw [← hω]; rfl
    have w36 : ω 36 0 = cpyV (τ2 37 0) (τ2 36 0) 0 0 (14 * I) := by rw [← hω]; rfl
    have w38 : ω 38 0 = set (set (set (τ2 38 0) 2 (τ2 39 0 2)) 3 (τ2 39 0 3)) 4 (τ2 39 0 4) := by rw [← hω]; rfl
    have wo : ∀ k k', ¬ (k' = 0 ∧ (k = 30 ∨ k = 32 ∨ k = 33 ∨ k = 36 ∨ k = 38)) → ω k k' = τ2 k k' := by
      intro k k' q
      rw [← hω]
      unfold cpQ
      rw [row_at, if_neg (fun z => q ⟨z.2, by rw [z.1]; decide⟩), row_at, if_neg (fun z => q ⟨z.2, by rw [z.1]; decide⟩), row_at, if_neg (fun z => q ⟨z.2, by rw [z.1]; decide⟩), row_at, if_neg (fun z => q ⟨z.2, by rw [z.1]; decide⟩), row_at, if_neg (fun z => q ⟨z.2, by rw [z.1]; decide⟩), row_at, if_neg (fun z => q ⟨z.2, by rw [z.1]; decide⟩)]
    clear hω
    have w1 : ω 30 0 1 = 0 := by rw [w30]; rfl
    have w5 : ω 30 0 5 = (K : Int) := by rw [w30]; exact t7
    have w6 : ω 30 0 6 = (I : Int) := by rw [w30]; exact t8
    have w21 : ω 30 0 21 = 0 := by rw [w30]; rfl
    have w35 : ω 30 0 35 = σ 30 0 35 := by rw [w30]; exact j35
    have okM := h.1.2.1.1
    have o32 : τ2 32 0 = σ 32 0 := ol 32 (by decide) (by decide) (by decide) (by decide) (by decide) (by decide) (by decide) (by decide) (by decide) (by decide) (by decide) (by decide)
    have o36 : τ2 36 0 = σ 36 0 := ol 36 (by decide) (by decide) (by decide) (by decide) (by decide) (by decide) (by decide) (by decide) (by decide) (by decide) (by decide) (by decide)
    have o1 : ω 1 0 = σ 1 0 := (wo 1 0 (by decide)).trans (ol 1 (by decide) (by decide) (by decide) (by decide) (by decide) (by decide) (by decide) (by decide) (by decide) (by decide) (by decide) (by decide))
    have o31 : ω 31 0 = σ 31 0 := (wo 31 0 (by decide)).trans (ol 31 (by decide) (by decide) (by decide) (by decide) (by decide) (by decide) (by decide) (by decide) (by decide) (by decide) (by decide) (by decide))
    have o7 : ω 7 0 = σ 7 0 := (wo 7 0 (by decide)).trans (ol 7 (by decide) (by decide) (by decide) (by decide) (by decide) (by decide) (by decide) (by decide) (by decide) (by decide) (by decide) (by decide))
    have o40 : ω 40 0 = σ 40 0 := (wo 40 0 (by decide)).trans (ol 40 (by decide) (by decide) (by decide) (by decide) (by decide) (by decide) (by decide) (by decide) (by decide) (by decide) (by decide) (by decide))
    have o0 : ω 0 0 = set (σ 0 0) 1 0 := by
      rw [wo 0 0 (by decide), mo 0 0 (by decide), so 0 (by decide), d2 0 0 (by decide), fb 0 0 (by decide), a00]
    have o9 : ω 9 0 = set (σ 9 0) 3 0 := by
      rw [wo 9 0 (by decide), mo 9 0 (by decide), s9, d2 9 0 (by decide), fb 9 0 (by decide), fa 9 0 (by decide)]
    have o3 : ω 3 0 = σ2 3 0 := by rw [wo 3 0 (by decide), mo 3 0 (by decide), so 3 (by decide)]
    have o5 : ω 5 0 = σ2 5 0 := by rw [wo 5 0 (by decide), mo 5 0 (by decide), so 5 (by decide)]
    have env := EnvM_new (ω := ω) K6 I6 eK eI cr.2.2.2.2 r4 (by rw [o32]; exact okM.2.2.2.2.2.2.2.2.2.2.1) (by rw [o36]; exact okM.2.2.2.2.2.2.2.2.2.2.2.2) (by rw [wo 2 1 (by decide), mo 2 1 (by decide), s21]) (by rw [wo 3 1 (by decide), mo 3 1 (by decide), s31]) (by rw [wo 4 1 (by decide), mo 4 1 (by decide), s41]) (by rw [wo 5 1 (by decide), mo 5 1 (by decide), s51]) w5 w6 w32 w33 w36 ⟨by rw [w38]; rfl, by rw [w38]; rfl, by rw [w38]; rfl⟩
    have dr : DRAFT ω := by
      unfold DRAFT at d3 ⊢
      rw [o3, o5]
      exact d3
    refine ⟨k2, σ3, ω, ?_, ?_, up300 (L := L) ⟨⟨env.1, env.2, TAPE_0 hT o0 o1 o31 w1, DRAWN_0 h.1.2.2.2.1 o0 w35, dr⟩, ?_, ?_⟩ (by omega)⟩
    · have r810 : row (tkQ σ2) 9 0 (set (σ2 9 0) 3 0) 8 0 10 = k2 := h10
      rw [cls, eX8_bundle_10, if_pos rfl, ct, bnd_s, push_n, eX8_bundle_23, iX3_forget, eX3_forget_0, bnd_s, push_n, eX8_bundle_26, sup_row, e9, r810, hσ3]
    · rw [m_bundle0, m1, eX9_bundle_70, sup_row, rt, bnd_s, push_s, eX9_bundle_75, if_neg (by decide), mc, bnd_s, push_n, eX9_bundle_83]
    · rw [o7, o40]
      exact h.2.1
    · rw [o9, w21, set_same, set_ne _ _ (show 2 ≠ 3 by decide)]
      exact PAST_0 L _ _ _ h.2.2.1
end BU
end
section
/-! LIFE, the class's: it ends, and leaves the real machine as it is -/
def LVB (σ : Sto) (f g : Vec) : Sto := row (row σ 12 0 f) 13 0 g
def LVS (σ : Sto) (x : XP) (f g : Vec) : Sto := putC (LVB σ f g) 3 x
section LIFE
variable {N : Nat} {σ : Sto} {x : XP} {f g : Vec}
theorem LVB_o (σ : Sto) (f g : Vec) {k : Nat} (k' : Nat) (h : k ≠ 12) (h2 : k ≠ 13) : LVB σ f g k k' = σ k k' := by
  unfold LVB
  rw [row_at, if_neg (fun z => h2 z.1), row_at, if_neg (fun z => h z.1)]
theorem LVS_12 : LVS σ x f g 12 0 = f := by
  unfold LVS LVB
  rw [putC_o _ _ _ _ (by decide) (by decide), row_at, if_neg (by decide), row_same]
theorem LVS_13 : LVS σ x f g 13 0 = g := by
  unfold LVS LVB
  rw [putC_o _ _ _ _ (by decide) (by decide), row_same]
theorem LVS_2 : LVS σ x f g 2 1 = σ 2 1 := by
  unfold LVS
  rw [putC_o _ _ _ _ (by decide) (by decide), LVB_o _ _ _ _ (by decide) (by decide)]
theorem LVS_7 : LVS σ x f g 7 0 = σ 7 0 := by
  unfold LVS
  rw [putC_i _ _ _ (by decide), LVB_o _ _ _ _ (by decide) (by decide)]
theorem LVS_r12 (h : Vec) : row (LVS σ x f g) 12 0 h = LVS σ x h g := by
  unfold LVS LVB putC
  rw [row_comm _ 6 3 12 0 _ _ (by decide), row_comm _ 7 3 12 0 _ _ (by decide), row_comm _ 13 0 12 0 _ _ (by decide), row_row]
theorem LVS_r13 (h : Vec) : row (LVS σ x f g) 13 0 h = LVS σ x f h := by
  unfold LVS LVB putC
  rw [row_comm _ 6 3 13 0 _ _ (by decide), row_comm _ 7 3 13 0 _ _ (by decide), row_row]
theorem LVS_s12 (j : Nat) (v : Int) : sup (LVS σ x f g) 12 0 j v = LVS σ x (set f j v) g := by
  rw [sup_row, LVS_12, LVS_r12]
theorem LVS_s13 (j : Nat) (v : Int) : sup (LVS σ x f g) 13 0 j v = LVS σ x f (set g j v) := by
  rw [sup_row, LVS_13, LVS_r13]
theorem OKG_LVB (h : OKG σ 1) : OKG (LVB σ f g) 1 := h
theorem QX_LVS (σ : Sto) (x : XP) (f g : Vec) : QX σ (LVS σ x f g) := QX_trans (QX_trans (QX_row σ 12 0 f (by decide) (by decide) (by decide)) (QX_row _ 13 0 g (by decide) (by decide) (by decide))) (QX_put _ 3 (by decide) x)
theorem c_draw (k : Int) : ∃ v f', inv N mX1_draw [vR 12 0, vI k] (P (LVS σ x f g)) = some (some (vI v), P (LVS σ x f' g)) := by
  rw [iX1_draw, eX1_draw_0, LVS_s12]
  by_cases q : 0 < k
  · rw [if_pos q, if_neg (show ¬ k = 0 by omega)]
    exact ⟨_, _, rfl⟩
  · rw [if_neg q]
    exact ⟨_, _, rfl⟩
theorem c_drawDeed : ∃ c f', inv N mX1_drawDeed [vR 12 0] (P (LVS σ x f g)) = some (none, P (LVS σ (c, x.2) f' g)) ∧ (c = x.1 ∨ c = set x.1 78 (-1)) := by
  rw [iX1_drawDeed, eX1_drawDeed_0, LVS_s12, LVS_s12, s2_isOn, bnd_s, push_s, eX1_drawDeed_9]
  generalize set (set f 6 0) 7 0 = f1
  by_cases q : LVS σ x f1 g 7 3 78 = -1
  · rw [if_pos q, if_pos rfl, LVS_s12]
    obtain ⟨v, f2, e⟩ := c_draw (N := N) (σ := σ) (x := x) (f := set f1 5 0) (g := g) 4
    rw [e, bnd_s, push_s, eX1_drawDeed_17]
    by_cases z : v = 0
    · rw [if_pos z, LVS_s12]
      exact ⟨x.1, _, rfl, Or.inl rfl⟩
    · rw [if_neg z, LVS_s12]
      exact ⟨x.1, _, rfl, Or.inl rfl⟩
  rw [if_neg q, if_neg (by decide)]
  obtain ⟨v, f2, e⟩ := c_draw (N := N) (σ := σ) (x := x) (f := f1) (g := g) 8
  have two : ∀ f2, ∃ c f', bnd (inv N mX1_draw [vR 12 0, vI 2] (P (LVS σ x f2 g))) (fun r S2 => ev N mX1_drawDeed 38 [vR 12 0] (push r [vR 12 0]) S2) = some (none, P (LVS σ (c, x.2) f' g)) ∧ (c = x.1 ∨ c = set x.1 78 (-1)) := by
    intro f2
    obtain ⟨v2, f3, e2⟩ := c_draw (N := N) (σ := σ) (x := x) (f := f2) (g := g) 2
    rw [e2, bnd_s, push_s, eX1_drawDeed_38, LVS_s12]
    obtain ⟨v3, f4, e3⟩ := c_draw (N := N) (σ := σ) (x := x) (f := set f3 6 v2) (g := g) (LVS σ x (set f3 6 v2) g 2 1 1)
    rw [e3, bnd_s, push_s, eX1_drawDeed_45, LVS_s12]
    exact ⟨x.1, _, rfl, Or.inl rfl⟩
  rw [e, bnd_s, push_s, eX1_drawDeed_26, LVS_s12, LVS_s12, LVS_s12, LVS_s12, LVS_s12, LVS_s12]
  by_cases z0 : v = 0
  · rw [if_pos z0]
    exact ⟨x.1, _, rfl, Or.inl rfl⟩
  by_cases z1 : v = 1
  · rw [if_neg z0, if_pos z1]
    exact ⟨x.1, _, rfl, Or.inl rfl⟩
  by_cases z2 : v = 2
  · rw [if_neg z0, if_neg z1, if_pos z2]
    exact two _
  by_cases z3 : v = 3
  · rw [if_neg z0, if_neg z1, if_neg z2, if_pos z3]
    exact two _
  by_cases z4 : v = 4
  · rw [if_neg z0, if_neg z1, if_neg z2, if_neg z3, if_pos z4]
    obtain ⟨v3, f4, e3⟩ := c_draw (N := N) (σ := σ) (x := x) (f := set f2 5 3) (g := g) (LVS σ x (set f2 5 3) g 2 1 1)
    rw [e3, bnd_s, push_s, eX1_drawDeed_56, LVS_s12]
    exact ⟨x.1, _, rfl, Or.inl rfl⟩
  by_cases z5 : v = 5
  · rw [if_neg z0, if_neg z1, if_neg z2, if_neg z3, if_neg z4, if_pos z5]
    have t := p2_turnOff (N := N) (i := 3) (σ := LVB σ (set f2 5 (-1)) g) (x := x)
    change inv N mX2_turnOff [vR 6 3] (P (LVS σ x (set f2 5 (-1)) g)) = _ at t
    rw [t, bnd_s, push_n, eX1_drawDeed_64]
    exact ⟨set x.1 78 (-1), _, rfl, Or.inr rfl⟩
  by_cases z6 : v = 6
  · rw [if_neg z0, if_neg z1, if_neg z2, if_neg z3, if_neg z4, if_neg z5, if_pos z6]
    exact ⟨x.1, _, rfl, Or.inl rfl⟩
  rw [if_neg z0, if_neg z1, if_neg z2, if_neg z3, if_neg z4, if_neg z5, if_neg z6]
  exact ⟨x.1, _, rfl, Or.inl rfl⟩
theorem t2_cell (i : Nat) (τ : Sto) (k : Int) : ∃ v, inv N mX2_cell [vR 6 i, vI k] (P τ) = some (some (vI v), P τ) := by
  rw [iX2_cell, eX2_cell_0]
  by_cases a : k < 0
  · rw [if_pos a]
    exact ⟨_, rfl⟩
  by_cases b : k < 107
  · rw [if_neg a, if_pos b, if_neg a, if_pos b]
    exact ⟨_, rfl⟩
  rw [if_neg a, if_neg b]
  exact ⟨_, rfl⟩
theorem t2_version (i : Nat) (τ : Sto) (k : Int) : ∃ v, inv N mX2_version [vR 6 i, vI k] (P τ) = some (some (vI v), P τ) := by
  obtain ⟨v, e⟩ := t2_cell (N := N) i τ (w32 (k * 14))
  rw [iX2_version, eX2_version_0, e, bnd_s, push_s, eX2_version_5]
  exact ⟨_, rfl⟩
theorem t6_at13 (τ : Sto) (k : Int) : ∃ v, inv N mX6_at [vR 13 0, vI k] (P τ) = some (some (vI v), P τ) := by
  by_cases a : 0 ≤ k ∧ k < 31
  · exact ⟨_, s6_at13 k a.1 a.2⟩
  · exact ⟨_, s6_atO13 k (by omega)⟩
theorem t6_put13 (k v : Int) : ∃ g', inv N mX6_put [vR 13 0, vI k, vI v] (P (LVS σ x f g)) = some (none, P (LVS σ x f g')) := by
  by_cases a : k < 0
  · rw [iX6_put_k13, eX6_put_0_k13, if_pos a]
    exact ⟨g, rfl⟩
  by_cases b : k < 31
  · rw [s6_put13 k v (by omega) b, LVS_r13]
    exact ⟨_, rfl⟩
  rw [iX6_put_k13, eX6_put_0_k13, if_neg a, if_neg b]
  exact ⟨g, rfl⟩
theorem c_tally (v : Int) : ∃ f' g', inv N mX1_tally [vR 12 0, vI v] (P (LVS σ x f g)) = some (none, P (LVS σ x f' g')) := by
  rw [iX1_tally, eX1_tally_0, LVS_s12, LVS_s12, LVS_s12]
  by_cases z3 : v = 3
  · rw [if_pos z3]
    exact ⟨_, _, rfl⟩
  by_cases z2 : v = 2
  · rw [if_neg z3, if_pos z2, eX1_tally_41]
    exact ⟨_, _, rfl⟩
  rw [if_neg z3, if_neg z2]
  generalize set f 8 _ = f1
  obtain ⟨u, e⟩ := t2_version (N := N) 3 (LVS σ x f1 g) v
  obtain ⟨u2, e2⟩ := t6_at13 (N := N) (LVS σ x f1 g) u
  obtain ⟨g', e3⟩ := t6_put13 (N := N) (σ := σ) (x := x) (f := f1) (g := g) u (w32 (u2 + 1))
  rw [e, bnd_s, push_s, eX1_tally_30, e2, bnd_s, push_s, eX1_tally_38, e3, bnd_s, push_n, eX1_tally_41]
  exact ⟨_, _, rfl⟩
theorem c_attempt (hg : OKG σ 1) (hc : OKC x.1) (s0 : 0 ≤ x.1 82) (s1 : x.1 82 < 2147483647) : ∃ y f' g', inv N mX1_attempt [vR 12 0] (P (LVS σ x f g)) = some (none, P (LVS σ y f' g')) ∧ OKC y.1 ∧ x.1 82 ≤ y.1 82 ∧ y.1 82 ≤ x.1 82 + 1 := by
  obtain ⟨v, f1, e⟩ := c_draw (N := N) (σ := σ) (x := x) (f := f) (g := g) 20
  rw [iX1_attempt, eX1_attempt_0, e, bnd_s, push_s, eX1_attempt_3, LVS_12]
  have ab := p2_isAble (N := N) (i := 3) (σ := LVB σ f1 g) (x := x) (OKG_LVB hg) hc (f1 5) (f1 6) (f1 7)
  change inv N mX2_isAble [vR 6 3, vI (f1 5), vI (f1 6), vI (f1 7)] (P (LVS σ x f1 g)) = some (some (vI (ableF (σ 2 1 1) (σ 5 1) x.1 (f1 5) (f1 6) (f1 7))), P (LVS σ x f1 g)) at ab
  rw [ab, bnd_s, push_s, eX1_attempt_13]
  rcases ableF_b (σ 2 1 1) (σ 5 1) x.1 (f1 5) (f1 6) (f1 7) with z | z
  · rw [if_pos z]
    exact ⟨x, _, _, rfl, hc, Int.le_refl _, by omega⟩
  have z0 : ¬ ableF (σ 2 1 1) (σ 5 1) x.1 (f1 5) (f1 6) (f1 7) = 0 := by rw [z]; decide
  have pf := fun cut => p2_perform (N := N) (i := 3) (σ := LVB σ f1 g) (x := x) (OKG_LVB hg) hc s0 s1 (f1 5) (f1 6) (f1 7) cut z
  have ok := fun cut => performC_ok (σ := LVB σ f1 g) (x := x) (OKG_LVB hg) hc (f1 5) (f1 6) (f1 7) cut z
  have rest : ∀ cut, ∃ y f' g', bnd (inv N mX2_perform [vR 6 3, vI (f1 5), vI (f1 6), vI (f1 7), vI cut] (P (LVS σ x f1 g))) (fun r S2 => ev N mX1_attempt 32 [vR 12 0, vI v, vX] (push r []) S2) = some (none, P (LVS σ y f' g')) ∧ OKC y.1 ∧ x.1 82 ≤ y.1 82 ∧ y.1 82 ≤ x.1 82 + 1 := by
    intro cut
    have pc := pf cut
    have oc := ok cut
    generalize performC (LVB σ f1 g) (f1 5) (f1 6) (f1 7) cut x = p at pc oc
    change inv N mX2_perform [vR 6 3, vI (f1 5), vI (f1 6), vI (f1 7), vI cut] (P (LVS σ x f1 g)) = some (some (vI p.1), P (LVS σ p.2 f1 g)) at pc
    rw [pc, bnd_s, push_s, eX1_attempt_32, LVS_12, LVS_s12]
    by_cases q : p.1 = -2
    · rw [if_pos q, eX1_attempt_49]
      exact ⟨p.2, _, _, rfl, oc.1.1, oc.2⟩
    by_cases q2 : f1 5 = 0
    · obtain ⟨f', g', t⟩ := c_tally (N := N) (σ := σ) (x := p.2) (f := f1) (g := g) p.1
      rw [if_neg q, if_pos q2, t, bnd_s, push_n, eX1_attempt_49]
      exact ⟨p.2, _, _, rfl, oc.1.1, oc.2⟩
    rw [if_neg q, if_neg q2, eX1_attempt_49]
    exact ⟨p.2, _, _, rfl, oc.1.1, oc.2⟩
  rw [if_neg z0, LVS_12]
  by_cases q : v = 19
  · rw [if_pos q]
    exact rest _
  · rw [if_neg q]
    exact rest _
theorem c_below (τ : Sto) (x1 : Int) (h1 : x1 ≤ 31) : ∀ (m k : Nat) (u : Int), (m : Int) + k = 31 → ∃ v, ev N mX1_startsBelow 4 [vR 12 0, vI x1, vI u, vI (k : Int)] [] (P τ) = some (some (vI v), P τ) := by
  intro m
  induction m with
  | zero =>
    intro k u hk
    rw [eX1_startsBelow_4, if_neg (by omega)]
    exact ⟨_, rfl⟩
  | succ m ih =>
    intro k u hk
    rw [eX1_startsBelow_4]
    by_cases q : (k : Int) < x1
    · obtain ⟨v, e⟩ := t6_at13 (N := N) τ (k : Int)
      have e2 : w32 ((k : Int) + 1) = ((k + 1 : Nat) : Int) := by rw [w32i (by omega) (by omega)]; omega
      rw [if_pos q, e, bnd_s, push_s, eX1_startsBelow_12, e2]
      exact ih (k + 1) _ (by omega)
    · rw [if_neg q]
      exact ⟨_, rfl⟩
theorem c_lloop (hg : OKG σ 1) (n what y : Int) (n0 : 0 ≤ n ∧ n ≤ 60) : ∀ (m k : Nat) (x : XP) (f g : Vec), (m : Int) + k = n → OKC x.1 → 0 ≤ x.1 82 → x.1 82 < 2147482000 + k → ∃ ans z f' g', ev N mX1_answer 34 [vR 12 0, vI n, vI what, vI y, vI (k : Int)] [] (P (LVS σ x f g)) = some (some (vI ans), P (LVS σ z f' g')) := by
  intro m
  induction m with
  | zero =>
    intro k x f g hk hc s0 s1
    rw [eX1_answer_34, if_neg (show ¬ (k : Int) < n by omega), LVS_12]
    by_cases q0 : what = 0
    · rw [if_pos q0]
      exact ⟨_, x, f, g, rfl⟩
    by_cases q1 : what = 1
    · rw [if_neg q0, if_pos q1]
      exact ⟨_, x, f, g, rfl⟩
    by_cases q2 : what = 2
    · rw [if_neg q0, if_neg q1, if_pos q2]
      exact ⟨_, x, f, g, rfl⟩
    by_cases q3 : what = 3
    · rw [if_neg q0, if_neg q1, if_neg q2, if_pos q3]
      exact ⟨_, x, f, g, rfl⟩
    have ce := p2_cell (N := N) (i := 3) (σ := LVB σ f g) (x := x) 76 (by decide) (by decide)
    change inv N mX2_cell [vR 6 3, vI 76] (P (LVS σ x f g)) = some (some (vI (x.1 76)), P (LVS σ x f g)) at ce
    rw [if_neg q0, if_neg q1, if_neg q2, if_neg q3, ce, bnd_s, push_s, bnd_s, push_s]
    by_cases q4 : what = 4
    · rw [if_pos q4, eX1_answer_65]
      exact ⟨_, x, f, g, rfl⟩
    rw [if_neg q4, eX1_answer_71, iX1_startsBelow, eX1_startsBelow_0]
    obtain ⟨v, e⟩ := c_below (N := N) (LVS σ x f g) (x.1 76) hc.2.2.1.2 31 0 0 (by decide)
    have e2 : ((0 : Nat) : Int) = 0 := rfl
    rw [e2] at e
    rw [e, bnd_s, push_s, eX1_answer_72]
    exact ⟨_, x, f, g, rfl⟩
  | succ m ih =>
    intro k x f g hk hc s0 s1
    obtain ⟨c, f1, e, hcc⟩ := c_drawDeed (N := N) (σ := σ) (x := x) (f := f) (g := g)
    have e2 : w32 ((k : Int) + 1) = ((k + 1 : Nat) : Int) := by rw [w32i (by omega) (by omega)]; omega
    have hc1 : OKC c ∧ c 82 = x.1 82 := by
      rcases hcc with z | z
      · rw [z]; exact ⟨hc, rfl⟩
      · rw [z]; exact ⟨OKC_78 hc, set_ne _ _ (by decide)⟩
    rw [eX1_answer_34, if_pos (show (k : Int) < n by omega), e, bnd_s, push_n, eX1_answer_39, LVS_12]
    have b0 : 0 ≤ c 82 := by rw [hc1.2]; exact s0
    have b1 : c 82 < 2147482000 + k := by rw [hc1.2]; exact s1
    have k60 : (k : Int) < 60 := by omega
    by_cases q : f1 5 = -1
    · rw [if_pos q, eX1_answer_45, e2]
      exact ih (k + 1) (c, x.2) f1 g (by omega) hc1.1 b0 (by show c 82 < _; omega)
    · obtain ⟨y2, f2, g2, t1, t2, t3, t4⟩ := c_attempt (N := N) (σ := σ) (x := (c, x.2)) (f := f1) (g := g) hg hc1.1 b0 (by show c 82 < _; omega)
      rw [if_neg q, t1, bnd_s, push_n, eX1_answer_45, e2]
      change c 82 ≤ y2.1 82 at t3
      change y2.1 82 ≤ c 82 + 1 at t4
      exact ih (k + 1) y2 f2 g2 (by omega) t2 (by omega) (by omega)
theorem c_fill13 : inv N mJ7_fill_53178 [vR 13 0, vI 0] (P σ) = some (none, P (row σ 13 0 (fill (σ 13 0) 0 31 0))) := by
  have lp : ∀ (m k : Nat) (τ : Sto), k + m = 31 → ev N mJ7_fill_53178 5 [vR 13 0, vI 0, vI (k : Int), vI 31] [] (P τ) = some (none, P (row τ 13 0 (fill (τ 13 0) k m 0))) := by
    intro m
    induction m with
    | zero =>
      intro k τ hk
      have e : k = 31 := by omega
      subst e
      rw [eJ7_fill_53178_5_k13, if_neg (by decide), fill_0, row_id]
    | succ m ih =>
      intro k τ hk
      have l1 : (k : Int) < 31 ∧ ¬ (k : Int) < 0 ∧ k + 1 + m = 31 := by omega
      have e1 : w32 ((k : Int) + 1) = ((k + 1 : Nat) : Int) := by rw [w32i (by omega) (by omega)]; omega
      rw [eJ7_fill_53178_5_k13, if_pos l1.1, if_neg l1.2.1, if_pos l1.1, e1, sup_row, ih (k + 1) _ l1.2.2, row_same, row_row, Int.toNat_natCast, fill_s]
  rw [iJ7_fill_53178_k13, eJ7_fill_53178_0_k13]
  exact lp 31 0 σ rfl
theorem LVS_id (σ : Sto) : LVS σ (σ 7 3, σ 6 3) (σ 12 0) (σ 13 0) = σ := by
  unfold LVS LVB
  rw [row_id, row_id, putC_id]
theorem c_life {L : Int} (h : INV L σ) (hL : L < 2147480000) (a b : Int) : ∃ ans σ1, inv N mX8_life [vR 0 0, vI a, vI b] (P σ) = some (some (vI ans), P σ1) ∧ QX σ σ1 := by
  rw [iX8_life, eX8_life_0]
  by_cases a1 : a < 1
  · rw [if_pos a1]
    exact ⟨_, _, rfl, QX_refl σ⟩
  by_cases a2 : 60 < a
  · rw [if_neg a1, if_pos a2]
    exact ⟨_, _, rfl, QX_refl σ⟩
  by_cases a3 : σ 2 1 1 = 0
  · rw [if_neg a1, if_neg a2, if_pos a3]
    exact ⟨_, _, rfl, QX_refl σ⟩
  rw [if_neg a1, if_neg a2, if_neg a3, iX1_answer, eX1_answer_0]
  by_cases b1 : b < 0
  · rw [if_pos b1, bnd_s, push_s, eX8_life_19]
    exact ⟨_, _, rfl, QX_refl σ⟩
  by_cases b2 : 5 < b
  · rw [if_neg b1, if_pos b2, bnd_s, push_s, eX8_life_19]
    exact ⟨_, _, rfl, QX_refl σ⟩
  rw [if_neg b1, if_neg b2]
  have e := LVS_id σ
  generalize hx : (σ 7 3, σ 6 3) = x at e
  generalize σ 12 0 = f at e
  generalize σ 13 0 = g at e
  generalize hy : σ 0 0 10 = y
  have e7 : σ 7 0 = LVS σ x f g 7 0 := by rw [e]
  rw [← e, LVS_s12, LVS_s12, LVS_s12, LVS_s12, LVS_s12, e, c_fill13, LVS_r13, bnd_s, push_n, eX1_answer_27]
  generalize set (set (set (set (set f 4 y) 8 0) 9 0) 10 0) 11 0 = f1
  generalize fill _ 0 31 0 = g1
  have ct := p2_take (N := N) (i := 3) (b := LVB σ f1 g1) (x := x) 0 (by decide)
  change inv N mX2_takeFrom [vR 6 3, vR 6 0] (P (LVS σ x f1 g1)) = some (none, P (LVS σ (cpyV (LVB σ f1 g1 7 0) x.1 0 0 107, x.2) f1 g1)) at ct
  rw [LVB_o _ _ _ _ (by decide) (by decide)] at ct
  have hc := CELL_take h (QX_refl σ) x.1
  have h82 := CELL_82 hc hL
  generalize cpyV (σ 7 0) x.1 0 0 107 = c at hc h82 ct
  rw [ct, bnd_s, push_n, eX1_answer_32]
  obtain ⟨ans, z, f', g', t⟩ := c_lloop (N := N) (σ := σ) h.1.1 a b y (by omega) a.toNat 0 (c, x.2) f1 g1 (by omega) hc.1 h82.1 (by show c 82 < _; omega)
  have e2 : ((0 : Nat) : Int) = 0 := rfl
  rw [e2] at t
  rw [t, bnd_s, push_s, eX8_life_19]
  exact ⟨_, _, rfl, QX_LVS _ _ _ _⟩
end LIFE
end
section
/-! LIFE, the model's -/
/-- what a life leaves, as it runs -/
def ML (σ : Sto) (B : Int) (τ : Sto) : Prop := (∀ k k', ¬ (k' = 0 ∧ (k = 30 ∨ k = 40 ∨ k = 43 ∨ k = 44 ∨ k = 45)) → τ k k' = σ k k') ∧ (∀ j, j ≠ 22 → j ≠ 23 → j ≠ 24 → ¬ (35 ≤ j ∧ j ≤ 40) → τ 30 0 j = σ 30 0 j) ∧ (∃ c, RZ c (τ 40 0) ∧ OKC c ∧ 0 ≤ c 82 ∧ c 82 < B) ∧ (0 ≤ τ 30 0 35 ∧ τ 30 0 35 < 2147483648)
theorem ML_le {σ τ : Sto} {B C : Int} (h : ML σ B τ) (hl : B ≤ C) : ML σ C τ := by
  obtain ⟨a, b, ⟨c, c1, c2, c3, c4⟩, d⟩ := h
  exact ⟨a, b, ⟨c, c1, c2, c3, by omega⟩, d⟩
theorem ML_row {σ τ : Sto} {B : Int} (h : ML σ B τ) (f : Vec) (hf : ∀ j, ¬ (35 ≤ j ∧ j ≤ 40) → f j = τ 30 0 j) (h35 : 0 ≤ f 35 ∧ f 35 < 2147483648) : ML σ B (row τ 30 0 f) := by
  obtain ⟨a, b, c, d⟩ := h
  refine ⟨fun k k' q => ?_, fun j j1 j2 j3 j4 => ?_, ?_, by rw [row_same]; exact h35⟩
  · rw [row_at, if_neg (fun z => q ⟨z.2, Or.inl z.1⟩)]
    exact a k k' q
  · rw [row_same, hf j j4]
    exact b j j1 j2 j3 j4
  · rw [row_at, if_neg (by decide)]
    exact c
theorem ML_sup {σ τ : Sto} {B : Int} (h : ML σ B τ) (j : Nat) (hj : 36 ≤ j ∧ j ≤ 40) (v : Int) : ML σ B (sup τ 30 0 j v) := by
  rw [sup_row]
  refine ML_row h _ (fun i hi => set_ne _ _ (by omega)) ?_
  rw [set_ne _ _ (by omega)]
  exact h.2.2.2
theorem ML_env {σ τ : Sto} {B : Int} (h : ML σ B τ) (he : EnvM σ σ) : EnvM σ τ := by
  have e32 : τ 32 0 = σ 32 0 := h.1 32 0 (by decide)
  have e33 : τ 33 0 = σ 33 0 := h.1 33 0 (by decide)
  have e36 : τ 36 0 = σ 36 0 := h.1 36 0 (by decide)
  have e38 : τ 38 0 = σ 38 0 := h.1 38 0 (by decide)
  have e5 : τ 30 0 5 = σ 30 0 5 := h.2.1 5 (by decide) (by decide) (by decide) (by decide)
  have e6 : τ 30 0 6 = σ 30 0 6 := h.2.1 6 (by decide) (by decide) (by decide) (by decide)
  unfold EnvM OKM whyM whyS at he ⊢
  rw [e32, e33, e36, e38, e5, e6]
  exact he
theorem OKC_RZ {c n : Vec} (hc : OKC c) (h : RZ c n) : OKC n := OKC_R hc h.1.1 (by rw [← h.2]; exact hc.2.2.2.2)
theorem ML_KM {σ τ υ : Sto} {B C : Int} (h : ML σ B τ) (k : KM τ υ) (hc : ∃ c, RZ c (υ 40 0) ∧ OKC c ∧ 0 ≤ c 82 ∧ c 82 < C) : ML σ C υ := by
  have e35 : υ 30 0 35 = τ 30 0 35 := k.2 35 (by decide) (by decide) (by decide)
  refine ⟨fun i i' q => (k.1 i i' q).trans (h.1 i i' q), fun j j1 j2 j3 j4 => (k.2 j j1 j2 j3).trans (h.2.1 j j1 j2 j3 j4), hc, ?_⟩
  rw [e35]
  exact h.2.2.2
theorem dr_x {x : Int} (h0 : 0 ≤ x) (h1 : x < 2147483648) : 0 ≤ w32 (Int.tmod (w64 ((w64 (x * 1103515245)) + 12345)) 2147483648) ∧ w32 (Int.tmod (w64 ((w64 (x * 1103515245)) + 12345)) 2147483648) < 2147483648 := by
  have a1 : 0 ≤ x * 1103515245 := by omega
  have a2 : x * 1103515245 < 2369780942852710400 := by omega
  generalize x * 1103515245 = y at a1 a2
  have e1 : w64 y = y := w64i (by omega) (by omega)
  have e2 : w64 (y + 12345) = y + 12345 := w64i (by omega) (by omega)
  have e3 : Int.tmod (y + 12345) 2147483648 = (y + 12345) % 2147483648 := Int.tmod_eq_emod_of_nonneg (by omega)
  have e4 : w32 ((y + 12345) % 2147483648) = (y + 12345) % 2147483648 := w32i (by omega) (by omega)
  rw [e1, e2, e3, e4]
  omega
theorem dr_v {x k : Int} (h0 : 0 ≤ x) (h1 : x < 2147483648) (k0 : 0 < k) (k1 : k < 2147483648) : 0 ≤ Int.tmod (w32 (x.tdiv 65536)) k ∧ Int.tmod (w32 (x.tdiv 65536)) k < k := by
  have e1 : x.tdiv 65536 = x / 65536 := Int.tdiv_eq_ediv_of_nonneg h0
  have e2 : w32 (x / 65536) = x / 65536 := w32i (by omega) (by omega)
  have e3 : Int.tmod (x / 65536) k = (x / 65536) % k := Int.tmod_eq_emod_of_nonneg (by omega)
  have m1 := Int.emod_nonneg (x / 65536) (show k ≠ 0 by omega)
  have m2 := Int.emod_lt_of_pos (x / 65536) k0
  rw [e1, e2, e3]
  exact ⟨m1, m2⟩
section LIFE
variable {N : Nat} {σ τ : Sto} {B : Int}
theorem m_drawn (h : ML σ B τ) (k : Int) (k0 : 0 < k) (k1 : k < 2147483648) : ∃ v υ, inv N mX9_drawn [vR 30 0, vI k] (P τ) = some (some (vI v), P υ) ∧ ML σ B υ ∧ 0 ≤ v ∧ v < k := by
  have r := dr_x h.2.2.2.1 h.2.2.2.2
  rw [iX9_drawn, eX9_drawn_0, if_neg (show ¬ k = 0 by omega), sup_row]
  generalize w32 (Int.tmod (w64 ((w64 (τ 30 0 35 * 1103515245)) + 12345)) 2147483648) = x at r
  have e : row τ 30 0 (set (τ 30 0) 35 x) 30 0 35 = x := by rw [row_same, set_same]
  have hv := dr_v r.1 r.2 k0 k1
  rw [e]
  refine ⟨_, _, rfl, ML_row h _ (fun j hj => set_ne _ _ (by omega)) (by rw [set_same]; exact r), hv.1, hv.2⟩
theorem m_cutDrawn (h : ML σ B τ) : ∃ v υ, inv N mX9_cutDrawn [vR 30 0] (P τ) = some (some (vI v), P υ) ∧ ML σ B υ ∧ -1 ≤ v ∧ v < 2147483648 := by
  obtain ⟨v, υ, e, h2, v0, v1⟩ := m_drawn (N := N) h 20 (by decide) (by decide)
  rw [iX9_cutDrawn, eX9_cutDrawn_0, e, bnd_s, push_s, eX9_cutDrawn_3]
  by_cases q : v = 19
  · rw [if_pos q]
    exact ⟨_, _, rfl, h2, by decide, by decide⟩
  · rw [if_neg q, w32i (by omega) (by omega)]
    exact ⟨_, _, rfl, h2, by omega, by omega⟩
theorem m_hapA (h : ML σ B τ) (x1 x2 x3 x4 x5 y : Int) : ∃ υ, (bnd (inv N mX9_truth [vI y] (P τ)) (fun r S2 => ev N mX9_happens 84 [vR 30 0, vI x1, vI x2, vI x3, vI x4, vI x5] (push r [vI (τ 30 0 40), vR 30 0]) S2)) = some (none, P υ) ∧ ML σ B υ := by
  rw [s9_truth, bnd_s, push_s, eX9_happens_84]
  exact ⟨_, rfl, ML_sup h 40 (by decide) _⟩
theorem m_hapV (h : ML σ B τ) (x1 x2 x3 x4 x5 : Int) (s : Nat) (hs : s < 4) : ∃ υ, (bnd (inv N mX9_versionOf [vR 30 0, vI (s : Int)] (P τ)) (fun r S2 => ev N mX9_happens 75 [vR 30 0, vI x1, vI x2, vI x3, vI x4, vI x5] (push r [vI (τ 30 0 40), vR 30 0]) S2)) = some (none, P υ) ∧ ML σ B υ := by
  obtain ⟨c, c1, c2, c3, c4⟩ := h.2.2.1
  rw [s9_versionOf s hs (OKC_RZ c2 c1).1, bnd_s, push_s, eX9_happens_75]
  by_cases q : τ 40 0 (14 * s) - 1 < τ 40 0 ((76 : Int).toNat)
  · rw [if_pos q]
    exact m_hapA h x1 x2 x3 x4 x5 1
  · rw [if_neg q]
    exact m_hapA h x1 x2 x3 x4 x5 0
theorem m_hap62 (h : ML σ B τ) (x1 x2 x3 x4 x5 y0 y1 : Int) : ∃ υ, ev N mX9_happens 62 [vR 30 0, vI x1, vI x2, vI x3, vI x4, vI x5] [vI y0, vI y1, vR 30 0] (P τ) = some (none, P υ) ∧ ML σ B υ := by
  have h2 := ML_sup h 37 (by decide) (w32 (y1 + y0))
  rw [eX9_happens_62]
  generalize sup τ 30 0 37 (w32 (y1 + y0)) = υ at h2
  by_cases q : x5 = 0
  · subst q
    rw [if_pos rfl]
    exact m_hapV h2 x1 x2 x3 x4 0 0 (by decide)
  by_cases q1 : x5 = 1
  · subst q1
    rw [if_neg q, if_pos rfl]
    exact m_hapV h2 x1 x2 x3 x4 1 1 (by decide)
  rw [if_neg q, if_neg q1]
  exact ⟨_, rfl, h2⟩
theorem m_hap50 (h : ML σ B τ) (x1 x2 x3 x4 x5 y0 y1 : Int) : ∃ υ, ev N mX9_happens 50 [vR 30 0, vI x1, vI x2, vI x3, vI x4, vI x5] [vI y0, vI y1, vR 30 0] (P τ) = some (none, P υ) ∧ ML σ B υ := by
  have h2 := ML_sup h 36 (by decide) (w32 (y1 + y0))
  rw [eX9_happens_50]
  generalize sup τ 30 0 36 (w32 (y1 + y0)) = υ at h2
  by_cases q : x5 = 2
  · rw [if_pos q, s9_truth, bnd_s, push_s]
    exact m_hap62 h2 _ _ _ _ _ _ _
  · rw [if_neg q, s9_truth, bnd_s, push_s]
    exact m_hap62 h2 _ _ _ _ _ _ _
theorem m_hap38 (h : ML σ B τ) (x1 x2 x3 x4 x5 y0 y1 : Int) : ∃ υ, ev N mX9_happens 38 [vR 30 0, vI x1, vI x2, vI x3, vI x4, vI x5] [vI y0, vI y1, vR 30 0] (P τ) = some (none, P υ) ∧ ML σ B υ := by
  have h2 := ML_sup h 38 (by decide) (w32 (y1 + y0))
  rw [eX9_happens_38]
  generalize sup τ 30 0 38 (w32 (y1 + y0)) = υ at h2
  by_cases q : x5 = 3
  · rw [if_pos q, s9_truth, bnd_s, push_s]
    exact m_hap50 h2 _ _ _ _ _ _ _
  · rw [if_neg q, s9_truth, bnd_s, push_s]
    exact m_hap50 h2 _ _ _ _ _ _ _
theorem m_hap13 (h : ML σ B τ) (x1 x2 x3 x4 y0 : Int) : ∃ υ, ev N mX9_happens 13 [vR 30 0, vI x1, vI x2, vI x3, vI x4, vX] [vI y0] (P τ) = some (none, P υ) ∧ ML σ B υ := by
  rw [eX9_happens_13, s9_truth, bnd_s, push_s, eX9_happens_20]
  generalize (if τ 30 0 24 = 0 then (0 : Int) else 1) = z
  have h2 := ML_sup h 39 (by decide) (w32 (τ 30 0 39 + z))
  generalize sup τ 30 0 39 (w32 (τ 30 0 39 + z)) = υ at h2
  by_cases d : x1 = 0
  · rw [if_pos d]
    by_cases w : υ 30 0 24 = 0
    · rw [if_pos w]
      by_cases q : y0 = 3
      · rw [if_pos q, s9_truth, bnd_s, push_s]
        exact m_hap38 h2 _ _ _ _ _ _ _
      · rw [if_neg q, s9_truth, bnd_s, push_s]
        exact m_hap38 h2 _ _ _ _ _ _ _
    · rw [if_neg w]
      exact ⟨_, rfl, h2⟩
  · rw [if_neg d]
    exact ⟨_, rfl, h2⟩
theorem m_happens (hg : OKG σ 1) (he : EnvM σ σ) (h : ML σ B τ) (hB : B < 2147483000) (d a b cut : Int) (c0 : -1 ≤ cut) (c1 : cut < 2147483648) : ∃ υ, inv N mX9_happens [vR 30 0, vI d, vI a, vI b, vI cut] (P τ) = some (none, P υ) ∧ ML σ (B + 1) υ := by
  obtain ⟨c, r1, r2, r3, r4⟩ := h.2.2.1
  have e := ML_env h he
  have can := s9_canDo (N := N) (σ := τ) e.1 (OKC_RZ r2 r1) d a b
  have ea : ableF (τ 30 0 6) (τ 36 0) (τ 40 0) d a b = ableF (σ 2 1 1) (σ 5 1) c d a b := by
    rw [e.2.2.2.1]
    exact ableF_eq r1.2 r1.1.1 e.2.2.2.2.2.2.2.1 d a b
  rw [ea] at can
  rw [iX9_happens, eX9_happens_0, can, bnd_s, push_s, eX9_happens_5]
  rcases ableF_b (σ 2 1 1) (σ 5 1) c d a b with z | z
  · rw [if_pos z]
    exact ⟨_, rfl, ML_le h (by omega)⟩
  obtain ⟨υ, u1, u2, u3, u4⟩ := m_does (N := N) (σ0 := σ) (σ := τ) (x := (c, σ 6 3)) hg r1 r2 e (Int.lt_trans r4 hB) d a b cut z c0 c1
  have ok := performC_ok (σ := σ) (x := (c, σ 6 3)) hg r2 d a b cut z
  generalize performC σ d a b cut (c, σ 6 3) = p at u1 u3 u4 ok
  rw [if_neg (show ¬ ableF (σ 2 1 1) (σ 5 1) c d a b = 0 by rw [z]; decide), u1, bnd_s, push_s]
  obtain ⟨o1, o2, o3⟩ := ok
  change c 82 ≤ p.2.1 82 at o2
  change p.2.1 82 ≤ c 82 + 1 at o3
  exact m_hap13 (ML_KM h u2 ⟨p.2.1, u3, o1.1, Int.le_trans r3 o2, by omega⟩) d a b cut p.1
theorem m_hapc (hg : OKG σ 1) (he : EnvM σ σ) (h : ML σ B τ) (hB : B < 2147483000) (d a b : Int) (f : Option MV → MS → Option Out) (hf : ∀ (v : Int) (υ : Sto) (r : Option MV × Sto), True → inv N mX9_happens [vR 30 0, vI d, vI a, vI b, vI v] (P υ) = some (r.1, P r.2) → r.1 = none → f (some (vI v)) (P υ) = some (none, P r.2)) : ∃ υ, bnd (inv N mX9_cutDrawn [vR 30 0] (P τ)) f = some (none, P υ) ∧ ML σ (B + 1) υ := by
  obtain ⟨v, υ, e, h2, v0, v1⟩ := m_cutDrawn (N := N) h
  obtain ⟨ρ, u1, u2⟩ := m_happens (N := N) hg he h2 hB d a b v v0 v1
  refine ⟨ρ, ?_, u2⟩
  rw [e, bnd_s]
  exact hf v υ (none, ρ) trivial u1 rfl
theorem ML_off (h : ML σ B τ) : ML σ B (sup τ 40 0 ((78 : Int).toNat) (-1)) := by
  obtain ⟨a, b, ⟨c, c1, c2, c3, c4⟩, d⟩ := h
  have e : (78 : Int).toNat = 78 := rfl
  rw [e, sup_row]
  refine ⟨fun k k' q => ?_, fun j j1 j2 j3 j4 => ?_, ⟨set c 78 (-1), ?_, OKC_78 c2, ?_, ?_⟩, ?_⟩
  · rw [row_at, if_neg (fun z => q ⟨z.2, Or.inr (Or.inl z.1)⟩)]
    exact a k k' q
  · rw [row_at, if_neg (by decide)]
    exact b j j1 j2 j3 j4
  · rw [row_same]
    exact RZ_78 c1
  · rw [set_ne _ _ (by decide)]; exact c3
  · rw [set_ne _ _ (by decide)]; exact c4
  · rw [row_at, if_neg (by decide)]
    exact d
theorem m_lives (hg : OKG σ 1) (he : EnvM σ σ) (hi : σ 2 1 1 ≠ 0) (h : ML σ B τ) (hB : B < 2147483000) : ∃ υ, inv N mX9_lives [vR 30 0] (P τ) = some (none, P υ) ∧ ML σ (B + 1) υ := by
  have im : ∀ τ, ML σ B τ → 0 < τ 30 0 6 ∧ τ 30 0 6 < 2147483648 := fun τ h => by
    have e := (ML_env h he).2.2.2.1
    have g1 := hg.2.2.1
    have g2 := hg.2.2.2.1
    rw [e]
    omega
  rw [iX9_lives, eX9_lives_0, s9_isOff, bnd_s, push_s, eX9_lives_2]
  by_cases q : τ 40 0 78 = -1
  · rw [if_pos q, if_neg (by decide)]
    obtain ⟨v, υ, e, h2, v0, v1⟩ := m_drawn (N := N) h 4 (by decide) (by decide)
    rw [e, bnd_s, push_s, eX9_lives_6]
    have rest : ∀ y, ∃ ρ, ev N mX9_lives 11 [vR 30 0, vX, vX] [vI y] (P υ) = some (none, P ρ) ∧ ML σ (B + 1) ρ := by
      intro y
      rw [eX9_lives_11]
      refine m_hapc hg he h2 hB 0 y 0 _ (fun v υ r _ e1 e2 => ?_)
      rw [push_s, eX9_lives_18, e1, bnd_s, e2, push_n, eX9_lives_19]
    by_cases z : v = 0
    · rw [if_pos z, s9_truth, bnd_s, push_s]
      exact rest _
    · rw [if_neg z, s9_truth, bnd_s, push_s]
      exact rest _
  rw [if_neg q, if_pos rfl]
  obtain ⟨v, υ, e, h2, v0, v1⟩ := m_drawn (N := N) h 8 (by decide) (by decide)
  rw [e, bnd_s, push_s, eX9_lives_23]
  have two : ∃ ρ, bnd (inv N mX9_drawn [vR 30 0, vI 2] (P υ)) (fun r S2 => ev N mX9_lives 35 [vR 30 0, vX, vX] (push r []) S2) = some (none, P ρ) ∧ ML σ (B + 1) ρ := by
    obtain ⟨v2, υ2, e2, h3, _, _⟩ := m_drawn (N := N) h2 2 (by decide) (by decide)
    obtain ⟨v3, υ3, e3, h4, _, _⟩ := m_drawn (N := N) h3 (υ2 30 0 6) (im υ2 h3).1 (im υ2 h3).2
    rw [e2, bnd_s, push_s, eX9_lives_35, e3, bnd_s, push_s, eX9_lives_40]
    refine m_hapc hg he h4 hB 2 v2 v3 _ (fun v υ r _ e1 e2 => ?_)
    rw [push_s, eX9_lives_47, e1, bnd_s, e2, push_n, eX9_lives_48, eX9_lives_83]
  have heal : ∃ ρ, bnd (inv N mX9_cutDrawn [vR 30 0] (P υ)) (fun r S2 => ev N mX9_lives 30 [vR 30 0, vX, vX] (push r [vI 0, vI 0, vI 1, vR 30 0]) S2) = some (none, P ρ) ∧ ML σ (B + 1) ρ := by
    refine m_hapc hg he h2 hB 1 0 0 _ (fun v υ r _ e1 e2 => ?_)
    rw [push_s, eX9_lives_30, e1, bnd_s, e2, push_n, eX9_lives_31, eX9_lives_83]
  by_cases z0 : v = 0
  · rw [if_pos z0]
    exact heal
  by_cases z1 : v = 1
  · rw [if_neg z0, if_pos z1]
    exact heal
  by_cases z2 : v = 2
  · rw [if_neg z0, if_neg z1, if_pos z2]
    exact two
  by_cases z3 : v = 3
  · rw [if_neg z0, if_neg z1, if_neg z2, if_pos z3]
    exact two
  by_cases z4 : v = 4
  · rw [if_neg z0, if_neg z1, if_neg z2, if_neg z3, if_pos z4]
    obtain ⟨v3, υ3, e3, h4, _, _⟩ := m_drawn (N := N) h2 (υ 30 0 6) (im υ h2).1 (im υ h2).2
    rw [e3, bnd_s, push_s, eX9_lives_53]
    refine m_hapc hg he h4 hB 3 0 v3 _ (fun v υ r _ e1 e2 => ?_)
    rw [push_s, eX9_lives_60, e1, bnd_s, e2, push_n, eX9_lives_61, eX9_lives_83]
  by_cases z5 : v = 5
  · rw [if_neg z0, if_neg z1, if_neg z2, if_neg z3, if_neg z4, if_pos z5, eX9_lives_83]
    exact ⟨_, rfl, ML_le (ML_off h2) (by omega)⟩
  by_cases z6 : v = 6
  · rw [if_neg z0, if_neg z1, if_neg z2, if_neg z3, if_neg z4, if_neg z5, if_pos z6]
    refine m_hapc hg he h2 hB 5 0 0 _ (fun v υ r _ e1 e2 => ?_)
    rw [push_s, eX9_lives_74, e1, bnd_s, e2, push_n, eX9_lives_75, eX9_lives_83]
  rw [if_neg z0, if_neg z1, if_neg z2, if_neg z3, if_neg z4, if_neg z5, if_neg z6]
  refine m_hapc hg he h2 hB 6 0 0 _ (fun v υ r _ e1 e2 => ?_)
  rw [push_s, eX9_lives_82, e1, bnd_s, e2, push_n, eX9_lives_83]
theorem m_lloop (hg : OKG σ 1) (he : EnvM σ σ) (hi : σ 2 1 1 ≠ 0) (n what x : Int) (n0 : 0 ≤ n ∧ n ≤ 60) : ∀ (m k : Nat) (τ : Sto), (m : Int) + k = n → ML σ (2147482000 + k) τ → ∃ υ, ev N mX9_life 40 [vR 30 0, vI n, vI what, vI x, vI (k : Int)] [] (P τ) = bnd (inv N mX9_putsBack [vR 30 0, vI 0] (P υ)) (fun r S2 => ev N mX9_life 55 [vR 30 0, vI n, vI what, vI x, vI (υ 40 0 ((76 : Int).toNat))] (push r []) S2) ∧ ML σ 2147482100 υ := by
  intro m
  induction m with
  | zero =>
    intro k τ hk h
    refine ⟨τ, ?_, ML_le h (by omega)⟩
    rw [eX9_life_40, if_neg (show ¬ (k : Int) < n by omega)]
  | succ m ih =>
    intro k τ hk h
    have k60 : (k : Int) < 60 := by omega
    have e2 : w32 ((k : Int) + 1) = ((k + 1 : Nat) : Int) := by rw [w32i (by omega) (by omega)]; omega
    obtain ⟨υ, u1, u2⟩ := m_lives (N := N) hg he hi h (by omega)
    obtain ⟨ρ, r1, r2⟩ := ih (k + 1) υ (by omega) (ML_le u2 (by omega))
    refine ⟨ρ, ?_, r2⟩
    rw [eX9_life_40, if_pos (show (k : Int) < n by omega), u1, bnd_s, push_n, eX9_life_45, e2]
    exact r1
theorem m_life {L : Int} (h : INV L σ) (hL : L < 2147480000) (a b : Int) : ∃ ans σ1, inv N mX9_life [vR 30 0, vI a, vI b] (P σ) = some (some (vI ans), P σ1) ∧ QX σ σ1 := by
  have oi := fun τ v lo hi => s9_in (N := N) (σ := τ) v lo hi
  rw [iX9_life, eX9_life_0, oi, bnd_s, push_s, eX9_life_5]
  by_cases a1 : 1 ≤ a ∧ a ≤ 60
  case neg =>
    rw [if_neg a1, if_pos rfl]
    exact ⟨_, _, rfl, QX_refl σ⟩
  rw [if_pos a1, if_neg (by decide), oi, bnd_s, push_s, eX9_life_11]
  by_cases b1 : 0 ≤ b ∧ b ≤ 5
  case neg =>
    rw [if_neg b1, if_pos rfl]
    exact ⟨_, _, rfl, QX_refl σ⟩
  rw [if_pos b1, if_neg (by decide)]
  by_cases i1 : σ 30 0 6 = 0
  · rw [if_pos i1]
    exact ⟨_, _, rfl, QX_refl σ⟩
  have i2 : σ 2 1 1 ≠ 0 := by rw [← h.1.2.1.2.2.2.1]; exact i1
  have t1 := m_think0 (N := N) σ
  have q1 : QX σ (row σ 42 0 (cpyV (σ 40 0) (σ 42 0) 0 (107 * 0) 107)) := QX_row σ 42 0 _ (by decide) (by decide) (by decide)
  have e42 : ∀ j, j < 107 → row σ 42 0 (cpyV (σ 40 0) (σ 42 0) 0 (107 * 0) 107) 42 0 j = σ 40 0 j := fun j hj => by
    rw [row_same, Nat.mul_zero]
    exact cpy_all _ _ hj
  have e40 : row σ 42 0 (cpyV (σ 40 0) (σ 42 0) 0 (107 * 0) 107) 40 0 = σ 40 0 := by rw [row_at, if_neg (by decide)]
  have e30 : row σ 42 0 (cpyV (σ 40 0) (σ 42 0) 0 (107 * 0) 107) 30 0 = σ 30 0 := by rw [row_at, if_neg (by decide)]
  rw [if_neg i1, t1, bnd_s, push_n, eX9_life_23]
  generalize row σ 42 0 (cpyV (σ 40 0) (σ 42 0) 0 (107 * 0) 107) = τ at q1 e42 e40 e30
  have hτ := INV_QX q1 h
  have m0 : ML τ 2147482000 τ := by
    have r := hτ.1.2.2.2.1
    have c := hτ.2.1
    exact ⟨fun _ _ _ => rfl, fun _ _ _ _ _ => rfl, ⟨τ 7 0, c.2.1, c.1, (CELL_82 c hL).1, (CELL_82 c hL).2⟩, r.2⟩
  have i3 : τ 2 1 1 ≠ 0 := by rw [q1.1.1 2 1 (by decide)]; exact i2
  obtain ⟨υ, u1, u2⟩ := m_lloop (N := N) (σ := τ) hτ.1.1 hτ.1.2.1 i3 a b (σ 30 0 35) (by omega) a.toNat 0 _ (by omega) (ML_sup (ML_sup (ML_sup (ML_sup (ML_sup (ML_le m0 (by decide)) 36 (by decide) 0) 37 (by decide) 0) 38 (by decide) 0) 39 (by decide) 0) 40 (by decide) 0)
  have e2 : ((0 : Nat) : Int) = 0 := rfl
  rw [e2] at u1
  rw [u1, m_back0, bnd_s, push_n, eX9_life_55]
  have fin : QX σ (sup (row υ 40 0 (cpyV (υ 42 0) (υ 40 0) (107 * 0) 0 107)) 30 0 35 (σ 30 0 35)) := by
    obtain ⟨k1, k2, k3, k4⟩ := u2
    have o : ∀ k k', ¬ (k' = 0 ∧ (k = 30 ∨ k = 40 ∨ k = 43 ∨ k = 44 ∨ k = 45)) → sup (row υ 40 0 (cpyV (υ 42 0) (υ 40 0) (107 * 0) 0 107)) 30 0 35 (σ 30 0 35) k k' = τ k k' := fun k k' q => by
      rw [sup_row, row_at, if_neg (fun z => q ⟨z.2, Or.inl z.1⟩), row_at, if_neg (fun z => q ⟨z.2, Or.inr (Or.inl z.1)⟩)]
      exact k1 k k' q
    have o30 : ∀ j, j ≠ 22 → j ≠ 23 → j ≠ 24 → ¬ (35 ≤ j ∧ j ≤ 40) → sup (row υ 40 0 (cpyV (υ 42 0) (υ 40 0) (107 * 0) 0 107)) 30 0 35 (σ 30 0 35) 30 0 j = σ 30 0 j := fun j j1 j2 j3 j4 => by
      rw [sup_row, row_same, set_ne _ _ (by omega), row_at, if_neg (by decide), k2 j j1 j2 j3 j4, e30]
    have o35 : sup (row υ 40 0 (cpyV (υ 42 0) (υ 40 0) (107 * 0) 0 107)) 30 0 35 (σ 30 0 35) 30 0 35 = σ 30 0 35 := by
      rw [sup_row, row_same, set_same]
    have o40 : ∀ j, j < 107 → sup (row υ 40 0 (cpyV (υ 42 0) (υ 40 0) (107 * 0) 0 107)) 30 0 35 (σ 30 0 35) 40 0 j = σ 40 0 j := fun j hj => by
      rw [sup_row, row_at, if_neg (by decide), row_same, Nat.mul_zero, cpy_all _ _ hj, k1 42 0 (by decide), e42 j hj]
    generalize sup (row υ 40 0 (cpyV (υ 42 0) (υ 40 0) (107 * 0) 0 107)) 30 0 35 (σ 30 0 35) = ρ at o o30 o35 o40
    refine ⟨⟨fun k k' q => ?_, o30 1 (by decide) (by decide) (by decide) (by decide), o30 5 (by decide) (by decide) (by decide) (by decide), o30 6 (by decide) (by decide) (by decide) (by decide), o35⟩, ?_, o40, ?_, ?_, ?_, o30 21 (by decide) (by decide) (by decide) (by decide)⟩
    · rw [o k k' (by omega)]
      exact q1.1.1 k k' q
    · rw [o 7 0 (by decide)]
      exact q1.2.1
    · rw [o 9 0 (by decide)]
      exact q1.2.2.2.1
    · rw [o 10 0 (by decide)]
      exact q1.2.2.2.2.1
    · rw [o 41 0 (by decide)]
      exact q1.2.2.2.2.2.1
  generalize sup (row υ 40 0 (cpyV (υ 42 0) (υ 40 0) (107 * 0) 0 107)) 30 0 35 (σ 30 0 35) = ρ at fin
  by_cases w0 : b = 0
  · rw [if_pos w0]; exact ⟨_, _, rfl, fin⟩
  by_cases w1 : b = 1
  · rw [if_neg w0, if_pos w1]; exact ⟨_, _, rfl, fin⟩
  by_cases w2 : b = 2
  · rw [if_neg w0, if_neg w1, if_pos w2]; exact ⟨_, _, rfl, fin⟩
  by_cases w3 : b = 3
  · rw [if_neg w0, if_neg w1, if_neg w2, if_pos w3]; exact ⟨_, _, rfl, fin⟩
  by_cases w4 : b = 4
  · rw [if_neg w0, if_neg w1, if_neg w2, if_neg w3, if_pos w4]; exact ⟨_, _, rfl, fin⟩
  rw [if_neg w0, if_neg w1, if_neg w2, if_neg w3, if_neg w4]; exact ⟨_, _, rfl, fin⟩
theorem safe_life (a b L : Int) (σ : Sto) (h : INV L σ) (hL : L < 2147480000) : ∃ ans ans2 σ1 σ2, inv N mX8_life [vR 0 0, vI a, vI b] (P σ) = some (some (vI ans), P σ1) ∧ inv N mX9_life [vR 30 0, vI a, vI b] (P σ1) = some (some (vI ans2), P σ2) ∧ INV (L + 300) σ2 := by
  obtain ⟨ans, σ1, e1, q1⟩ := c_life (N := N) h hL a b
  obtain ⟨ans2, σ2, e2, q2⟩ := m_life (N := N) (INV_QX q1 h) hL a b
  exact ⟨ans, ans2, σ1, σ2, e1, e2, up300 (INV_QX q2 (INV_QX q1 h)) (by omega)⟩
end LIFE
end
section
/-! ROUTE, the class's: it ends, and leaves the real machine as it is -/
def RtR (σ τ : Sto) : Prop := ∀ k k', ¬ ((k' = 4 ∧ (k = 6 ∨ k = 7)) ∨ (k' = 0 ∧ 14 ≤ k ∧ k ≤ 20)) → τ k k' = σ k k'
def RtT (σ τ : Sto) : Prop := RtR σ τ ∧ OKC (τ 7 4) ∧ 0 ≤ τ 7 4 82 ∧ τ 7 4 82 < 2147483000
theorem RtT_put {σ τ : Sto} (h : RtT σ τ) (y : XP) (hc : OKC y.1) (h0 : 0 ≤ y.1 82) (h1 : y.1 82 < 2147483000) : RtT σ (putC τ 4 y) := by
  refine ⟨fun k k' q => ?_, ?_, ?_, ?_⟩
  · unfold putC
    rw [row_at, if_neg (fun z => q (Or.inl ⟨z.2, Or.inl z.1⟩)), row_at, if_neg (fun z => q (Or.inl ⟨z.2, Or.inr z.1⟩))]
    exact h.1 k k' q
  · rw [putC_7]; exact hc
  · rw [putC_7]; exact h0
  · rw [putC_7]; exact h1
theorem RtT_row {σ τ : Sto} (h : RtT σ τ) (k : Nat) (hk : 14 ≤ k ∧ k ≤ 20) (f : Vec) : RtT σ (row τ k 0 f) := by
  have e : row τ k 0 f 7 4 = τ 7 4 := by rw [row_at, if_neg (by omega)]
  refine ⟨fun i i' q => ?_, by rw [e]; exact h.2.1, by rw [e]; exact h.2.2.1, by rw [e]; exact h.2.2.2⟩
  rw [row_at, if_neg (fun z => q (Or.inr ⟨z.2, by omega⟩))]
  exact h.1 i i' q
theorem RtT_sup {σ τ : Sto} (h : RtT σ τ) (k : Nat) (hk : 14 ≤ k ∧ k ≤ 20) (j : Nat) (v : Int) : RtT σ (sup τ k 0 j v) := by
  rw [sup_row]
  exact RtT_row h k hk _
theorem RtT_7 {σ τ : Sto} (h : RtT σ τ) : τ 7 0 = σ 7 0 := h.1 7 0 (by decide)
theorem RtT_G {σ τ : Sto} (h : RtT σ τ) (g : OKG σ 1) : OKG τ 1 := by
  unfold OKG at g ⊢
  rw [h.1 2 1 (by decide), h.1 3 1 (by decide), h.1 4 1 (by decide), h.1 5 1 (by decide)]
  exact g
theorem okc_img {c w : Vec} (h : OKC c) (hw : ∀ k, k < 84 → 0 ≤ w k ∧ w k < 100000) (im s : Nat) (him : im < 6) (hs : s < 4) : OKC (cpyV w c (14 * im) (14 * s) 14) ∧ cpyV w c (14 * im) (14 * s) 14 82 = c 82 := by
  have o : ∀ j, 56 ≤ j → cpyV w c (14 * im) (14 * s) 14 j = c j := fun j hj => cpyV_out w c _ _ _ j (by omega)
  obtain ⟨a, b, d, e, f⟩ := h
  refine ⟨⟨fun j hj => ?_, fun j h1 h2 => ?_, ?_, ?_, ?_⟩, o 82 (by decide)⟩
  · by_cases q : 14 * s ≤ j ∧ j < 14 * s + 14
    · have t := cpyV_in w c (14 * im) (14 * s) 14 (j - 14 * s) (by omega)
      rw [show 14 * s + (j - 14 * s) = j by omega] at t
      rw [t]
      have := hw (14 * im + (j - 14 * s)) (by omega)
      omega
    · rw [cpyV_out w c _ _ _ j (by omega)]
      exact a j hj
  · rw [o j h1]; exact b j h1 h2
  · rw [o 76 (by decide)]; exact d
  · rw [o 77 (by decide)]; exact e
  · rw [o 78 (by decide)]; exact f
section ROUTE
variable {N : Nat} {σ τ : Sto} {x : XP}
theorem t6_at16 (τ : Sto) (k : Int) : ∃ v, inv N mX6_at [vR 16 0, vI k] (P τ) = some (some (vI v), P τ) := by
  by_cases a : 0 ≤ k ∧ k < 300
  · exact ⟨_, s6_at16 k a.1 a.2⟩
  · exact ⟨_, s6_atO16 k (by omega)⟩
theorem t6_put16 (τ : Sto) (k v : Int) : ∃ f, inv N mX6_put [vR 16 0, vI k, vI v] (P τ) = some (none, P (row τ 16 0 f)) := by
  by_cases a : k < 0
  · rw [iX6_put_k16, eX6_put_0_k16, if_pos a]
    exact ⟨τ 16 0, by rw [row_id]⟩
  by_cases b : k < 300
  · exact ⟨_, s6_put16 k v (by omega) b⟩
  rw [iX6_put_k16, eX6_put_0_k16, if_neg a, if_neg b]
  exact ⟨τ 16 0, by rw [row_id]⟩
theorem t6_at17 (τ : Sto) (k : Int) : ∃ v, inv N mX6_at [vR 17 0, vI k] (P τ) = some (some (vI v), P τ) := by
  by_cases a : 0 ≤ k ∧ k < 300
  · exact ⟨_, s6_at17 k a.1 a.2⟩
  · exact ⟨_, s6_atO17 k (by omega)⟩
theorem t6_put17 (τ : Sto) (k v : Int) : ∃ f, inv N mX6_put [vR 17 0, vI k, vI v] (P τ) = some (none, P (row τ 17 0 f)) := by
  by_cases a : k < 0
  · rw [iX6_put_k17, eX6_put_0_k17, if_pos a]
    exact ⟨τ 17 0, by rw [row_id]⟩
  by_cases b : k < 300
  · exact ⟨_, s6_put17 k v (by omega) b⟩
  rw [iX6_put_k17, eX6_put_0_k17, if_neg a, if_neg b]
  exact ⟨τ 17 0, by rw [row_id]⟩
theorem t6_at18 (τ : Sto) (k : Int) : ∃ v, inv N mX6_at [vR 18 0, vI k] (P τ) = some (some (vI v), P τ) := by
  by_cases a : 0 ≤ k ∧ k < 300
  · exact ⟨_, s6_at18 k a.1 a.2⟩
  · exact ⟨_, s6_atO18 k (by omega)⟩
theorem t6_put18 (τ : Sto) (k v : Int) : ∃ f, inv N mX6_put [vR 18 0, vI k, vI v] (P τ) = some (none, P (row τ 18 0 f)) := by
  by_cases a : k < 0
  · rw [iX6_put_k18, eX6_put_0_k18, if_pos a]
    exact ⟨τ 18 0, by rw [row_id]⟩
  by_cases b : k < 300
  · exact ⟨_, s6_put18 k v (by omega) b⟩
  rw [iX6_put_k18, eX6_put_0_k18, if_neg a, if_neg b]
  exact ⟨τ 18 0, by rw [row_id]⟩
theorem t6_at19 (τ : Sto) (k : Int) : ∃ v, inv N mX6_at [vR 19 0, vI k] (P τ) = some (some (vI v), P τ) := by
  by_cases a : 0 ≤ k ∧ k < 1024
  · exact ⟨_, s6_at19 k a.1 a.2⟩
  · exact ⟨_, s6_atO19 k (by omega)⟩
theorem t6_put19 (τ : Sto) (k v : Int) : ∃ f, inv N mX6_put [vR 19 0, vI k, vI v] (P τ) = some (none, P (row τ 19 0 f)) := by
  by_cases a : k < 0
  · rw [iX6_put_k19, eX6_put_0_k19, if_pos a]
    exact ⟨τ 19 0, by rw [row_id]⟩
  by_cases b : k < 1024
  · exact ⟨_, s6_put19 k v (by omega) b⟩
  rw [iX6_put_k19, eX6_put_0_k19, if_neg a, if_neg b]
  exact ⟨τ 19 0, by rw [row_id]⟩
theorem t6_at20 (τ : Sto) (k : Int) : ∃ v, inv N mX6_at [vR 20 0, vI k] (P τ) = some (some (vI v), P τ) := by
  by_cases a : 0 ≤ k ∧ k < 12
  · exact ⟨_, s6_at20 k a.1 a.2⟩
  · exact ⟨_, s6_atO20 k (by omega)⟩
theorem t6_put20 (τ : Sto) (k v : Int) : ∃ f, inv N mX6_put [vR 20 0, vI k, vI v] (P τ) = some (none, P (row τ 20 0 f)) := by
  by_cases a : k < 0
  · rw [iX6_put_k20, eX6_put_0_k20, if_pos a]
    exact ⟨τ 20 0, by rw [row_id]⟩
  by_cases b : k < 12
  · exact ⟨_, s6_put20 k v (by omega) b⟩
  rw [iX6_put_k20, eX6_put_0_k20, if_neg a, if_neg b]
  exact ⟨τ 20 0, by rw [row_id]⟩
theorem t6_at5 (τ : Sto) (k : Int) : ∃ v, inv N mX6_at [vR 5 1, vI k] (P τ) = some (some (vI v), P τ) := by
  by_cases a : 0 ≤ k ∧ k < 84
  · exact ⟨_, s6_at5 k a.1 a.2⟩
  · exact ⟨_, s6_atO5 k (by omega)⟩
theorem r_part (τ : Sto) (y s m : Int) : inv N mX5_part [vJ y, vI s, vI m] (P τ) = some (some (vI (bAnd (w32 (shr64 y s)) m)), P τ) := by
  rw [iX5_part, eX5_part_0]
theorem r_isThere (τ : Sto) (v : Int) : ∃ u, inv N mX5_isThere [vR 14 0, vI v] (P τ) = some (some (vI u), P τ) := by
  obtain ⟨a, ea⟩ := t2_cell (N := N) 4 τ 78
  obtain ⟨b, eb⟩ := t2_cell (N := N) 4 τ 80
  obtain ⟨c, ec⟩ := t2_version (N := N) 4 τ a
  rw [iX5_isThere, eX5_isThere_0, ea, bnd_s, push_s, eX5_isThere_4, s8_isSlot, bnd_s, push_s, eX5_isThere_7]
  by_cases q : a = 0 ∨ a = 1
  · rw [if_pos q, if_neg (by decide), eb, bnd_s, push_s, eX5_isThere_12]
    by_cases w : b = 1
    · rw [if_pos w, ec, bnd_s, push_s, eX5_isThere_18]
      by_cases z : c = v
      · rw [if_pos z]; exact ⟨_, rfl⟩
      · rw [if_neg z]; exact ⟨_, rfl⟩
    · rw [if_neg w]; exact ⟨_, rfl⟩
  · rw [if_neg q, if_pos rfl]; exact ⟨_, rfl⟩
theorem r_pack (h : RtT σ τ) (a b : Int) : ∃ v τ', inv N mX5_pack [vR 14 0, vI a, vI b] (P τ) = some (some (vJ v), P τ') ∧ RtT σ τ' := by
  have rf := p2_readFlags (N := N) (i := 4) (σ := τ) (x := (τ 7 4, τ 6 4)) h.2.1
  rw [putC_id] at rf
  have h2 : RtT σ (putC τ 4 (readFlC (τ 7 4, τ 6 4))) := RtT_put h _ h.2.1 h.2.2.1 h.2.2.2
  generalize putC τ 4 (readFlC (τ 7 4, τ 6 4)) = υ at rf h2
  obtain ⟨c, ec⟩ := t2_cell (N := N) 4 υ 78
  obtain ⟨d, ed⟩ := t2_cell (N := N) 4 υ 80
  obtain ⟨e, ee⟩ := t2_cell (N := N) 4 υ 76
  obtain ⟨f, ef⟩ := t2_cell (N := N) 4 υ 77
  have rest : ∀ x3 x4 y1, ∃ v, bnd (inv N mX2_slotFlags [vR 6 4, vI 0] (P υ)) (fun r S2 => ev N mX5_pack 28 [vR 14 0, vI a, vI b, vI x3, vJ x4, vX] (push r [vI y1]) S2) = some (some (vJ v), P υ) := by
    intro x3 x4 y1
    rw [s2_slotFlags, bnd_s, push_s, eX5_pack_28, s2_slotFlags, bnd_s, push_s, eX5_pack_35, ee, bnd_s, push_s, eX5_pack_57, ef, bnd_s, push_s, eX5_pack_65]
    exact ⟨_, rfl⟩
  rw [iX5_pack, eX5_pack_0, rf, bnd_s, push_n, eX5_pack_3, ec, bnd_s, push_s, eX5_pack_7]
  by_cases q : c = -1
  · rw [if_pos q]
    obtain ⟨v, e⟩ := rest c 0 (bOr a (shl32 b 3))
    exact ⟨v, υ, e, h2⟩
  · rw [if_neg q, ed, bnd_s, push_s, eX5_pack_17]
    obtain ⟨v, e⟩ := rest c d (bOr a (shl32 b 3))
    exact ⟨v, υ, e, h2⟩
theorem r_addT (h : RtT σ τ) (y x3 x4 x5 x6 : Int) (x7 : MV) : ∃ v τ', ev N mX5_add 67 [vR 14 0, vJ y, vX, vI x3, vI x4, vI x5, vI x6, x7] [] (P τ) = some (some (vI v), P τ') ∧ RtT σ τ' := by
  obtain ⟨f, e1⟩ := t6_put17 (N := N) τ (τ 14 0 9) x4
  have h1 := RtT_row h 17 (by decide) f
  rw [eX5_add_67, e1, bnd_s, push_n, eX5_add_73]
  generalize row τ 17 0 f = υ at h1
  have rest : ∀ ρ, RtT σ ρ → ∃ v τ', ev N mX5_add 89 [vR 14 0, vJ y, vX, vI x3, vI x4, vI x5, vI x6, x7] [] (P ρ) = some (some (vI v), P τ') ∧ RtT σ τ' := by
    intro ρ hr
    have h3 := RtT_sup hr 14 (by decide) 9 (w32 (ρ 14 0 9 + 1))
    rw [eX5_add_89]
    generalize sup ρ 14 0 9 (w32 (ρ 14 0 9 + 1)) = ρ2 at h3
    obtain ⟨f, e⟩ := t6_put19 (N := N) ρ2 x5 (ρ2 14 0 9)
    rw [e, bnd_s, push_n, eX5_add_101]
    exact ⟨_, _, rfl, RtT_row h3 19 (by decide) f⟩
  by_cases q : υ 14 0 9 = 0
  · obtain ⟨f2, e2⟩ := t6_put18 (N := N) υ (υ 14 0 9) 0
    rw [if_pos q, e2, bnd_s, push_n]
    exact rest _ (RtT_row h1 18 (by decide) f2)
  · obtain ⟨d, e3⟩ := t6_at18 (N := N) υ x3
    obtain ⟨f2, e2⟩ := t6_put18 (N := N) υ (υ 14 0 9) (w32 (d + 1))
    rw [if_neg q, e3, bnd_s, push_s, eX5_add_86, e2, bnd_s, push_n]
    exact rest _ (RtT_row h1 18 (by decide) f2)
theorem r_addK (h : RtT σ τ) (y x3 x4 x5 x6 : Int) (x7 : MV) : ∃ v τ', (if τ 14 0 9 < 0 then some (some (vI 2), P τ) else if τ 14 0 9 < 300 then if τ 14 0 9 < 0 then none else if τ 14 0 9 < 300 then bnd (inv N mX6_put [vR 16 0, vI ((sup τ 15 0 (τ 14 0 9).toNat y) 14 0 9), vI x3] (P (sup τ 15 0 (τ 14 0 9).toNat y))) (fun r S2 => ev N mX5_add 67 [vR 14 0, vJ y, vX, vI x3, vI x4, vI x5, vI x6, x7] (push r []) S2) else none else some (some (vI 2), P τ)) = some (some (vI v), P τ') ∧ RtT σ τ' := by
  by_cases a : τ 14 0 9 < 0
  · rw [if_pos a]
    exact ⟨_, _, rfl, h⟩
  by_cases b : τ 14 0 9 < 300
  · rw [if_neg a, if_pos b, if_neg a, if_pos b]
    have h1 := RtT_sup h 15 (by decide) (τ 14 0 9).toNat y
    generalize sup τ 15 0 (τ 14 0 9).toNat y = υ at h1
    obtain ⟨f, e⟩ := t6_put16 (N := N) υ (υ 14 0 9) x3
    rw [e, bnd_s, push_n]
    exact r_addT (RtT_row h1 16 (by decide) f) y x3 x4 x5 x6 x7
  rw [if_neg a, if_neg b]
  exact ⟨_, _, rfl, h⟩
theorem r_addL (h : RtT σ τ) (y x3 x4 : Int) : ∀ (m k : Nat) (x5 : Int) (x7 : MV), k + m = 1024 → ∃ v τ', ev N mX5_add 9 [vR 14 0, vJ y, vX, vI x3, vI x4, vI x5, vI (k : Int), x7] [] (P τ) = some (some (vI v), P τ') ∧ RtT σ τ' := by
  intro m
  induction m with
  | zero =>
    intro k x5 x7 hk
    rw [eX5_add_9, if_neg (show ¬ (k : Int) < 1024 by omega)]
    exact r_addK h y x3 x4 x5 k x7
  | succ m ih =>
    intro k x5 x7 hk
    obtain ⟨u, eu⟩ := t6_at19 (N := N) τ x5
    have e1 : w32 ((k : Int) + 1) = ((k + 1 : Nat) : Int) := by rw [w32i (by omega) (by omega)]; omega
    rw [eX5_add_9, if_pos (show (k : Int) < 1024 by omega), eu, bnd_s, push_s, eX5_add_16, e1]
    generalize w32 (u - 1) = z
    have kk : k + 1 + m = 1024 := by omega
    by_cases a : z < 0
    · rw [if_pos a]
      exact r_addK h y x3 x4 x5 k (vI z)
    by_cases b : z < 300
    · rw [if_neg a, if_pos b, if_neg a, if_pos b]
      by_cases c : τ 15 0 z.toNat < y
      · rw [if_pos c]
        exact ih (k + 1) _ _ kk
      by_cases d : τ 15 0 z.toNat = y
      · rw [if_neg c, if_pos d]
        exact ⟨_, _, rfl, h⟩
      rw [if_neg c, if_neg d]
      exact ih (k + 1) _ _ kk
    rw [if_neg a, if_neg b]
    exact r_addK h y x3 x4 x5 k (vI z)
theorem r_add (h : RtT σ τ) (y x3 x4 : Int) : ∃ v τ', inv N mX5_add [vR 14 0, vJ y, vI x3, vI x4] (P τ) = some (some (vI v), P τ') ∧ RtT σ τ' := by
  rw [iX5_add, eX5_add_0]
  exact r_addL h y x3 x4 1024 0 _ vX rfl
theorem r_img (hg : OKG τ 1) (hc : OKC x.1) (s : Nat) (hs : s < 4) (im : Int) (h0 : 0 ≤ im) (h1 : im < 7) : ∃ c, inv N mX2_putImage [vR 6 4, vI (s : Int), vI im] (P (putC τ 4 x)) = some (none, P (putC τ 4 (c, x.2))) ∧ OKC c ∧ c 82 = x.1 82 := by
  by_cases q : im < 6
  · have e := s2_putImage (N := N) (σ := putC τ 4 x) 4 s im.toNat hs (by omega)
    rw [putC_7, row_putC7, putC_o _ _ _ _ (by decide) (by decide), Int.toNat_of_nonneg h0] at e
    have o := okc_img hc hg.2.2.2.2.2.2.2.2.2.2.2.2 im.toNat s (by omega) hs
    exact ⟨_, e, o.1, o.2⟩
  · have e : im = 6 := by omega
    subst e
    refine ⟨x.1, ?_, hc, rfl⟩
    have e2 : w32 ((s : Int) * 14) = ((14 * s : Nat) : Int) := by rw [w32i (by omega) (by omega)]; omega
    have w1 : w32 (84 - 14) = 70 := rfl
    have w2 : w32 (6 * 14) = 84 := rfl
    rw [iX2_putImage, eX2_putImage_0, iX6_copy_k5_k7, eX6_copy_0_k5_k7, e2, w1, w2, if_neg (by decide), if_neg (by decide), if_neg (by omega), if_pos (by decide), bnd_s, push_n, eX2_putImage_13]
theorem r_clear : ∀ (m k : Nat) (x : XP) (a b c d : Int), k + m = 72 → 56 ≤ k → OKC x.1 → ∃ v, ev N mX2_putFlags 8 [vR 6 4, vI a, vI b, vI c, vI d, vI (k : Int)] [] (P (putC τ 4 x)) = ev N mX2_putFlags 8 [vR 6 4, vI a, vI b, vI c, vI d, vI 72] [] (P (putC τ 4 (v, x.2))) ∧ OKC v ∧ v 82 = x.1 82 := by
  intro m
  induction m with
  | zero =>
    intro k x a b c d hk _ hc
    have e : k = 72 := by omega
    subst e
    exact ⟨x.1, rfl, hc, rfl⟩
  | succ m ih =>
    intro k x a b c d hk h56 hc
    have e1 : w32 ((k : Int) + 1) = ((k + 1 : Nat) : Int) := by rw [w32i (by omega) (by omega)]; omega
    have sc := p2_setCell (N := N) (i := 4) (σ := τ) (x := x) (k : Int) 255 (by omega) (by omega)
    have o := okc_page (a := k) (n := 1) (v := 255) hc h56 (by omega) (by decide)
    rw [fill_1] at o
    rw [Int.toNat_natCast] at sc
    obtain ⟨v, v1, v2, v3⟩ := ih (k + 1) (set x.1 k 255, x.2) a b c d (by omega) (by omega) o
    refine ⟨v, ?_, v2, v3.trans (set_ne _ _ (by omega))⟩
    rw [eX2_putFlags_8, if_pos (show (k : Int) < 72 by omega), sc, bnd_s, push_n, eX2_putFlags_15, e1]
    exact v1
theorem r_putFlags (hc : OKC x.1) (a b c d : Int) (ha : 0 ≤ a ∧ a < 256) (hb : 0 ≤ b ∧ b < 256) (hcc : 0 ≤ c ∧ c < 256) (hd : 0 ≤ d ∧ d < 256) : ∃ y, inv N mX2_putFlags [vR 6 4, vI a, vI b, vI c, vI d] (P (putC τ 4 x)) = some (none, P (putC τ 4 y)) ∧ OKC y.1 ∧ y.1 82 = x.1 82 := by
  have tf : inv N mX2_takeFlags [vR 6 4, vI a, vI b, vI c, vI d] (P (putC τ 4 x)) = some (none, P (putC τ 4 (x.1, set (set (set (set x.2 2 a) 3 b) 4 c) 5 d))) := by
    rw [iX2_takeFlags, eX2_takeFlags_0]
    simp only [sup_row, putC_6, row_putC6]
  obtain ⟨v, v1, v2, v3⟩ := r_clear (N := N) (τ := τ) 16 56 (x.1, set (set (set (set x.2 2 a) 3 b) 4 c) 5 d) a b c d rfl (by decide) hc
  have s1 : sup (sup (putC τ 4 (v, set (set (set (set x.2 2 a) 3 b) 4 c) 5 d)) 6 4 6 (-1)) 6 4 7 (-1) = putC τ 4 (v, set (set (set (set (set (set x.2 2 a) 3 b) 4 c) 5 d) 6 (-1)) 7 (-1)) := by
    simp only [sup_row, putC_6, row_putC6]
  have ox : OKX (v, set (set (set (set (set (set x.2 2 a) 3 b) 4 c) 5 d) 6 (-1)) 7 (-1)) := by
    refine ⟨v2, ?_, ?_, ?_, ?_, Or.inl ?_⟩
    · show 0 ≤ set (set (set (set (set (set x.2 2 a) 3 b) 4 c) 5 d) 6 (-1)) 7 (-1) 2 ∧ set (set (set (set (set (set x.2 2 a) 3 b) 4 c) 5 d) 6 (-1)) 7 (-1) 2 < 256
      rw [set_ne _ _ (by decide), set_ne _ _ (by decide), set_ne _ _ (by decide), set_ne _ _ (by decide), set_ne _ _ (by decide), set_same]
      exact ha
    · show 0 ≤ set (set (set (set (set (set x.2 2 a) 3 b) 4 c) 5 d) 6 (-1)) 7 (-1) 3 ∧ set (set (set (set (set (set x.2 2 a) 3 b) 4 c) 5 d) 6 (-1)) 7 (-1) 3 < 256
      rw [set_ne _ _ (by decide), set_ne _ _ (by decide), set_ne _ _ (by decide), set_ne _ _ (by decide), set_same]
      exact hb
    · show 0 ≤ set (set (set (set (set (set x.2 2 a) 3 b) 4 c) 5 d) 6 (-1)) 7 (-1) 4 ∧ set (set (set (set (set (set x.2 2 a) 3 b) 4 c) 5 d) 6 (-1)) 7 (-1) 4 < 256
      rw [set_ne _ _ (by decide), set_ne _ _ (by decide), set_ne _ _ (by decide), set_same]
      exact hcc
    · show 0 ≤ set (set (set (set (set (set x.2 2 a) 3 b) 4 c) 5 d) 6 (-1)) 7 (-1) 5 ∧ set (set (set (set (set (set x.2 2 a) 3 b) 4 c) 5 d) 6 (-1)) 7 (-1) 5 < 256
      rw [set_ne _ _ (by decide), set_ne _ _ (by decide), set_same]
      exact hd
    · show set (set (set (set (set (set x.2 2 a) 3 b) 4 c) 5 d) 6 (-1)) 7 (-1) 6 = -1
      rw [set_ne _ _ (by decide), set_same]
  generalize set (set (set (set (set (set x.2 2 a) 3 b) 4 c) 5 d) 6 (-1)) 7 (-1) = g at s1 ox
  have wf := p2_writeFlags (N := N) (i := 4) (σ := τ) (x := (v, g)) ox
  have w2 := (writeFlagsC_ok ox).1
  have w3 := writeFlagsC_at (v, g) (j := 82) (Or.inr (by decide))
  generalize writeFlagsC (v, g) = y at wf w2 w3
  refine ⟨y, ?_, w2, w3.trans v3⟩
  have e56 : ((56 : Nat) : Int) = 56 := rfl
  rw [e56] at v1
  rw [iX2_putFlags, eX2_putFlags_0, tf, bnd_s, push_n, eX2_putFlags_6, v1, eX2_putFlags_8, if_neg (by decide), s1, wf, bnd_s, push_n, eX2_putFlags_25]
theorem m_31 (z : Int) : bAnd z 31 = z % 32 := bAnd_mod z 5 (by omega)
theorem m_3 (z : Int) : bAnd z 3 = z % 4 := bAnd_mod z 2 (by omega)
theorem r_un1 (hg : OKG τ 1) (hc : OKC x.1) (y : Int) (s : Nat) (hs : s < 2) (z : MV) : ∃ v z', ev N mX5_unpack 7 [vR 14 0, vJ y, vX, vI (s : Int), z] [] (P (putC τ 4 x)) = ev N mX5_unpack 7 [vR 14 0, vJ y, vX, vI ((s + 1 : Nat) : Int), z'] [] (P (putC τ 4 (v, x.2))) ∧ OKC v ∧ v 82 = x.1 82 := by
  have e1 : w32 ((s : Int) + 1) = ((s + 1 : Nat) : Int) := by rw [w32i (by omega) (by omega)]; omega
  rw [eX5_unpack_7, if_pos (show (s : Int) < 2 by omega), r_part, bAnd_7, bnd_s, push_s, eX5_unpack_16]
  have b0 : 0 ≤ w32 (shr64 y (w32 (3 * (s : Int)))) % 8 ∧ w32 (shr64 y (w32 (3 * (s : Int)))) % 8 < 8 := by omega
  generalize w32 (shr64 y (w32 (3 * (s : Int)))) % 8 = t at b0
  by_cases q : 0 < t
  · have e2 : w32 (t - 1) = t - 1 := w32i (by omega) (by omega)
    obtain ⟨v, v1, v2, v3⟩ := r_img (N := N) (τ := τ) (x := x) hg hc s (by omega) (t - 1) (by omega) (by omega)
    rw [if_pos q, e2, v1, bnd_s, push_n, eX5_unpack_26, e1]
    exact ⟨v, _, rfl, v2, v3⟩
  · rw [if_neg q, eX5_unpack_26, e1]
    exact ⟨x.1, _, rfl, hc, rfl⟩
theorem set4 (c : Vec) (a b e f : Int) : set (set (set (set c 76 a) 77 b) 78 e) 80 f 82 = c 82 ∧ set (set (set (set c 76 a) 77 b) 78 e) 80 f 78 = e := by
  constructor
  · rw [set_ne _ _ (by decide), set_ne _ _ (by decide), set_ne _ _ (by decide), set_ne _ _ (by decide)]
  · rw [set_ne _ _ (by decide), set_same]
theorem r_unpack (h : RtT σ τ) (hg : OKG σ 1) (hc : OKC (σ 7 0)) (y : Int) : ∃ v, inv N mX5_unpack [vR 14 0, vJ y] (P τ) = some (none, P (putC τ 4 v)) ∧ OKC v.1 ∧ v.1 82 = σ 7 0 82 ∧ v.1 78 = w32 (bAnd (w32 (shr64 y 49)) 3 - 1) := by
  have gt := RtT_G h hg
  have ct := p2_take (N := N) (i := 4) (b := τ) (x := (τ 7 4, τ 6 4)) 0 (by decide)
  rw [putC_id, RtT_7 h] at ct
  have oc : OKC (cpyV (σ 7 0) (τ 7 4) 0 0 107) := OKC_107 hc (fun j hj => cpy_all _ _ hj)
  have o82 : cpyV (σ 7 0) (τ 7 4) 0 0 107 82 = σ 7 0 82 := cpy_all _ _ (by decide)
  change inv N mX2_takeFrom [vR 6 4, vR 6 0] (P τ) = some (none, P (putC τ 4 (cpyV (σ 7 0) (τ 7 4) 0 0 107, τ 6 4))) at ct
  generalize cpyV (σ 7 0) (τ 7 4) 0 0 107 = c at ct oc o82
  obtain ⟨c1, z1, a1, a2, a3⟩ := r_un1 (N := N) (τ := τ) (x := (c, τ 6 4)) gt oc y 0 (by decide) vX
  obtain ⟨c2, z2, b1, b2, b3⟩ := r_un1 (N := N) (τ := τ) (x := (c1, τ 6 4)) gt a2 y 1 (by decide) z1
  have e0 : ((0 : Nat) : Int) = 0 := rfl
  rw [e0] at a1
  have f6 := Int.emod_nonneg (w32 (shr64 y 6)) (show (256 : Int) ≠ 0 by decide)
  have f6' := Int.emod_lt_of_pos (w32 (shr64 y 6)) (show (0 : Int) < 256 by decide)
  have f14 := Int.emod_nonneg (w32 (shr64 y 14)) (show (256 : Int) ≠ 0 by decide)
  have f14' := Int.emod_lt_of_pos (w32 (shr64 y 14)) (show (0 : Int) < 256 by decide)
  have f22 := Int.emod_nonneg (w32 (shr64 y 22)) (show (256 : Int) ≠ 0 by decide)
  have f22' := Int.emod_lt_of_pos (w32 (shr64 y 22)) (show (0 : Int) < 256 by decide)
  have f30 := Int.emod_nonneg (w32 (shr64 y 30)) (show (256 : Int) ≠ 0 by decide)
  have f30' := Int.emod_lt_of_pos (w32 (shr64 y 30)) (show (0 : Int) < 256 by decide)
  obtain ⟨d, d1, d2, d3⟩ := r_putFlags (N := N) (τ := τ) (x := (c2, τ 6 4)) b2 (w32 (shr64 y 6) % 256) (w32 (shr64 y 14) % 256) (w32 (shr64 y 22) % 256) (w32 (shr64 y 30) % 256) ⟨f6, f6'⟩ ⟨f14, f14'⟩ ⟨f22, f22'⟩ ⟨f30, f30'⟩
  have g38 := Int.emod_nonneg (w32 (shr64 y 38)) (show (32 : Int) ≠ 0 by decide)
  have g38' := Int.emod_lt_of_pos (w32 (shr64 y 38)) (show (0 : Int) < 32 by decide)
  have g43 := Int.emod_nonneg (w32 (shr64 y 43)) (show (64 : Int) ≠ 0 by decide)
  have g43' := Int.emod_lt_of_pos (w32 (shr64 y 43)) (show (0 : Int) < 64 by decide)
  have g49 := Int.emod_nonneg (w32 (shr64 y 49)) (show (4 : Int) ≠ 0 by decide)
  have g49' := Int.emod_lt_of_pos (w32 (shr64 y 49)) (show (0 : Int) < 4 by decide)
  have m51 : bAnd (w32 (shr64 y 51)) 1 = bAnd (w32 (shr64 y 51)) 1 := rfl
  have s76 := p2_setCell (N := N) (i := 4) (σ := τ) (x := d) 76 (w32 (shr64 y 38) % 32) (by decide) (by decide)
  have s77 := p2_setCell (N := N) (i := 4) (σ := τ) (x := (set d.1 76 (w32 (shr64 y 38) % 32), d.2)) 77 (w32 (shr64 y 43) % 64) (by decide) (by decide)
  have s78 := p2_setCell (N := N) (i := 4) (σ := τ) (x := (set (set d.1 76 (w32 (shr64 y 38) % 32)) 77 (w32 (shr64 y 43) % 64), d.2)) 78 (w32 (w32 (shr64 y 49) % 4 - 1)) (by decide) (by decide)
  have s80 := p2_setCell (N := N) (i := 4) (σ := τ) (x := (set (set (set d.1 76 (w32 (shr64 y 38) % 32)) 77 (w32 (shr64 y 43) % 64)) 78 (w32 (w32 (shr64 y 49) % 4 - 1)), d.2)) 80 (bAnd (w32 (shr64 y 51)) 1) (by decide) (by decide)
  have w78 : w32 (w32 (shr64 y 49) % 4 - 1) = w32 (shr64 y 49) % 4 - 1 := w32i (by omega) (by omega)
  refine ⟨(set (set (set (set d.1 76 (w32 (shr64 y 38) % 32)) 77 (w32 (shr64 y 43) % 64)) 78 (w32 (w32 (shr64 y 49) % 4 - 1))) 80 (bAnd (w32 (shr64 y 51)) 1), d.2), ?_, ?_, ?_, ?_⟩
  · rw [iX5_unpack, eX5_unpack_0, ct, bnd_s, push_n, eX5_unpack_5, a1]
    rw [show ((0 + 1 : Nat) : Int) = ((1 : Nat) : Int) from rfl, b1]
    rw [eX5_unpack_7, if_neg (by decide), r_part, bAnd_255, bnd_s, push_s, eX5_unpack_34, r_part, bAnd_255, bnd_s, push_s, eX5_unpack_38, r_part, bAnd_255, bnd_s, push_s, eX5_unpack_42, r_part, bAnd_255, bnd_s, push_s, eX5_unpack_46, d1, bnd_s, push_n, eX5_unpack_47, r_part, m_31, bnd_s, push_s, eX5_unpack_54, s76, bnd_s, push_n, eX5_unpack_55, r_part, bAnd_63, bnd_s, push_s, eX5_unpack_62]
    rw [show (76 : Int).toNat = 76 from rfl, s77, bnd_s, push_n, eX5_unpack_63, r_part, m_3, bnd_s, push_s, eX5_unpack_70, show (77 : Int).toNat = 77 from rfl, s78, bnd_s, push_n, eX5_unpack_73, r_part, bnd_s, push_s, eX5_unpack_80, show (78 : Int).toNat = 78 from rfl, s80, bnd_s, push_n, eX5_unpack_81]
    rfl
  · exact okc_set (okc_set (okc_set (okc_set d2 (by decide) (fun _ => by omega) (fun z => absurd z (by decide)) (fun z => absurd z (by decide))) (by decide) (fun z => absurd z (by decide)) (fun _ => by omega) (fun z => absurd z (by decide))) (by decide) (fun z => absurd z (by decide)) (fun z => absurd z (by decide)) (fun _ => by omega)) (by decide) (fun z => absurd z (by decide)) (fun z => absurd z (by decide)) (fun z => absurd z (by decide))
  · exact (set4 d.1 (w32 (shr64 y 38) % 32) (w32 (shr64 y 43) % 64) (w32 (w32 (shr64 y 49) % 4 - 1)) (bAnd (w32 (shr64 y 51)) 1)).1.trans (d3.trans (b3.trans (a3.trans o82)))
  · rw [m_3]
    exact (set4 d.1 (w32 (shr64 y 38) % 32) (w32 (shr64 y 43) % 64) (w32 (w32 (shr64 y 49) % 4 - 1)) (bAnd (w32 (shr64 y 51)) 1)).2
end ROUTE
end
section
/-! ROUTE, the class's search -/
section ROUTE
variable {N : Nat} {σ τ : Sto} {x : XP}
/-- the moves there are -/
def MVS (im x2 : Int) : Prop := x2 = 0 ∨ x2 = 1 ∨ x2 = 2 ∨ (100 ≤ x2 ∧ x2 < 120 ∧ (x2 - 100) % 10 < im)
theorem r_fin (h : RtT σ τ) (x1 x2 x3 x4 x6 x7 x8 x9 : Int) (x10 : MV) : ∃ v τ', bnd (inv N mX5_isThere [vR 14 0, vI x3] (P τ)) (fun r S2 => ev N mX5_step 134 [vR 14 0, vI x1, vI x2, vI x3, vJ x4, vX, vI x6, vI x7, vI x8, vI x9, x10] (push r []) S2) = some (some (vI v), P τ') ∧ RtT σ τ' := by
  obtain ⟨u, eu⟩ := r_isThere (N := N) τ x3
  rw [eu, bnd_s, push_s, eX5_step_134]
  by_cases q : u = 0
  · obtain ⟨v, υ, e, h2⟩ := r_pack (N := N) h x8 x9
    obtain ⟨w, ρ, e2, h3⟩ := r_add (N := N) h2 v x1 x2
    rw [if_pos q, e, bnd_s, push_s, eX5_step_156, e2, bnd_s, push_s, eX5_step_159]
    exact ⟨_, _, rfl, h3⟩
  · have h2 := RtT_sup (RtT_sup h 14 (by decide) 11 x1) 14 (by decide) 12 x2
    rw [if_neg q]
    generalize sup (sup τ 14 0 11 x1) 14 0 12 x2 = υ at h2
    obtain ⟨d, ed⟩ := t6_at18 (N := N) υ x1
    rw [ed, bnd_s, push_s, eX5_step_146]
    exact ⟨_, _, rfl, RtT_sup h2 14 (by decide) 10 _⟩
theorem r_able1 {im : Int} {wd c : Vec} (h : c 78 ≠ -1) : ableF im wd c 1 0 0 = 1 := by
  unfold ableF
  rw [if_neg (by decide), if_neg h, if_pos rfl, if_pos ⟨rfl, rfl⟩]
theorem r_able2 {im : Int} {wd c : Vec} {a b : Int} (h : c 78 ≠ -1) (ha : a = 0 ∨ a = 1) (h2 : ¬ a = c 78) (b0 : 0 ≤ b) (b1 : b < im) : ableF im wd c 2 a b = 1 := by
  unfold ableF
  rw [if_neg (by decide), if_neg h, if_neg (by decide), if_pos rfl, if_pos ⟨ha, h2, b0, b1⟩]
theorem r_mv {im x2 : Int} (h : MVS im x2) (h2 : ¬ x2 < 100) : (w32 ((w32 (x2 - 100)).tdiv 10) = 0 ∨ w32 ((w32 (x2 - 100)).tdiv 10) = 1) ∧ 0 ≤ Int.tmod (w32 (x2 - 100)) 10 ∧ Int.tmod (w32 (x2 - 100)) 10 < im := by
  unfold MVS at h
  have h3 : 100 ≤ x2 ∧ x2 < 120 ∧ (x2 - 100) % 10 < im := by omega
  have e1 : w32 (x2 - 100) = x2 - 100 := w32i (by omega) (by omega)
  have e2 : (x2 - 100).tdiv 10 = (x2 - 100) / 10 := Int.tdiv_eq_ediv_of_nonneg (by omega)
  have e3 : (x2 - 100).tmod 10 = (x2 - 100) % 10 := Int.tmod_eq_emod_of_nonneg (by omega)
  have e4 : w32 ((x2 - 100) / 10) = (x2 - 100) / 10 := w32i (by omega) (by omega)
  rw [e1, e2, e3, e4]
  omega
theorem r_step56 (h : RtT σ τ) (hg : OKG σ 1) (hc : OKC (σ 7 0)) (h82 : 0 ≤ σ 7 0 82 ∧ σ 7 0 82 < 2147482000) (x1 x2 x3 y x6 x7 r : Int) (hm : MVS (σ 2 1 1) x2) (hr : w32 (bAnd (w32 (shr64 y 49)) 3 - 1) = r) (h0 : x2 ≠ 1 → r ≠ -1) (h7 : x2 < 100 ∨ (x7 = w32 ((w32 (x2 - 100)).tdiv 10) ∧ ¬ x7 = r)) : ∃ v τ', bnd (inv N mX5_unpack [vR 14 0, vJ y] (P τ)) (fun r S2 => ev N mX5_step 56 [vR 14 0, vI x1, vI x2, vI x3, vJ y, vX, vI x6, vI x7, vX, vX, vX] (push r []) S2) = some (some (vI v), P τ') ∧ RtT σ τ' := by
  obtain ⟨p, p1, p2, p3, p4⟩ := r_unpack (N := N) h hg hc y
  rw [hr] at p4
  have gt := RtT_G h hg
  have e21 : τ 2 1 = σ 2 1 := h.1 2 1 (by decide)
  have b0 : 0 ≤ p.1 82 := by rw [p3]; exact h82.1
  have b1 : p.1 82 < 2147482000 := by rw [p3]; exact h82.2
  rw [p1, bnd_s, push_n, eX5_step_56, r_part, bnd_s, push_s, eX5_step_60, r_part, bnd_s, push_s, eX5_step_65]
  generalize bAnd (w32 (shr64 y 0)) 7 = x8
  generalize bAnd (w32 (shr64 y 3)) 7 = x9
  by_cases m0 : x2 = 0
  · have t := p2_turnOff (N := N) (i := 4) (σ := τ) (x := p)
    rw [if_pos m0, t, bnd_s, push_n, eX5_step_71]
    refine r_fin (RtT_put h _ (OKC_78 p2) ?_ ?_) _ _ _ _ _ _ _ _ _
    · show 0 ≤ set p.1 78 (-1) 82
      rw [set_ne _ _ (by decide)]; exact b0
    · show set p.1 78 (-1) 82 < 2147483000
      rw [set_ne _ _ (by decide)]; exact Int.lt_trans b1 (by decide)
  by_cases m1 : x2 = 1
  · have t := p2_boot (N := N) (i := 4) (σ := τ) (x := p) gt p2 b0 (Int.lt_trans b1 (by decide)) 0 0 (-1)
    have ok := bootC_ok (σ := τ) (x := p) p2 0 (-1)
    generalize bootC τ 0 (-1) p = z at t ok
    rw [if_neg m0, if_pos m1, t, bnd_s, push_s, eX5_step_82]
    exact r_fin (RtT_put h z.2 ok.1.1 (by omega) (by omega)) _ _ _ _ _ _ _ _ _
  have c78 : p.1 78 ≠ -1 := by rw [p4]; exact h0 m1
  by_cases m2 : x2 = 2
  · have ab : ableF (τ 2 1 1) (τ 5 1) p.1 1 0 0 = 1 := r_able1 c78
    have t := p2_perform (N := N) (i := 4) (σ := τ) (x := p) gt p2 b0 (Int.lt_trans b1 (by decide)) 1 0 0 (-1) ab
    have ok := performC_ok (σ := τ) (x := p) gt p2 1 0 0 (-1) ab
    generalize performC τ 1 0 0 (-1) p = z at t ok
    rw [if_neg m0, if_neg m1, if_pos m2, t, bnd_s, push_s, eX5_step_94]
    exact r_fin (RtT_put h z.2 ok.1.1 (by omega) (by omega)) _ _ _ _ _ _ _ _ _
  have m100 : ¬ x2 < 100 := by
    unfold MVS at hm
    omega
  have f7 := h7.resolve_left m100
  have fm := r_mv hm m100
  rw [← f7.1] at fm
  rw [if_neg m0, if_neg m1, if_neg m2]
  generalize Int.tmod (w32 (x2 - 100)) 10 = b at fm
  have ab : ableF (τ 2 1 1) (τ 5 1) p.1 2 x7 b = 1 := r_able2 c78 fm.1 (by rw [p4]; exact f7.2) fm.2.1 (by rw [e21]; exact fm.2.2)
  have t := p2_perform (N := N) (i := 4) (σ := τ) (x := p) gt p2 b0 (Int.lt_trans b1 (by decide)) 2 x7 b (-1) ab
  have ok := performC_ok (σ := τ) (x := p) gt p2 2 x7 b (-1) ab
  generalize performC τ 2 x7 b (-1) p = z at t ok
  have hz := RtT_put h z.2 ok.1.1 (by omega) (by omega)
  rw [t, bnd_s, push_s, eX5_step_109]
  generalize putC τ 4 z.2 = υ at hz
  obtain ⟨u1, v1⟩ := t6_at20 (N := N) υ b
  obtain ⟨u2, v2⟩ := t6_at20 (N := N) υ (w32 (6 + b))
  by_cases k0 : x7 = 0
  · have k1 : ¬ x7 = 1 := by omega
    rw [if_pos k0, v1, bnd_s, push_s, eX5_step_116, if_neg k1]
    exact r_fin hz _ _ _ _ _ _ _ _ _
  by_cases k1 : x7 = 1
  · rw [if_neg k0, if_pos k1, v2, bnd_s, push_s, eX5_step_128]
    exact r_fin hz _ _ _ _ _ _ _ _ _
  rw [if_neg k0, if_neg k1]
  exact r_fin hz _ _ _ _ _ _ _ _ _
theorem r_step (h : RtT σ τ) (hg : OKG σ 1) (hc : OKC (σ 7 0)) (h82 : 0 ≤ σ 7 0 82 ∧ σ 7 0 82 < 2147482000) (x1 x2 x3 : Int) (h0 : 0 ≤ x1) (h1 : x1 < 300) (hm : MVS (σ 2 1 1) x2) : ∃ v τ', inv N mX5_step [vR 14 0, vI x1, vI x2, vI x3] (P τ) = some (some (vI v), P τ') ∧ RtT σ τ' := by
  have n0 : ¬ x1 < 0 := by omega
  rw [iX5_step, eX5_step_0, if_neg n0, if_pos h1, if_neg n0, if_pos h1, r_part, bnd_s, push_s, eX5_step_18]
  generalize τ 15 0 x1.toNat = y
  have go := fun x6 x7 => r_step56 (N := N) h hg hc h82 x1 x2 x3 y x6 x7 (w32 (bAnd (w32 (shr64 y 49)) 3 - 1)) hm rfl
  generalize w32 (bAnd (w32 (shr64 y 49)) 3 - 1) = r at go
  by_cases m : x2 < 100
  · rw [if_pos m]
    by_cases q : r = -1
    · rw [if_pos q]
      by_cases k : x2 = 1
      · rw [if_pos k, if_pos q.symm, if_pos q]
        exact go _ _ (fun z => absurd k z) (Or.inl m)
      · rw [if_neg k]
        exact ⟨_, _, rfl, h⟩
    · rw [if_neg q]
      by_cases k : x2 = 1
      · rw [if_pos k]
        exact ⟨_, _, rfl, h⟩
      · rw [if_neg k, if_neg (fun z => q z.symm)]
        exact go _ _ (fun _ => q) (Or.inl m)
  · rw [if_neg m]
    have k : ¬ x2 = 1 := by omega
    by_cases q : r = -1
    · rw [if_pos q, if_neg k]
      exact ⟨_, _, rfl, h⟩
    · rw [if_neg q, if_neg k]
      by_cases w : w32 ((w32 (x2 - 100)).tdiv 10) = r
      · rw [if_pos w, if_neg q]
        exact ⟨_, _, rfl, h⟩
      · rw [if_neg w]
        exact go _ _ (fun _ => q) (Or.inr ⟨rfl, w⟩)
theorem r_moves (hg : OKG σ 1) (hc : OKC (σ 7 0)) (h82 : 0 ≤ σ 7 0 82 ∧ σ 7 0 82 < 2147482000) (x1 x3 : Int) (h0 : 0 ≤ x3) (h1 : x3 < 300) (x5 : MV) : ∀ (m k : Nat) (τ : Sto) (x2 : Int), k + m = 3 → RtT σ τ → ∃ o τ', ev N mX5_search 47 [vR 14 0, vI x1, vI x2, vI x3, vI (k : Int), x5] [] (P τ) = ev N mX5_search 62 [vR 14 0, vI x1, vI o, vI x3, vI 0, x5] [] (P τ') ∧ RtT σ τ' := by
  intro m
  induction m with
  | zero =>
    intro k τ x2 hk h
    rw [eX5_search_47, if_pos (show (2 : Int) < (k : Int) by omega)]
    exact ⟨_, _, rfl, h⟩
  | succ m ih =>
    intro k τ x2 hk h
    have e1 : w32 ((k : Int) + 1) = ((k + 1 : Nat) : Int) := by rw [w32i (by omega) (by omega)]; omega
    rw [eX5_search_47, if_neg (show ¬ (2 : Int) < (k : Int) by omega)]
    by_cases q : x2 = 0
    · obtain ⟨v, υ, e, h2⟩ := r_step (N := N) h hg hc h82 x3 (k : Int) x1 h0 h1 (by unfold MVS; omega)
      rw [if_pos q, e, bnd_s, push_s, eX5_search_57, e1]
      exact ih (k + 1) υ v (by omega) h2
    · rw [if_neg q]
      exact ⟨_, _, rfl, h⟩
theorem r_inum {k im : Int} (h0 : 0 ≤ k) (i0 : 0 ≤ im) (i1 : im ≤ 6) (hk : k < 2 * im) : w32 (k + 1) = k + 1 ∧ (k < im → MVS im (w32 ((w32 ((w32 (100 + (w32 (10 * 0)))) + k)) - (w32 (0 * im))))) ∧ (¬ k < im → MVS im (w32 ((w32 ((w32 (100 + (w32 (10 * 1)))) + k)) - (w32 (1 * im))))) := by
  have a1 : w32 (10 * 0) = 0 := rfl
  have a2 : w32 (100 + 0) = 100 := rfl
  have a3 : w32 (10 * 1) = 10 := rfl
  have a4 : w32 (100 + 10) = 110 := rfl
  have a5 : w32 (0 * im) = 0 := by rw [Int.zero_mul]; rfl
  have a6 : w32 (1 * im) = im := by rw [Int.one_mul]; exact w32i (by omega) (by omega)
  have a7 : w32 (100 + k) = 100 + k := w32i (by omega) (by omega)
  have a8 : w32 (110 + k) = 110 + k := w32i (by omega) (by omega)
  have a9 : w32 (100 + k - 0) = 100 + k := by rw [w32i (by omega) (by omega)]; omega
  have b1 : w32 (110 + k - im) = 110 + k - im := w32i (by omega) (by omega)
  rw [a1, a2, a3, a4, a5, a6, a7, a8, a9, b1]
  refine ⟨w32i (by omega) (by omega), fun q => ?_, fun q => ?_⟩
  · unfold MVS; omega
  · unfold MVS; omega
theorem r_imgs (hg : OKG σ 1) (hc : OKC (σ 7 0)) (h82 : 0 ≤ σ 7 0 82 ∧ σ 7 0 82 < 2147482000) (x1 x3 : Int) (h0 : 0 ≤ x3) (h1 : x3 < 300) : ∀ (m k : Nat) (τ : Sto) (x2 : Int) (x5 : MV), k + m = 12 → RtT σ τ → ∃ o x4 x5' τ', ev N mX5_search 62 [vR 14 0, vI x1, vI x2, vI x3, vI (k : Int), x5] [] (P τ) = ev N mX5_search 36 [vR 14 0, vI x1, vI o, vI (w32 (x3 + 1)), x4, x5'] [] (P τ') ∧ RtT σ τ' := by
  have i0 := hg.2.2.1
  have i1 := hg.2.2.2.1
  have w2 : w32 (2 * σ 2 1 1) = 2 * σ 2 1 1 := w32i (by omega) (by omega)
  intro m
  induction m with
  | zero =>
    intro k τ x2 x5 hk h
    have e21 : τ 2 1 = σ 2 1 := h.1 2 1 (by decide)
    rw [eX5_search_62, e21, w2, if_neg (show ¬ (k : Int) < 2 * σ 2 1 1 by omega)]
    exact ⟨_, _, _, _, rfl, h⟩
  | succ m ih =>
    intro k τ x2 x5 hk h
    have e21 : τ 2 1 = σ 2 1 := h.1 2 1 (by decide)
    rw [eX5_search_62, e21, w2]
    by_cases q : (k : Int) < 2 * σ 2 1 1
    · have nm := r_inum (k := (k : Int)) (by omega) i0 i1 q
      have e1 : w32 ((k : Int) + 1) = ((k + 1 : Nat) : Int) := by rw [nm.1]; omega
      rw [if_pos q]
      by_cases z : x2 = 0
      · rw [if_pos z]
        by_cases b : (k : Int) < σ 2 1 1
        · obtain ⟨v, υ, e, h2⟩ := r_step (N := N) h hg hc h82 x3 _ x1 h0 h1 (nm.2.1 b)
          rw [if_pos b, e, bnd_s, push_s, eX5_search_97, e1]
          exact ih (k + 1) υ v _ (by omega) h2
        · obtain ⟨v, υ, e, h2⟩ := r_step (N := N) h hg hc h82 x3 _ x1 h0 h1 (nm.2.2 b)
          rw [if_neg b, e, bnd_s, push_s, eX5_search_97, e1]
          exact ih (k + 1) υ v _ (by omega) h2
      · rw [if_neg z]
        exact ⟨_, _, _, _, rfl, h⟩
    · rw [if_neg q]
      exact ⟨_, _, _, _, rfl, h⟩
theorem r_outer (hg : OKG σ 1) (hc : OKC (σ 7 0)) (h82 : 0 ≤ σ 7 0 82 ∧ σ 7 0 82 < 2147482000) (x1 : Int) : ∀ (m k : Nat) (τ : Sto) (x2 : Int) (x4 x5 : MV), k + m = 300 → RtT σ τ → ∃ o τ', ev N mX5_search 36 [vR 14 0, vI x1, vI x2, vI (k : Int), x4, x5] [] (P τ) = some (some (vI o), P τ') ∧ RtT σ τ' := by
  intro m
  induction m with
  | zero =>
    intro k τ x2 x4 x5 hk h
    rw [eX5_search_36, if_neg (show ¬ (k : Int) < 300 by omega)]
    by_cases q : (k : Int) < τ 14 0 9
    · rw [if_pos q]; exact ⟨_, _, rfl, h⟩
    · rw [if_neg q]; exact ⟨_, _, rfl, h⟩
  | succ m ih =>
    intro k τ x2 x4 x5 hk h
    have e1 : w32 ((k : Int) + 1) = ((k + 1 : Nat) : Int) := by rw [w32i (by omega) (by omega)]; omega
    have k3 : (k : Int) < 300 := by omega
    rw [eX5_search_36, if_pos k3]
    by_cases q : (k : Int) < τ 14 0 9
    · rw [if_pos q]
      by_cases z : x2 = 0
      · rw [if_pos z]
        obtain ⟨o, υ, e, h2⟩ := r_moves (N := N) hg hc h82 x1 (k : Int) (by omega) k3 x5 3 0 τ x2 rfl h
        obtain ⟨o2, y4, y5, ρ, e2, h3⟩ := r_imgs (N := N) hg hc h82 x1 (k : Int) (by omega) k3 12 0 υ o x5 rfl h2
        have e0 : ((0 : Nat) : Int) = 0 := rfl
        rw [e0] at e e2
        rw [e, e2, e1]
        exact ih (k + 1) ρ o2 y4 y5 (by omega) h3
      · rw [if_neg z]; exact ⟨_, _, rfl, h⟩
    · rw [if_neg q]; exact ⟨_, _, rfl, h⟩
theorem t2_holds (i : Nat) (τ : Sto) (a b : Int) : ∃ v, inv N mX2_holdsImage [vR 6 i, vI a, vI b] (P τ) = some (some (vI v), P τ) := by
  have lp : ∀ (m k : Nat), k + m = 14 → ∃ v, ev N mX2_holdsImage 2 [vR 6 i, vI a, vI b, vI (k : Int)] [] (P τ) = some (some (vI v), P τ) := by
    intro m
    induction m with
    | zero =>
      intro k hk
      rw [eX2_holdsImage_2, if_neg (show ¬ (k : Int) < 14 by omega)]
      exact ⟨_, rfl⟩
    | succ m ih =>
      intro k hk
      have e1 : w32 ((k : Int) + 1) = ((k + 1 : Nat) : Int) := by rw [w32i (by omega) (by omega)]; omega
      obtain ⟨u, eu⟩ := t2_cell (N := N) i τ (w32 ((w32 (a * 14)) + (k : Int)))
      obtain ⟨w, ew⟩ := t6_at5 (N := N) τ (w32 ((w32 (b * 14)) + (k : Int)))
      rw [eX2_holdsImage_2, if_pos (show (k : Int) < 14 by omega), eu, bnd_s, push_s, eX2_holdsImage_12, ew, bnd_s, push_s, eX2_holdsImage_21, e1]
      by_cases q : u = w
      · rw [if_pos q]
        exact ih (k + 1) (by omega)
      · rw [if_neg q]
        exact ⟨_, rfl⟩
  rw [iX2_holdsImage, eX2_holdsImage_0]
  exact lp 14 0 rfl
theorem r_first (h : RtT σ τ) (hg : OKG σ 1) (s k : Nat) (hs : s < 2) (hk : k < 6) : ∃ v τ', inv N mX5_firstAlike [vR 14 0, vI (s : Int), vI (k : Int)] (P τ) = some (some (vI v), P τ') ∧ RtT σ τ' := by
  obtain ⟨u, eu⟩ := t2_holds (N := N) 0 τ (s : Int) (k : Int)
  rw [iX5_firstAlike, eX5_firstAlike_0, eu, bnd_s, push_s, eX5_firstAlike_5]
  by_cases q : u = 0
  case neg =>
    rw [if_neg q]
    exact ⟨_, _, rfl, h⟩
  obtain ⟨c, c1, c2, c3⟩ := r_img (N := N) (τ := τ) (x := (τ 7 4, τ 6 4)) (RtT_G h hg) h.2.1 s (by omega) (k : Int) (by omega) (by omega)
  rw [putC_id] at c1
  have h2 := RtT_put h (c, τ 6 4) c2 (by show 0 ≤ c 82; rw [c3]; exact h.2.2.1) (by show c 82 < _; rw [c3]; exact h.2.2.2)
  change inv N mX2_putImage [vR 6 4, vI (s : Int), vI (k : Int)] (P τ) = some (none, P (putC τ 4 (c, τ 6 4))) at c1
  rw [if_pos q, c1, bnd_s, push_n, eX5_firstAlike_13]
  generalize putC τ 4 (c, τ 6 4) = υ at h2
  have lp : ∀ (m j : Nat), j + m = k → ∃ v, ev N mX5_firstAlike 15 [vR 14 0, vI (s : Int), vI (k : Int), vI (j : Int)] [] (P υ) = some (some (vI v), P υ) := by
    intro m
    induction m with
    | zero =>
      intro j hj
      rw [eX5_firstAlike_15, if_neg (show ¬ (j : Int) < (k : Int) by omega)]
      exact ⟨_, rfl⟩
    | succ m ih =>
      intro j hj
      have e1 : w32 ((j : Int) + 1) = ((j + 1 : Nat) : Int) := by rw [w32i (by omega) (by omega)]; omega
      obtain ⟨w, ew⟩ := t2_holds (N := N) 4 υ (s : Int) (j : Int)
      rw [eX5_firstAlike_15, if_pos (show (j : Int) < (k : Int) by omega), ew, bnd_s, push_s, eX5_firstAlike_23, e1]
      by_cases z : w = 0
      · rw [if_pos z]
        exact ih (j + 1) (by omega)
      · rw [if_neg z]
        exact ⟨_, rfl⟩
  obtain ⟨v, e⟩ := lp k 0 (by omega)
  exact ⟨v, υ, e, h2⟩
theorem r_findIn (hg : OKG σ 1) (s : Nat) (hs : s < 2) : ∀ (m k : Nat) (τ : Sto), k + m = 6 → RtT σ τ → ∃ y τ', ev N mX5_findAlike 7 [vR 14 0, vI (s : Int), vI (k : Int)] [] (P τ) = ev N mX5_findAlike 2 [vR 14 0, vI ((s + 1 : Nat) : Int), y] [] (P τ') ∧ RtT σ τ' := by
  have i1 := hg.2.2.2.1
  have es : w32 ((s : Int) + 1) = ((s + 1 : Nat) : Int) := by rw [w32i (by omega) (by omega)]; omega
  intro m
  induction m with
  | zero =>
    intro k τ hk h
    have e21 : τ 2 1 = σ 2 1 := h.1 2 1 (by decide)
    rw [eX5_findAlike_7, e21, if_neg (show ¬ (k : Int) < σ 2 1 1 by omega), es]
    exact ⟨_, _, rfl, h⟩
  | succ m ih =>
    intro k τ hk h
    have e21 : τ 2 1 = σ 2 1 := h.1 2 1 (by decide)
    have e1 : w32 ((k : Int) + 1) = ((k + 1 : Nat) : Int) := by rw [w32i (by omega) (by omega)]; omega
    rw [eX5_findAlike_7, e21]
    by_cases q : (k : Int) < σ 2 1 1
    · obtain ⟨v, υ, e, h2⟩ := r_first (N := N) h hg s k hs (by omega)
      obtain ⟨f, ef⟩ := t6_put20 (N := N) υ (w32 ((w32 ((s : Int) * 6)) + (k : Int))) v
      rw [if_pos q, e, bnd_s, push_s, eX5_findAlike_23, ef, bnd_s, push_n, eX5_findAlike_24, e1]
      exact ih (k + 1) _ (by omega) (RtT_row h2 20 (by decide) f)
    · rw [if_neg q, es]
      exact ⟨_, _, rfl, h⟩
theorem r_findAlike (h : RtT σ τ) (hg : OKG σ 1) : ∃ τ', inv N mX5_findAlike [vR 14 0] (P τ) = some (none, P τ') ∧ RtT σ τ' := by
  obtain ⟨y1, υ, e1, h1⟩ := r_findIn (N := N) hg 0 (by decide) 6 0 τ rfl h
  obtain ⟨y2, ρ, e2, h2⟩ := r_findIn (N := N) hg 1 (by decide) 6 0 υ rfl h1
  have e0 : ((0 : Nat) : Int) = 0 := rfl
  rw [e0] at e1 e2
  have a1 : ((0 + 1 : Nat) : Int) = 1 := rfl
  have a2 : ((1 + 1 : Nat) : Int) = 2 := rfl
  have a3 : ((1 : Nat) : Int) = 1 := rfl
  rw [a1] at e1
  rw [a2, a3] at e2
  rw [iX5_findAlike, eX5_findAlike_0, eX5_findAlike_2, if_pos (by decide), e1, eX5_findAlike_2, if_pos (by decide), e2, eX5_findAlike_2, if_neg (by decide)]
  exact ⟨_, rfl, h2⟩
theorem c_fill19 : inv N mJ7_fill_53178 [vR 19 0, vI 0] (P σ) = some (none, P (row σ 19 0 (fill (σ 19 0) 0 1024 0))) := by
  have lp : ∀ (m k : Nat) (τ : Sto), k + m = 1024 → ev N mJ7_fill_53178 5 [vR 19 0, vI 0, vI (k : Int), vI 1024] [] (P τ) = some (none, P (row τ 19 0 (fill (τ 19 0) k m 0))) := by
    intro m
    induction m with
    | zero =>
      intro k τ hk
      have e : k = 1024 := by omega
      subst e
      rw [eJ7_fill_53178_5_k19, if_neg (by decide), fill_0, row_id]
    | succ m ih =>
      intro k τ hk
      have l1 : (k : Int) < 1024 ∧ ¬ (k : Int) < 0 ∧ k + 1 + m = 1024 := by omega
      have e1 : w32 ((k : Int) + 1) = ((k + 1 : Nat) : Int) := by rw [w32i (by omega) (by omega)]; omega
      rw [eJ7_fill_53178_5_k19, if_pos l1.1, if_neg l1.2.1, if_pos l1.1, e1, sup_row, ih (k + 1) _ l1.2.2, row_same, row_row, Int.toNat_natCast, fill_s]
  rw [iJ7_fill_53178_k19, eJ7_fill_53178_0_k19]
  exact lp 1024 0 σ rfl
theorem r_search (hg : OKG σ 1) (hc : OKC (σ 7 0)) (h82 : 0 ≤ σ 7 0 82 ∧ σ 7 0 82 < 2147482000) (v : Int) : ∃ o τ, inv N mX5_search [vR 14 0, vI v] (P σ) = some (some (vI o), P τ) ∧ RtT σ τ := by
  have ct := p2_take (N := N) (i := 4) (b := σ) (x := (σ 7 4, σ 6 4)) 0 (by decide)
  rw [putC_id] at ct
  have oc : OKC (cpyV (σ 7 0) (σ 7 4) 0 0 107) := OKC_107 hc (fun j hj => cpy_all _ _ hj)
  have o82 : cpyV (σ 7 0) (σ 7 4) 0 0 107 82 = σ 7 0 82 := cpy_all _ _ (by decide)
  change inv N mX2_takeFrom [vR 6 4, vR 6 0] (P σ) = some (none, P (putC σ 4 (cpyV (σ 7 0) (σ 7 4) 0 0 107, σ 6 4))) at ct
  generalize cpyV (σ 7 0) (σ 7 4) 0 0 107 = c at ct oc o82
  have h1 : RtT σ (putC σ 4 (c, σ 6 4)) := by
    refine ⟨fun k k' q => ?_, ?_, ?_, ?_⟩
    · unfold putC
      rw [row_at, if_neg (fun z => q (Or.inl ⟨z.2, Or.inl z.1⟩)), row_at, if_neg (fun z => q (Or.inl ⟨z.2, Or.inr z.1⟩))]
    · rw [putC_7]; exact oc
    · rw [putC_7]; show 0 ≤ c 82; rw [o82]; exact h82.1
    · rw [putC_7]; show c 82 < _; rw [o82]; exact Int.lt_trans h82.2 (by decide)
  rw [iX5_search, eX5_search_0, ct, bnd_s, push_n, eX5_search_5]
  have h2 := RtT_sup h1 14 (by decide) 10 0
  generalize sup (putC σ 4 (c, σ 6 4)) 14 0 10 0 = υ at h2
  obtain ⟨u, eu⟩ := r_isThere (N := N) υ v
  rw [eu, bnd_s, push_s, eX5_search_11]
  by_cases q : u = 0
  case neg =>
    rw [if_neg q]
    exact ⟨_, _, rfl, h2⟩
  obtain ⟨ρ, e3, h3⟩ := r_findAlike (N := N) h2 hg
  have h4 := RtT_sup (RtT_row h3 19 (by decide) (fill (ρ 19 0) 0 1024 0)) 14 (by decide) 9 0
  rw [if_pos q, e3, bnd_s, push_n, eX5_search_16, c_fill19, bnd_s, push_n, eX5_search_20]
  generalize sup (row ρ 19 0 (fill (ρ 19 0) 0 1024 0)) 14 0 9 0 = ρ2 at h4
  obtain ⟨y, ρ3, e5, h5⟩ := r_pack (N := N) h4 0 0
  obtain ⟨w, ρ4, e6, h6⟩ := r_add (N := N) h5 y 0 0
  rw [e5, bnd_s, push_s, eX5_search_28, e6, bnd_s, push_s, eX5_search_31]
  exact r_outer hg hc h82 v 300 0 ρ4 0 vX vX rfl h6
theorem r_moveAt (τ : Sto) (x1 : Int) (hx : x1 < 2147483648) : ∃ v, inv N mX5_moveAt [vR 14 0, vI x1] (P τ) = some (some (vI v), P τ) := by
  have lp : ∀ (m k : Nat) (x2 x3 : Int), (x1 - k).toNat = m → ∃ v, ev N mX5_moveAt 8 [vR 14 0, vI x1, vI x2, vI x3, vI (k : Int)] [] (P τ) = some (some (vI v), P τ) := by
    intro m
    induction m with
    | zero =>
      intro k x2 x3 hk
      rw [eX5_moveAt_8, if_neg (show ¬ (k : Int) < x1 by omega)]
      exact ⟨_, rfl⟩
    | succ m ih =>
      intro k x2 x3 hk
      have q : (k : Int) < x1 := by omega
      have e1 : w32 ((k : Int) + 1) = ((k + 1 : Nat) : Int) := by rw [w32i (by omega) (by omega)]; omega
      obtain ⟨a, ea⟩ := t6_at17 (N := N) τ x3
      obtain ⟨b, eb⟩ := t6_at16 (N := N) τ x3
      rw [eX5_moveAt_8, if_pos q, ea, bnd_s, push_s, eX5_moveAt_15, eb, bnd_s, push_s, eX5_moveAt_20, e1]
      exact ih (k + 1) a b (by omega)
  rw [iX5_moveAt, eX5_moveAt_0]
  exact lp _ 0 _ _ rfl
theorem w32_ub (x : Int) : w32 x < 2147483648 := by unfold w32; omega
theorem QX_RtT {σ τ : Sto} (h : RtT σ τ) : QX σ τ := by
  have o := h.1
  refine ⟨⟨fun k k' q => o k k' (by omega), ?_, ?_, ?_, ?_⟩, o 7 0 (by decide), fun j _ => ?_, o 9 0 (by decide), o 10 0 (by decide), o 41 0 (by decide), ?_⟩
  · rw [o 30 0 (by decide)]
  · rw [o 30 0 (by decide)]
  · rw [o 30 0 (by decide)]
  · rw [o 30 0 (by decide)]
  · rw [o 40 0 (by decide)]
  · rw [o 30 0 (by decide)]
theorem c_route {L : Int} (h : INV L σ) (hL : L < 2147480000) (a b : Int) : ∃ ans σ1, inv N mX8_route [vR 0 0, vI a, vI b] (P σ) = some (some (vI ans), P σ1) ∧ QX σ σ1 := by
  have h82 := CELL_82 h.2.1 hL
  rw [iX8_route, eX8_route_0]
  by_cases a0 : a < 0
  · rw [if_pos a0]; exact ⟨_, _, rfl, QX_refl σ⟩
  by_cases a1 : a < 31
  case neg =>
    rw [if_neg a0, if_neg a1]; exact ⟨_, _, rfl, QX_refl σ⟩
  by_cases b1 : b < -1
  · rw [if_neg a0, if_pos a1, if_pos b1]; exact ⟨_, _, rfl, QX_refl σ⟩
  obtain ⟨o, τ, e, r⟩ := r_search (N := N) h.1.1 h.2.1.1 h82 a
  have q := QX_RtT r
  rw [if_neg a0, if_pos a1, if_neg b1, e, bnd_s, push_s, eX8_route_14]
  by_cases o1 : o = 1
  · rw [if_pos o1, iX5_moveOrLength, eX5_moveOrLength_0]
    by_cases k1 : b = -1
    · rw [if_pos k1, bnd_s, push_s, eX8_route_22]; exact ⟨_, _, rfl, q⟩
    by_cases k2 : b < τ 14 0 10
    · obtain ⟨v, ev1⟩ := r_moveAt (N := N) τ (w32 ((w32 (τ 14 0 10 - 1)) - b)) (w32_ub _)
      rw [if_neg k1, if_pos k2, ev1, bnd_s, push_s, eX5_moveOrLength_18, bnd_s, push_s, eX8_route_22]; exact ⟨_, _, rfl, q⟩
    · rw [if_neg k1, if_neg k2, bnd_s, push_s, eX8_route_22]; exact ⟨_, _, rfl, q⟩
  by_cases o2 : o = 2
  · rw [if_neg o1, if_pos o2]; exact ⟨_, _, rfl, q⟩
  rw [if_neg o1, if_neg o2]; exact ⟨_, _, rfl, q⟩
end ROUTE
end
