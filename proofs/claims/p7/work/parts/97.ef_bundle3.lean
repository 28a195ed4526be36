/-! BUNDLE: the pair -/
section BU
variable {N n : Nat} {T : Vec} {σ : Sto} {L : Int}
theorem all_fr {σ σa σr σ2 τm τ2 τ3 : Sto} (a : ∀ k k', ¬ (k = 0 ∧ k' = 0) → σa k k' = σ k k') (b : CFr σa σr) (c : CFr σr σ2) (d : MFr σ2 τm) (e : MFr τm τ2) (f : ∀ k k', ¬ (k = 30 ∧ k' = 0) → τ3 k k' = τ2 k k') : ∀ k k', ¬ (k' = 0 ∧ (k = 0 ∨ k = 2 ∨ k = 3 ∨ k = 4 ∨ k = 5 ∨ k = 8 ∨ k = 30 ∨ k = 34 ∨ k = 35 ∨ k = 37 ∨ k = 39)) → τ3 k k' = σ k k' := by
  intro k k' q
  rw [f k k' (by omega), e.1 k k' (by omega), d.1 k k' (by omega), c k k' (by omega), b k k' (by omega), a k k' (by omega)]
theorem all_30 {σ σa σr σ2 τm τ2 : Sto} (a : ∀ k k', ¬ (k = 0 ∧ k' = 0) → σa k k' = σ k k') (b : CFr σa σr) (c : CFr σr σ2) (d : MFr σ2 τm) (e : MFr τm τ2) {j : Nat} (hj : j ≠ 2 ∧ j ≠ 3 ∧ j ≠ 4 ∧ j ≠ 7 ∧ j ≠ 8 ∧ j ≠ 9) : τ2 30 0 j = σ 30 0 j := by
  rw [e.2 j hj.1 hj.2.1 hj.2.2.1 hj.2.2.2.1 hj.2.2.2.2.1 hj.2.2.2.2.2, d.2 j hj.1 hj.2.1 hj.2.2.1 hj.2.2.2.1 hj.2.2.2.2.1 hj.2.2.2.2.2, c 30 0 (by decide), b 30 0 (by decide), a 30 0 (by decide)]
theorem all_00 {σa σr σ2 τm τ2 τ3 : Sto} (b : CFr σa σr) (c : CFr σr σ2) (d : MFr σ2 τm) (e : MFr τm τ2) (f : ∀ k k', ¬ (k = 30 ∧ k' = 0) → τ3 k k' = τ2 k k') : τ3 0 0 = σa 0 0 := by
  rw [f 0 0 (by decide), e.1 0 0 (by decide), d.1 0 0 (by decide), c 0 0 (by decide), b 0 0 (by decide)]
theorem tape_n (h : TAPE σ) : ∃ n : Nat, σ 0 0 1 = (n : Int) ∧ n ≤ 300 := by
  obtain ⟨a, b, -⟩ := h
  exact ⟨(σ 0 0 1).toNat, by omega, by omega⟩
theorem TAPE_0 (h : TAPE σ) {τ : Sto} (e0 : τ 0 0 = set (σ 0 0) 1 0) (e1 : τ 1 0 = σ 1 0) (e31 : τ 31 0 = σ 31 0) (e30 : τ 30 0 1 = 0) : TAPE τ := by
  unfold TAPE at h ⊢
  rw [e0, e1, e31, e30, set_same]
  exact ⟨by decide, by decide, rfl, h.2.2.2⟩
theorem DRAWN_0 (h : DRAWN σ) {τ : Sto} (e0 : τ 0 0 = set (σ 0 0) 1 0) (e35 : τ 30 0 35 = σ 30 0 35) : DRAWN τ := by
  unfold DRAWN at h ⊢
  rw [e0, e35, set_ne _ _ (by decide)]
  exact h
theorem MX_tape (h : TAPE σ) {n : Nat} (hn : σ 0 0 1 = (n : Int)) (h300 : n ≤ 300) {τ : Sto} (e31 : τ 31 0 = σ 31 0) (e30 : τ 30 0 1 = σ 30 0 1) : MX n (σ 1 0) τ := by
  obtain ⟨-, -, a, b⟩ := h
  refine ⟨by rw [e30, a, hn], h300, fun j hj => ?_, fun j hj => ⟨(b j hj).1, (b j hj).2.1⟩⟩
  rw [e31]
  exact ⟨⟨(b j hj).2.2.1, (b j hj).2.2.2.1⟩, (b j hj).2.2.2.2⟩
theorem rd_run (h : INV L σ) {n : Nat} (hn : σ 0 0 1 = (n : Int)) (h300 : n ≤ 300) : RD1 n (σ 1 0) (rdQ (row σ 0 0 (set (σ 0 0) 1 0)) (n : Int)) (inv N mX4_read [vR 8 0, vI (n : Int)] (P (row σ 0 0 (set (σ 0 0) 1 0)))) (fun τ => ev N mX9_bundle 34 [vR 30 0, vI 0, vI 1] [] (P τ)) N := by
  obtain ⟨cr, zw, h10⟩ := rd_CR (σ := row σ 0 0 (set (σ 0 0) 1 0)) h300 h.1.2.2.2.2.1
  have lp := read_loop (N := N) (n : Int) (n + 1) _ 0 0 (by omega) cr zw (Nat.le_refl 0) h10
  rw [c_read0]
  exact lp
theorem tk_at (g f : Vec) : tk2 g f 0 = g 0 ∧ tk2 g f 1 = g 1 ∧ tk2 g f 2 = g 2 ∧ tk2 g f 3 = g 3 ∧ tk2 g f 4 = g 4 := ⟨rfl, rfl, rfl, rfl, rfl⟩
theorem cpy_in0 (f g : Vec) {n k : Nat} (h : k < n) : cpyV f g 0 0 n k = f k := by
  have := cpyV_in f g 0 0 n k h
  rw [Nat.zero_add] at this
  exact this
theorem lt6_n {k K : Nat} (h : (k : Int) < (K : Int)) (hK : K ≤ 6) : k < K ∧ k < 6 := by omega
theorem lt84_n {k I : Nat} (h : (k : Int) < 14 * (I : Int)) (hI : I ≤ 6) : k < 14 * I ∧ k < 84 := by omega
/-- both bundles, of the same text -/
theorem EnvM_new {ω σ2 τ2 : Sto} {K I : Nat} (hK : K ≤ 6) (hI : I ≤ 6) (eK : σ2 2 0 0 = (K : Int)) (eI : σ2 2 0 1 = (I : Int)) (dr : DR σ2) (rr : RR σ2 τ2) (old32 : ∀ k, k < 6 → 0 ≤ τ2 32 0 k ∧ τ2 32 0 k < 10000) (old36 : ∀ k, k < 84 → 0 ≤ τ2 36 0 k ∧ τ2 36 0 k < 100000) (w21 : ω 2 1 = tk2 (σ2 2 0) (σ2 2 1)) (w31 : ω 3 1 = cpyV (σ2 3 0) (σ2 3 1) 0 0 6) (w41 : ω 4 1 = cpyV (σ2 4 0) (σ2 4 1) 0 0 6) (w51 : ω 5 1 = cpyV (σ2 5 0) (σ2 5 1) 0 0 84) (w5 : ω 30 0 5 = (K : Int)) (w6 : ω 30 0 6 = (I : Int)) (w32 : ω 32 0 = cpyV (τ2 34 0) (τ2 32 0) 0 0 K) (w33 : ω 33 0 = cpyV (τ2 35 0) (τ2 33 0) 0 0 K) (w36 : ω 36 0 = cpyV (τ2 37 0) (τ2 36 0) 0 0 (14 * I)) (w38 : ω 38 0 2 = τ2 39 0 2 ∧ ω 38 0 3 = τ2 39 0 3 ∧ ω 38 0 4 = τ2 39 0 4) : OKG ω 1 ∧ EnvM ω ω := by
  obtain ⟨a, b, c, d, e, ⟨f1, f2⟩, i, -⟩ := dr
  obtain ⟨-, -, -, -, rk, rw', l, m, o, -⟩ := rr
  have i2 := i.2
  rw [eK] at i2 rk
  rw [eI] at rw'
  obtain ⟨t0, t1, t2, t3, t4⟩ := tk_at (σ2 2 0) (σ2 2 1)
  have z3 : ∀ k, k < 6 → ω 3 1 k = σ2 3 0 k := fun k hk => by rw [w31]; exact cpy_in0 _ _ hk
  have z4 : ∀ k, k < 6 → ω 4 1 k = σ2 4 0 k := fun k hk => by rw [w41]; exact cpy_in0 _ _ hk
  have z5 : ∀ k, k < 84 → ω 5 1 k = σ2 5 0 k := fun k hk => by rw [w51]; exact cpy_in0 _ _ hk
  have x32 : ∀ k : Nat, (k : Int) < (K : Int) → ω 32 0 k = σ2 3 0 k := fun k hk => by rw [w32, cpy_in0 _ _ (lt6_n hk hK).1]; exact (rk k hk).1
  have x33 : ∀ k : Nat, (k : Int) < (K : Int) → ω 33 0 k = σ2 4 0 k := fun k hk => by rw [w33, cpy_in0 _ _ (lt6_n hk hK).1]; exact (rk k hk).2
  have x36 : ∀ k : Nat, (k : Int) < 14 * (I : Int) → ω 36 0 k = σ2 5 0 k := fun k hk => by rw [w36, cpy_in0 _ _ (lt84_n hk hI).1]; exact rw' k hk
  have ouG : OKU (K : Int) (ω 4 1) := ⟨Int.ofNat_le.mpr hK, fun k hk => by rw [z4 k (lt6_n hk hK).2]; exact i2 k hk⟩
  have ouM : OKU (K : Int) (ω 33 0) := ⟨Int.ofNat_le.mpr hK, fun k hk => by rw [x33 k hk]; exact i2 k hk⟩
  refine ⟨?_, ⟨?_, fun c s => ?_, ?_, ?_, ?_, ?_, ?_, fun j hj => ?_, fun k hk => ?_⟩⟩
  · unfold OKG
    rw [w21, t0, t1, t2, t3, t4, eK]
    exact ⟨by rw [← eK]; exact a.1, by rw [← eK]; exact a.2, b.1, b.2, c.1, c.2, d.1, d.2, e.1, e.2, fun k hk => by rw [z3 k hk]; exact f1 k hk, ouG, fun k hk => by rw [z5 k hk]; exact f2 k hk⟩
  · unfold OKM
    rw [w5, w6, w38.1, w38.2.1, w38.2.2, l, m, o]
    refine ⟨by rw [← eK]; exact a.1, by rw [← eK]; exact a.2, by rw [← eI]; exact b.1, by rw [← eI]; exact b.2, c.1, c.2, d.1, d.2, e.1, e.2, fun k hk => ?_, ouM, fun k hk => ?_⟩
    · by_cases q : k < K
      · rw [x32 k (Int.ofNat_lt.mpr q)]; exact f1 k hk
      · rw [w32, cpyV_out _ _ _ _ _ _ (Or.inr (by rw [Nat.zero_add]; exact Nat.le_of_not_lt q))]; exact old32 k hk
    · by_cases q : k < 14 * I
      · rw [x36 k (by rw [show 14 * (I : Int) = ((14 * I : Nat) : Int) from rfl]; exact Int.ofNat_lt.mpr q)]; exact f2 k hk
      · rw [w36, cpyV_out _ _ _ _ _ _ (Or.inr (by rw [Nat.zero_add]; exact Nat.le_of_not_lt q))]; exact old36 k hk
  · show whyF (ω 30 0 5) (ω 32 0) (ω 33 0) c s = whyF (ω 2 1 0) (ω 3 1) (ω 4 1) c s
    rw [w5, w21, t0, eK]
    exact whyF_bundle ouG (fun k hk => (x32 k hk).trans (z3 k (lt6_n hk hK).2).symm) (fun k hk => (x33 k hk).trans (z4 k (lt6_n hk hK).2).symm) c s
  · rw [w5, w21, t0, eK]
  · rw [w6, w21, t1, eI]
  · rw [w38.1, w21, t2, l]
  · rw [w38.2.1, w21, t3, m]
  · rw [w38.2.2, w21, t4, o]
  · rw [w21, t1, eI] at hj
    rw [x36 j hj, z5 j (lt84_n hj hI).2]
  · rw [w21, t0, eK] at hk
    rw [x33 k hk, z4 k (lt6_n hk hK).2]
theorem pair_bundle : PAIR N mX8_bundle mX9_bundle [] := by
  intro L σ h hL
  obtain ⟨n, hn, h300⟩ := tape_n h.1.2.2.1
  have hT := h.1.2.2.1
  obtain ⟨f, σ2, k2, d1, d2, d3, d4, d5⟩ := rd_run (N := N) h hn h300
  have fa : ∀ k k', ¬ (k = 0 ∧ k' = 0) → row σ 0 0 (set (σ 0 0) 1 0) k k' = σ k k' := fun k k' q => by rw [row_at, if_neg q]
  have a00 : row σ 0 0 (set (σ 0 0) 1 0) 0 0 = set (σ 0 0) 1 0 := row_same _ _ _ _
  have fb := CFr_rd (σ := row σ 0 0 (set (σ 0 0) 1 0)) (n : Int)
  have rr := fun τ : Sto => mb_RR (σr := rdQ (row σ 0 0 (set (σ 0 0) 1 0)) (n : Int)) (τ := τ) rfl rfl rfl rfl rfl rfl rfl rfl rfl
  have cls : inv N mX8_bundle [vR 0 0] (P σ) = ev N mX8_bundle 10 [vR 0 0, vI (n : Int), vX] [vI f] (P σ2) := by
    rw [iX8_bundle, eX8_bundle_0, sup_row, hn, d1, bnd_s, push_s]
  generalize rdQ (row σ 0 0 (set (σ 0 0) 1 0)) (n : Int) = σr at d2 d5 fb rr
  generalize row σ 0 0 (set (σ 0 0) 1 0) = σa at fa a00 fb
  by_cases ff : f = -1
  case neg =>
    -- a fault
    have c30 : σ2 30 0 = σ 30 0 := by rw [d2 30 0 (by decide), fb 30 0 (by decide), fa 30 0 (by decide)]
    have c31 : σ2 31 0 = σ 31 0 := by rw [d2 31 0 (by decide), fb 31 0 (by decide), fa 31 0 (by decide)]
    have mx := MX_tape hT hn h300 (τ := mbS σ2) c31 (by show mb30 (σ2 30 0) 1 = _; unfold mb30; rw [set_ne _ _ (by decide), set_ne _ _ (by decide), set_ne _ _ (by decide), set_ne _ _ (by decide), set_ne _ _ (by decide), c30])
    obtain ⟨τ2, m1, m2, m3, -⟩ := d5 (mbS σ2) mx (rr σ2)
    have mfr := MFr_mb σ2
    have f3 : ∀ k k', ¬ (k = 30 ∧ k' = 0) → row τ2 30 0 (set (τ2 30 0) 1 0) k k' = τ2 k k' := fun k k' q => by rw [row_at, if_neg q]
    have al := all_fr fa fb d2 mfr m2 f3
    have a3 := fun (j : Nat) hj => all_30 fa fb d2 mfr m2 (j := j) hj
    have z0 := all_00 fb d2 mfr m2 f3
    rw [a00] at z0
    have rt := m_right (N := N) (σ := row τ2 30 0 (set (τ2 30 0) 1 0))
    rw [row_same, set_ne _ _ (show 3 ≠ 1 by decide), m3, if_neg ff] at rt
    change ev N mX9_bundle 34 [vR 30 0, vI 0, vI 1] [] (P (mbS σ2)) = _ at m1
    have dr : DRAFT (row τ2 30 0 (set (τ2 30 0) 1 0)) := by
      unfold DRAFT at d3 ⊢
      rw [f3 3 0 (by decide), f3 5 0 (by decide), m2.1 3 0 (by decide), m2.1 5 0 (by decide), mfr.1 3 0 (by decide), mfr.1 5 0 (by decide)]
      exact d3
    refine ⟨w32 (-2 - f), σ2, row τ2 30 0 (set (τ2 30 0) 1 0), ?_, ?_, up300 (L := L) ⟨⟨?_, ?_, TAPE_0 hT z0 (al 1 0 (by decide)) (al 31 0 (by decide)) (by rw [row_same, set_same]), DRAWN_0 h.1.2.2.2.1 z0 (by rw [row_same, set_ne _ _ (by decide)]; exact a3 35 (by decide)), dr⟩, ?_, ?_⟩ (by omega)⟩
    · rw [cls, eX8_bundle_10, if_neg ff]
    · rw [m_bundle0, m1, eX9_bundle_70, sup_row, rt, bnd_s, push_s, eX9_bundle_75, if_pos rfl, row_same, set_ne _ _ (show 3 ≠ 1 by decide), m3]
    · have b1 := h.1.1
      unfold OKG at b1 ⊢
      rw [al 2 1 (by decide), al 3 1 (by decide), al 4 1 (by decide), al 5 1 (by decide)]
      exact b1
    · have b2 := h.1.2.1
      have e5 : row τ2 30 0 (set (τ2 30 0) 1 0) 30 0 5 = σ 30 0 5 := by rw [row_same, set_ne _ _ (by decide)]; exact a3 5 (by decide)
      have e6 : row τ2 30 0 (set (τ2 30 0) 1 0) 30 0 6 = σ 30 0 6 := by rw [row_same, set_ne _ _ (by decide)]; exact a3 6 (by decide)
      unfold EnvM OKM whyM whyS at b2 ⊢
      rw [al 32 0 (by decide), al 33 0 (by decide), al 36 0 (by decide), al 38 0 (by decide), e5, e6, al 2 1 (by decide), al 3 1 (by decide), al 4 1 (by decide), al 5 1 (by decide)]
      exact b2
    · rw [al 7 0 (by decide), al 40 0 (by decide)]
      exact h.2.1
    · have e21 : row τ2 30 0 (set (τ2 30 0) 1 0) 30 0 21 = σ 30 0 21 := by rw [row_same, set_ne _ _ (by decide)]; exact a3 21 (by decide)
      rw [al 10 0 (by decide), al 9 0 (by decide), al 41 0 (by decide), e21]
      exact h.2.2
  · -- the bundle is taken
    subst ff
    obtain ⟨h10, p2, cr⟩ := d4 rfl
    have ct := c_take21 (N := N) (σ := σ2)
    have e9 : tkQ σ2 9 0 = σ2 9 0 := rfl
    generalize hσ3 : row (tkQ σ2) 9 0 (set (σ2 9 0) 3 0) = σ3
    have s21 : σ3 2 1 = tk2 (σ2 2 0) (σ2 2 1) := by rw [← hσ3]; rfl
    have s31 : σ3 3 1 = cpyV (σ2 3 0) (σ2 3 1) 0 0 6 := by rw [← hσ3]; rfl
    have s41 : σ3 4 1 = cpyV (σ2 4 0) (σ2 4 1) 0 0 6 := by rw [← hσ3]; rfl
    have s51 : σ3 5 1 = cpyV (σ2 5 0) (σ2 5 1) 0 0 84 := by rw [← hσ3]; rfl
    have s9 : σ3 9 0 = set (σ2 9 0) 3 0 := by rw [← hσ3]; rfl
    have so : ∀ k, k ≠ 9 → σ3 k 0 = σ2 k 0 := by
      intro k hk
      rw [← hσ3, row_at, if_neg (fun z => hk z.1)]
      unfold tkQ
      rw [row_at, if_neg (fun z => absurd z.2 (by decide)), row_at, if_neg (fun z => absurd z.2 (by decide)), row_at, if_neg (fun z => absurd z.2 (by decide)), row_at, if_neg (fun z => absurd z.2 (by decide))]
    have c30 : σ3 30 0 = σ 30 0 := by rw [so 30 (by decide), d2 30 0 (by decide), fb 30 0 (by decide), fa 30 0 (by decide)]
    have c31 : σ3 31 0 = σ 31 0 := by rw [so 31 (by decide), d2 31 0 (by decide), fb 31 0 (by decide), fa 31 0 (by decide)]
    have mx := MX_tape hT hn h300 (τ := mbS σ3) c31 (by show mb30 (σ3 30 0) 1 = _; unfold mb30; rw [set_ne _ _ (by decide), set_ne _ _ (by decide), set_ne _ _ (by decide), set_ne _ _ (by decide), set_ne _ _ (by decide), c30])
    obtain ⟨τ2, m1, m2, m3, m4⟩ := d5 (mbS σ3) mx (rr σ3)
    have r4 := m4 rfl
    have mfr := MFr_mb σ3
    change ev N mX9_bundle 34 [vR 30 0, vI 0, vI 1] [] (P (mbS σ3)) = _ at m1
    obtain ⟨K, eK⟩ := Int.eq_ofNat_of_zero_le cr.2.2.2.2.1.1
    obtain ⟨I, eI⟩ := Int.eq_ofNat_of_zero_le cr.2.2.2.2.2.1.1
    have K6 : K ≤ 6 := Int.ofNat_le.mp (by rw [← eK]; exact cr.2.2.2.2.1.2)
    have I6 : I ≤ 6 := Int.ofNat_le.mp (by rw [← eI]; exact cr.2.2.2.2.2.1.2)
    have t7 : τ2 30 0 7 = (K : Int) := r4.2.2.1.trans eK
    have t8 : τ2 30 0 8 = (I : Int) := r4.2.2.2.1.trans eI
    have mc := m_copies (N := N) (τ := row τ2 30 0 (set (τ2 30 0) 1 0)) K6 I6 (by rw [row_same, set_ne _ _ (by decide)]; exact t7) (by rw [row_same, set_ne _ _ (by decide)]; exact t8)
    -- what the model leaves
    have mo : ∀ k k', ¬ (k' = 0 ∧ (k = 30 ∨ k = 34 ∨ k = 35 ∨ k = 37 ∨ k = 39)) → τ2 k k' = σ3 k k' := fun k k' q => (m2.1 k k' q).trans (mfr.1 k k' q)
    have ol : ∀ k, k ≠ 9 → k ≠ 0 → k ≠ 2 → k ≠ 3 → k ≠ 4 → k ≠ 5 → k ≠ 8 → k ≠ 30 → k ≠ 34 → k ≠ 35 → k ≠ 37 → k ≠ 39 → τ2 k 0 = σ k 0 := by
      intro k h9 h0 h2 h3 h4 h5 h8 h30 h34 h35 h37 h39
      rw [mo k 0 (fun z => by rcases z.2 with y | y | y | y | y; exact h30 y; exact h34 y; exact h35 y; exact h37 y; exact h39 y), so k h9, d2 k 0 (fun z => by rcases z.2 with y | y | y | y | y; exact h2 y; exact h3 y; exact h4 y; exact h5 y; exact h8 y), fb k 0 (fun z => by rcases z.2 with y | y | y | y | y; exact h2 y; exact h3 y; exact h4 y; exact h5 y; exact h8 y), fa k 0 (fun z => h0 z.1)]
    have j35 : τ2 30 0 35 = σ 30 0 35 := by
      rw [m2.2 35 (by decide) (by decide) (by decide) (by decide) (by decide) (by decide), mfr.2 35 (by decide) (by decide) (by decide) (by decide) (by decide) (by decide), c30]
    have rt := m_right (N := N) (σ := row τ2 30 0 (set (τ2 30 0) 1 0))
    rw [row_same, set_ne _ _ (show 3 ≠ 1 by decide), m3, if_pos rfl] at rt
    generalize hω : cpQ (row τ2 30 0 (set (τ2 30 0) 1 0)) K (14 * I) = ω at mc
    have w30 : ω 30 0 = set (set (set (set (τ2 30 0) 1 0) 5 (set (τ2 30 0) 1 0 7)) 6 (set (τ2 30 0) 1 0 8)) 21 0 := by rw [← hω]; rfl
    have w32 : ω 32 0 = cpyV (τ2 34 0) (τ2 32 0) 0 0 K := by rw [← hω]; rfl
    have w33 : ω 33 0 = cpyV (τ2 35 0) (τ2 33 0) 0 0 K := by rw [← hω]; rfl
    have w36 : ω 36 0 = cpyV (τ2 37 0) (τ2 36 0) 0 0 (14 * I) := by rw [← hω]; rfl
    have w38 : ω 38 0 = set (set (set (τ2 38 0) 2 (τ2 39 0 2)) 3 (τ2 39 0 3)) 4 (τ2 39 0 4) := by rw [← hω]; rfl
    have wo : ∀ k k', ¬ (k' = 0 ∧ (k = 30 ∨ k = 32 ∨ k = 33 ∨ k = 36 ∨ k = 38)) → ω k k' = τ2 k k' := by
      intro k k' q
      rw [← hω]
      unfold cpQ
      rw [row_at, if_neg (fun z => q ⟨z.2, by rw [z.1]; decide⟩), row_at, if_neg (fun z => q ⟨z.2, by rw [z.1]; decide⟩), row_at, if_neg (fun z => q ⟨z.2, by rw [z.1]; decide⟩), row_at, if_neg (fun z => q ⟨z.2, by rw [z.1]; decide⟩), row_at, if_neg (fun z => q ⟨z.2, by rw [z.1]; decide⟩), row_at, if_neg (fun z => q ⟨z.2, by rw [z.1]; decide⟩)]
    clear hω
    have w1 : ω 30 0 1 = 0 := by rw [w30]; rfl
    have w5 : ω 30 0 5 = (K : Int) := by rw [w30]; exact t7
    have w6 : ω 30 0 6 = (I : Int) := by rw [w30]; exact t8
    have w21 : ω 30 0 21 = 0 := by rw [w30]; rfl
    have w35 : ω 30 0 35 = σ 30 0 35 := by rw [w30]; exact j35
    have okM := h.1.2.1.1
    have o32 : τ2 32 0 = σ 32 0 := ol 32 (by decide) (by decide) (by decide) (by decide) (by decide) (by decide) (by decide) (by decide) (by decide) (by decide) (by decide) (by decide)
    have o36 : τ2 36 0 = σ 36 0 := ol 36 (by decide) (by decide) (by decide) (by decide) (by decide) (by decide) (by decide) (by decide) (by decide) (by decide) (by decide) (by decide)
    have o1 : ω 1 0 = σ 1 0 := (wo 1 0 (by decide)).trans (ol 1 (by decide) (by decide) (by decide) (by decide) (by decide) (by decide) (by decide) (by decide) (by decide) (by decide) (by decide) (by decide))
    have o31 : ω 31 0 = σ 31 0 := (wo 31 0 (by decide)).trans (ol 31 (by decide) (by decide) (by decide) (by decide) (by decide) (by decide) (by decide) (by decide) (by decide) (by decide) (by decide) (by decide))
    have o7 : ω 7 0 = σ 7 0 := (wo 7 0 (by decide)).trans (ol 7 (by decide) (by decide) (by decide) (by decide) (by decide) (by decide) (by decide) (by decide) (by decide) (by decide) (by decide) (by decide))
    have o40 : ω 40 0 = σ 40 0 := (wo 40 0 (by decide)).trans (ol 40 (by decide) (by decide) (by decide) (by decide) (by decide) (by decide) (by decide) (by decide) (by decide) (by decide) (by decide) (by decide))
    have o0 : ω 0 0 = set (σ 0 0) 1 0 := by
      rw [wo 0 0 (by decide), mo 0 0 (by decide), so 0 (by decide), d2 0 0 (by decide), fb 0 0 (by decide), a00]
    have o9 : ω 9 0 = set (σ 9 0) 3 0 := by
      rw [wo 9 0 (by decide), mo 9 0 (by decide), s9, d2 9 0 (by decide), fb 9 0 (by decide), fa 9 0 (by decide)]
    have o3 : ω 3 0 = σ2 3 0 := by rw [wo 3 0 (by decide), mo 3 0 (by decide), so 3 (by decide)]
    have o5 : ω 5 0 = σ2 5 0 := by rw [wo 5 0 (by decide), mo 5 0 (by decide), so 5 (by decide)]
    have env := EnvM_new (ω := ω) K6 I6 eK eI cr.2.2.2.2 r4 (by rw [o32]; exact okM.2.2.2.2.2.2.2.2.2.2.1) (by rw [o36]; exact okM.2.2.2.2.2.2.2.2.2.2.2.2) (by rw [wo 2 1 (by decide), mo 2 1 (by decide), s21]) (by rw [wo 3 1 (by decide), mo 3 1 (by decide), s31]) (by rw [wo 4 1 (by decide), mo 4 1 (by decide), s41]) (by rw [wo 5 1 (by decide), mo 5 1 (by decide), s51]) w5 w6 w32 w33 w36 ⟨by rw [w38]; rfl, by rw [w38]; rfl, by rw [w38]; rfl⟩
    have dr : DRAFT ω := by
      unfold DRAFT at d3 ⊢
      rw [o3, o5]
      exact d3
    refine ⟨k2, σ3, ω, ?_, ?_, up300 (L := L) ⟨⟨env.1, env.2, TAPE_0 hT o0 o1 o31 w1, DRAWN_0 h.1.2.2.2.1 o0 w35, dr⟩, ?_, ?_⟩ (by omega)⟩
    · have r810 : row (tkQ σ2) 9 0 (set (σ2 9 0) 3 0) 8 0 10 = k2 := h10
      rw [cls, eX8_bundle_10, if_pos rfl, ct, bnd_s, push_n, eX8_bundle_23, iX3_forget, eX3_forget_0, bnd_s, push_n, eX8_bundle_26, sup_row, e9, r810, hσ3]
    · rw [m_bundle0, m1, eX9_bundle_70, sup_row, rt, bnd_s, push_s, eX9_bundle_75, if_neg (by decide), mc, bnd_s, push_n, eX9_bundle_83]
    · rw [o7, o40]
      exact h.2.1
    · rw [o9, w21, set_same, set_ne _ _ (show 2 ≠ 3 by decide)]
      exact PAST_0 L _ _ _ h.2.2.1
end BU
