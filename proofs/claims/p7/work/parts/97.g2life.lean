/-! LIFE, the model's -/
/-- what a life leaves, as it runs -/
def ML (σ : Sto) (B : Int) (τ : Sto) : Prop := (∀ k k', ¬ (k' = 0 ∧ (k = 30 ∨ k = 40 ∨ k = 43 ∨ k = 44 ∨ k = 45)) → τ k k' = σ k k') ∧ (∀ j, j ≠ 22 → j ≠ 23 → j ≠ 24 → ¬ (35 ≤ j ∧ j ≤ 40) → τ 30 0 j = σ 30 0 j) ∧ (∃ c, RZ c (τ 40 0) ∧ OKC c ∧ 0 ≤ c 82 ∧ c 82 < B) ∧ (0 ≤ τ 30 0 35 ∧ τ 30 0 35 < 2147483648)
theorem ML_le {σ τ : Sto} {B C : Int} (h : ML σ B τ) (hl : B ≤ C) : ML σ C τ := by
  obtain ⟨a, b, ⟨c, c1, c2, c3, c4⟩, d⟩ := h
  exact ⟨a, b, ⟨c, c1, c2, c3, by omega⟩, d⟩
theorem ML_row {σ τ : Sto} {B : Int} (h : ML σ B τ) (f : Vec) (hf : ∀ j, ¬ (35 ≤ j ∧ j ≤ 40) → f j = τ 30 0 j) (h35 : 0 ≤ f 35 ∧ f 35 < 2147483648) : ML σ B (row τ 30 0 f) := by
  obtain ⟨a, b, c, d⟩ := h
  refine ⟨fun k k' q => ?_, fun j j1 j2 j3 j4 => ?_, ?_, by rw [row_same]; exact h35⟩
  · rw [row_at, if_neg (fun z => q ⟨z.2, Or.inl z.1⟩)]
    exact a k k' q
  · rw [row_same, hf j j4]
    exact b j j1 j2 j3 j4
  · rw [row_at, if_neg (by decide)]
    exact c
theorem ML_sup {σ τ : Sto} {B : Int} (h : ML σ B τ) (j : Nat) (hj : 36 ≤ j ∧ j ≤ 40) (v : Int) : ML σ B (sup τ 30 0 j v) := by
  rw [sup_row]
  refine ML_row h _ (fun i hi => set_ne _ _ (by omega)) ?_
  rw [set_ne _ _ (by omega)]
  exact h.2.2.2
theorem ML_env {σ τ : Sto} {B : Int} (h : ML σ B τ) (he : EnvM σ σ) : EnvM σ τ := by
  have e32 : τ 32 0 = σ 32 0 := h.1 32 0 (by decide)
  have e33 : τ 33 0 = σ 33 0 := h.1 33 0 (by decide)
  have e36 : τ 36 0 = σ 36 0 := h.1 36 0 (by decide)
  have e38 : τ 38 0 = σ 38 0 := h.1 38 0 (by decide)
  have e5 : τ 30 0 5 = σ 30 0 5 := h.2.1 5 (by decide) (by decide) (by decide) (by decide)
  have e6 : τ 30 0 6 = σ 30 0 6 := h.2.1 6 (by decide) (by decide) (by decide) (by decide)
  unfold EnvM OKM whyM whyS at he ⊢
  rw [e32, e33, e36, e38, e5, e6]
  exact he
theorem OKC_RZ {c n : Vec} (hc : OKC c) (h : RZ c n) : OKC n := OKC_R hc h.1.1 (by rw [← h.2]; exact hc.2.2.2.2)
theorem ML_KM {σ τ υ : Sto} {B C : Int} (h : ML σ B τ) (k : KM τ υ) (hc : ∃ c, RZ c (υ 40 0) ∧ OKC c ∧ 0 ≤ c 82 ∧ c 82 < C) : ML σ C υ := by
  have e35 : υ 30 0 35 = τ 30 0 35 := k.2 35 (by decide) (by decide) (by decide)
  refine ⟨fun i i' q => (k.1 i i' q).trans (h.1 i i' q), fun j j1 j2 j3 j4 => (k.2 j j1 j2 j3).trans (h.2.1 j j1 j2 j3 j4), hc, ?_⟩
  rw [e35]
  exact h.2.2.2
theorem dr_x {x : Int} (h0 : 0 ≤ x) (h1 : x < 2147483648) : 0 ≤ w32 (Int.tmod (w64 ((w64 (x * 1103515245)) + 12345)) 2147483648) ∧ w32 (Int.tmod (w64 ((w64 (x * 1103515245)) + 12345)) 2147483648) < 2147483648 := by
  have a1 : 0 ≤ x * 1103515245 := by omega
  have a2 : x * 1103515245 < 2369780942852710400 := by omega
  generalize x * 1103515245 = y at a1 a2
  have e1 : w64 y = y := w64i (by omega) (by omega)
  have e2 : w64 (y + 12345) = y + 12345 := w64i (by omega) (by omega)
  have e3 : Int.tmod (y + 12345) 2147483648 = (y + 12345) % 2147483648 := Int.tmod_eq_emod_of_nonneg (by omega)
  have e4 : w32 ((y + 12345) % 2147483648) = (y + 12345) % 2147483648 := w32i (by omega) (by omega)
  rw [e1, e2, e3, e4]
  omega
theorem dr_v {x k : Int} (h0 : 0 ≤ x) (h1 : x < 2147483648) (k0 : 0 < k) (k1 : k < 2147483648) : 0 ≤ Int.tmod (w32 (x.tdiv 65536)) k ∧ Int.tmod (w32 (x.tdiv 65536)) k < k := by
  have e1 : x.tdiv 65536 = x / 65536 := Int.tdiv_eq_ediv_of_nonneg h0
  have e2 : w32 (x / 65536) = x / 65536 := w32i (by omega) (by omega)
  have e3 : Int.tmod (x / 65536) k = (x / 65536) % k := Int.tmod_eq_emod_of_nonneg (by omega)
  have m1 := Int.emod_nonneg (x / 65536) (show k ≠ 0 by omega)
  have m2 := Int.emod_lt_of_pos (x / 65536) k0
  rw [e1, e2, e3]
  exact ⟨m1, m2⟩
section LIFE
variable {N : Nat} {σ τ : Sto} {B : Int}
theorem m_drawn (h : ML σ B τ) (k : Int) (k0 : 0 < k) (k1 : k < 2147483648) : ∃ v υ, inv N mX9_drawn [vR 30 0, vI k] (P τ) = some (some (vI v), P υ) ∧ ML σ B υ ∧ 0 ≤ v ∧ v < k := by
  have r := dr_x h.2.2.2.1 h.2.2.2.2
  rw [iX9_drawn, eX9_drawn_0, if_neg (show ¬ k = 0 by omega), sup_row]
  generalize w32 (Int.tmod (w64 ((w64 (τ 30 0 35 * 1103515245)) + 12345)) 2147483648) = x at r
  have e : row τ 30 0 (set (τ 30 0) 35 x) 30 0 35 = x := by rw [row_same, set_same]
  have hv := dr_v r.1 r.2 k0 k1
  rw [e]
  refine ⟨_, _, rfl, ML_row h _ (fun j hj => set_ne _ _ (by omega)) (by rw [set_same]; exact r), hv.1, hv.2⟩
theorem m_cutDrawn (h : ML σ B τ) : ∃ v υ, inv N mX9_cutDrawn [vR 30 0] (P τ) = some (some (vI v), P υ) ∧ ML σ B υ ∧ -1 ≤ v ∧ v < 2147483648 := by
  obtain ⟨v, υ, e, h2, v0, v1⟩ := m_drawn (N := N) h 20 (by decide) (by decide)
  rw [iX9_cutDrawn, eX9_cutDrawn_0, e, bnd_s, push_s, eX9_cutDrawn_3]
  by_cases q : v = 19
  · rw [if_pos q]
    exact ⟨_, _, rfl, h2, by decide, by decide⟩
  · rw [if_neg q, w32i (by omega) (by omega)]
    exact ⟨_, _, rfl, h2, by omega, by omega⟩
theorem m_hapA (h : ML σ B τ) (x1 x2 x3 x4 x5 y : Int) : ∃ υ, (bnd (inv N mX9_truth [vI y] (P τ)) (fun r S2 => ev N mX9_happens 84 [vR 30 0, vI x1, vI x2, vI x3, vI x4, vI x5] (push r [vI (τ 30 0 40), vR 30 0]) S2)) = some (none, P υ) ∧ ML σ B υ := by
  rw [s9_truth, bnd_s, push_s, eX9_happens_84]
  exact ⟨_, rfl, ML_sup h 40 (by decide) _⟩
theorem m_hapV (h : ML σ B τ) (x1 x2 x3 x4 x5 : Int) (s : Nat) (hs : s < 4) : ∃ υ, (bnd (inv N mX9_versionOf [vR 30 0, vI (s : Int)] (P τ)) (fun r S2 => ev N mX9_happens 75 [vR 30 0, vI x1, vI x2, vI x3, vI x4, vI x5] (push r [vI (τ 30 0 40), vR 30 0]) S2)) = some (none, P υ) ∧ ML σ B υ := by
  obtain ⟨c, c1, c2, c3, c4⟩ := h.2.2.1
  rw [s9_versionOf s hs (OKC_RZ c2 c1).1, bnd_s, push_s, eX9_happens_75]
  by_cases q : τ 40 0 (14 * s) - 1 < τ 40 0 ((76 : Int).toNat)
  · rw [if_pos q]
    exact m_hapA h x1 x2 x3 x4 x5 1
  · rw [if_neg q]
    exact m_hapA h x1 x2 x3 x4 x5 0
theorem m_hap62 (h : ML σ B τ) (x1 x2 x3 x4 x5 y0 y1 : Int) : ∃ υ, ev N mX9_happens 62 [vR 30 0, vI x1, vI x2, vI x3, vI x4, vI x5] [vI y0, vI y1, vR 30 0] (P τ) = some (none, P υ) ∧ ML σ B υ := by
  have h2 := ML_sup h 37 (by decide) (w32 (y1 + y0))
  rw [eX9_happens_62]
  generalize sup τ 30 0 37 (w32 (y1 + y0)) = υ at h2
  by_cases q : x5 = 0
  · subst q
    rw [if_pos rfl]
    exact m_hapV h2 x1 x2 x3 x4 0 0 (by decide)
  by_cases q1 : x5 = 1
  · subst q1
    rw [if_neg q, if_pos rfl]
    exact m_hapV h2 x1 x2 x3 x4 1 1 (by decide)
  rw [if_neg q, if_neg q1]
  exact ⟨_, rfl, h2⟩
theorem m_hap50 (h : ML σ B τ) (x1 x2 x3 x4 x5 y0 y1 : Int) : ∃ υ, ev N mX9_happens 50 [vR 30 0, vI x1, vI x2, vI x3, vI x4, vI x5] [vI y0, vI y1, vR 30 0] (P τ) = some (none, P υ) ∧ ML σ B υ := by
  have h2 := ML_sup h 36 (by decide) (w32 (y1 + y0))
  rw [eX9_happens_50]
  generalize sup τ 30 0 36 (w32 (y1 + y0)) = υ at h2
  by_cases q : x5 = 2
  · rw [if_pos q, s9_truth, bnd_s, push_s]
    exact m_hap62 h2 _ _ _ _ _ _ _
  · rw [if_neg q, s9_truth, bnd_s, push_s]
    exact m_hap62 h2 _ _ _ _ _ _ _
theorem m_hap38 (h : ML σ B τ) (x1 x2 x3 x4 x5 y0 y1 : Int) : ∃ υ, ev N mX9_happens 38 [vR 30 0, vI x1, vI x2, vI x3, vI x4, vI x5] [vI y0, vI y1, vR 30 0] (P τ) = some (none, P υ) ∧ ML σ B υ := by
  have h2 := ML_sup h 38 (by decide) (w32 (y1 + y0))
  rw [eX9_happens_38]
  generalize sup τ 30 0 38 (w32 (y1 + y0)) = υ at h2
  by_cases q : x5 = 3
  · rw [if_pos q, s9_truth, bnd_s, push_s]
    exact m_hap50 h2 _ _ _ _ _ _ _
  · rw [if_neg q, s9_truth, bnd_s, push_s]
    exact m_hap50 h2 _ _ _ _ _ _ _
theorem m_hap13 (h : ML σ B τ) (x1 x2 x3 x4 y0 : Int) : ∃ υ, ev N mX9_happens 13 [vR 30 0, vI x1, vI x2, vI x3, vI x4, vX] [vI y0] (P τ) = some (none, P υ) ∧ ML σ B υ := by
  rw [eX9_happens_13, s9_truth, bnd_s, push_s, eX9_happens_20]
  generalize (if τ 30 0 24 = 0 then (0 : Int) else 1) = z
  have h2 := ML_sup h 39 (by decide) (w32 (τ 30 0 39 + z))
  generalize sup τ 30 0 39 (w32 (τ 30 0 39 + z)) = υ at h2
  by_cases d : x1 = 0
  · rw [if_pos d]
    by_cases w : υ 30 0 24 = 0
    · rw [if_pos w]
      by_cases q : y0 = 3
      · rw [if_pos q, s9_truth, bnd_s, push_s]
        exact m_hap38 h2 _ _ _ _ _ _ _
      · rw [if_neg q, s9_truth, bnd_s, push_s]
        exact m_hap38 h2 _ _ _ _ _ _ _
    · rw [if_neg w]
      exact ⟨_, rfl, h2⟩
  · rw [if_neg d]
    exact ⟨_, rfl, h2⟩
theorem m_happens (hg : OKG σ 1) (he : EnvM σ σ) (h : ML σ B τ) (hB : B < 2147483000) (d a b cut : Int) (c0 : -1 ≤ cut) (c1 : cut < 2147483648) : ∃ υ, inv N mX9_happens [vR 30 0, vI d, vI a, vI b, vI cut] (P τ) = some (none, P υ) ∧ ML σ (B + 1) υ := by
  obtain ⟨c, r1, r2, r3, r4⟩ := h.2.2.1
  have e := ML_env h he
  have can := s9_canDo (N := N) (σ := τ) e.1 (OKC_RZ r2 r1) d a b
  have ea : ableF (τ 30 0 6) (τ 36 0) (τ 40 0) d a b = ableF (σ 2 1 1) (σ 5 1) c d a b := by
    rw [e.2.2.2.1]
    exact ableF_eq r1.2 r1.1.1 e.2.2.2.2.2.2.2.1 d a b
  rw [ea] at can
  rw [iX9_happens, eX9_happens_0, can, bnd_s, push_s, eX9_happens_5]
  rcases ableF_b (σ 2 1 1) (σ 5 1) c d a b with z | z
  · rw [if_pos z]
    exact ⟨_, rfl, ML_le h (by omega)⟩
  obtain ⟨υ, u1, u2, u3, u4⟩ := m_does (N := N) (σ0 := σ) (σ := τ) (x := (c, σ 6 3)) hg r1 r2 e (Int.lt_trans r4 hB) d a b cut z c0 c1
  have ok := performC_ok (σ := σ) (x := (c, σ 6 3)) hg r2 d a b cut z
  generalize performC σ d a b cut (c, σ 6 3) = p at u1 u3 u4 ok
  rw [if_neg (show ¬ ableF (σ 2 1 1) (σ 5 1) c d a b = 0 by rw [z]; decide), u1, bnd_s, push_s]
  obtain ⟨o1, o2, o3⟩ := ok
  change c 82 ≤ p.2.1 82 at o2
  change p.2.1 82 ≤ c 82 + 1 at o3
  exact m_hap13 (ML_KM h u2 ⟨p.2.1, u3, o1.1, Int.le_trans r3 o2, by omega⟩) d a b cut p.1
theorem m_hapc (hg : OKG σ 1) (he : EnvM σ σ) (h : ML σ B τ) (hB : B < 2147483000) (d a b : Int) (f : Option MV → MS → Option Out) (hf : ∀ (v : Int) (υ : Sto) (r : Option MV × Sto), True → inv N mX9_happens [vR 30 0, vI d, vI a, vI b, vI v] (P υ) = some (r.1, P r.2) → r.1 = none → f (some (vI v)) (P υ) = some (none, P r.2)) : ∃ υ, bnd (inv N mX9_cutDrawn [vR 30 0] (P τ)) f = some (none, P υ) ∧ ML σ (B + 1) υ := by
  obtain ⟨v, υ, e, h2, v0, v1⟩ := m_cutDrawn (N := N) h
  obtain ⟨ρ, u1, u2⟩ := m_happens (N := N) hg he h2 hB d a b v v0 v1
  refine ⟨ρ, ?_, u2⟩
  rw [e, bnd_s]
  exact hf v υ (none, ρ) trivial u1 rfl
theorem ML_off (h : ML σ B τ) : ML σ B (sup τ 40 0 ((78 : Int).toNat) (-1)) := by
  obtain ⟨a, b, ⟨c, c1, c2, c3, c4⟩, d⟩ := h
  have e : (78 : Int).toNat = 78 := rfl
  rw [e, sup_row]
  refine ⟨fun k k' q => ?_, fun j j1 j2 j3 j4 => ?_, ⟨set c 78 (-1), ?_, OKC_78 c2, ?_, ?_⟩, ?_⟩
  · rw [row_at, if_neg (fun z => q ⟨z.2, Or.inr (Or.inl z.1)⟩)]
    exact a k k' q
  · rw [row_at, if_neg (by decide)]
    exact b j j1 j2 j3 j4
  · rw [row_same]
    exact RZ_78 c1
  · rw [set_ne _ _ (by decide)]; exact c3
  · rw [set_ne _ _ (by decide)]; exact c4
  · rw [row_at, if_neg (by decide)]
    exact d
theorem m_lives (hg : OKG σ 1) (he : EnvM σ σ) (hi : σ 2 1 1 ≠ 0) (h : ML σ B τ) (hB : B < 2147483000) : ∃ υ, inv N mX9_lives [vR 30 0] (P τ) = some (none, P υ) ∧ ML σ (B + 1) υ := by
  have im : ∀ τ, ML σ B τ → 0 < τ 30 0 6 ∧ τ 30 0 6 < 2147483648 := fun τ h => by
    have e := (ML_env h he).2.2.2.1
    have g1 := hg.2.2.1
    have g2 := hg.2.2.2.1
    rw [e]
    omega
  rw [iX9_lives, eX9_lives_0, s9_isOff, bnd_s, push_s, eX9_lives_2]
  by_cases q : τ 40 0 78 = -1
  · rw [if_pos q, if_neg (by decide)]
    obtain ⟨v, υ, e, h2, v0, v1⟩ := m_drawn (N := N) h 4 (by decide) (by decide)
    rw [e, bnd_s, push_s, eX9_lives_6]
    have rest : ∀ y, ∃ ρ, ev N mX9_lives 11 [vR 30 0, vX, vX] [vI y] (P υ) = some (none, P ρ) ∧ ML σ (B + 1) ρ := by
      intro y
      rw [eX9_lives_11]
      refine m_hapc hg he h2 hB 0 y 0 _ (fun v υ r _ e1 e2 => ?_)
      rw [push_s, eX9_lives_18, e1, bnd_s, e2, push_n, eX9_lives_19]
    by_cases z : v = 0
    · rw [if_pos z, s9_truth, bnd_s, push_s]
      exact rest _
    · rw [if_neg z, s9_truth, bnd_s, push_s]
      exact rest _
  rw [if_neg q, if_pos rfl]
  obtain ⟨v, υ, e, h2, v0, v1⟩ := m_drawn (N := N) h 8 (by decide) (by decide)
  rw [e, bnd_s, push_s, eX9_lives_23]
  have two : ∃ ρ, bnd (inv N mX9_drawn [vR 30 0, vI 2] (P υ)) (fun r S2 => ev N mX9_lives 35 [vR 30 0, vX, vX] (push r []) S2) = some (none, P ρ) ∧ ML σ (B + 1) ρ := by
    obtain ⟨v2, υ2, e2, h3, _, _⟩ := m_drawn (N := N) h2 2 (by decide) (by decide)
    obtain ⟨v3, υ3, e3, h4, _, _⟩ := m_drawn (N := N) h3 (υ2 30 0 6) (im υ2 h3).1 (im υ2 h3).2
    rw [e2, bnd_s, push_s, eX9_lives_35, e3, bnd_s, push_s, eX9_lives_40]
    refine m_hapc hg he h4 hB 2 v2 v3 _ (fun v υ r _ e1 e2 => ?_)
    rw [push_s, eX9_lives_47, e1, bnd_s, e2, push_n, eX9_lives_48, eX9_lives_83]
  have heal : ∃ ρ, bnd (inv N mX9_cutDrawn [vR 30 0] (P υ)) (fun r S2 => ev N mX9_lives 30 [vR 30 0, vX, vX] (push r [vI 0, vI 0, vI 1, vR 30 0]) S2) = some (none, P ρ) ∧ ML σ (B + 1) ρ := by
    refine m_hapc hg he h2 hB 1 0 0 _ (fun v υ r _ e1 e2 => ?_)
    rw [push_s, eX9_lives_30, e1, bnd_s, e2, push_n, eX9_lives_31, eX9_lives_83]
  by_cases z0 : v = 0
  · rw [if_pos z0]
    exact heal
  by_cases z1 : v = 1
  · rw [if_neg z0, if_pos z1]
    exact heal
  by_cases z2 : v = 2
  · rw [if_neg z0, if_neg z1, if_pos z2]
    exact two
  by_cases z3 : v = 3
  · rw [if_neg z0, if_neg z1, if_neg z2, if_pos z3]
    exact two
  by_cases z4 : v = 4
  · rw [if_neg z0, if_neg z1, if_neg z2, if_neg z3, if_pos z4]
    obtain ⟨v3, υ3, e3, h4, _, _⟩ := m_drawn (N := N) h2 (υ 30 0 6) (im υ h2).1 (im υ h2).2
    rw [e3, bnd_s, push_s, eX9_lives_53]
    refine m_hapc hg he h4 hB 3 0 v3 _ (fun v υ r _ e1 e2 => ?_)
    rw [push_s, eX9_lives_60, e1, bnd_s, e2, push_n, eX9_lives_61, eX9_lives_83]
  by_cases z5 : v = 5
  · rw [if_neg z0, if_neg z1, if_neg z2, if_neg z3, if_neg z4, if_pos z5, eX9_lives_83]
    exact ⟨_, rfl, ML_le (ML_off h2) (by omega)⟩
  by_cases z6 : v = 6
  · rw [if_neg z0, if_neg z1, if_neg z2, if_neg z3, if_neg z4, if_neg z5, if_pos z6]
    refine m_hapc hg he h2 hB 5 0 0 _ (fun v υ r _ e1 e2 => ?_)
    rw [push_s, eX9_lives_74, e1, bnd_s, e2, push_n, eX9_lives_75, eX9_lives_83]
  rw [if_neg z0, if_neg z1, if_neg z2, if_neg z3, if_neg z4, if_neg z5, if_neg z6]
  refine m_hapc hg he h2 hB 6 0 0 _ (fun v υ r _ e1 e2 => ?_)
  rw [push_s, eX9_lives_82, e1, bnd_s, e2, push_n, eX9_lives_83]
theorem m_lloop (hg : OKG σ 1) (he : EnvM σ σ) (hi : σ 2 1 1 ≠ 0) (n what x : Int) (n0 : 0 ≤ n ∧ n ≤ 60) : ∀ (m k : Nat) (τ : Sto), (m : Int) + k = n → ML σ (2147482000 + k) τ → ∃ υ, ev N mX9_life 40 [vR 30 0, vI n, vI what, vI x, vI (k : Int)] [] (P τ) = bnd (inv N mX9_putsBack [vR 30 0, vI 0] (P υ)) (fun r S2 => ev N mX9_life 55 [vR 30 0, vI n, vI what, vI x, vI (υ 40 0 ((76 : Int).toNat))] (push r []) S2) ∧ ML σ 2147482100 υ := by
  intro m
  induction m with
  | zero =>
    intro k τ hk h
    refine ⟨τ, ?_, ML_le h (by omega)⟩
    rw [eX9_life_40, if_neg (show ¬ (k : Int) < n by omega)]
  | succ m ih =>
    intro k τ hk h
    have k60 : (k : Int) < 60 := by omega
    have e2 : w32 ((k : Int) + 1) = ((k + 1 : Nat) : Int) := by rw [w32i (by omega) (by omega)]; omega
    obtain ⟨υ, u1, u2⟩ := m_lives (N := N) hg he hi h (by omega)
    obtain ⟨ρ, r1, r2⟩ := ih (k + 1) υ (by omega) (ML_le u2 (by omega))
    refine ⟨ρ, ?_, r2⟩
    rw [eX9_life_40, if_pos (show (k : Int) < n by omega), u1, bnd_s, push_n, eX9_life_45, e2]
    exact r1
theorem m_life {L : Int} (h : INV L σ) (hL : L < 2147480000) (a b : Int) : ∃ ans σ1, inv N mX9_life [vR 30 0, vI a, vI b] (P σ) = some (some (vI ans), P σ1) ∧ QX σ σ1 := by
  have oi := fun τ v lo hi => s9_in (N := N) (σ := τ) v lo hi
  rw [iX9_life, eX9_life_0, oi, bnd_s, push_s, eX9_life_5]
  by_cases a1 : 1 ≤ a ∧ a ≤ 60
  case neg =>
    rw [if_neg a1, if_pos rfl]
    exact ⟨_, _, rfl, QX_refl σ⟩
  rw [if_pos a1, if_neg (by decide), oi, bnd_s, push_s, eX9_life_11]
  by_cases b1 : 0 ≤ b ∧ b ≤ 5
  case neg =>
    rw [if_neg b1, if_pos rfl]
    exact ⟨_, _, rfl, QX_refl σ⟩
  rw [if_pos b1, if_neg (by decide)]
  by_cases i1 : σ 30 0 6 = 0
  · rw [if_pos i1]
    exact ⟨_, _, rfl, QX_refl σ⟩
  have i2 : σ 2 1 1 ≠ 0 := by rw [← h.1.2.1.2.2.2.1]; exact i1
  have t1 := m_think0 (N := N) σ
  have q1 : QX σ (row σ 42 0 (cpyV (σ 40 0) (σ 42 0) 0 (107 * 0) 107)) := QX_row σ 42 0 _ (by decide) (by decide) (by decide)
  have e42 : ∀ j, j < 107 → row σ 42 0 (cpyV (σ 40 0) (σ 42 0) 0 (107 * 0) 107) 42 0 j = σ 40 0 j := fun j hj => by
    rw [row_same, Nat.mul_zero]
    exact cpy_all _ _ hj
  have e40 : row σ 42 0 (cpyV (σ 40 0) (σ 42 0) 0 (107 * 0) 107) 40 0 = σ 40 0 := by rw [row_at, if_neg (by decide)]
  have e30 : row σ 42 0 (cpyV (σ 40 0) (σ 42 0) 0 (107 * 0) 107) 30 0 = σ 30 0 := by rw [row_at, if_neg (by decide)]
  rw [if_neg i1, t1, bnd_s, push_n, eX9_life_23]
  generalize row σ 42 0 (cpyV (σ 40 0) (σ 42 0) 0 (107 * 0) 107) = τ at q1 e42 e40 e30
  have hτ := INV_QX q1 h
  have m0 : ML τ 2147482000 τ := by
    have r := hτ.1.2.2.2.1
    have c := hτ.2.1
    exact ⟨fun _ _ _ => rfl, fun _ _ _ _ _ => rfl, ⟨τ 7 0, c.2.1, c.1, (CELL_82 c hL).1, (CELL_82 c hL).2⟩, r.2⟩
  have i3 : τ 2 1 1 ≠ 0 := by rw [q1.1.1 2 1 (by decide)]; exact i2
  obtain ⟨υ, u1, u2⟩ := m_lloop (N := N) (σ := τ) hτ.1.1 hτ.1.2.1 i3 a b (σ 30 0 35) (by omega) a.toNat 0 _ (by omega) (ML_sup (ML_sup (ML_sup (ML_sup (ML_sup (ML_le m0 (by decide)) 36 (by decide) 0) 37 (by decide) 0) 38 (by decide) 0) 39 (by decide) 0) 40 (by decide) 0)
  have e2 : ((0 : Nat) : Int) = 0 := rfl
  rw [e2] at u1
  rw [u1, m_back0, bnd_s, push_n, eX9_life_55]
  have fin : QX σ (sup (row υ 40 0 (cpyV (υ 42 0) (υ 40 0) (107 * 0) 0 107)) 30 0 35 (σ 30 0 35)) := by
    obtain ⟨k1, k2, k3, k4⟩ := u2
    have o : ∀ k k', ¬ (k' = 0 ∧ (k = 30 ∨ k = 40 ∨ k = 43 ∨ k = 44 ∨ k = 45)) → sup (row υ 40 0 (cpyV (υ 42 0) (υ 40 0) (107 * 0) 0 107)) 30 0 35 (σ 30 0 35) k k' = τ k k' := fun k k' q => by
      rw [sup_row, row_at, if_neg (fun z => q ⟨z.2, Or.inl z.1⟩), row_at, if_neg (fun z => q ⟨z.2, Or.inr (Or.inl z.1)⟩)]
      exact k1 k k' q
    have o30 : ∀ j, j ≠ 22 → j ≠ 23 → j ≠ 24 → ¬ (35 ≤ j ∧ j ≤ 40) → sup (row υ 40 0 (cpyV (υ 42 0) (υ 40 0) (107 * 0) 0 107)) 30 0 35 (σ 30 0 35) 30 0 j = σ 30 0 j := fun j j1 j2 j3 j4 => by
      rw [sup_row, row_same, set_ne _ _ (by omega), row_at, if_neg (by decide), k2 j j1 j2 j3 j4, e30]
    have o35 : sup (row υ 40 0 (cpyV (υ 42 0) (υ 40 0) (107 * 0) 0 107)) 30 0 35 (σ 30 0 35) 30 0 35 = σ 30 0 35 := by
      rw [sup_row, row_same, set_same]
    have o40 : ∀ j, j < 107 → sup (row υ 40 0 (cpyV (υ 42 0) (υ 40 0) (107 * 0) 0 107)) 30 0 35 (σ 30 0 35) 40 0 j = σ 40 0 j := fun j hj => by
      rw [sup_row, row_at, if_neg (by decide), row_same, Nat.mul_zero, cpy_all _ _ hj, k1 42 0 (by decide), e42 j hj]
    generalize sup (row υ 40 0 (cpyV (υ 42 0) (υ 40 0) (107 * 0) 0 107)) 30 0 35 (σ 30 0 35) = ρ at o o30 o35 o40
    refine ⟨⟨fun k k' q => ?_, o30 1 (by decide) (by decide) (by decide) (by decide), o30 5 (by decide) (by decide) (by decide) (by decide), o30 6 (by decide) (by decide) (by decide) (by decide), o35⟩, ?_, o40, ?_, ?_, ?_, o30 21 (by decide) (by decide) (by decide) (by decide)⟩
    · rw [o k k' (by omega)]
      exact q1.1.1 k k' q
    · rw [o 7 0 (by decide)]
      exact q1.2.1
    · rw [o 9 0 (by decide)]
      exact q1.2.2.2.1
    · rw [o 10 0 (by decide)]
      exact q1.2.2.2.2.1
    · rw [o 41 0 (by decide)]
      exact q1.2.2.2.2.2.1
  generalize sup (row υ 40 0 (cpyV (υ 42 0) (υ 40 0) (107 * 0) 0 107)) 30 0 35 (σ 30 0 35) = ρ at fin
  by_cases w0 : b = 0
  · rw [if_pos w0]; exact ⟨_, _, rfl, fin⟩
  by_cases w1 : b = 1
  · rw [if_neg w0, if_pos w1]; exact ⟨_, _, rfl, fin⟩
  by_cases w2 : b = 2
  · rw [if_neg w0, if_neg w1, if_pos w2]; exact ⟨_, _, rfl, fin⟩
  by_cases w3 : b = 3
  · rw [if_neg w0, if_neg w1, if_neg w2, if_pos w3]; exact ⟨_, _, rfl, fin⟩
  by_cases w4 : b = 4
  · rw [if_neg w0, if_neg w1, if_neg w2, if_neg w3, if_pos w4]; exact ⟨_, _, rfl, fin⟩
  rw [if_neg w0, if_neg w1, if_neg w2, if_neg w3, if_neg w4]; exact ⟨_, _, rfl, fin⟩
theorem safe_life (a b L : Int) (σ : Sto) (h : INV L σ) (hL : L < 2147480000) : ∃ ans ans2 σ1 σ2, inv N mX8_life [vR 0 0, vI a, vI b] (P σ) = some (some (vI ans), P σ1) ∧ inv N mX9_life [vR 30 0, vI a, vI b] (P σ1) = some (some (vI ans2), P σ2) ∧ INV (L + 300) σ2 := by
  obtain ⟨ans, σ1, e1, q1⟩ := c_life (N := N) h hL a b
  obtain ⟨ans2, σ2, e2, q2⟩ := m_life (N := N) (INV_QX q1 h) hL a b
  exact ⟨ans, ans2, σ1, σ2, e1, e2, up300 (INV_QX q2 (INV_QX q1 h)) (by omega)⟩
end LIFE
