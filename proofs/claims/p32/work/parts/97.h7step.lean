/-! ROUTE, the class's step -/
def g00 : Vec := fun _ => 0
/-- what is told of a stand: its cells, the codes of its slots -/
def SC (σ : Sto) (B : Int) (a b : Int) (c : Vec) : Prop := OKC c ∧ T8 c ∧ (0 ≤ c 82 ∧ c 82 < B) ∧ CN σ 0 a c ∧ CN σ 1 b c ∧ ∀ j, 28 ≤ j → j < 56 → c j = σ 7 0 j
/-- a move by its deed: what it does, with what -/
def MDO (im x2 d a b : Int) : Prop := (x2 = 1 ∧ d = 0 ∧ a = 0 ∧ b = 0) ∨ (x2 = 2 ∧ d = 1 ∧ a = 0 ∧ b = 0) ∨ (x2 = 100 + 10 * a + b ∧ d = 2 ∧ (a = 0 ∨ a = 1) ∧ 0 ≤ b ∧ b < im)
/-- codes behind a move -/
def NA (τ : Sto) (d a b x : Int) : Int := if d = 2 ∧ a = 0 then τ 20 0 b.toNat else x
def NB (τ : Sto) (d a b x : Int) : Int := if d = 2 ∧ a = 1 then τ 20 0 (6 + b.toNat) else x
theorem perf_s {σ τ : Sto} (e2 : τ 2 1 = σ 2 1) (e3 : τ 3 1 = σ 3 1) (e4 : τ 4 1 = σ 4 1) (e5 : τ 5 1 = σ 5 1) (d a b : Int) (hd : d = 0 ∨ d = 1 ∨ d = 2) (x : XP) : performC τ d a b (-1) x = performC σ d a b (-1) x := by
  have hW : whyS τ = whyS σ := by
    funext c s
    show whyF _ _ _ c s = whyF _ _ _ c s
    rw [e2, e3, e4]
  have hr : ∀ f, rdI τ f = rdI σ f := fun f => by
    unfold rdI
    rw [e5]
  unfold performC
  rcases hd with rfl | rfl | rfl
  · rw [if_pos rfl, if_pos rfl]
    unfold bootC
    rw [hW, e2, e3, e4]
  · rw [if_neg (by decide), if_pos rfl, if_neg (by decide), if_pos rfl]
    unfold perfHealthC
    rw [e2]
  · rw [if_neg (by decide), if_neg (by decide), if_pos rfl, if_neg (by decide), if_neg (by decide), if_pos rfl]
    unfold perfInstallC finishC
    rw [hr, e2]
theorem perf0 (σ : Sto) (x : XP) (b : Int) : performC σ 0 0 b (-1) x = bootC σ 0 (-1) x := by
  unfold performC
  rw [if_pos rfl]
theorem perf1 (σ : Sto) (x : XP) (a b : Int) : performC σ 1 a b (-1) x = perfHealthC σ (-1) x := by
  unfold performC
  rw [if_neg (by decide), if_pos rfl]
theorem perf2 (σ : Sto) (x : XP) (a b : Int) : performC σ 2 a b (-1) x = perfInstallC σ a.toNat b.toNat (-1) x := by
  unfold performC
  rw [if_neg (by decide), if_neg (by decide), if_pos rfl]
/-- whether a move can be made -/
theorem MDO_able {im x2 d a b : Int} {wd c : Vec} (h : MDO im x2 d a b) : ableF im wd c d a b = 1 ↔ (d = 0 ∧ c 78 = -1) ∨ (¬ d = 0 ∧ ¬ c 78 = -1 ∧ (d = 2 → ¬ a = c 78)) := by
  unfold ableF
  rcases h with ⟨-, rfl, rfl, rfl⟩ | ⟨-, rfl, rfl, rfl⟩ | ⟨-, rfl, ha, b0, b1⟩
  · rw [if_pos rfl]
    by_cases q : c 78 = -1
    · rw [if_pos ⟨q, Or.inl rfl, rfl⟩]
      exact ⟨fun _ => Or.inl ⟨rfl, q⟩, fun _ => rfl⟩
    · rw [if_neg (fun z => q z.1)]
      exact ⟨fun z => absurd z (by decide), fun z => by rcases z with z | z; exact absurd z.2 q; exact absurd rfl z.1⟩
  · rw [if_neg (by decide)]
    by_cases q : c 78 = -1
    · rw [if_pos q]
      exact ⟨fun z => absurd z (by decide), fun z => by rcases z with z | z; exact absurd z.1 (by decide); exact absurd q z.2.1⟩
    · rw [if_neg q, if_pos rfl, if_pos ⟨rfl, rfl⟩]
      exact ⟨fun _ => Or.inr ⟨by decide, q, fun z => absurd z (by decide)⟩, fun _ => rfl⟩
  · rw [if_neg (by decide)]
    by_cases q : c 78 = -1
    · rw [if_pos q]
      exact ⟨fun z => absurd z (by decide), fun z => by rcases z with z | z; exact absurd z.1 (by decide); exact absurd q z.2.1⟩
    · rw [if_neg q, if_neg (by decide), if_pos rfl]
      by_cases w : a = c 78
      · rw [if_neg (fun z => z.2.1 w)]
        exact ⟨fun z => absurd z (by decide), fun z => by rcases z with z | z; exact absurd z.1 (by decide); exact absurd w (z.2.2 rfl)⟩
      · rw [if_pos ⟨ha, w, b0, b1⟩]
        exact ⟨fun _ => Or.inr ⟨by decide, q, fun _ => w⟩, fun _ => rfl⟩
theorem MDO_d {im x2 d a b : Int} (h : MDO im x2 d a b) : d = 0 ∨ d = 1 ∨ d = 2 := by
  rcases h with h | h | h
  · exact Or.inl h.2.1
  · exact Or.inr (Or.inl h.2.1)
  · exact Or.inr (Or.inr h.2.1)
theorem EA_perf {σ : Sto} (hg : OKG σ 1) {x y : XP} (hc : OKC x.1) (hd : OKC y.1) (h : EA x.1 y.1) {x2 d a b : Int} (hm : MDO (σ 2 1 1) x2 d a b) : EA (performC σ d a b (-1) x).2.1 (performC σ d a b (-1) y).2.1 := by
  have g4 := hg.2.2.2.1
  rcases hm with ⟨-, rfl, rfl, rfl⟩ | ⟨-, rfl, rfl, rfl⟩ | ⟨-, rfl, ha, b0, b1⟩
  · rw [perf0, perf0]
    exact EA_boot σ hc hd h
  · rw [perf1, perf1]
    exact EA_health σ hc hd h
  · rw [perf2, perf2]
    exact EA_install hg hc hd h a.toNat b.toNat (by omega) (by omega)
/-- a stand behind a move -/
theorem SC_perf {σ τ : Sto} (hg : OKG σ 1) (al : AL σ τ) {B a b : Int} {c : Vec} (h : SC σ B a b c) {x2 d s i : Int} (hm : MDO (σ 2 1 1) x2 d s i) (hab : ableF (σ 2 1 1) (σ 5 1) c d s i = 1) : SC σ (B + 1) (NA τ d s i a) (NB τ d s i b) (performC σ d s i (-1) (c, g00)).2.1 := by
  obtain ⟨h1, h2, h3, h4, h5, h6⟩ := h
  have g4 := hg.2.2.2.1
  have ok := performC_ok (σ := σ) (x := (c, g00)) hg h1 d s i (-1) hab
  have t8 := T8_perf (σ := σ) (x := (c, g00)) hg h1 h2 d s i (-1) hab
  have b82 : 0 ≤ (performC σ d s i (-1) (c, g00)).2.1 82 ∧ (performC σ d s i (-1) (c, g00)).2.1 82 < B + 1 := by
    have o1 : c 82 ≤ _ := ok.2.1
    have o2 : _ ≤ c 82 + 1 := ok.2.2
    omega
  refine ⟨ok.1.1, t8, b82, ?_⟩
  clear b82 t8 ok
  rcases hm with ⟨-, rfl, rfl, rfl⟩ | ⟨-, rfl, rfl, rfl⟩ | ⟨-, rfl, ha, b0, b1⟩
  · have w := fun (j : Nat) (hj : j < 56) => wds_boot σ (c, g00) hj
    rw [perf0]
    unfold NA NB
    rw [if_neg (fun z => absurd z.1 (by decide)), if_neg (fun z => absurd z.1 (by decide))]
    exact ⟨CN_cong h4 (fun k hk => w _ (by omega)), CN_cong h5 (fun k hk => w _ (by omega)), fun j j1 j2 => (w j j2).trans (h6 j j1 j2)⟩
  · have w := fun (j : Nat) (hj : j < 56) => wds_health σ (c, g00) hj
    rw [perf1]
    unfold NA NB
    rw [if_neg (fun z => absurd z.1 (by decide)), if_neg (fun z => absurd z.1 (by decide))]
    exact ⟨CN_cong h4 (fun k hk => w _ (by omega)), CN_cong h5 (fun k hk => w _ (by omega)), fun j j1 j2 => (w j j2).trans (h6 j j1 j2)⟩
  · obtain ⟨im, rfl⟩ : ∃ n : Nat, i = (n : Int) := ⟨i.toNat, by omega⟩
    obtain ⟨sl, hs, rfl⟩ := slot_s ha
    have w := fun (j : Nat) (hj : j < 56) => wds_install (σ := σ) (c, g00) sl im hs (by omega) hj
    rw [perf2, Int.toNat_natCast, Int.toNat_natCast]
    unfold NA NB
    rw [Int.toNat_natCast]
    generalize (perfInstallC σ sl im (-1) (c, g00)).2.1 = n at w
    have win : WEQ n (14 * sl) (σ 5 1) (14 * im) := fun k hk => by
      rw [w _ (by omega), if_pos (by omega), show 14 * sl + k - 14 * sl = k by omega]
    have cn := al sl im hs b1 n win
    refine ⟨?_, ?_, fun j j1 j2 => ?_⟩
    · by_cases q : sl = 0
      · rw [if_pos ⟨rfl, by omega⟩]
        rw [q, Nat.mul_zero, Nat.zero_add] at cn
        exact cn
      · rw [if_neg (fun z => q (by omega))]
        refine CN_cong h4 (fun k hk => ?_)
        rw [w _ (by omega), if_neg (by omega)]
    · by_cases q : sl = 1
      · rw [if_pos ⟨rfl, by omega⟩]
        rw [q, Nat.mul_one] at cn
        exact cn
      · rw [if_neg (fun z => q (by omega))]
        refine CN_cong h5 (fun k hk => ?_)
        rw [w _ (by omega), if_neg (by omega)]
    · rw [w j j2, if_neg (by omega)]
      exact h6 j j1 j2
theorem SC_off {σ : Sto} {B a b : Int} {c : Vec} (h : SC σ B a b c) : SC σ B a b (set c 78 (-1)) := by
  obtain ⟨h1, h2, h3, h4, h5, h6⟩ := h
  have o : ∀ j, j ≠ 78 → set c 78 (-1) j = c j := fun j hj => set_ne _ _ hj
  exact ⟨OKC_78 h1, T8_eq h2 (o 80 (by decide)), by rw [o 82 (by decide)]; exact h3, CN_cong h4 (fun k hk => o _ (by omega)), CN_cong h5 (fun k hk => o _ (by omega)), fun j j1 j2 => (o j (by omega)).trans (h6 j j1 j2)⟩
theorem EA_off {c d : Vec} (h : EA c d) : EA (set c 78 (-1)) (set d 78 (-1)) := by
  obtain ⟨h1, h2, h3, h4⟩ := h
  refine ⟨fun j hj => ?_, by rw [set_same, set_same], Or.inl (set_same _ _ _), fun k hk => ?_⟩
  · rw [set_ne _ _ (by omega), set_ne _ _ (by omega)]
    exact h1 j hj
  · rw [flagF_congr (c := set c 78 (-1)) (n := c) (fun j j1 j2 => set_ne _ _ (by omega)) hk, flagF_congr (c := set d 78 (-1)) (n := d) (fun j j1 j2 => set_ne _ _ (by omega)) hk]
    exact h4 k hk
theorem ms_num {x2 s i im : Int} (g4 : im ≤ 6) (m1 : x2 = 100 + 10 * s + i) (hs : s = 0 ∨ s = 1) (i0 : 0 ≤ i) (i1 : i < im) : (¬ x2 = 0 ∧ ¬ x2 = 1 ∧ ¬ x2 = 2 ∧ ¬ x2 < 100) ∧ Int.tmod (w32 (x2 - 100)) 10 = i ∧ w32 ((w32 (x2 - 100)).tdiv 10) = s := by
  have e : w32 (x2 - 100) = x2 - 100 := w32i (by omega) (by omega)
  have e2 : (x2 - 100).tdiv 10 = s := by rw [Int.tdiv_eq_ediv_of_nonneg (by omega)]; omega
  rw [e, e2, Int.tmod_eq_emod_of_nonneg (by omega)]
  exact ⟨by omega, by omega, w32i (by omega) (by omega)⟩
theorem im_num {im : Nat} {n : Int} (g4 : n ≤ 6) (h : (im : Int) < n) : im < 6 ∧ 0 ≤ (im : Int) ∧ (im : Int) < 12 ∧ 0 ≤ ((6 + im : Nat) : Int) ∧ ((6 + im : Nat) : Int) < 12 ∧ w32 (6 + (im : Int)) = ((6 + im : Nat) : Int) := by
  refine ⟨by omega, by omega, by omega, by omega, by omega, ?_⟩
  rw [w32i (by omega) (by omega)]; omega
theorem yr_num {u : Int} (h : -1 ≤ u ∧ u ≤ 2) : w32 (u + 1 - 1) = u := by
  rw [w32i (by omega) (by omega)]
  omega
theorem m1_num {x2 : Int} (h : x2 = 1) : ¬ x2 = 0 ∧ x2 < 100 := by omega
theorem m2_num {x2 : Int} (h : x2 = 2) : ¬ x2 = 0 ∧ ¬ x2 = 1 ∧ x2 < 100 := by omega
/-- what a step comes to: the version is there, or the stand is kept -/
def STEPR (N : Nat) (σ τ : Sto) (at' : Nat) (x2 x3 : Int) (c : Vec) (a b : Int) (R : Option (Option MV × MS)) : Prop :=
  (¬ THR c x3 = 0 ∧ ∃ τ', R = some (some (vI 1), P τ') ∧ RtT σ τ' ∧ (∀ j, 15 ≤ j → j ≤ 20 → τ' j 0 = τ j 0) ∧ τ' 14 0 11 = (at' : Int) ∧ τ' 14 0 12 = x2 ∧ τ' 14 0 10 = τ 18 0 at' + 1)
  ∨ (THR c x3 = 0 ∧ ∃ τ3, RtT σ τ3 ∧ (∀ j, 14 ≤ j → j ≤ 20 → τ3 j 0 = τ j 0) ∧ ∀ v τ4, inv N mX5_add [vR 14 0, vJ (PKV a b c), vI (at' : Int), vI x2] (P τ3) = some (some (vI v), P τ4) → R = some (some (vI v), P τ4))
section ROUTE
variable {N : Nat} {σ τ τ2 : Sto} {x : XP}
theorem r_fin2 (h : RtT σ τ2) (r4 : ∀ j, 14 ≤ j → j ≤ 20 → τ2 j 0 = τ j 0) (h8 : T8 (τ2 7 4)) {c : Vec} (he : EA (τ2 7 4) c) (at' : Nat) (hat : at' < 300) (hd : 0 ≤ τ 18 0 at' ∧ τ 18 0 at' < 1000) (x2 x3 x4 x6 x7 x8 x9 : Int) (ha : 0 ≤ x8 ∧ x8 < 8) (hb : 0 ≤ x9 ∧ x9 < 8) (x10 : MV) : STEPR N σ τ at' x2 x3 c x8 x9 (bnd (inv N mX5_isThere [vR 14 0, vI x3] (P τ2)) (fun r S2 => ev N mX5_step 134 [vR 14 0, vI (at' : Int), vI x2, vI x3, vJ x4, vX, vI x6, vI x7, vI x8, vI x9, x10] (push r []) S2)) := by
  rw [r_isThere2 h.2.1, THR_EA he, bnd_s, push_s, eX5_step_134]
  by_cases q : THR c x3 = 0
  · obtain ⟨υ, e, h2, r2⟩ := r_pack2 (N := N) h h8 x8 x9 ha hb
    rw [PKV_EA he] at e
    refine Or.inr ⟨q, υ, h2, fun j j1 j2 => (r2 j j1 j2).trans (r4 j j1 j2), fun v τ4 ea => ?_⟩
    rw [if_pos q, e, bnd_s, push_s, eX5_step_156, ea, bnd_s, push_s, eX5_step_159]
  · have ed : w32 (τ 18 0 at' + 1) = τ 18 0 at' + 1 := w32i (by omega) (by omega)
    have h2 := RtT_sup (RtT_sup h 14 (by decide) 11 (at' : Int)) 14 (by decide) 12 x2
    have o : ∀ j, j ≠ 14 → sup (sup τ2 14 0 11 (at' : Int)) 14 0 12 x2 j 0 = τ2 j 0 := fun j hj => by rw [sup_row, row_at, if_neg (by omega), sup_row, row_at, if_neg (by omega)]
    have f11 : sup (sup τ2 14 0 11 (at' : Int)) 14 0 12 x2 14 0 11 = (at' : Int) := by rw [sup_row, row_same, set_ne _ _ (by decide), sup_row, row_same, set_same]
    have f12 : sup (sup τ2 14 0 11 (at' : Int)) 14 0 12 x2 14 0 12 = x2 := by rw [sup_row, row_same, set_same]
    generalize sup (sup τ2 14 0 11 (at' : Int)) 14 0 12 x2 = υ at h2 o f11 f12
    have a18 := s6_at18 (N := N) (σ := υ) (at' : Int) (by omega) (by omega)
    rw [Int.toNat_natCast, o 18 (by decide), r4 18 (by decide) (by decide)] at a18
    refine Or.inl ⟨q, sup υ 14 0 10 (τ 18 0 at' + 1), ?_, RtT_sup h2 14 (by decide) 10 _, fun j j1 j2 => ?_, ?_, ?_, ?_⟩
    · rw [if_neg q, a18, bnd_s, push_s, eX5_step_146, ed]
    · rw [sup_row, row_at, if_neg (by omega), o j (by omega)]
      exact r4 j (by omega) j2
    · rw [sup_row, row_same, set_ne _ _ (by decide)]
      exact f11
    · rw [sup_row, row_same, set_ne _ _ (by decide)]
      exact f12
    · rw [sup_row, row_same, set_same]
/-- a deed of an unpacked stand -/
theorem r_perf2 (h : RtT σ τ) (hg : OKG σ 1) {p : XP} (p2 : OKC p.1) (p8 : T8 p.1) (p82 : 0 ≤ p.1 82 ∧ p.1 82 < 2147482000) {c : Vec} (hc : OKC c) (he : EA p.1 c) {x2 d a b : Int} (hm : MDO (σ 2 1 1) x2 d a b) (hab : ableF (σ 2 1 1) (σ 5 1) c d a b = 1) : ∃ ans τ2, inv N mX2_perform [vR 6 4, vI d, vI a, vI b, vI (-1)] (P (putC τ 4 p)) = some (some (vI ans), P τ2) ∧ RtT σ τ2 ∧ (∀ j, 14 ≤ j → j ≤ 20 → τ2 j 0 = τ j 0) ∧ T8 (τ2 7 4) ∧ EA (τ2 7 4) (performC σ d a b (-1) (c, g00)).2.1 := by
  have gt := RtT_G h hg
  have e2 : τ 2 1 = σ 2 1 := h.1 2 1 (by decide)
  have e3 : τ 3 1 = σ 3 1 := h.1 3 1 (by decide)
  have e4 : τ 4 1 = σ 4 1 := h.1 4 1 (by decide)
  have e5 : τ 5 1 = σ 5 1 := h.1 5 1 (by decide)
  have ab : ableF (σ 2 1 1) (σ 5 1) p.1 d a b = 1 := by
    rw [MDO_able hm] at hab ⊢
    rw [he.2.1]
    exact hab
  have pf := p2_perform (N := N) (i := 4) (σ := τ) (x := p) gt p2 p82.1 (Int.lt_trans p82.2 (by decide)) d a b (-1) (by rw [e2, e5]; exact ab)
  rw [perf_s e2 e3 e4 e5 d a b (MDO_d hm) p] at pf
  have ok := performC_ok (σ := σ) (x := p) hg p2 d a b (-1) ab
  have t8 := T8_perf (σ := σ) (x := p) hg p2 p8 d a b (-1) ab
  have ea := EA_perf hg (x := p) (y := (c, g00)) p2 hc he hm
  generalize performC σ d a b (-1) p = z at pf ok t8 ea
  obtain ⟨o1, o2, o3⟩ := ok
  refine ⟨z.1, putC τ 4 z.2, pf, RtT_put h z.2 o1.1 (by omega) (by omega), putC_r, ?_, ?_⟩
  · rw [putC_7]; exact t8
  · rw [putC_7]; exact ea
theorem r_step562 (h : RtT σ τ) (hg : OKG σ 1) (hc0 : OKC (σ 7 0)) (h82 : 0 ≤ σ 7 0 82 ∧ σ 7 0 82 < 2147482000) (al : AL σ τ) {B a b : Int} {c : Vec} (sc : SC σ B a b c) (at' : Nat) (hat : at' < 300) (hd : 0 ≤ τ 18 0 at' ∧ τ 18 0 at' < 1000) (x2 x3 x6 x7 : Int) :
    (x2 = 0 → STEPR N σ τ at' x2 x3 (set c 78 (-1)) a b (bnd (inv N mX5_unpack [vR 14 0, vJ (PKV a b c)] (P τ)) (fun r S2 => ev N mX5_step 56 [vR 14 0, vI (at' : Int), vI x2, vI x3, vJ (PKV a b c), vX, vI x6, vI x7, vX, vX, vX] (push r []) S2)))
    ∧ ∀ d s i : Int, MDO (σ 2 1 1) x2 d s i → ableF (σ 2 1 1) (σ 5 1) c d s i = 1 → (d = 2 → x7 = s) → STEPR N σ τ at' x2 x3 (performC σ d s i (-1) (c, g00)).2.1 (NA τ d s i a) (NB τ d s i b) (bnd (inv N mX5_unpack [vR 14 0, vJ (PKV a b c)] (P τ)) (fun r S2 => ev N mX5_step 56 [vR 14 0, vI (at' : Int), vI x2, vI x3, vJ (PKV a b c), vX, vI x6, vI x7, vX, vX, vX] (push r []) S2)) := by
  obtain ⟨s1, s2, s3, s4, s5, s6⟩ := sc
  obtain ⟨p, p1, p2, p3, p4, p5⟩ := r_unpack2 (N := N) h hg hc0 s4 s5 s1 s2 s6
  obtain ⟨pz, z1, z2, -⟩ := PKV_parts (CN_r hg s4) (CN_r hg s5) s1 s2
  obtain ⟨q1, q2, -⟩ := sh_parts pz.1 pz.2
  have y1 : bAnd (w32 (shr64 (PKV a b c) 0)) 7 = a := by
    rw [bAnd_7, (w32_mod _).1]
    change shr64 (PKV a b c) 0 = _ at q1
    rw [q1]
    exact z1
  have y2 : bAnd (w32 (shr64 (PKV a b c) 3)) 7 = b := by
    rw [bAnd_7, (w32_mod _).1]
    change shr64 (PKV a b c) 3 = _ at q2
    rw [q2]
    exact z2
  have ra := CN_r hg s4
  have rb := CN_r hg s5
  have g4 := hg.2.2.2.1
  have p82 : 0 ≤ p.1 82 ∧ p.1 82 < 2147482000 := by rw [p4]; exact h82
  generalize PKV a b c = y at p1 y1 y2
  clear pz z1 z2 q1 q2
  rw [p1, bnd_s, push_n, eX5_step_56, r_part, y1, bnd_s, push_s, eX5_step_60, r_part, y2, bnd_s, push_s, eX5_step_65]
  constructor
  · intro m0
    have t := p2_turnOff (N := N) (i := 4) (σ := τ) (x := p)
    have r2 := RtT_put h (set p.1 78 (-1), p.2) (OKC_78 p2) (by show 0 ≤ set p.1 78 (-1) 82; rw [set_ne _ _ (by decide)]; exact p82.1) (by show set p.1 78 (-1) 82 < 2147483000; rw [set_ne _ _ (by decide)]; exact Int.lt_trans p82.2 (by decide))
    rw [if_pos m0, t, bnd_s, push_n, eX5_step_71]
    refine r_fin2 r2 putC_r ?_ ?_ at' hat hd _ _ _ _ _ _ _ ra rb _
    · rw [putC_7]
      show T8 (set p.1 78 (-1))
      exact T8_eq p3 (set_ne _ _ (by decide))
    · rw [putC_7]
      exact EA_off p5
  · intro d s i hm hab h7
    obtain ⟨ans, τ2, t, r2, r4, t8, ea⟩ := r_perf2 (N := N) h hg p2 p3 p82 s1 p5 hm hab
    rcases hm with ⟨m1, rfl, rfl, rfl⟩ | ⟨m1, rfl, rfl, rfl⟩ | ⟨m1, rfl, hs, i0, i1⟩
    · have na : NA τ 0 0 0 a = a := if_neg (fun z => absurd z.1 (by decide))
      have nb : NB τ 0 0 0 b = b := if_neg (fun z => absurd z.1 (by decide))
      rw [na, nb, if_neg (m1_num m1).1, if_pos m1, t, bnd_s, push_s, eX5_step_82]
      exact r_fin2 r2 r4 t8 ea at' hat hd _ _ _ _ _ _ _ ra rb _
    · have na : NA τ 1 0 0 a = a := if_neg (fun z => absurd z.1 (by decide))
      have nb : NB τ 1 0 0 b = b := if_neg (fun z => absurd z.1 (by decide))
      obtain ⟨v1, v2, -⟩ := m2_num m1
      rw [na, nb, if_neg v1, if_neg v2, if_pos m1, t, bnd_s, push_s, eX5_step_94]
      exact r_fin2 r2 r4 t8 ea at' hat hd _ _ _ _ _ _ _ ra rb _
    · have e7 := h7 rfl
      obtain ⟨⟨v1, v2, v3, -⟩, ei, -⟩ := ms_num g4 m1 hs i0 i1
      rw [if_neg v1, if_neg v2, if_neg v3, ei, e7, t, bnd_s, push_s, eX5_step_109]
      obtain ⟨im, rfl⟩ : ∃ n : Nat, i = (n : Int) := Int.eq_ofNat_of_zero_le i0
      obtain ⟨w1, w2, w3, w4, w5, w6⟩ := im_num g4 i1
      have win : ∀ n : Vec, WEQ n (14 * 0) (σ 5 1) (14 * im) → CN σ 0 (τ 20 0 im) n := fun n hn => by
        have t := al 0 im (by decide) i1 n hn
        rw [Nat.mul_zero, Nat.zero_add] at t
        exact t
      have win1 : ∀ n : Vec, WEQ n (14 * 1) (σ 5 1) (14 * im) → CN σ 1 (τ 20 0 (6 + im)) n := fun n hn => al 1 im (by decide) i1 n hn
      have r0 := CN_r hg (win (fun j => σ 5 1 (14 * im + j)) (fun k hk => by rw [Nat.mul_zero, Nat.zero_add]))
      have r1 := CN_r hg (win1 (fun j => σ 5 1 (14 * im + (j - 14))) (fun k hk => by
        show σ 5 1 (14 * im + (14 * 1 + k - 14)) = _
        rw [show 14 * 1 + k - 14 = k from Nat.add_sub_cancel_left (n := 14) (m := k)]))
      have a0 := s6_at20 (N := N) (σ := τ2) (im : Int) w2 w3
      have a1 := s6_at20 (N := N) (σ := τ2) ((6 + im : Nat) : Int) w4 w5
      rw [Int.toNat_natCast, r4 20 (by decide) (by decide)] at a0 a1
      rcases hs with rfl | rfl
      · have na : NA τ 2 0 (im : Int) a = τ 20 0 im := if_pos ⟨rfl, rfl⟩
        have nb : NB τ 2 0 (im : Int) b = b := if_neg (fun z => absurd z.2 (by decide))
        rw [na, nb, if_pos rfl, a0, bnd_s, push_s, eX5_step_116, if_neg (by decide)]
        exact r_fin2 r2 r4 t8 ea at' hat hd _ _ _ _ _ _ _ r0 rb _
      · have na : NA τ 2 1 (im : Int) a = a := if_neg (fun z => absurd z.2 (by decide))
        have nb : NB τ 2 1 (im : Int) b = τ 20 0 (6 + im) := if_pos ⟨rfl, rfl⟩
        rw [na, nb, if_neg (by decide), if_pos rfl, w6, a1, bnd_s, push_s, eX5_step_128]
        exact r_fin2 r2 r4 t8 ea at' hat hd _ _ _ _ _ _ _ ra r1 _
/-- a step that can't be made does nothing -/
theorem r_stepN (h : RtT σ τ) (hg : OKG σ 1) {B a b : Int} {c : Vec} (sc : SC σ B a b c) (at' : Nat) (hat : at' < 300) (hz : τ 15 0 at' = PKV a b c) (x2 x3 : Int) : (x2 = 0 → c 78 = -1 → inv N mX5_step [vR 14 0, vI (at' : Int), vI x2, vI x3] (P τ) = some (some (vI 0), P τ))
    ∧ ∀ d s i : Int, MDO (σ 2 1 1) x2 d s i → ¬ ableF (σ 2 1 1) (σ 5 1) c d s i = 1 → inv N mX5_step [vR 14 0, vI (at' : Int), vI x2, vI x3] (P τ) = some (some (vI 0), P τ) := by
  obtain ⟨s1, s2, s3, s4, s5, s6⟩ := sc
  obtain ⟨pz, -, -, -, -, -, -, -, -, z9, -⟩ := PKV_parts (CN_r hg s4) (CN_r hg s5) s1 s2
  obtain ⟨-, -, -, -, -, -, -, -, q9, -⟩ := sh_parts pz.1 pz.2
  have u := s1.2.2.2.2
  have g4 := hg.2.2.2.1
  have yr : w32 (bAnd (w32 (shr64 (PKV a b c) 49)) 3 - 1) = c 78 := by
    rw [m_3, (w32_mod _).2.2.2.2.1, q9, z9]
    exact yr_num u
  have n0 : ¬ (at' : Int) < 0 := by omega
  have n1 : (at' : Int) < 300 := by omega
  rw [iX5_step, eX5_step_0, if_neg n0, if_pos n1, if_neg n0, if_pos n1, Int.toNat_natCast, hz, r_part, bnd_s, push_s, eX5_step_18, yr]
  constructor
  · intro m0 c0
    rw [if_pos (by rw [m0]; decide), if_pos c0, if_neg (by rw [m0]; decide)]
  · intro d s i hm hab
    rw [MDO_able hm] at hab
    rcases hm with ⟨m1, rfl, rfl, rfl⟩ | ⟨m1, rfl, rfl, rfl⟩ | ⟨m1, rfl, hs, i0, i1⟩
    · have c0 : ¬ c 78 = -1 := fun z => hab (Or.inl ⟨rfl, z⟩)
      rw [if_pos (m1_num m1).2, if_neg c0, if_pos m1]
    · have c0 : c 78 = -1 := by
        by_cases q : c 78 = -1
        · exact q
        · exact absurd (Or.inr ⟨by decide, q, fun z => absurd z (by decide)⟩) hab
      rw [if_pos (m2_num m1).2.2, if_pos c0, if_neg (m2_num m1).2.1]
    · obtain ⟨⟨v1, v2, v3, v4⟩, -, es⟩ := ms_num g4 m1 hs i0 i1
      rw [if_neg v4, es]
      by_cases q : c 78 = -1
      · rw [if_pos q, if_neg v2]
      · have e : s = c 78 := by
          by_cases w : s = c 78
          · exact w
          · exact absurd (Or.inr ⟨by decide, q, fun _ => w⟩) hab
        rw [if_neg q, if_neg v2, if_pos e, if_neg q]
/-- a step that can be made -/
theorem r_stepY (h : RtT σ τ) (hg : OKG σ 1) (hc0 : OKC (σ 7 0)) (h82 : 0 ≤ σ 7 0 82 ∧ σ 7 0 82 < 2147482000) (al : AL σ τ) {B a b : Int} {c : Vec} (sc : SC σ B a b c) (at' : Nat) (hat : at' < 300) (hd : 0 ≤ τ 18 0 at' ∧ τ 18 0 at' < 1000) (hz : τ 15 0 at' = PKV a b c) (x2 x3 : Int) :
    (x2 = 0 → ¬ c 78 = -1 → STEPR N σ τ at' x2 x3 (set c 78 (-1)) a b (inv N mX5_step [vR 14 0, vI (at' : Int), vI x2, vI x3] (P τ)))
    ∧ ∀ d s i : Int, MDO (σ 2 1 1) x2 d s i → ableF (σ 2 1 1) (σ 5 1) c d s i = 1 → STEPR N σ τ at' x2 x3 (performC σ d s i (-1) (c, g00)).2.1 (NA τ d s i a) (NB τ d s i b) (inv N mX5_step [vR 14 0, vI (at' : Int), vI x2, vI x3] (P τ)) := by
  have go := fun x6 x7 => r_step562 (N := N) h hg hc0 h82 al sc at' hat hd x2 x3 x6 x7
  obtain ⟨s1, s2, s3, s4, s5, s6⟩ := sc
  obtain ⟨pz, -, -, -, -, -, -, -, -, z9, -⟩ := PKV_parts (CN_r hg s4) (CN_r hg s5) s1 s2
  obtain ⟨-, -, -, -, -, -, -, -, q9, -⟩ := sh_parts pz.1 pz.2
  have u := s1.2.2.2.2
  have g4 := hg.2.2.2.1
  have yr : w32 (bAnd (w32 (shr64 (PKV a b c) 49)) 3 - 1) = c 78 := by
    rw [m_3, (w32_mod _).2.2.2.2.1, q9, z9]
    exact yr_num u
  have n0 : ¬ (at' : Int) < 0 := by omega
  have n1 : (at' : Int) < 300 := by omega
  rw [iX5_step, eX5_step_0, if_neg n0, if_pos n1, if_neg n0, if_pos n1, Int.toNat_natCast, hz, r_part, bnd_s, push_s, eX5_step_18, yr]
  constructor
  · intro m0 c0
    rw [if_pos (by rw [m0]; decide), if_neg c0, if_neg (by rw [m0]; decide), if_neg (fun z => c0 z.symm)]
    exact (go _ _).1 m0
  · intro d s i hm hab
    have hm0 := hm
    have hab0 := hab
    rw [MDO_able hm] at hab
    rcases hm with ⟨m1, rfl, rfl, rfl⟩ | ⟨m1, rfl, rfl, rfl⟩ | ⟨m1, rfl, hs, i0, i1⟩
    · have c0 : c 78 = -1 := by
        rcases hab with z | z
        · exact z.2
        · exact absurd rfl z.1
      rw [if_pos (m1_num m1).2, if_pos c0, if_pos m1, if_pos c0.symm, if_pos c0]
      exact (go _ _).2 0 0 0 hm0 hab0 (fun z => absurd z (by decide))
    · have c0 : ¬ c 78 = -1 := by
        rcases hab with z | z
        · exact absurd z.1 (by decide)
        · exact z.2.1
      rw [if_pos (m2_num m1).2.2, if_neg c0, if_neg (m2_num m1).2.1, if_neg (fun z => c0 z.symm)]
      exact (go _ _).2 1 0 0 hm0 hab0 (fun z => absurd z (by decide))
    · have hab2 : ¬ c 78 = -1 ∧ ¬ s = c 78 := by
        rcases hab with z | z
        · exact absurd z.1 (by decide)
        · exact ⟨z.2.1, z.2.2 rfl⟩
      obtain ⟨⟨v1, v2, v3, v4⟩, -, es⟩ := ms_num g4 m1 hs i0 i1
      rw [if_neg v4, es, if_neg hab2.1, if_neg v2, if_neg hab2.2]
      exact (go _ _).2 2 s i hm0 hab0 (fun _ => rfl)
end ROUTE
