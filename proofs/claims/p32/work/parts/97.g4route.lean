/-! ROUTE, the class's search -/
section ROUTE
variable {N : Nat} {σ τ : Sto} {x : XP}
/-- the moves there are -/
def MVS (im x2 : Int) : Prop := x2 = 0 ∨ x2 = 1 ∨ x2 = 2 ∨ (100 ≤ x2 ∧ x2 < 120 ∧ (x2 - 100) % 10 < im)
theorem r_fin (h : RtT σ τ) (x1 x2 x3 x4 x6 x7 x8 x9 : Int) (x10 : MV) : ∃ v τ', bnd (inv N mX5_isThere [vR 14 0, vI x3] (P τ)) (fun r S2 => ev N mX5_step 134 [vR 14 0, vI x1, vI x2, vI x3, vJ x4, vX, vI x6, vI x7, vI x8, vI x9, x10] (push r []) S2) = some (some (vI v), P τ') ∧ RtT σ τ' := by
  obtain ⟨u, eu⟩ := r_isThere (N := N) τ x3
  rw [eu, bnd_s, push_s, eX5_step_134]
  by_cases q : u = 0
  · obtain ⟨v, υ, e, h2⟩ := r_pack (N := N) h x8 x9
    obtain ⟨w, ρ, e2, h3⟩ := r_add (N := N) h2 v x1 x2
    rw [if_pos q, e, bnd_s, push_s, eX5_step_156, e2, bnd_s, push_s, eX5_step_159]
    exact ⟨_, _, rfl, h3⟩
  · have h2 := RtT_sup (RtT_sup h 14 (by decide) 11 x1) 14 (by decide) 12 x2
    rw [if_neg q]
    generalize sup (sup τ 14 0 11 x1) 14 0 12 x2 = υ at h2
    obtain ⟨d, ed⟩ := t6_at18 (N := N) υ x1
    rw [ed, bnd_s, push_s, eX5_step_146]
    exact ⟨_, _, rfl, RtT_sup h2 14 (by decide) 10 _⟩
theorem r_able1 {im : Int} {wd c : Vec} (h : c 78 ≠ -1) : ableF im wd c 1 0 0 = 1 := by
  unfold ableF
  rw [if_neg (by decide), if_neg h, if_pos rfl, if_pos ⟨rfl, rfl⟩]
theorem r_able2 {im : Int} {wd c : Vec} {a b : Int} (h : c 78 ≠ -1) (ha : a = 0 ∨ a = 1) (h2 : ¬ a = c 78) (b0 : 0 ≤ b) (b1 : b < im) : ableF im wd c 2 a b = 1 := by
  unfold ableF
  rw [if_neg (by decide), if_neg h, if_neg (by decide), if_pos rfl, if_pos ⟨ha, h2, b0, b1⟩]
theorem r_mv {im x2 : Int} (h : MVS im x2) (h2 : ¬ x2 < 100) : (w32 ((w32 (x2 - 100)).tdiv 10) = 0 ∨ w32 ((w32 (x2 - 100)).tdiv 10) = 1) ∧ 0 ≤ Int.tmod (w32 (x2 - 100)) 10 ∧ Int.tmod (w32 (x2 - 100)) 10 < im := by
  unfold MVS at h
  have h3 : 100 ≤ x2 ∧ x2 < 120 ∧ (x2 - 100) % 10 < im := by omega
  have e1 : w32 (x2 - 100) = x2 - 100 := w32i (by omega) (by omega)
  have e2 : (x2 - 100).tdiv 10 = (x2 - 100) / 10 := Int.tdiv_eq_ediv_of_nonneg (by omega)
  have e3 : (x2 - 100).tmod 10 = (x2 - 100) % 10 := Int.tmod_eq_emod_of_nonneg (by omega)
  have e4 : w32 ((x2 - 100) / 10) = (x2 - 100) / 10 := w32i (by omega) (by omega)
  rw [e1, e2, e3, e4]
  omega
theorem r_step56 (h : RtT σ τ) (hg : OKG σ 1) (hc : OKC (σ 7 0)) (h82 : 0 ≤ σ 7 0 82 ∧ σ 7 0 82 < 2147482000) (x1 x2 x3 y x6 x7 r : Int) (hm : MVS (σ 2 1 1) x2) (hr : w32 (bAnd (w32 (shr64 y 49)) 3 - 1) = r) (h0 : x2 ≠ 1 → r ≠ -1) (h7 : x2 < 100 ∨ (x7 = w32 ((w32 (x2 - 100)).tdiv 10) ∧ ¬ x7 = r)) : ∃ v τ', bnd (inv N mX5_unpack [vR 14 0, vJ y] (P τ)) (fun r S2 => ev N mX5_step 56 [vR 14 0, vI x1, vI x2, vI x3, vJ y, vX, vI x6, vI x7, vX, vX, vX] (push r []) S2) = some (some (vI v), P τ') ∧ RtT σ τ' := by
  obtain ⟨p, p1, p2, p3, p4⟩ := r_unpack (N := N) h hg hc y
  rw [hr] at p4
  have gt := RtT_G h hg
  have e21 : τ 2 1 = σ 2 1 := h.1 2 1 (by decide)
  have b0 : 0 ≤ p.1 82 := by rw [p3]; exact h82.1
  have b1 : p.1 82 < 2147482000 := by rw [p3]; exact h82.2
  rw [p1, bnd_s, push_n, eX5_step_56, r_part, bnd_s, push_s, eX5_step_60, r_part, bnd_s, push_s, eX5_step_65]
  generalize bAnd (w32 (shr64 y 0)) 7 = x8
  generalize bAnd (w32 (shr64 y 3)) 7 = x9
  by_cases m0 : x2 = 0
  · have t := p2_turnOff (N := N) (i := 4) (σ := τ) (x := p)
    rw [if_pos m0, t, bnd_s, push_n, eX5_step_71]
    refine r_fin (RtT_put h _ (OKC_78 p2) ?_ ?_) _ _ _ _ _ _ _ _ _
    · show 0 ≤ set p.1 78 (-1) 82
      rw [set_ne _ _ (by decide)]; exact b0
    · show set p.1 78 (-1) 82 < 2147483000
      rw [set_ne _ _ (by decide)]; exact Int.lt_trans b1 (by decide)
  by_cases m1 : x2 = 1
  · have t := p2_boot (N := N) (i := 4) (σ := τ) (x := p) gt p2 b0 (Int.lt_trans b1 (by decide)) 0 0 (-1)
    have ok := bootC_ok (σ := τ) (x := p) p2 0 (-1)
    generalize bootC τ 0 (-1) p = z at t ok
    rw [if_neg m0, if_pos m1, t, bnd_s, push_s, eX5_step_82]
    exact r_fin (RtT_put h z.2 ok.1.1 (by omega) (by omega)) _ _ _ _ _ _ _ _ _
  have c78 : p.1 78 ≠ -1 := by rw [p4]; exact h0 m1
  by_cases m2 : x2 = 2
  · have ab : ableF (τ 2 1 1) (τ 5 1) p.1 1 0 0 = 1 := r_able1 c78
    have t := p2_perform (N := N) (i := 4) (σ := τ) (x := p) gt p2 b0 (Int.lt_trans b1 (by decide)) 1 0 0 (-1) ab
    have ok := performC_ok (σ := τ) (x := p) gt p2 1 0 0 (-1) ab
    generalize performC τ 1 0 0 (-1) p = z at t ok
    rw [if_neg m0, if_neg m1, if_pos m2, t, bnd_s, push_s, eX5_step_94]
    exact r_fin (RtT_put h z.2 ok.1.1 (by omega) (by omega)) _ _ _ _ _ _ _ _ _
  have m100 : ¬ x2 < 100 := by
    unfold MVS at hm
    omega
  have f7 := h7.resolve_left m100
  have fm := r_mv hm m100
  rw [← f7.1] at fm
  rw [if_neg m0, if_neg m1, if_neg m2]
  generalize Int.tmod (w32 (x2 - 100)) 10 = b at fm
  have ab : ableF (τ 2 1 1) (τ 5 1) p.1 2 x7 b = 1 := r_able2 c78 fm.1 (by rw [p4]; exact f7.2) fm.2.1 (by rw [e21]; exact fm.2.2)
  have t := p2_perform (N := N) (i := 4) (σ := τ) (x := p) gt p2 b0 (Int.lt_trans b1 (by decide)) 2 x7 b (-1) ab
  have ok := performC_ok (σ := τ) (x := p) gt p2 2 x7 b (-1) ab
  generalize performC τ 2 x7 b (-1) p = z at t ok
  have hz := RtT_put h z.2 ok.1.1 (by omega) (by omega)
  rw [t, bnd_s, push_s, eX5_step_109]
  generalize putC τ 4 z.2 = υ at hz
  obtain ⟨u1, v1⟩ := t6_at20 (N := N) υ b
  obtain ⟨u2, v2⟩ := t6_at20 (N := N) υ (w32 (6 + b))
  by_cases k0 : x7 = 0
  · have k1 : ¬ x7 = 1 := by omega
    rw [if_pos k0, v1, bnd_s, push_s, eX5_step_116, if_neg k1]
    exact r_fin hz _ _ _ _ _ _ _ _ _
  by_cases k1 : x7 = 1
  · rw [if_neg k0, if_pos k1, v2, bnd_s, push_s, eX5_step_128]
    exact r_fin hz _ _ _ _ _ _ _ _ _
  rw [if_neg k0, if_neg k1]
  exact r_fin hz _ _ _ _ _ _ _ _ _
theorem r_step (h : RtT σ τ) (hg : OKG σ 1) (hc : OKC (σ 7 0)) (h82 : 0 ≤ σ 7 0 82 ∧ σ 7 0 82 < 2147482000) (x1 x2 x3 : Int) (h0 : 0 ≤ x1) (h1 : x1 < 300) (hm : MVS (σ 2 1 1) x2) : ∃ v τ', inv N mX5_step [vR 14 0, vI x1, vI x2, vI x3] (P τ) = some (some (vI v), P τ') ∧ RtT σ τ' := by
  have n0 : ¬ x1 < 0 := by omega
  rw [iX5_step, eX5_step_0, if_neg n0, if_pos h1, if_neg n0, if_pos h1, r_part, bnd_s, push_s, eX5_step_18]
  generalize τ 15 0 x1.toNat = y
  have go := fun x6 x7 => r_step56 (N := N) h hg hc h82 x1 x2 x3 y x6 x7 (w32 (bAnd (w32 (shr64 y 49)) 3 - 1)) hm rfl
  generalize w32 (bAnd (w32 (shr64 y 49)) 3 - 1) = r at go
  by_cases m : x2 < 100
  · rw [if_pos m]
    by_cases q : r = -1
    · rw [if_pos q]
      by_cases k : x2 = 1
      · rw [if_pos k, if_pos q.symm, if_pos q]
        exact go _ _ (fun z => absurd k z) (Or.inl m)
      · rw [if_neg k]
        exact ⟨_, _, rfl, h⟩
    · rw [if_neg q]
      by_cases k : x2 = 1
      · rw [if_pos k]
        exact ⟨_, _, rfl, h⟩
      · rw [if_neg k, if_neg (fun z => q z.symm)]
        exact go _ _ (fun _ => q) (Or.inl m)
  · rw [if_neg m]
    have k : ¬ x2 = 1 := by omega
    by_cases q : r = -1
    · rw [if_pos q, if_neg k]
      exact ⟨_, _, rfl, h⟩
    · rw [if_neg q, if_neg k]
      by_cases w : w32 ((w32 (x2 - 100)).tdiv 10) = r
      · rw [if_pos w, if_neg q]
        exact ⟨_, _, rfl, h⟩
      · rw [if_neg w]
        exact go _ _ (fun _ => q) (Or.inr ⟨rfl, w⟩)
theorem r_moves (hg : OKG σ 1) (hc : OKC (σ 7 0)) (h82 : 0 ≤ σ 7 0 82 ∧ σ 7 0 82 < 2147482000) (x1 x3 : Int) (h0 : 0 ≤ x3) (h1 : x3 < 300) (x5 : MV) : ∀ (m k : Nat) (τ : Sto) (x2 : Int), k + m = 3 → RtT σ τ → ∃ o τ', ev N mX5_search 47 [vR 14 0, vI x1, vI x2, vI x3, vI (k : Int), x5] [] (P τ) = ev N mX5_search 62 [vR 14 0, vI x1, vI o, vI x3, vI 0, x5] [] (P τ') ∧ RtT σ τ' := by
  intro m
  induction m with
  | zero =>
    intro k τ x2 hk h
    rw [eX5_search_47, if_pos (show (2 : Int) < (k : Int) by omega)]
    exact ⟨_, _, rfl, h⟩
  | succ m ih =>
    intro k τ x2 hk h
    have e1 : w32 ((k : Int) + 1) = ((k + 1 : Nat) : Int) := by rw [w32i (by omega) (by omega)]; omega
    rw [eX5_search_47, if_neg (show ¬ (2 : Int) < (k : Int) by omega)]
    by_cases q : x2 = 0
    · obtain ⟨v, υ, e, h2⟩ := r_step (N := N) h hg hc h82 x3 (k : Int) x1 h0 h1 (by unfold MVS; omega)
      rw [if_pos q, e, bnd_s, push_s, eX5_search_57, e1]
      exact ih (k + 1) υ v (by omega) h2
    · rw [if_neg q]
      exact ⟨_, _, rfl, h⟩
theorem r_inum {k im : Int} (h0 : 0 ≤ k) (i0 : 0 ≤ im) (i1 : im ≤ 6) (hk : k < 2 * im) : w32 (k + 1) = k + 1 ∧ (k < im → MVS im (w32 ((w32 ((w32 (100 + (w32 (10 * 0)))) + k)) - (w32 (0 * im))))) ∧ (¬ k < im → MVS im (w32 ((w32 ((w32 (100 + (w32 (10 * 1)))) + k)) - (w32 (1 * im))))) := by
  have a1 : w32 (10 * 0) = 0 := rfl
  have a2 : w32 (100 + 0) = 100 := rfl
  have a3 : w32 (10 * 1) = 10 := rfl
  have a4 : w32 (100 + 10) = 110 := rfl
  have a5 : w32 (0 * im) = 0 := by rw [Int.zero_mul]; rfl
  have a6 : w32 (1 * im) = im := by rw [Int.one_mul]; exact w32i (by omega) (by omega)
  have a7 : w32 (100 + k) = 100 + k := w32i (by omega) (by omega)
  have a8 : w32 (110 + k) = 110 + k := w32i (by omega) (by omega)
  have a9 : w32 (100 + k - 0) = 100 + k := by rw [w32i (by omega) (by omega)]; omega
  have b1 : w32 (110 + k - im) = 110 + k - im := w32i (by omega) (by omega)
  rw [a1, a2, a3, a4, a5, a6, a7, a8, a9, b1]
  refine ⟨w32i (by omega) (by omega), fun q => ?_, fun q => ?_⟩
  · unfold MVS; omega
  · unfold MVS; omega
theorem r_imgs (hg : OKG σ 1) (hc : OKC (σ 7 0)) (h82 : 0 ≤ σ 7 0 82 ∧ σ 7 0 82 < 2147482000) (x1 x3 : Int) (h0 : 0 ≤ x3) (h1 : x3 < 300) : ∀ (m k : Nat) (τ : Sto) (x2 : Int) (x5 : MV), k + m = 12 → RtT σ τ → ∃ o x4 x5' τ', ev N mX5_search 62 [vR 14 0, vI x1, vI x2, vI x3, vI (k : Int), x5] [] (P τ) = ev N mX5_search 36 [vR 14 0, vI x1, vI o, vI (w32 (x3 + 1)), x4, x5'] [] (P τ') ∧ RtT σ τ' := by
  have i0 := hg.2.2.1
  have i1 := hg.2.2.2.1
  have w2 : w32 (2 * σ 2 1 1) = 2 * σ 2 1 1 := w32i (by omega) (by omega)
  intro m
  induction m with
  | zero =>
    intro k τ x2 x5 hk h
    have e21 : τ 2 1 = σ 2 1 := h.1 2 1 (by decide)
    rw [eX5_search_62, e21, w2, if_neg (show ¬ (k : Int) < 2 * σ 2 1 1 by omega)]
    exact ⟨_, _, _, _, rfl, h⟩
  | succ m ih =>
    intro k τ x2 x5 hk h
    have e21 : τ 2 1 = σ 2 1 := h.1 2 1 (by decide)
    rw [eX5_search_62, e21, w2]
    by_cases q : (k : Int) < 2 * σ 2 1 1
    · have nm := r_inum (k := (k : Int)) (by omega) i0 i1 q
      have e1 : w32 ((k : Int) + 1) = ((k + 1 : Nat) : Int) := by rw [nm.1]; omega
      rw [if_pos q]
      by_cases z : x2 = 0
      · rw [if_pos z]
        by_cases b : (k : Int) < σ 2 1 1
        · obtain ⟨v, υ, e, h2⟩ := r_step (N := N) h hg hc h82 x3 _ x1 h0 h1 (nm.2.1 b)
          rw [if_pos b, e, bnd_s, push_s, eX5_search_97, e1]
          exact ih (k + 1) υ v _ (by omega) h2
        · obtain ⟨v, υ, e, h2⟩ := r_step (N := N) h hg hc h82 x3 _ x1 h0 h1 (nm.2.2 b)
          rw [if_neg b, e, bnd_s, push_s, eX5_search_97, e1]
          exact ih (k + 1) υ v _ (by omega) h2
      · rw [if_neg z]
        exact ⟨_, _, _, _, rfl, h⟩
    · rw [if_neg q]
      exact ⟨_, _, _, _, rfl, h⟩
theorem r_outer (hg : OKG σ 1) (hc : OKC (σ 7 0)) (h82 : 0 ≤ σ 7 0 82 ∧ σ 7 0 82 < 2147482000) (x1 : Int) : ∀ (m k : Nat) (τ : Sto) (x2 : Int) (x4 x5 : MV), k + m = 300 → RtT σ τ → ∃ o τ', ev N mX5_search 36 [vR 14 0, vI x1, vI x2, vI (k : Int), x4, x5] [] (P τ) = some (some (vI o), P τ') ∧ RtT σ τ' := by
  intro m
  induction m with
  | zero =>
    intro k τ x2 x4 x5 hk h
    rw [eX5_search_36, if_neg (show ¬ (k : Int) < 300 by omega)]
    by_cases q : (k : Int) < τ 14 0 9
    · rw [if_pos q]; exact ⟨_, _, rfl, h⟩
    · rw [if_neg q]; exact ⟨_, _, rfl, h⟩
  | succ m ih =>
    intro k τ x2 x4 x5 hk h
    have e1 : w32 ((k : Int) + 1) = ((k + 1 : Nat) : Int) := by rw [w32i (by omega) (by omega)]; omega
    have k3 : (k : Int) < 300 := by omega
    rw [eX5_search_36, if_pos k3]
    by_cases q : (k : Int) < τ 14 0 9
    · rw [if_pos q]
      by_cases z : x2 = 0
      · rw [if_pos z]
        obtain ⟨o, υ, e, h2⟩ := r_moves (N := N) hg hc h82 x1 (k : Int) (by omega) k3 x5 3 0 τ x2 rfl h
        obtain ⟨o2, y4, y5, ρ, e2, h3⟩ := r_imgs (N := N) hg hc h82 x1 (k : Int) (by omega) k3 12 0 υ o x5 rfl h2
        have e0 : ((0 : Nat) : Int) = 0 := rfl
        rw [e0] at e e2
        rw [e, e2, e1]
        exact ih (k + 1) ρ o2 y4 y5 (by omega) h3
      · rw [if_neg z]; exact ⟨_, _, rfl, h⟩
    · rw [if_neg q]; exact ⟨_, _, rfl, h⟩
theorem t2_holds (i : Nat) (τ : Sto) (a b : Int) : ∃ v, inv N mX2_holdsImage [vR 6 i, vI a, vI b] (P τ) = some (some (vI v), P τ) := by
  have lp : ∀ (m k : Nat), k + m = 14 → ∃ v, ev N mX2_holdsImage 2 [vR 6 i, vI a, vI b, vI (k : Int)] [] (P τ) = some (some (vI v), P τ) := by
    intro m
    induction m with
    | zero =>
      intro k hk
      rw [eX2_holdsImage_2, if_neg (show ¬ (k : Int) < 14 by omega)]
      exact ⟨_, rfl⟩
    | succ m ih =>
      intro k hk
      have e1 : w32 ((k : Int) + 1) = ((k + 1 : Nat) : Int) := by rw [w32i (by omega) (by omega)]; omega
      obtain ⟨u, eu⟩ := t2_cell (N := N) i τ (w32 ((w32 (a * 14)) + (k : Int)))
      obtain ⟨w, ew⟩ := t6_at5 (N := N) τ (w32 ((w32 (b * 14)) + (k : Int)))
      rw [eX2_holdsImage_2, if_pos (show (k : Int) < 14 by omega), eu, bnd_s, push_s, eX2_holdsImage_12, ew, bnd_s, push_s, eX2_holdsImage_21, e1]
      by_cases q : u = w
      · rw [if_pos q]
        exact ih (k + 1) (by omega)
      · rw [if_neg q]
        exact ⟨_, rfl⟩
  rw [iX2_holdsImage, eX2_holdsImage_0]
  exact lp 14 0 rfl
theorem r_first (h : RtT σ τ) (hg : OKG σ 1) (s k : Nat) (hs : s < 2) (hk : k < 6) : ∃ v τ', inv N mX5_firstAlike [vR 14 0, vI (s : Int), vI (k : Int)] (P τ) = some (some (vI v), P τ') ∧ RtT σ τ' := by
  obtain ⟨u, eu⟩ := t2_holds (N := N) 0 τ (s : Int) (k : Int)
  rw [iX5_firstAlike, eX5_firstAlike_0, eu, bnd_s, push_s, eX5_firstAlike_5]
  by_cases q : u = 0
  case neg =>
    rw [if_neg q]
    exact ⟨_, _, rfl, h⟩
  obtain ⟨c, c1, c2, c3⟩ := r_img (N := N) (τ := τ) (x := (τ 7 4, τ 6 4)) (RtT_G h hg) h.2.1 s (by omega) (k : Int) (by omega) (by omega)
  rw [putC_id] at c1
  have h2 := RtT_put h (c, τ 6 4) c2 (by show 0 ≤ c 82; rw [c3]; exact h.2.2.1) (by show c 82 < _; rw [c3]; exact h.2.2.2)
  change inv N mX2_putImage [vR 6 4, vI (s : Int), vI (k : Int)] (P τ) = some (none, P (putC τ 4 (c, τ 6 4))) at c1
  rw [if_pos q, c1, bnd_s, push_n, eX5_firstAlike_13]
  generalize putC τ 4 (c, τ 6 4) = υ at h2
  have lp : ∀ (m j : Nat), j + m = k → ∃ v, ev N mX5_firstAlike 15 [vR 14 0, vI (s : Int), vI (k : Int), vI (j : Int)] [] (P υ) = some (some (vI v), P υ) := by
    intro m
    induction m with
    | zero =>
      intro j hj
      rw [eX5_firstAlike_15, if_neg (show ¬ (j : Int) < (k : Int) by omega)]
      exact ⟨_, rfl⟩
    | succ m ih =>
      intro j hj
      have e1 : w32 ((j : Int) + 1) = ((j + 1 : Nat) : Int) := by rw [w32i (by omega) (by omega)]; omega
      obtain ⟨w, ew⟩ := t2_holds (N := N) 4 υ (s : Int) (j : Int)
      rw [eX5_firstAlike_15, if_pos (show (j : Int) < (k : Int) by omega), ew, bnd_s, push_s, eX5_firstAlike_23, e1]
      by_cases z : w = 0
      · rw [if_pos z]
        exact ih (j + 1) (by omega)
      · rw [if_neg z]
        exact ⟨_, rfl⟩
  obtain ⟨v, e⟩ := lp k 0 (by omega)
  exact ⟨v, υ, e, h2⟩
theorem r_findIn (hg : OKG σ 1) (s : Nat) (hs : s < 2) : ∀ (m k : Nat) (τ : Sto), k + m = 6 → RtT σ τ → ∃ y τ', ev N mX5_findAlike 7 [vR 14 0, vI (s : Int), vI (k : Int)] [] (P τ) = ev N mX5_findAlike 2 [vR 14 0, vI ((s + 1 : Nat) : Int), y] [] (P τ') ∧ RtT σ τ' := by
  have i1 := hg.2.2.2.1
  have es : w32 ((s : Int) + 1) = ((s + 1 : Nat) : Int) := by rw [w32i (by omega) (by omega)]; omega
  intro m
  induction m with
  | zero =>
    intro k τ hk h
    have e21 : τ 2 1 = σ 2 1 := h.1 2 1 (by decide)
    rw [eX5_findAlike_7, e21, if_neg (show ¬ (k : Int) < σ 2 1 1 by omega), es]
    exact ⟨_, _, rfl, h⟩
  | succ m ih =>
    intro k τ hk h
    have e21 : τ 2 1 = σ 2 1 := h.1 2 1 (by decide)
    have e1 : w32 ((k : Int) + 1) = ((k + 1 : Nat) : Int) := by rw [w32i (by omega) (by omega)]; omega
    rw [eX5_findAlike_7, e21]
    by_cases q : (k : Int) < σ 2 1 1
    · obtain ⟨v, υ, e, h2⟩ := r_first (N := N) h hg s k hs (by omega)
      obtain ⟨f, ef⟩ := t6_put20 (N := N) υ (w32 ((w32 ((s : Int) * 6)) + (k : Int))) v
      rw [if_pos q, e, bnd_s, push_s, eX5_findAlike_23, ef, bnd_s, push_n, eX5_findAlike_24, e1]
      exact ih (k + 1) _ (by omega) (RtT_row h2 20 (by decide) f)
    · rw [if_neg q, es]
      exact ⟨_, _, rfl, h⟩
theorem r_findAlike (h : RtT σ τ) (hg : OKG σ 1) : ∃ τ', inv N mX5_findAlike [vR 14 0] (P τ) = some (none, P τ') ∧ RtT σ τ' := by
  obtain ⟨y1, υ, e1, h1⟩ := r_findIn (N := N) hg 0 (by decide) 6 0 τ rfl h
  obtain ⟨y2, ρ, e2, h2⟩ := r_findIn (N := N) hg 1 (by decide) 6 0 υ rfl h1
  have e0 : ((0 : Nat) : Int) = 0 := rfl
  rw [e0] at e1 e2
  have a1 : ((0 + 1 : Nat) : Int) = 1 := rfl
  have a2 : ((1 + 1 : Nat) : Int) = 2 := rfl
  have a3 : ((1 : Nat) : Int) = 1 := rfl
  rw [a1] at e1
  rw [a2, a3] at e2
  rw [iX5_findAlike, eX5_findAlike_0, eX5_findAlike_2, if_pos (by decide), e1, eX5_findAlike_2, if_pos (by decide), e2, eX5_findAlike_2, if_neg (by decide)]
  exact ⟨_, rfl, h2⟩
theorem c_fill19 : inv N mJ7_fill_53178 [vR 19 0, vI 0] (P σ) = some (none, P (row σ 19 0 (fill (σ 19 0) 0 1024 0))) := by
  have lp : ∀ (m k : Nat) (τ : Sto), k + m = 1024 → ev N mJ7_fill_53178 5 [vR 19 0, vI 0, vI (k : Int), vI 1024] [] (P τ) = some (none, P (row τ 19 0 (fill (τ 19 0) k m 0))) := by
    intro m
    induction m with
    | zero =>
      intro k τ hk
      have e : k = 1024 := by omega
      subst e
      rw [eJ7_fill_53178_5_k19, if_neg (by decide), fill_0, row_id]
    | succ m ih =>
      intro k τ hk
      have l1 : (k : Int) < 1024 ∧ ¬ (k : Int) < 0 ∧ k + 1 + m = 1024 := by omega
      have e1 : w32 ((k : Int) + 1) = ((k + 1 : Nat) : Int) := by rw [w32i (by omega) (by omega)]; omega
      rw [eJ7_fill_53178_5_k19, if_pos l1.1, if_neg l1.2.1, if_pos l1.1, e1, sup_row, ih (k + 1) _ l1.2.2, row_same, row_row, Int.toNat_natCast, fill_s]
  rw [iJ7_fill_53178_k19, eJ7_fill_53178_0_k19]
  exact lp 1024 0 σ rfl
theorem r_search (hg : OKG σ 1) (hc : OKC (σ 7 0)) (h82 : 0 ≤ σ 7 0 82 ∧ σ 7 0 82 < 2147482000) (v : Int) : ∃ o τ, inv N mX5_search [vR 14 0, vI v] (P σ) = some (some (vI o), P τ) ∧ RtT σ τ := by
  have ct := p2_take (N := N) (i := 4) (b := σ) (x := (σ 7 4, σ 6 4)) 0 (by decide)
  rw [putC_id] at ct
  have oc : OKC (cpyV (σ 7 0) (σ 7 4) 0 0 107) := OKC_107 hc (fun j hj => cpy_all _ _ hj)
  have o82 : cpyV (σ 7 0) (σ 7 4) 0 0 107 82 = σ 7 0 82 := cpy_all _ _ (by decide)
  change inv N mX2_takeFrom [vR 6 4, vR 6 0] (P σ) = some (none, P (putC σ 4 (cpyV (σ 7 0) (σ 7 4) 0 0 107, σ 6 4))) at ct
  generalize cpyV (σ 7 0) (σ 7 4) 0 0 107 = c at ct oc o82
  have h1 : RtT σ (putC σ 4 (c, σ 6 4)) := by
    refine ⟨fun k k' q => ?_, ?_, ?_, ?_⟩
    · unfold putC
      rw [row_at, if_neg (fun z => q (Or.inl ⟨z.2, Or.inl z.1⟩)), row_at, if_neg (fun z => q (Or.inl ⟨z.2, Or.inr z.1⟩))]
    · rw [putC_7]; exact oc
    · rw [putC_7]; show 0 ≤ c 82; rw [o82]; exact h82.1
    · rw [putC_7]; show c 82 < _; rw [o82]; exact Int.lt_trans h82.2 (by decide)
  rw [iX5_search, eX5_search_0, ct, bnd_s, push_n, eX5_search_5]
  have h2 := RtT_sup h1 14 (by decide) 10 0
  generalize sup (putC σ 4 (c, σ 6 4)) 14 0 10 0 = υ at h2
  obtain ⟨u, eu⟩ := r_isThere (N := N) υ v
  rw [eu, bnd_s, push_s, eX5_search_11]
  by_cases q : u = 0
  case neg =>
    rw [if_neg q]
    exact ⟨_, _, rfl, h2⟩
  obtain ⟨ρ, e3, h3⟩ := r_findAlike (N := N) h2 hg
  have h4 := RtT_sup (RtT_row h3 19 (by decide) (fill (ρ 19 0) 0 1024 0)) 14 (by decide) 9 0
  rw [if_pos q, e3, bnd_s, push_n, eX5_search_16, c_fill19, bnd_s, push_n, eX5_search_20]
  generalize sup (row ρ 19 0 (fill (ρ 19 0) 0 1024 0)) 14 0 9 0 = ρ2 at h4
  obtain ⟨y, ρ3, e5, h5⟩ := r_pack (N := N) h4 0 0
  obtain ⟨w, ρ4, e6, h6⟩ := r_add (N := N) h5 y 0 0
  rw [e5, bnd_s, push_s, eX5_search_28, e6, bnd_s, push_s, eX5_search_31]
  exact r_outer hg hc h82 v 300 0 ρ4 0 vX vX rfl h6
theorem r_moveAt (τ : Sto) (x1 : Int) (hx : x1 < 2147483648) : ∃ v, inv N mX5_moveAt [vR 14 0, vI x1] (P τ) = some (some (vI v), P τ) := by
  have lp : ∀ (m k : Nat) (x2 x3 : Int), (x1 - k).toNat = m → ∃ v, ev N mX5_moveAt 8 [vR 14 0, vI x1, vI x2, vI x3, vI (k : Int)] [] (P τ) = some (some (vI v), P τ) := by
    intro m
    induction m with
    | zero =>
      intro k x2 x3 hk
      rw [eX5_moveAt_8, if_neg (show ¬ (k : Int) < x1 by omega)]
      exact ⟨_, rfl⟩
    | succ m ih =>
      intro k x2 x3 hk
      have q : (k : Int) < x1 := by omega
      have e1 : w32 ((k : Int) + 1) = ((k + 1 : Nat) : Int) := by rw [w32i (by omega) (by omega)]; omega
      obtain ⟨a, ea⟩ := t6_at17 (N := N) τ x3
      obtain ⟨b, eb⟩ := t6_at16 (N := N) τ x3
      rw [eX5_moveAt_8, if_pos q, ea, bnd_s, push_s, eX5_moveAt_15, eb, bnd_s, push_s, eX5_moveAt_20, e1]
      exact ih (k + 1) a b (by omega)
  rw [iX5_moveAt, eX5_moveAt_0]
  exact lp _ 0 _ _ rfl
theorem w32_ub (x : Int) : w32 x < 2147483648 := by unfold w32; omega
theorem QX_RtT {σ τ : Sto} (h : RtT σ τ) : QX σ τ := by
  have o := h.1
  refine ⟨⟨fun k k' q => o k k' (by omega), ?_, ?_, ?_, ?_⟩, o 7 0 (by decide), fun j _ => ?_, o 9 0 (by decide), o 10 0 (by decide), o 41 0 (by decide), ?_⟩
  · rw [o 30 0 (by decide)]
  · rw [o 30 0 (by decide)]
  · rw [o 30 0 (by decide)]
  · rw [o 30 0 (by decide)]
  · rw [o 40 0 (by decide)]
  · rw [o 30 0 (by decide)]
theorem c_route {L : Int} (h : INV L σ) (hL : L < 2147480000) (a b : Int) : ∃ ans σ1, inv N mX8_route [vR 0 0, vI a, vI b] (P σ) = some (some (vI ans), P σ1) ∧ QX σ σ1 := by
  have h82 := CELL_82 h.2.1 hL
  rw [iX8_route, eX8_route_0]
  by_cases a0 : a < 0
  · rw [if_pos a0]; exact ⟨_, _, rfl, QX_refl σ⟩
  by_cases a1 : a < 31
  case neg =>
    rw [if_neg a0, if_neg a1]; exact ⟨_, _, rfl, QX_refl σ⟩
  by_cases b1 : b < -1
  · rw [if_neg a0, if_pos a1, if_pos b1]; exact ⟨_, _, rfl, QX_refl σ⟩
  obtain ⟨o, τ, e, r⟩ := r_search (N := N) h.1.1 h.2.1.1 h82 a
  have q := QX_RtT r
  rw [if_neg a0, if_pos a1, if_neg b1, e, bnd_s, push_s, eX8_route_14]
  by_cases o1 : o = 1
  · rw [if_pos o1, iX5_moveOrLength, eX5_moveOrLength_0]
    by_cases k1 : b = -1
    · rw [if_pos k1, bnd_s, push_s, eX8_route_22]; exact ⟨_, _, rfl, q⟩
    by_cases k2 : b < τ 14 0 10
    · obtain ⟨v, ev1⟩ := r_moveAt (N := N) τ (w32 ((w32 (τ 14 0 10 - 1)) - b)) (w32_ub _)
      rw [if_neg k1, if_pos k2, ev1, bnd_s, push_s, eX5_moveOrLength_18, bnd_s, push_s, eX8_route_22]; exact ⟨_, _, rfl, q⟩
    · rw [if_neg k1, if_neg k2, bnd_s, push_s, eX8_route_22]; exact ⟨_, _, rfl, q⟩
  by_cases o2 : o = 2
  · rw [if_neg o1, if_pos o2]; exact ⟨_, _, rfl, q⟩
  rw [if_neg o1, if_neg o2]; exact ⟨_, _, rfl, q⟩
end ROUTE
