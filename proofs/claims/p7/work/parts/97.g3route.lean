/-! ROUTE, the class's: it ends, and leaves the real machine as it is -/
def RtR (σ τ : Sto) : Prop := ∀ k k', ¬ ((k' = 4 ∧ (k = 6 ∨ k = 7)) ∨ (k' = 0 ∧ 14 ≤ k ∧ k ≤ 20)) → τ k k' = σ k k'
def RtT (σ τ : Sto) : Prop := RtR σ τ ∧ OKC (τ 7 4) ∧ 0 ≤ τ 7 4 82 ∧ τ 7 4 82 < 2147483000
theorem RtT_put {σ τ : Sto} (h : RtT σ τ) (y : XP) (hc : OKC y.1) (h0 : 0 ≤ y.1 82) (h1 : y.1 82 < 2147483000) : RtT σ (putC τ 4 y) := by
  refine ⟨fun k k' q => ?_, ?_, ?_, ?_⟩
  · unfold putC
    rw [row_at, if_neg (fun z => q (Or.inl ⟨z.2, Or.inl z.1⟩)), row_at, if_neg (fun z => q (Or.inl ⟨z.2, Or.inr z.1⟩))]
    exact h.1 k k' q
  · rw [putC_7]; exact hc
  · rw [putC_7]; exact h0
  · rw [putC_7]; exact h1
theorem RtT_row {σ τ : Sto} (h : RtT σ τ) (k : Nat) (hk : 14 ≤ k ∧ k ≤ 20) (f : Vec) : RtT σ (row τ k 0 f) := by
  have e : row τ k 0 f 7 4 = τ 7 4 := by rw [row_at, if_neg (by omega)]
  refine ⟨fun i i' q => ?_, by rw [e]; exact h.2.1, by rw [e]; exact h.2.2.1, by rw [e]; exact h.2.2.2⟩
  rw [row_at, if_neg (fun z => q (Or.inr ⟨z.2, by omega⟩))]
  exact h.1 i i' q
theorem RtT_sup {σ τ : Sto} (h : RtT σ τ) (k : Nat) (hk : 14 ≤ k ∧ k ≤ 20) (j : Nat) (v : Int) : RtT σ (sup τ k 0 j v) := by
  rw [sup_row]
  exact RtT_row h k hk _
theorem RtT_7 {σ τ : Sto} (h : RtT σ τ) : τ 7 0 = σ 7 0 := h.1 7 0 (by decide)
theorem RtT_G {σ τ : Sto} (h : RtT σ τ) (g : OKG σ 1) : OKG τ 1 := by
  unfold OKG at g ⊢
  rw [h.1 2 1 (by decide), h.1 3 1 (by decide), h.1 4 1 (by decide), h.1 5 1 (by decide)]
  exact g
theorem okc_img {c w : Vec} (h : OKC c) (hw : ∀ k, k < 84 → 0 ≤ w k ∧ w k < 100000) (im s : Nat) (him : im < 6) (hs : s < 4) : OKC (cpyV w c (14 * im) (14 * s) 14) ∧ cpyV w c (14 * im) (14 * s) 14 82 = c 82 := by
  have o : ∀ j, 56 ≤ j → cpyV w c (14 * im) (14 * s) 14 j = c j := fun j hj => cpyV_out w c _ _ _ j (by omega)
  obtain ⟨a, b, d, e, f⟩ := h
  refine ⟨⟨fun j hj => ?_, fun j h1 h2 => ?_, ?_, ?_, ?_⟩, o 82 (by decide)⟩
  · by_cases q : 14 * s ≤ j ∧ j < 14 * s + 14
    · have t := cpyV_in w c (14 * im) (14 * s) 14 (j - 14 * s) (by omega)
      rw [show 14 * s + (j - 14 * s) = j by omega] at t
      rw [t]
      have := hw (14 * im + (j - 14 * s)) (by omega)
      omega
    · rw [cpyV_out w c _ _ _ j (by omega)]
      exact a j hj
  · rw [o j h1]; exact b j h1 h2
  · rw [o 76 (by decide)]; exact d
  · rw [o 77 (by decide)]; exact e
  · rw [o 78 (by decide)]; exact f
section ROUTE
variable {N : Nat} {σ τ : Sto} {x : XP}
theorem t6_at16 (τ : Sto) (k : Int) : ∃ v, inv N mX6_at [vR 16 0, vI k] (P τ) = some (some (vI v), P τ) := by
  by_cases a : 0 ≤ k ∧ k < 300
  · exact ⟨_, s6_at16 k a.1 a.2⟩
  · exact ⟨_, s6_atO16 k (by omega)⟩
theorem t6_put16 (τ : Sto) (k v : Int) : ∃ f, inv N mX6_put [vR 16 0, vI k, vI v] (P τ) = some (none, P (row τ 16 0 f)) := by
  by_cases a : k < 0
  · rw [iX6_put_k16, eX6_put_0_k16, if_pos a]
    exact ⟨τ 16 0, by rw [row_id]⟩
  by_cases b : k < 300
  · exact ⟨_, s6_put16 k v (by omega) b⟩
  rw [iX6_put_k16, eX6_put_0_k16, if_neg a, if_neg b]
  exact ⟨τ 16 0, by rw [row_id]⟩
theorem t6_at17 (τ : Sto) (k : Int) : ∃ v, inv N mX6_at [vR 17 0, vI k] (P τ) = some (some (vI v), P τ) := by
  by_cases a : 0 ≤ k ∧ k < 300
  · exact ⟨_, s6_at17 k a.1 a.2⟩
  · exact ⟨_, s6_atO17 k (by omega)⟩
theorem t6_put17 (τ : Sto) (k v : Int) : ∃ f, inv N mX6_put [vR 17 0, vI k, vI v] (P τ) = some (none, P (row τ 17 0 f)) := by
  by_cases a : k < 0
  · rw [iX6_put_k17, eX6_put_0_k17, if_pos a]
    exact ⟨τ 17 0, by rw [row_id]⟩
  by_cases b : k < 300
  · exact ⟨_, s6_put17 k v (by omega) b⟩
  rw [iX6_put_k17, eX6_put_0_k17, if_neg a, if_neg b]
  exact ⟨τ 17 0, by rw [row_id]⟩
theorem t6_at18 (τ : Sto) (k : Int) : ∃ v, inv N mX6_at [vR 18 0, vI k] (P τ) = some (some (vI v), P τ) := by
  by_cases a : 0 ≤ k ∧ k < 300
  · exact ⟨_, s6_at18 k a.1 a.2⟩
  · exact ⟨_, s6_atO18 k (by omega)⟩
theorem t6_put18 (τ : Sto) (k v : Int) : ∃ f, inv N mX6_put [vR 18 0, vI k, vI v] (P τ) = some (none, P (row τ 18 0 f)) := by
  by_cases a : k < 0
  · rw [iX6_put_k18, eX6_put_0_k18, if_pos a]
    exact ⟨τ 18 0, by rw [row_id]⟩
  by_cases b : k < 300
  · exact ⟨_, s6_put18 k v (by omega) b⟩
  rw [iX6_put_k18, eX6_put_0_k18, if_neg a, if_neg b]
  exact ⟨τ 18 0, by rw [row_id]⟩
theorem t6_at19 (τ : Sto) (k : Int) : ∃ v, inv N mX6_at [vR 19 0, vI k] (P τ) = some (some (vI v), P τ) := by
  by_cases a : 0 ≤ k ∧ k < 1024
  · exact ⟨_, s6_at19 k a.1 a.2⟩
  · exact ⟨_, s6_atO19 k (by omega)⟩
theorem t6_put19 (τ : Sto) (k v : Int) : ∃ f, inv N mX6_put [vR 19 0, vI k, vI v] (P τ) = some (none, P (row τ 19 0 f)) := by
  by_cases a : k < 0
  · rw [iX6_put_k19, eX6_put_0_k19, if_pos a]
    exact ⟨τ 19 0, by rw [row_id]⟩
  by_cases b : k < 1024
  · exact ⟨_, s6_put19 k v (by omega) b⟩
  rw [iX6_put_k19, eX6_put_0_k19, if_neg a, if_neg b]
  exact ⟨τ 19 0, by rw [row_id]⟩
theorem t6_at20 (τ : Sto) (k : Int) : ∃ v, inv N mX6_at [vR 20 0, vI k] (P τ) = some (some (vI v), P τ) := by
  by_cases a : 0 ≤ k ∧ k < 12
  · exact ⟨_, s6_at20 k a.1 a.2⟩
  · exact ⟨_, s6_atO20 k (by omega)⟩
theorem t6_put20 (τ : Sto) (k v : Int) : ∃ f, inv N mX6_put [vR 20 0, vI k, vI v] (P τ) = some (none, P (row τ 20 0 f)) := by
  by_cases a : k < 0
  · rw [iX6_put_k20, eX6_put_0_k20, if_pos a]
    exact ⟨τ 20 0, by rw [row_id]⟩
  by_cases b : k < 12
  · exact ⟨_, s6_put20 k v (by omega) b⟩
  rw [iX6_put_k20, eX6_put_0_k20, if_neg a, if_neg b]
  exact ⟨τ 20 0, by rw [row_id]⟩
theorem t6_at5 (τ : Sto) (k : Int) : ∃ v, inv N mX6_at [vR 5 1, vI k] (P τ) = some (some (vI v), P τ) := by
  by_cases a : 0 ≤ k ∧ k < 84
  · exact ⟨_, s6_at5 k a.1 a.2⟩
  · exact ⟨_, s6_atO5 k (by omega)⟩
theorem r_part (τ : Sto) (y s m : Int) : inv N mX5_part [vJ y, vI s, vI m] (P τ) = some (some (vI (bAnd (w32 (shr64 y s)) m)), P τ) := by
  rw [iX5_part, eX5_part_0]
theorem r_isThere (τ : Sto) (v : Int) : ∃ u, inv N mX5_isThere [vR 14 0, vI v] (P τ) = some (some (vI u), P τ) := by
  obtain ⟨a, ea⟩ := t2_cell (N := N) 4 τ 78
  obtain ⟨b, eb⟩ := t2_cell (N := N) 4 τ 80
  obtain ⟨c, ec⟩ := t2_version (N := N) 4 τ a
  rw [iX5_isThere, eX5_isThere_0, ea, bnd_s, push_s, eX5_isThere_4, s8_isSlot, bnd_s, push_s, eX5_isThere_7]
  by_cases q : a = 0 ∨ a = 1
  · rw [if_pos q, if_neg (by decide), eb, bnd_s, push_s, eX5_isThere_12]
    by_cases w : b = 1
    · rw [if_pos w, ec, bnd_s, push_s, eX5_isThere_18]
      by_cases z : c = v
      · rw [if_pos z]; exact ⟨_, rfl⟩
      · rw [if_neg z]; exact ⟨_, rfl⟩
    · rw [if_neg w]; exact ⟨_, rfl⟩
  · rw [if_neg q, if_pos rfl]; exact ⟨_, rfl⟩
theorem r_pack (h : RtT σ τ) (a b : Int) : ∃ v τ', inv N mX5_pack [vR 14 0, vI a, vI b] (P τ) = some (some (vJ v), P τ') ∧ RtT σ τ' := by
  have rf := p2_readFlags (N := N) (i := 4) (σ := τ) (x := (τ 7 4, τ 6 4)) h.2.1
  rw [putC_id] at rf
  have h2 : RtT σ (putC τ 4 (readFlC (τ 7 4, τ 6 4))) := RtT_put h _ h.2.1 h.2.2.1 h.2.2.2
  generalize putC τ 4 (readFlC (τ 7 4, τ 6 4)) = υ at rf h2
  obtain ⟨c, ec⟩ := t2_cell (N := N) 4 υ 78
  obtain ⟨d, ed⟩ := t2_cell (N := N) 4 υ 80
  obtain ⟨e, ee⟩ := t2_cell (N := N) 4 υ 76
  obtain ⟨f, ef⟩ := t2_cell (N := N) 4 υ 77
  have rest : ∀ x3 x4 y1, ∃ v, bnd (inv N mX2_slotFlags [vR 6 4, vI 0] (P υ)) (fun r S2 => ev N mX5_pack 28 [vR 14 0, vI a, vI b, vI x3, vJ x4, vX] (push r [vI y1]) S2) = some (some (vJ v), P υ) := by
    intro x3 x4 y1
    rw [s2_slotFlags, bnd_s, push_s, eX5_pack_28, s2_slotFlags, bnd_s, push_s, eX5_pack_35, ee, bnd_s, push_s, eX5_pack_57, ef, bnd_s, push_s, eX5_pack_65]
    exact ⟨_, rfl⟩
  rw [iX5_pack, eX5_pack_0, rf, bnd_s, push_n, eX5_pack_3, ec, bnd_s, push_s, eX5_pack_7]
  by_cases q : c = -1
  · rw [if_pos q]
    obtain ⟨v, e⟩ := rest c 0 (bOr a (shl32 b 3))
    exact ⟨v, υ, e, h2⟩
  · rw [if_neg q, ed, bnd_s, push_s, eX5_pack_17]
    obtain ⟨v, e⟩ := rest c d (bOr a (shl32 b 3))
    exact ⟨v, υ, e, h2⟩
theorem r_addT (h : RtT σ τ) (y x3 x4 x5 x6 : Int) (x7 : MV) : ∃ v τ', ev N mX5_add 67 [vR 14 0, vJ y, vX, vI x3, vI x4, vI x5, vI x6, x7] [] (P τ) = some (some (vI v), P τ') ∧ RtT σ τ' := by
  obtain ⟨f, e1⟩ := t6_put17 (N := N) τ (τ 14 0 9) x4
  have h1 := RtT_row h 17 (by decide) f
  rw [eX5_add_67, e1, bnd_s, push_n, eX5_add_73]
  generalize row τ 17 0 f = υ at h1
  have rest : ∀ ρ, RtT σ ρ → ∃ v τ', ev N mX5_add 89 [vR 14 0, vJ y, vX, vI x3, vI x4, vI x5, vI x6, x7] [] (P ρ) = some (some (vI v), P τ') ∧ RtT σ τ' := by
    intro ρ hr
    have h3 := RtT_sup hr 14 (by decide) 9 (w32 (ρ 14 0 9 + 1))
    rw [eX5_add_89]
    generalize sup ρ 14 0 9 (w32 (ρ 14 0 9 + 1)) = ρ2 at h3
    obtain ⟨f, e⟩ := t6_put19 (N := N) ρ2 x5 (ρ2 14 0 9)
    rw [e, bnd_s, push_n, eX5_add_101]
    exact ⟨_, _, rfl, RtT_row h3 19 (by decide) f⟩
  by_cases q : υ 14 0 9 = 0
  · obtain ⟨f2, e2⟩ := t6_put18 (N := N) υ (υ 14 0 9) 0
    rw [if_pos q, e2, bnd_s, push_n]
    exact rest _ (RtT_row h1 18 (by decide) f2)
  · obtain ⟨d, e3⟩ := t6_at18 (N := N) υ x3
    obtain ⟨f2, e2⟩ := t6_put18 (N := N) υ (υ 14 0 9) (w32 (d + 1))
    rw [if_neg q, e3, bnd_s, push_s, eX5_add_86, e2, bnd_s, push_n]
    exact rest _ (RtT_row h1 18 (by decide) f2)
theorem r_addK (h : RtT σ τ) (y x3 x4 x5 x6 : Int) (x7 : MV) : ∃ v τ', (if τ 14 0 9 < 0 then some (some (vI 2), P τ) else if τ 14 0 9 < 300 then if τ 14 0 9 < 0 then none else if τ 14 0 9 < 300 then bnd (inv N mX6_put [vR 16 0, vI ((sup τ 15 0 (τ 14 0 9).toNat y) 14 0 9), vI x3] (P (sup τ 15 0 (τ 14 0 9).toNat y))) (fun r S2 => ev N mX5_add 67 [vR 14 0, vJ y, vX, vI x3, vI x4, vI x5, vI x6, x7] (push r []) S2) else none else some (some (vI 2), P τ)) = some (some (vI v), P τ') ∧ RtT σ τ' := by
  by_cases a : τ 14 0 9 < 0
  · rw [if_pos a]
    exact ⟨_, _, rfl, h⟩
  by_cases b : τ 14 0 9 < 300
  · rw [if_neg a, if_pos b, if_neg a, if_pos b]
    have h1 := RtT_sup h 15 (by decide) (τ 14 0 9).toNat y
    generalize sup τ 15 0 (τ 14 0 9).toNat y = υ at h1
    obtain ⟨f, e⟩ := t6_put16 (N := N) υ (υ 14 0 9) x3
    rw [e, bnd_s, push_n]
    exact r_addT (RtT_row h1 16 (by decide) f) y x3 x4 x5 x6 x7
  rw [if_neg a, if_neg b]
  exact ⟨_, _, rfl, h⟩
theorem r_addL (h : RtT σ τ) (y x3 x4 : Int) : ∀ (m k : Nat) (x5 : Int) (x7 : MV), k + m = 1024 → ∃ v τ', ev N mX5_add 9 [vR 14 0, vJ y, vX, vI x3, vI x4, vI x5, vI (k : Int), x7] [] (P τ) = some (some (vI v), P τ') ∧ RtT σ τ' := by
  intro m
  induction m with
  | zero =>
    intro k x5 x7 hk
    rw [eX5_add_9, if_neg (show ¬ (k : Int) < 1024 by omega)]
    exact r_addK h y x3 x4 x5 k x7
  | succ m ih =>
    intro k x5 x7 hk
    obtain ⟨u, eu⟩ := t6_at19 (N := N) τ x5
    have e1 : w32 ((k : Int) + 1) = ((k + 1 : Nat) : Int) := by rw [w32i (by omega) (by omega)]; omega
    rw [eX5_add_9, if_pos (show (k : Int) < 1024 by omega), eu, bnd_s, push_s, eX5_add_16, e1]
    generalize w32 (u - 1) = z
    have kk : k + 1 + m = 1024 := by omega
    by_cases a : z < 0
    · rw [if_pos a]
      exact r_addK h y x3 x4 x5 k (vI z)
    by_cases b : z < 300
    · rw [if_neg a, if_pos b, if_neg a, if_pos b]
      by_cases c : τ 15 0 z.toNat < y
      · rw [if_pos c]
        exact ih (k + 1) _ _ kk
      by_cases d : τ 15 0 z.toNat = y
      · rw [if_neg c, if_pos d]
        exact ⟨_, _, rfl, h⟩
      rw [if_neg c, if_neg d]
      exact ih (k + 1) _ _ kk
    rw [if_neg a, if_neg b]
    exact r_addK h y x3 x4 x5 k (vI z)
theorem r_add (h : RtT σ τ) (y x3 x4 : Int) : ∃ v τ', inv N mX5_add [vR 14 0, vJ y, vI x3, vI x4] (P τ) = some (some (vI v), P τ') ∧ RtT σ τ' := by
  rw [iX5_add, eX5_add_0]
  exact r_addL h y x3 x4 1024 0 _ vX rfl
theorem r_img (hg : OKG τ 1) (hc : OKC x.1) (s : Nat) (hs : s < 4) (im : Int) (h0 : 0 ≤ im) (h1 : im < 7) : ∃ c, inv N mX2_putImage [vR 6 4, vI (s : Int), vI im] (P (putC τ 4 x)) = some (none, P (putC τ 4 (c, x.2))) ∧ OKC c ∧ c 82 = x.1 82 := by
  by_cases q : im < 6
  · have e := s2_putImage (N := N) (σ := putC τ 4 x) 4 s im.toNat hs (by omega)
    rw [putC_7, row_putC7, putC_o _ _ _ _ (by decide) (by decide), Int.toNat_of_nonneg h0] at e
    have o := okc_img hc hg.2.2.2.2.2.2.2.2.2.2.2.2 im.toNat s (by omega) hs
    exact ⟨_, e, o.1, o.2⟩
  · have e : im = 6 := by omega
    subst e
    refine ⟨x.1, ?_, hc, rfl⟩
    have e2 : w32 ((s : Int) * 14) = ((14 * s : Nat) : Int) := by rw [w32i (by omega) (by omega)]; omega
    have w1 : w32 (84 - 14) = 70 := rfl
    have w2 : w32 (6 * 14) = 84 := rfl
    rw [iX2_putImage, eX2_putImage_0, iX6_copy_k5_k7, eX6_copy_0_k5_k7, e2, w1, w2, if_neg (by decide), if_neg (by decide), if_neg (by omega), if_pos (by decide), bnd_s, push_n, eX2_putImage_13]
theorem r_clear : ∀ (m k : Nat) (x : XP) (a b c d : Int), k + m = 72 → 56 ≤ k → OKC x.1 → ∃ v, ev N mX2_putFlags 8 [vR 6 4, vI a, vI b, vI c, vI d, vI (k : Int)] [] (P (putC τ 4 x)) = ev N mX2_putFlags 8 [vR 6 4, vI a, vI b, vI c, vI d, vI 72] [] (P (putC τ 4 (v, x.2))) ∧ OKC v ∧ v 82 = x.1 82 := by
  intro m
  induction m with
  | zero =>
    intro k x a b c d hk _ hc
    have e : k = 72 := by omega
    subst e
    exact ⟨x.1, rfl, hc, rfl⟩
  | succ m ih =>
    intro k x a b c d hk h56 hc
    have e1 : w32 ((k : Int) + 1) = ((k + 1 : Nat) : Int) := by rw [w32i (by omega) (by omega)]; omega
    have sc := p2_setCell (N := N) (i := 4) (σ := τ) (x := x) (k : Int) 255 (by omega) (by omega)
    have o := okc_page (a := k) (n := 1) (v := 255) hc h56 (by omega) (by decide)
    rw [fill_1] at o
    rw [Int.toNat_natCast] at sc
    obtain ⟨v, v1, v2, v3⟩ := ih (k + 1) (set x.1 k 255, x.2) a b c d (by omega) (by omega) o
    refine ⟨v, ?_, v2, v3.trans (set_ne _ _ (by omega))⟩
    rw [eX2_putFlags_8, if_pos (show (k : Int) < 72 by omega), sc, bnd_s, push_n, eX2_putFlags_15, e1]
    exact v1
theorem r_putFlags (hc : OKC x.1) (a b c d : Int) (ha : 0 ≤ a ∧ a < 256) (hb : 0 ≤ b ∧ b < 256) (hcc : 0 ≤ c ∧ c < 256) (hd : 0 ≤ d ∧ d < 256) : ∃ y, inv N mX2_putFlags [vR 6 4, vI a, vI b, vI c, vI d] (P (putC τ 4 x)) = some (none, P (putC τ 4 y)) ∧ OKC y.1 ∧ y.1 82 = x.1 82 := by
  have tf : inv N mX2_takeFlags [vR 6 4, vI a, vI b, vI c, vI d] (P (putC τ 4 x)) = some (none, P (putC τ 4 (x.1, set (set (set (set x.2 2 a) 3 b) 4 c) 5 d))) := by
    rw [iX2_takeFlags, eX2_takeFlags_0]
    simp only [sup_row, putC_6, row_putC6]
  obtain ⟨v, v1, v2, v3⟩ := r_clear (N := N) (τ := τ) 16 56 (x.1, set (set (set (set x.2 2 a) 3 b) 4 c) 5 d) a b c d rfl (by decide) hc
  have s1 : sup (sup (putC τ 4 (v, set (set (set (set x.2 2 a) 3 b) 4 c) 5 d)) 6 4 6 (-1)) 6 4 7 (-1) = putC τ 4 (v, set (set (set (set (set (set x.2 2 a) 3 b) 4 c) 5 d) 6 (-1)) 7 (-1)) := by
    simp only [sup_row, putC_6, row_putC6]
  have ox : OKX (v, set (set (set (set (set (set x.2 2 a) 3 b) 4 c) 5 d) 6 (-1)) 7 (-1)) := by
    refine ⟨v2, ?_, ?_, ?_, ?_, Or.inl ?_⟩
    · show 0 ≤ set (set (set (set (set (set x.2 2 a) 3 b) 4 c) 5 d) 6 (-1)) 7 (-1) 2 ∧ set (set (set (set (set (set x.2 2 a) 3 b) 4 c) 5 d) 6 (-1)) 7 (-1) 2 < 256
      rw [set_ne _ _ (by decide), set_ne _ _ (by decide), set_ne _ _ (by decide), set_ne _ _ (by decide), set_ne _ _ (by decide), set_same]
      exact ha
    · show 0 ≤ set (set (set (set (set (set x.2 2 a) 3 b) 4 c) 5 d) 6 (-1)) 7 (-1) 3 ∧ set (set (set (set (set (set x.2 2 a) 3 b) 4 c) 5 d) 6 (-1)) 7 (-1) 3 < 256
      rw [set_ne _ _ (by decide), set_ne _ _ (by decide), set_ne _ _ (by decide), set_ne _ _ (by decide), set_same]
      exact hb
    · show 0 ≤ set (set (set (set (set (set x.2 2 a) 3 b) 4 c) 5 d) 6 (-1)) 7 (-1) 4 ∧ set (set (set (set (set (set x.2 2 a) 3 b) 4 c) 5 d) 6 (-1)) 7 (-1) 4 < 256
      rw [set_ne _ _ (by decide), set_ne _ _ (by decide), set_ne _ _ (by decide), set_same]
      exact hcc
    · show 0 ≤ set (set (set (set (set (set x.2 2 a) 3 b) 4 c) 5 d) 6 (-1)) 7 (-1) 5 ∧ set (set (set (set (set (set x.2 2 a) 3 b) 4 c) 5 d) 6 (-1)) 7 (-1) 5 < 256
      rw [set_ne _ _ (by decide), set_ne _ _ (by decide), set_same]
      exact hd
    · show set (set (set (set (set (set x.2 2 a) 3 b) 4 c) 5 d) 6 (-1)) 7 (-1) 6 = -1
      rw [set_ne _ _ (by decide), set_same]
  generalize set (set (set (set (set (set x.2 2 a) 3 b) 4 c) 5 d) 6 (-1)) 7 (-1) = g at s1 ox
  have wf := p2_writeFlags (N := N) (i := 4) (σ := τ) (x := (v, g)) ox
  have w2 := (writeFlagsC_ok ox).1
  have w3 := writeFlagsC_at (v, g) (j := 82) (Or.inr (by decide))
  generalize writeFlagsC (v, g) = y at wf w2 w3
  refine ⟨y, ?_, w2, w3.trans v3⟩
  have e56 : ((56 : Nat) : Int) = 56 := rfl
  rw [e56] at v1
  rw [iX2_putFlags, eX2_putFlags_0, tf, bnd_s, push_n, eX2_putFlags_6, v1, eX2_putFlags_8, if_neg (by decide), s1, wf, bnd_s, push_n, eX2_putFlags_25]
theorem m_31 (z : Int) : bAnd z 31 = z % 32 := bAnd_mod z 5 (by omega)
theorem m_3 (z : Int) : bAnd z 3 = z % 4 := bAnd_mod z 2 (by omega)
theorem r_un1 (hg : OKG τ 1) (hc : OKC x.1) (y : Int) (s : Nat) (hs : s < 2) (z : MV) : ∃ v z', ev N mX5_unpack 7 [vR 14 0, vJ y, vX, vI (s : Int), z] [] (P (putC τ 4 x)) = ev N mX5_unpack 7 [vR 14 0, vJ y, vX, vI ((s + 1 : Nat) : Int), z'] [] (P (putC τ 4 (v, x.2))) ∧ OKC v ∧ v 82 = x.1 82 := by
  have e1 : w32 ((s : Int) + 1) = ((s + 1 : Nat) : Int) := by rw [w32i (by omega) (by omega)]; omega
  rw [eX5_unpack_7, if_pos (show (s : Int) < 2 by omega), r_part, bAnd_7, bnd_s, push_s, eX5_unpack_16]
  have b0 : 0 ≤ w32 (shr64 y (w32 (3 * (s : Int)))) % 8 ∧ w32 (shr64 y (w32 (3 * (s : Int)))) % 8 < 8 := by omega
  generalize w32 (shr64 y (w32 (3 * (s : Int)))) % 8 = t at b0
  by_cases q : 0 < t
  · have e2 : w32 (t - 1) = t - 1 := w32i (by omega) (by omega)
    obtain ⟨v, v1, v2, v3⟩ := r_img (N := N) (τ := τ) (x := x) hg hc s (by omega) (t - 1) (by omega) (by omega)
    rw [if_pos q, e2, v1, bnd_s, push_n, eX5_unpack_26, e1]
    exact ⟨v, _, rfl, v2, v3⟩
  · rw [if_neg q, eX5_unpack_26, e1]
    exact ⟨x.1, _, rfl, hc, rfl⟩
theorem set4 (c : Vec) (a b e f : Int) : set (set (set (set c 76 a) 77 b) 78 e) 80 f 82 = c 82 ∧ set (set (set (set c 76 a) 77 b) 78 e) 80 f 78 = e := by
  constructor
  · rw [set_ne _ _ (by decide), set_ne _ _ (by decide), set_ne _ _ (by decide), set_ne _ _ (by decide)]
  · rw [set_ne _ _ (by decide), set_same]
theorem r_unpack (h : RtT σ τ) (hg : OKG σ 1) (hc : OKC (σ 7 0)) (y : Int) : ∃ v, inv N mX5_unpack [vR 14 0, vJ y] (P τ) = some (none, P (putC τ 4 v)) ∧ OKC v.1 ∧ v.1 82 = σ 7 0 82 ∧ v.1 78 = w32 (bAnd (w32 (shr64 y 49)) 3 - 1) := by
  have gt := RtT_G h hg
  have ct := p2_take (N := N) (i := 4) (b := τ) (x := (τ 7 4, τ 6 4)) 0 (by decide)
  rw [putC_id, RtT_7 h] at ct
  have oc : OKC (cpyV (σ 7 0) (τ 7 4) 0 0 107) := OKC_107 hc (fun j hj => cpy_all _ _ hj)
  have o82 : cpyV (σ 7 0) (τ 7 4) 0 0 107 82 = σ 7 0 82 := cpy_all _ _ (by decide)
  change inv N mX2_takeFrom [vR 6 4, vR 6 0] (P τ) = some (none, P (putC τ 4 (cpyV (σ 7 0) (τ 7 4) 0 0 107, τ 6 4))) at ct
  generalize cpyV (σ 7 0) (τ 7 4) 0 0 107 = c at ct oc o82
  obtain ⟨c1, z1, a1, a2, a3⟩ := r_un1 (N := N) (τ := τ) (x := (c, τ 6 4)) gt oc y 0 (by decide) vX
  obtain ⟨c2, z2, b1, b2, b3⟩ := r_un1 (N := N) (τ := τ) (x := (c1, τ 6 4)) gt a2 y 1 (by decide) z1
  have e0 : ((0 : Nat) : Int) = 0 := rfl
  rw [e0] at a1
  have f6 := Int.emod_nonneg (w32 (shr64 y 6)) (show (256 : Int) ≠ 0 by decide)
  have f6' := Int.emod_lt_of_pos (w32 (shr64 y 6)) (show (0 : Int) < 256 by decide)
  have f14 := Int.emod_nonneg (w32 (shr64 y 14)) (show (256 : Int) ≠ 0 by decide)
  have f14' := Int.emod_lt_of_pos (w32 (shr64 y 14)) (show (0 : Int) < 256 by decide)
  have f22 := Int.emod_nonneg (w32 (shr64 y 22)) (show (256 : Int) ≠ 0 by decide)
  have f22' := Int.emod_lt_of_pos (w32 (shr64 y 22)) (show (0 : Int) < 256 by decide)
  have f30 := Int.emod_nonneg (w32 (shr64 y 30)) (show (256 : Int) ≠ 0 by decide)
  have f30' := Int.emod_lt_of_pos (w32 (shr64 y 30)) (show (0 : Int) < 256 by decide)
  obtain ⟨d, d1, d2, d3⟩ := r_putFlags (N := N) (τ := τ) (x := (c2, τ 6 4)) b2 (w32 (shr64 y 6) % 256) (w32 (shr64 y 14) % 256) (w32 (shr64 y 22) % 256) (w32 (shr64 y 30) % 256) ⟨f6, f6'⟩ ⟨f14, f14'⟩ ⟨f22, f22'⟩ ⟨f30, f30'⟩
  have g38 := Int.emod_nonneg (w32 (shr64 y 38)) (show (32 : Int) ≠ 0 by decide)
  have g38' := Int.emod_lt_of_pos (w32 (shr64 y 38)) (show (0 : Int) < 32 by decide)
  have g43 := Int.emod_nonneg (w32 (shr64 y 43)) (show (64 : Int) ≠ 0 by decide)
  have g43' := Int.emod_lt_of_pos (w32 (shr64 y 43)) (show (0 : Int) < 64 by decide)
  have g49 := Int.emod_nonneg (w32 (shr64 y 49)) (show (4 : Int) ≠ 0 by decide)
  have g49' := Int.emod_lt_of_pos (w32 (shr64 y 49)) (show (0 : Int) < 4 by decide)
  have m51 : bAnd (w32 (shr64 y 51)) 1 = bAnd (w32 (shr64 y 51)) 1 := rfl
  have s76 := p2_setCell (N := N) (i := 4) (σ := τ) (x := d) 76 (w32 (shr64 y 38) % 32) (by decide) (by decide)
  have s77 := p2_setCell (N := N) (i := 4) (σ := τ) (x := (set d.1 76 (w32 (shr64 y 38) % 32), d.2)) 77 (w32 (shr64 y 43) % 64) (by decide) (by decide)
  have s78 := p2_setCell (N := N) (i := 4) (σ := τ) (x := (set (set d.1 76 (w32 (shr64 y 38) % 32)) 77 (w32 (shr64 y 43) % 64), d.2)) 78 (w32 (w32 (shr64 y 49) % 4 - 1)) (by decide) (by decide)
  have s80 := p2_setCell (N := N) (i := 4) (σ := τ) (x := (set (set (set d.1 76 (w32 (shr64 y 38) % 32)) 77 (w32 (shr64 y 43) % 64)) 78 (w32 (w32 (shr64 y 49) % 4 - 1)), d.2)) 80 (bAnd (w32 (shr64 y 51)) 1) (by decide) (by decide)
  have w78 : w32 (w32 (shr64 y 49) % 4 - 1) = w32 (shr64 y 49) % 4 - 1 := w32i (by omega) (by omega)
  refine ⟨(set (set (set (set d.1 76 (w32 (shr64 y 38) % 32)) 77 (w32 (shr64 y 43) % 64)) 78 (w32 (w32 (shr64 y 49) % 4 - 1))) 80 (bAnd (w32 (shr64 y 51)) 1), d.2), ?_, ?_, ?_, ?_⟩
  · rw [iX5_unpack, eX5_unpack_0, ct, bnd_s, push_n, eX5_unpack_5, a1]
    rw [show ((0 + 1 : Nat) : Int) = ((1 : Nat) : Int) from rfl, b1]
    rw [eX5_unpack_7, if_neg (by decide), r_part, bAnd_255, bnd_s, push_s, eX5_unpack_34, r_part, bAnd_255, bnd_s, push_s, eX5_unpack_38, r_part, bAnd_255, bnd_s, push_s, eX5_unpack_42, r_part, bAnd_255, bnd_s, push_s, eX5_unpack_46, d1, bnd_s, push_n, eX5_unpack_47, r_part, m_31, bnd_s, push_s, eX5_unpack_54, s76, bnd_s, push_n, eX5_unpack_55, r_part, bAnd_63, bnd_s, push_s, eX5_unpack_62]
    rw [show (76 : Int).toNat = 76 from rfl, s77, bnd_s, push_n, eX5_unpack_63, r_part, m_3, bnd_s, push_s, eX5_unpack_70, show (77 : Int).toNat = 77 from rfl, s78, bnd_s, push_n, eX5_unpack_73, r_part, bnd_s, push_s, eX5_unpack_80, show (78 : Int).toNat = 78 from rfl, s80, bnd_s, push_n, eX5_unpack_81]
    rfl
  · exact okc_set (okc_set (okc_set (okc_set d2 (by decide) (fun _ => by omega) (fun z => absurd z (by decide)) (fun z => absurd z (by decide))) (by decide) (fun z => absurd z (by decide)) (fun _ => by omega) (fun z => absurd z (by decide))) (by decide) (fun z => absurd z (by decide)) (fun z => absurd z (by decide)) (fun _ => by omega)) (by decide) (fun z => absurd z (by decide)) (fun z => absurd z (by decide)) (fun z => absurd z (by decide))
  · exact (set4 d.1 (w32 (shr64 y 38) % 32) (w32 (shr64 y 43) % 64) (w32 (w32 (shr64 y 49) % 4 - 1)) (bAnd (w32 (shr64 y 51)) 1)).1.trans (d3.trans (b3.trans (a3.trans o82)))
  · rw [m_3]
    exact (set4 d.1 (w32 (shr64 y 38) % 32) (w32 (shr64 y 43) % 64) (w32 (w32 (shr64 y 49) % 4 - 1)) (bAnd (w32 (shr64 y 51)) 1)).2
end ROUTE
