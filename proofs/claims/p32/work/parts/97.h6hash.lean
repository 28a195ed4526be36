/-! ROUTE, the class's stands that are kept: where they are found again -/
/-- how many of the first are not 0 -/
def cnz (f : Vec) : Nat → Nat
  | 0 => 0
  | n + 1 => cnz f n + if f n = 0 then 0 else 1
theorem cnz_all (f : Vec) : ∀ n, (∀ p, p < n → f p ≠ 0) → cnz f n = n
  | 0, _ => rfl
  | n + 1, h => by
    show cnz f n + (if f n = 0 then 0 else 1) = n + 1
    rw [cnz_all f n (fun p hp => h p (by omega)), if_neg (h n (by omega))]
theorem cnz_set (f : Vec) (p : Nat) (v : Int) : ∀ n, cnz (set f p v) n ≤ cnz f n + (if p < n then 1 else 0)
  | 0 => Nat.zero_le _
  | n + 1 => by
    have t := cnz_set f p v n
    show cnz (set f p v) n + (if set f p v n = 0 then 0 else 1) ≤ cnz f n + (if f n = 0 then 0 else 1) + (if p < n + 1 then 1 else 0)
    by_cases q : n = p
    · rw [if_neg (show ¬ p < n by omega)] at t
      rw [if_pos (show p < n + 1 by omega)]
      have a : (if set f p v n = 0 then 0 else 1) ≤ 1 := by split <;> omega
      omega
    · rw [set_ne _ _ q]
      by_cases z : p < n
      · rw [if_pos z] at t
        rw [if_pos (show p < n + 1 by omega)]
        omega
      · rw [if_neg z] at t
        rw [if_neg (show ¬ p < n + 1 by omega)]
        omega
/-- each stand is found from its place on, ahead of an empty one -/
def HT (f z : Vec) (many : Nat) : Prop := (∀ p, p < 1024 → 0 ≤ f p ∧ f p ≤ many) ∧ (∀ s : Nat, s < many → ∃ d, d < 1024 ∧ f (((HSH (z s)).toNat + d) % 1024) = (s : Int) + 1 ∧ ∀ e, e < d → f (((HSH (z s)).toNat + e) % 1024) ≠ 0) ∧ cnz f 1024 ≤ many
theorem HT_0 {f z : Vec} (h : ∀ p, p < 1024 → f p = 0) : HT f z 0 := by
  refine ⟨fun p hp => by rw [h p hp]; omega, fun s hs => absurd hs (by omega), ?_⟩
  have t : ∀ n, n ≤ 1024 → cnz f n = 0 := by
    intro n
    induction n with
    | zero => intro _; rfl
    | succ n ih =>
      intro hn
      show cnz f n + (if f n = 0 then 0 else 1) = 0
      rw [ih (by omega), if_pos (h n (by omega))]
  rw [t 1024 (Nat.le_refl _)]
  exact Nat.le_refl _
/-- an empty place is come to -/
theorem HT_free {f z : Vec} {many : Nat} (h : HT f z many) (hm : many ≤ 300) (a : Nat) (ha : a < 1024) (hn : ∀ e, e < 1024 → f ((a + e) % 1024) ≠ 0) : False := by
  have t := cnz_all f 1024 (fun p hp => by
    have q := hn ((p + 1024 - a) % 1024) (by omega)
    rw [show (a + (p + 1024 - a) % 1024) % 1024 = p by omega] at q
    exact q)
  have u := h.2.2
  omega
theorem HT_new {f z : Vec} {many : Nat} (h : HT f z many) (y : Int) (k : Nat) (hk : k < 1024) (h0 : f (((HSH y).toNat + k) % 1024) = 0) (hn : ∀ e, e < k → f (((HSH y).toNat + e) % 1024) ≠ 0) : HT (set f (((HSH y).toNat + k) % 1024) ((many : Int) + 1)) (set z many y) (many + 1) := by
  obtain ⟨h1, h2, h3⟩ := h
  have pl : ((HSH y).toNat + k) % 1024 < 1024 := Nat.mod_lt _ (by decide)
  generalize hp : ((HSH y).toNat + k) % 1024 = p at h0 pl
  have nz : ∀ q, f q ≠ 0 → set f p ((many : Int) + 1) q ≠ 0 := by
    intro q hq
    by_cases e : q = p
    · rw [e, set_same]; omega
    · rw [set_ne _ _ e]; exact hq
  refine ⟨fun q hq => ?_, fun s hs => ?_, ?_⟩
  · by_cases e : q = p
    · rw [e, set_same]; omega
    · rw [set_ne _ _ e]
      have := h1 q hq
      omega
  · by_cases e : s = many
    · rw [e, set_same]
      refine ⟨k, hk, ?_, fun e he => nz _ (hn e he)⟩
      rw [hp, set_same]
    · rw [set_ne _ _ e]
      obtain ⟨d, d1, d2, d3⟩ := h2 s (by omega)
      refine ⟨d, d1, ?_, fun e he => nz _ (d3 e he)⟩
      rw [set_ne _ _ (fun q => by rw [q, h0] at d2; omega)]
      exact d2
  · have t := cnz_set f p ((many : Int) + 1) 1024
    rw [if_pos pl] at t
    omega
section ROUTE
variable {N : Nat} {σ τ : Sto} {x : XP}
/-- the tail of ADD -/
noncomputable def addT (N : Nat) (τ : Sto) (y x3 x4 x5 x6 : Int) (x7 : MV) : Option (Option MV × MS) := if τ 14 0 9 < 0 then some (some (vI 2), P τ) else if τ 14 0 9 < 300 then if τ 14 0 9 < 0 then none else if τ 14 0 9 < 300 then bnd (inv N mX6_put [vR 16 0, vI ((sup τ 15 0 (τ 14 0 9).toNat y) 14 0 9), vI x3] (P (sup τ 15 0 (τ 14 0 9).toNat y))) (fun r S2 => ev N mX5_add 67 [vR 14 0, vJ y, vX, vI x3, vI x4, vI x5, vI x6, x7] (push r []) S2) else none else some (some (vI 2), P τ)
theorem ad_num {k p : Nat} (hk : k < 1024) (hp : p < 1024) : (k : Int) < 1024 ∧ w32 ((k : Int) + 1) = ((k + 1 : Nat) : Int) ∧ bAnd (w32 ((p : Int) + 1)) 1023 = (((p + 1) % 1024 : Nat) : Int) := by
  refine ⟨by omega, by rw [w32i (by omega) (by omega)]; omega, ?_⟩
  have t : bAnd (w32 ((p : Int) + 1)) 1023 = w32 ((p : Int) + 1) % 1024 := bAnd_mod (w32 ((p : Int) + 1)) 10 (by decide)
  rw [t, w32i (by omega) (by omega)]
  omega
theorem ad_u {u : Int} {many : Nat} (hm : many ≤ 300) (h : 0 ≤ u ∧ u ≤ many) : w32 (u - 1) = u - 1 ∧ (u - 1 < 0 → u = 0) ∧ (¬ u - 1 < 0 → u - 1 < 300 ∧ ∃ s : Nat, u - 1 = (s : Int) ∧ s < many ∧ u = (s : Int) + 1) := by
  refine ⟨w32i (by omega) (by omega), fun _ => by omega, fun z => ⟨by omega, (u - 1).toNat, by omega, by omega, by omega⟩⟩
theorem ad_one {s t : Nat} (h : (s : Int) + 1 = (t : Int) + 1) : t = s := by omega
theorem ad_pos {s : Nat} (h : (s : Int) + 1 = 0) : False := by omega
theorem ad_lt {e k : Nat} (h : e < k + 1) (q : ¬ e = k) : e < k := by omega
theorem ad_mod {a k : Nat} : ((a + k) % 1024 + 1) % 1024 = (a + (k + 1)) % 1024 := by omega
/-- a place is looked at -/
def ADP (f z : Vec) (a k : Nat) (y : Int) : Prop := ∀ e, e < k → f ((a + e) % 1024) ≠ 0 ∧ ∀ s : Nat, f ((a + e) % 1024) = (s : Int) + 1 → z s ≠ y
theorem ADP_s {f z : Vec} {a k s : Nat} {y : Int} (h : ADP f z a k y) (u : f ((a + k) % 1024) = (s : Int) + 1) (hs : z s ≠ y) : ADP f z a (k + 1) y := by
  intro e he
  by_cases q : e = k
  · rw [q]
    refine ⟨fun w => ad_pos (u.symm.trans w), fun t ht => ?_⟩
    rw [ad_one (u.symm.trans ht)]
    exact hs
  · exact h e (ad_lt he q)
theorem ADP_free {f z : Vec} {a k many : Nat} {y : Int} (ht : HT f z many) (ha : (HSH y).toNat = a) (h : ADP f z a k y) (z0 : f ((a + k) % 1024) = 0) (s : Nat) (hs : s < many) : z s ≠ y := by
  intro hy
  obtain ⟨d, d1, d2, d3⟩ := ht.2.1 s hs
  rw [hy, ha] at d2 d3
  rcases Nat.lt_trichotomy d k with q | q | q
  · exact (h d q).2 s d2 hy
  · rw [q, z0] at d2
    exact ad_pos d2.symm
  · exact d3 k q z0
theorem r_addL2 (many : Nat) (hm : many ≤ 300) (ht : HT (τ 19 0) (τ 15 0) many) (y x3 x4 : Int) (a : Nat) (ha : (HSH y).toNat = a) (ha2 : a < 1024) : ∀ (m k : Nat) (x7 : MV), k + m = 1024 → ADP (τ 19 0) (τ 15 0) a k y → ((∃ s : Nat, s < many ∧ τ 15 0 s = y) ∧ ev N mX5_add 9 [vR 14 0, vJ y, vX, vI x3, vI x4, vI (((a + k) % 1024 : Nat) : Int), vI (k : Int), x7] [] (P τ) = some (some (vI 0), P τ)) ∨ (∃ (k' : Nat) (x7' : MV), k' < 1024 ∧ τ 19 0 ((a + k') % 1024) = 0 ∧ (∀ e, e < k' → τ 19 0 ((a + e) % 1024) ≠ 0) ∧ (∀ s : Nat, s < many → τ 15 0 s ≠ y) ∧ ev N mX5_add 9 [vR 14 0, vJ y, vX, vI x3, vI x4, vI (((a + k) % 1024 : Nat) : Int), vI (k : Int), x7] [] (P τ) = addT N τ y x3 x4 (((a + k') % 1024 : Nat) : Int) (k' : Int) x7') := by
  intro m
  induction m with
  | zero =>
    intro k x7 hk hp
    have e : k = 1024 := hk
    subst e
    exact (HT_free ht hm a ha2 (fun e he => (hp e he).1)).elim
  | succ m ih =>
    intro k x7 hk hp
    have kk : k + 1 + m = 1024 ∧ k < 1024 := by omega
    have pl : (a + k) % 1024 < 1024 := Nat.mod_lt _ (by decide)
    obtain ⟨n1, n2, n3⟩ := ad_num (p := (a + k) % 1024) kk.2 pl
    obtain ⟨u1, u2, u3⟩ := ad_u hm (ht.1 _ pl)
    have au := s6_at19 (N := N) (σ := τ) (((a + k) % 1024 : Nat) : Int) (Int.natCast_nonneg _) (Int.ofNat_lt.mpr pl)
    rw [Int.toNat_natCast] at au
    have ih' := fun x7 => ih (k + 1) x7 kk.1
    rw [← ad_mod] at ih'
    clear ih hk kk
    rw [eX5_add_9, if_pos n1, au, bnd_s, push_s, eX5_add_16, n2, n3, u1]
    by_cases q : τ 19 0 ((a + k) % 1024) - 1 < 0
    · have z0 := u2 q
      rw [if_pos q]
      exact Or.inr ⟨k, vI (τ 19 0 ((a + k) % 1024) - 1), Int.ofNat_lt.mp n1, z0, fun e he => (hp e he).1, ADP_free ht ha hp z0, rfl⟩
    obtain ⟨b, s, es, sm, up⟩ := u3 q
    rw [if_neg q, if_pos b, if_neg q, if_pos b, es, Int.toNat_natCast]
    by_cases d : τ 15 0 s = y
    · rw [if_neg (by rw [d]; exact Int.lt_irrefl y), if_pos d]
      exact Or.inl ⟨⟨s, sm, d⟩, rfl⟩
    · have go := ih' (vI (s : Int)) (ADP_s hp up d)
      by_cases c : τ 15 0 s < y
      · rw [if_pos c]
        exact go
      · rw [if_neg c, if_neg d]
        exact go
theorem r_addT2 (h : RtT σ τ) (many : Nat) (hm : many < 300) (h9 : τ 14 0 9 = (many : Int)) (y : Int) (x3 : Nat) (hx3 : x3 < 300) (x4 : Int) (hd : ¬ many = 0 → 0 ≤ τ 18 0 x3 ∧ τ 18 0 x3 < 1000) (p : Nat) (hp : p < 1024) (x6 : Int) (x7 : MV) : ∃ τ', addT N τ y (x3 : Int) x4 (p : Int) x6 x7 = some (some (vI 0), P τ') ∧ RtT σ τ' ∧ τ' 14 0 9 = ((many + 1 : Nat) : Int) ∧ τ' 15 0 = set (τ 15 0) many y ∧ τ' 16 0 = set (τ 16 0) many (x3 : Int) ∧ τ' 17 0 = set (τ 17 0) many x4 ∧ τ' 18 0 = set (τ 18 0) many (if many = 0 then 0 else τ 18 0 x3 + 1) ∧ τ' 19 0 = set (τ 19 0) p ((many : Int) + 1) ∧ τ' 20 0 = τ 20 0 := by
  have n0 : ¬ (many : Int) < 0 := by omega
  have n1 : (many : Int) < 300 := by omega
  have ew : w32 ((many : Int) + 1) = (many : Int) + 1 := w32i (by omega) (by omega)
  unfold addT
  rw [h9, if_neg n0, if_pos n1, if_neg n0, if_pos n1, Int.toNat_natCast]
  have q1 := RtT_sup h 15 (by decide) many y
  have f15 : sup τ 15 0 many y 15 0 = set (τ 15 0) many y := by rw [sup_row, row_same]
  have o15 : ∀ j, j ≠ 15 → sup τ 15 0 many y j 0 = τ j 0 := fun j hj => by rw [sup_row, row_at, if_neg (by omega)]
  generalize sup τ 15 0 many y = τ1 at q1 f15 o15
  have p16 := s6_put16 (N := N) (σ := τ1) (many : Int) (x3 : Int) (by omega) n1
  rw [Int.toNat_natCast, o15 16 (by decide)] at p16
  rw [o15 14 (by decide), h9, p16, bnd_s, push_n]
  have q2 := RtT_row q1 16 (by decide) (set (τ 16 0) many (x3 : Int))
  have f16 : row τ1 16 0 (set (τ 16 0) many (x3 : Int)) 16 0 = set (τ 16 0) many (x3 : Int) := row_same _ _ _ _
  have g15 : row τ1 16 0 (set (τ 16 0) many (x3 : Int)) 15 0 = set (τ 15 0) many y := by rw [row_at, if_neg (by decide), f15]
  have o16 : ∀ j, j ≠ 15 → j ≠ 16 → row τ1 16 0 (set (τ 16 0) many (x3 : Int)) j 0 = τ j 0 := fun j h1 h2 => by rw [row_at, if_neg (by omega), o15 j h1]
  generalize row τ1 16 0 (set (τ 16 0) many (x3 : Int)) = τ2 at q2 f16 g15 o16
  have p17 := s6_put17 (N := N) (σ := τ2) (many : Int) x4 (by omega) n1
  rw [Int.toNat_natCast, o16 17 (by decide) (by decide)] at p17
  rw [eX5_add_67, o16 14 (by decide) (by decide), h9, p17, bnd_s, push_n]
  have q3 := RtT_row q2 17 (by decide) (set (τ 17 0) many x4)
  have f17 : row τ2 17 0 (set (τ 17 0) many x4) 17 0 = set (τ 17 0) many x4 := row_same _ _ _ _
  have h15 : row τ2 17 0 (set (τ 17 0) many x4) 15 0 = set (τ 15 0) many y := by rw [row_at, if_neg (by decide), g15]
  have h16 : row τ2 17 0 (set (τ 17 0) many x4) 16 0 = set (τ 16 0) many (x3 : Int) := by rw [row_at, if_neg (by decide), f16]
  have o17 : ∀ j, j ≠ 15 → j ≠ 16 → j ≠ 17 → row τ2 17 0 (set (τ 17 0) many x4) j 0 = τ j 0 := fun j h1 h2 h3 => by rw [row_at, if_neg (by omega), o16 j h1 h2]
  generalize row τ2 17 0 (set (τ 17 0) many x4) = τ3 at q3 f17 h15 h16 o17
  have rest : ∀ w : Int, w = (if many = 0 then 0 else τ 18 0 x3 + 1) → ∃ τ', ev N mX5_add 89 [vR 14 0, vJ y, vX, vI (x3 : Int), vI x4, vI (p : Int), vI x6, x7] [] (P (row τ3 18 0 (set (τ 18 0) many w))) = some (some (vI 0), P τ') ∧ RtT σ τ' ∧ τ' 14 0 9 = ((many + 1 : Nat) : Int) ∧ τ' 15 0 = set (τ 15 0) many y ∧ τ' 16 0 = set (τ 16 0) many (x3 : Int) ∧ τ' 17 0 = set (τ 17 0) many x4 ∧ τ' 18 0 = set (τ 18 0) many (if many = 0 then 0 else τ 18 0 x3 + 1) ∧ τ' 19 0 = set (τ 19 0) p ((many : Int) + 1) ∧ τ' 20 0 = τ 20 0 := by
    intro w hw
    have q4 := RtT_row q3 18 (by decide) (set (τ 18 0) many w)
    have k18 : row τ3 18 0 (set (τ 18 0) many w) 18 0 = set (τ 18 0) many w := row_same _ _ _ _
    have k15 : row τ3 18 0 (set (τ 18 0) many w) 15 0 = set (τ 15 0) many y := by rw [row_at, if_neg (by decide), h15]
    have k16 : row τ3 18 0 (set (τ 18 0) many w) 16 0 = set (τ 16 0) many (x3 : Int) := by rw [row_at, if_neg (by decide), h16]
    have k17 : row τ3 18 0 (set (τ 18 0) many w) 17 0 = set (τ 17 0) many x4 := by rw [row_at, if_neg (by decide), f17]
    have o18 : ∀ j, j ≠ 15 → j ≠ 16 → j ≠ 17 → j ≠ 18 → row τ3 18 0 (set (τ 18 0) many w) j 0 = τ j 0 := fun j h1 h2 h3 h4 => by rw [row_at, if_neg (by omega), o17 j h1 h2 h3]
    generalize row τ3 18 0 (set (τ 18 0) many w) = τ4 at q4 k18 k15 k16 k17 o18
    have q5 := RtT_sup q4 14 (by decide) 9 ((many : Int) + 1)
    have l14 : sup τ4 14 0 9 ((many : Int) + 1) 14 0 9 = (many : Int) + 1 := by rw [sup_row, row_same, set_same]
    have ol : ∀ j, j ≠ 14 → sup τ4 14 0 9 ((many : Int) + 1) j 0 = τ4 j 0 := fun j hj => by rw [sup_row, row_at, if_neg (by omega)]
    rw [eX5_add_89, o18 14 (by decide) (by decide) (by decide) (by decide), h9, ew]
    generalize sup τ4 14 0 9 ((many : Int) + 1) = τ5 at q5 l14 ol
    have p19 := s6_put19 (N := N) (σ := τ5) (p : Int) ((many : Int) + 1) (by omega) (by omega)
    rw [Int.toNat_natCast, ol 19 (by decide), o18 19 (by decide) (by decide) (by decide) (by decide)] at p19
    rw [l14, p19, bnd_s, push_n, eX5_add_101]
    have r := fun (j : Nat) (hj : j ≠ 19) => (row_at τ5 19 0 (set (τ 19 0) p ((many : Int) + 1)) j 0).trans (if_neg (fun z => hj z.1))
    refine ⟨_, rfl, RtT_row q5 19 (by decide) _, ?_, ?_, ?_, ?_, ?_, row_same _ _ _ _, ?_⟩
    · rw [r 14 (by decide), l14]; omega
    · rw [r 15 (by decide), ol 15 (by decide), k15]
    · rw [r 16 (by decide), ol 16 (by decide), k16]
    · rw [r 17 (by decide), ol 17 (by decide), k17]
    · rw [r 18 (by decide), ol 18 (by decide), k18, hw]
    · rw [r 20 (by decide), ol 20 (by decide), o18 20 (by decide) (by decide) (by decide) (by decide)]
  rw [eX5_add_73, o17 14 (by decide) (by decide) (by decide), h9]
  have o18 := o17 18 (by decide) (by decide) (by decide)
  by_cases q : (many : Int) = 0
  · have p18 := s6_put18 (N := N) (σ := τ3) (many : Int) 0 (by omega) n1
    rw [Int.toNat_natCast, o18] at p18
    rw [if_pos q, p18, bnd_s, push_n]
    exact rest 0 (by rw [if_pos (by omega)])
  · have hd1 := hd (by omega)
    have ed : w32 (τ 18 0 x3 + 1) = τ 18 0 x3 + 1 := w32i (by omega) (by omega)
    have a18 := s6_at18 (N := N) (σ := τ3) (x3 : Int) (by omega) (by omega)
    rw [Int.toNat_natCast, o18] at a18
    have p18 := s6_put18 (N := N) (σ := τ3) (many : Int) (τ 18 0 x3 + 1) (by omega) n1
    rw [Int.toNat_natCast, o18] at p18
    rw [if_neg q, a18, bnd_s, push_s, eX5_add_86, ed, p18, bnd_s, push_n]
    exact rest _ (by rw [if_neg (by omega)])
/-- a stand is kept, if it is new -/
theorem r_add2 (h : RtT σ τ) (many : Nat) (hm : many ≤ 300) (h9 : τ 14 0 9 = (many : Int)) (ht : HT (τ 19 0) (τ 15 0) many) (y : Int) (x3 : Nat) (hx3 : x3 < 300) (x4 : Int) (hd : ¬ many = 0 → 0 ≤ τ 18 0 x3 ∧ τ 18 0 x3 < 1000) :
    ((∃ s : Nat, s < many ∧ τ 15 0 s = y) ∧ inv N mX5_add [vR 14 0, vJ y, vI (x3 : Int), vI x4] (P τ) = some (some (vI 0), P τ))
    ∨ ((∀ s : Nat, s < many → τ 15 0 s ≠ y) ∧ many = 300 ∧ inv N mX5_add [vR 14 0, vJ y, vI (x3 : Int), vI x4] (P τ) = some (some (vI 2), P τ))
    ∨ ((∀ s : Nat, s < many → τ 15 0 s ≠ y) ∧ many < 300 ∧ ∃ τ', inv N mX5_add [vR 14 0, vJ y, vI (x3 : Int), vI x4] (P τ) = some (some (vI 0), P τ') ∧ RtT σ τ' ∧ τ' 14 0 9 = ((many + 1 : Nat) : Int) ∧ HT (τ' 19 0) (τ' 15 0) (many + 1) ∧ τ' 15 0 = set (τ 15 0) many y ∧ τ' 16 0 = set (τ 16 0) many (x3 : Int) ∧ τ' 17 0 = set (τ 17 0) many x4 ∧ τ' 18 0 = set (τ 18 0) many (if many = 0 then 0 else τ 18 0 x3 + 1) ∧ τ' 20 0 = τ 20 0) := by
  have hr := HSH_r y
  have hh : ((((HSH y).toNat + 0) % 1024 : Nat) : Int) = HSH y := by omega
  have lp := r_addL2 (N := N) (τ := τ) many hm ht y (x3 : Int) x4 (HSH y).toNat rfl (by omega) 1024 0 vX rfl (fun e he => absurd he (by omega))
  rw [hh] at lp
  rw [iX5_add, eX5_add_0]
  change _ ∧ ev N mX5_add 9 [vR 14 0, vJ y, vX, vI (x3 : Int), vI x4, vI (HSH y), vI 0, vX] [] (P τ) = _ ∨ _ at lp
  show (_ ∧ ev N mX5_add 9 [vR 14 0, vJ y, vX, vI (x3 : Int), vI x4, vI (HSH y), vI 0, vX] [] (P τ) = _) ∨ (_ ∧ _ ∧ ev N mX5_add 9 [vR 14 0, vJ y, vX, vI (x3 : Int), vI x4, vI (HSH y), vI 0, vX] [] (P τ) = _) ∨ (_ ∧ _ ∧ ∃ τ', ev N mX5_add 9 [vR 14 0, vJ y, vX, vI (x3 : Int), vI x4, vI (HSH y), vI 0, vX] [] (P τ) = _ ∧ _)
  rcases lp with lp | ⟨k, x7, k1, k2, k3, k4, lp⟩
  · exact Or.inl lp
  · rw [show ((0 : Nat) : Int) = 0 from rfl] at lp
    rw [lp]
    by_cases q : many = 300
    · refine Or.inr (Or.inl ⟨k4, q, ?_⟩)
      unfold addT
      rw [h9, if_neg (by omega), if_neg (by omega)]
    · obtain ⟨τ', t1, t2, t3, t4, t5, t6, t7, t8, t9⟩ := r_addT2 (N := N) h many (by omega) h9 y x3 hx3 x4 hd (((HSH y).toNat + k) % 1024) (Nat.mod_lt _ (by decide)) (k : Int) x7
      refine Or.inr (Or.inr ⟨k4, by omega, τ', t1, t2, t3, ?_, t4, t5, t6, t7, t9⟩)
      rw [t8, t4]
      exact HT_new ht y k k1 k2 k3
end ROUTE
