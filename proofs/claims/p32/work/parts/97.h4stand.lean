/-! ROUTE, the class's stands: what slots hold, the first that is alike, packed and unpacked -/
def WEQ (f : Vec) (a : Nat) (g : Vec) (b : Nat) : Prop := ∀ k, k < 14 → f (a + k) = g (b + k)
theorem WEQ_sym {f g : Vec} {a b : Nat} (h : WEQ f a g b) : WEQ g b f a := fun k hk => (h k hk).symm
theorem WEQ_tr {f g e : Vec} {a b c : Nat} (h : WEQ f a g b) (h2 : WEQ g b e c) : WEQ f a e c := fun k hk => (h k hk).trans (h2 k hk)
/-- a tells what slot s of c holds: 0 what it holds now, else an image, the first that has these words -/
def CN (σ : Sto) (s : Nat) (a : Int) (c : Vec) : Prop := (a = 0 ∧ WEQ c (14 * s) (σ 7 0) (14 * s)) ∨ ∃ i : Nat, a = (i : Int) + 1 ∧ (i : Int) < σ 2 1 1 ∧ WEQ c (14 * s) (σ 5 1) (14 * i) ∧ ¬ WEQ (σ 5 1) (14 * i) (σ 7 0) (14 * s) ∧ ∀ j, j < i → ¬ WEQ (σ 5 1) (14 * i) (σ 5 1) (14 * j)
theorem CN_r {σ : Sto} {s : Nat} {a : Int} {c : Vec} (hg : OKG σ 1) (h : CN σ s a c) : 0 ≤ a ∧ a < 8 := by
  have g := hg.2.2.2.1
  rcases h with ⟨h, -⟩ | ⟨i, h, h2, -⟩
  · omega
  · omega
theorem CN_cong {σ : Sto} {s : Nat} {a : Int} {c d : Vec} (h : CN σ s a c) (e : WEQ d (14 * s) c (14 * s)) : CN σ s a d := by
  rcases h with ⟨h, w⟩ | ⟨i, h, h2, w, h3⟩
  · exact Or.inl ⟨h, WEQ_tr e w⟩
  · exact Or.inr ⟨i, h, h2, WEQ_tr e w, h3⟩
theorem CN_words {σ : Sto} {s : Nat} {a : Int} {c d : Vec} (h : CN σ s a c) (h2 : CN σ s a d) : WEQ c (14 * s) d (14 * s) := by
  rcases h with ⟨h, w⟩ | ⟨i, h, -, w, -⟩
  · rcases h2 with ⟨-, v⟩ | ⟨j, q, -⟩
    · exact WEQ_tr w (WEQ_sym v)
    · omega
  · rcases h2 with ⟨q, -⟩ | ⟨j, q, -, v, -⟩
    · omega
    · have e : i = j := by omega
      subst e
      exact WEQ_tr w (WEQ_sym v)
theorem CN_one {σ : Sto} {s : Nat} {a b : Int} {c d : Vec} (h : CN σ s a c) (h2 : CN σ s b d) (e : WEQ c (14 * s) d (14 * s)) : a = b := by
  rcases h with ⟨h, w⟩ | ⟨i, h, -, w, n, m⟩
  · rcases h2 with ⟨q, -⟩ | ⟨j, q, -, v, n2, -⟩
    · rw [h, q]
    · exact absurd (WEQ_tr (WEQ_sym v) (WEQ_tr (WEQ_sym e) w)) n2
  · rcases h2 with ⟨q, v⟩ | ⟨j, q, -, v, n2, m2⟩
    · exact absurd (WEQ_tr (WEQ_sym w) (WEQ_tr e v)) n
    · have x : WEQ (σ 5 1) (14 * i) (σ 5 1) (14 * j) := WEQ_tr (WEQ_sym w) (WEQ_tr e v)
      rcases Nat.lt_trichotomy i j with z | z | z
      · exact absurd (WEQ_sym x) (m2 i z)
      · rw [h, q, z]
      · exact absurd x (m j z)
section ROUTE
variable {N : Nat} {σ τ : Sto} {x : XP}
theorem s2_holds (τ : Sto) (i s im : Nat) (hs : s < 4) (him : im < 6) : ∃ v, inv N mX2_holdsImage [vR 6 i, vI (s : Int), vI (im : Int)] (P τ) = some (some (vI v), P τ) ∧ (v = 0 ∨ v = 1) ∧ (v = 1 ↔ WEQ (τ 7 i) (14 * s) (τ 5 1) (14 * im)) := by
  have e1 : w32 ((s : Int) * 14) = ((14 * s : Nat) : Int) := by rw [w32i (by omega) (by omega)]; omega
  have e2 : w32 ((im : Int) * 14) = ((14 * im : Nat) : Int) := by rw [w32i (by omega) (by omega)]; omega
  have lp : ∀ (m k : Nat), k + m = 14 → (∀ j, j < k → τ 7 i (14 * s + j) = τ 5 1 (14 * im + j)) → ∃ v, ev N mX2_holdsImage 2 [vR 6 i, vI (s : Int), vI (im : Int), vI (k : Int)] [] (P τ) = some (some (vI v), P τ) ∧ (v = 0 ∨ v = 1) ∧ (v = 1 ↔ WEQ (τ 7 i) (14 * s) (τ 5 1) (14 * im)) := by
    intro m
    induction m with
    | zero =>
      intro k hk h
      rw [eX2_holdsImage_2, if_neg (show ¬ (k : Int) < 14 by omega)]
      exact ⟨1, rfl, Or.inr rfl, ⟨fun _ j hj => h j (by omega), fun _ => rfl⟩⟩
    | succ m ih =>
      intro k hk h
      have e3 : w32 (((14 * s : Nat) : Int) + (k : Int)) = ((14 * s + k : Nat) : Int) := by rw [w32i (by omega) (by omega)]; omega
      have e4 : w32 (((14 * im : Nat) : Int) + (k : Int)) = ((14 * im + k : Nat) : Int) := by rw [w32i (by omega) (by omega)]; omega
      have e5 : w32 ((k : Int) + 1) = ((k + 1 : Nat) : Int) := by rw [w32i (by omega) (by omega)]; omega
      have c1 := s2_cell (N := N) (i := i) (σ := τ) ((14 * s + k : Nat) : Int) (by omega) (by omega)
      have c2 := s6_at5 (N := N) (i := 1) (σ := τ) ((14 * im + k : Nat) : Int) (by omega) (by omega)
      rw [Int.toNat_natCast] at c1 c2
      rw [eX2_holdsImage_2, if_pos (show (k : Int) < 14 by omega), e1, e3, c1, bnd_s, push_s, eX2_holdsImage_12, e2, e4, c2, bnd_s, push_s, eX2_holdsImage_21, e5]
      by_cases q : τ 7 i (14 * s + k) = τ 5 1 (14 * im + k)
      · rw [if_pos q]
        refine ih (k + 1) (by omega) (fun j hj => ?_)
        by_cases z : j = k
        · rw [z]; exact q
        · exact h j (by omega)
      · rw [if_neg q]
        exact ⟨0, rfl, Or.inl rfl, ⟨fun z => absurd z (by decide), fun z => absurd (z k (by omega)) q⟩⟩
  rw [iX2_holdsImage, eX2_holdsImage_0]
  exact lp 14 0 rfl (fun j hj => absurd hj (by omega))
theorem r_img2 (hg : OKG τ 1) (hc : OKC x.1) (s im : Nat) (hs : s < 4) (him : im < 6) : inv N mX2_putImage [vR 6 4, vI (s : Int), vI (im : Int)] (P (putC τ 4 x)) = some (none, P (putC τ 4 (cpyV (τ 5 1) x.1 (14 * im) (14 * s) 14, x.2))) ∧ OKC (cpyV (τ 5 1) x.1 (14 * im) (14 * s) 14) ∧ cpyV (τ 5 1) x.1 (14 * im) (14 * s) 14 82 = x.1 82 := by
  have e := s2_putImage (N := N) (σ := putC τ 4 x) 4 s im hs him
  rw [putC_7, row_putC7, putC_o _ _ _ _ (by decide) (by decide)] at e
  exact ⟨e, okc_img hc hg.2.2.2.2.2.2.2.2.2.2.2.2 im s him hs⟩
theorem putC_r {τ : Sto} {y : XP} : ∀ j, 14 ≤ j → j ≤ 20 → putC τ 4 y j 0 = τ j 0 := fun j h1 h2 => putC_o τ 4 y 0 (by omega) (by omega)
/-- the first image that has the words of image k, or what the slot holds now -/
theorem r_first2 (h : RtT σ τ) (hg : OKG σ 1) (s k : Nat) (hs : s < 2) (hk : (k : Int) < σ 2 1 1) : ∃ v τ', inv N mX5_firstAlike [vR 14 0, vI (s : Int), vI (k : Int)] (P τ) = some (some (vI v), P τ') ∧ RtT σ τ' ∧ (∀ j, 14 ≤ j → j ≤ 20 → τ' j 0 = τ j 0) ∧ (∀ j, 28 ≤ j → τ' 7 4 j = τ 7 4 j) ∧ ∀ c, WEQ c (14 * s) (σ 5 1) (14 * k) → CN σ s v c := by
  have i1 := hg.2.2.2.1
  have k6 : k < 6 := by omega
  have e70 : τ 7 0 = σ 7 0 := RtT_7 h
  have e51 : τ 5 1 = σ 5 1 := h.1 5 1 (by decide)
  obtain ⟨u, eu, u1, u2⟩ := s2_holds (N := N) τ 0 s k (by omega) k6
  rw [e70, e51] at u2
  rw [iX5_firstAlike, eX5_firstAlike_0, eu, bnd_s, push_s, eX5_firstAlike_5]
  by_cases z : u = 0
  case neg =>
    have w := u2.mp (u1.resolve_left z)
    rw [if_neg z]
    exact ⟨0, τ, rfl, h, fun _ _ _ => rfl, fun _ _ => rfl, fun c hc => Or.inl ⟨rfl, WEQ_tr hc (WEQ_sym w)⟩⟩
  have nw : ¬ WEQ (σ 7 0) (14 * s) (σ 5 1) (14 * k) := fun w => by have := u2.mpr w; omega
  obtain ⟨p1, p2, p3⟩ := r_img2 (N := N) (τ := τ) (x := (τ 7 4, τ 6 4)) (RtT_G h hg) h.2.1 s k (by omega) k6
  rw [putC_id] at p1
  change OKC (cpyV (τ 5 1) (τ 7 4) (14 * k) (14 * s) 14) at p2
  change cpyV (τ 5 1) (τ 7 4) (14 * k) (14 * s) 14 82 = τ 7 4 82 at p3
  have h2 := RtT_put h (cpyV (τ 5 1) (τ 7 4) (14 * k) (14 * s) 14, τ 6 4) p2 (by show 0 ≤ cpyV (τ 5 1) (τ 7 4) (14 * k) (14 * s) 14 82; rw [p3]; exact h.2.2.1) (by show cpyV (τ 5 1) (τ 7 4) (14 * k) (14 * s) 14 82 < _; rw [p3]; exact h.2.2.2)
  have w4 : WEQ (putC τ 4 (cpyV (τ 5 1) (τ 7 4) (14 * k) (14 * s) 14, τ 6 4) 7 4) (14 * s) (σ 5 1) (14 * k) := by
    intro j hj
    rw [putC_7, ← e51]
    exact cpyV_in _ _ _ _ _ _ hj
  have r4 : ∀ j, 14 ≤ j → j ≤ 20 → putC τ 4 (cpyV (τ 5 1) (τ 7 4) (14 * k) (14 * s) 14, τ 6 4) j 0 = τ j 0 := putC_r
  have w28 : ∀ j, 28 ≤ j → putC τ 4 (cpyV (τ 5 1) (τ 7 4) (14 * k) (14 * s) 14, τ 6 4) 7 4 j = τ 7 4 j := fun j hj => by
    rw [putC_7]
    exact cpyV_out _ _ _ _ _ _ (by omega)
  change inv N mX2_putImage [vR 6 4, vI (s : Int), vI (k : Int)] (P τ) = some (none, P (putC τ 4 (cpyV (τ 5 1) (τ 7 4) (14 * k) (14 * s) 14, τ 6 4))) at p1
  rw [if_pos z, p1, bnd_s, push_n, eX5_firstAlike_13]
  generalize putC τ 4 (cpyV (τ 5 1) (τ 7 4) (14 * k) (14 * s) 14, τ 6 4) = υ at h2 w4 r4 w28
  have f51 : υ 5 1 = σ 5 1 := h2.1 5 1 (by decide)
  have lp : ∀ (m j : Nat), j + m = k → (∀ i, i < j → ¬ WEQ (σ 5 1) (14 * k) (σ 5 1) (14 * i)) → ∃ v, ev N mX5_firstAlike 15 [vR 14 0, vI (s : Int), vI (k : Int), vI (j : Int)] [] (P υ) = some (some (vI v), P υ) ∧ ∀ c, WEQ c (14 * s) (σ 5 1) (14 * k) → CN σ s v c := by
    intro m
    induction m with
    | zero =>
      intro j hj hn
      have e : j = k := by omega
      subst e
      have e1 : w32 ((j : Int) + 1) = (j : Int) + 1 := w32i (by omega) (by omega)
      rw [eX5_firstAlike_15, if_neg (show ¬ (j : Int) < (j : Int) by omega), e1]
      exact ⟨_, rfl, fun c hc => Or.inr ⟨j, rfl, hk, hc, fun w => nw (WEQ_sym w), hn⟩⟩
    | succ m ih =>
      intro j hj hn
      have e1 : w32 ((j : Int) + 1) = (j : Int) + 1 := w32i (by omega) (by omega)
      obtain ⟨w, ew, w1, w2⟩ := s2_holds (N := N) υ 4 s j (by omega) (by omega)
      rw [f51] at w2
      rw [eX5_firstAlike_15, if_pos (show (j : Int) < (k : Int) by omega), ew, bnd_s, push_s, eX5_firstAlike_23, e1]
      by_cases q : w = 0
      · rw [if_pos q]
        have t := ih (j + 1) (by omega) (fun i hi => by
          by_cases y : i = j
          · rw [y]
            intro a
            have := w2.mpr (WEQ_tr w4 a)
            omega
          · exact hn i (by omega))
        rw [show ((j + 1 : Nat) : Int) = (j : Int) + 1 by omega] at t
        exact t
      · have a := WEQ_tr (WEQ_sym w4) (w2.mp (w1.resolve_left q))
        rw [if_neg q]
        exact ⟨_, rfl, fun c hc => Or.inr ⟨j, rfl, by omega, WEQ_tr hc a, fun b => nw (WEQ_sym (WEQ_tr a b)), fun i hi b => hn i hi (WEQ_tr a b)⟩⟩
  obtain ⟨v, e, ec⟩ := lp k 0 (by omega) (fun i hi => absurd hi (by omega))
  exact ⟨v, υ, e, h2, r4, w28, ec⟩
/-- the codes of images, up to a place -/
def ALp (σ τ : Sto) (s0 k0 : Nat) : Prop := ∀ s i : Nat, s < 2 → (i : Int) < σ 2 1 1 → (s < s0 ∨ (s = s0 ∧ i < k0)) → ∀ c, WEQ c (14 * s) (σ 5 1) (14 * i) → CN σ s (τ 20 0 (6 * s + i)) c
theorem r_findIn2 (hg : OKG σ 1) (s : Nat) (hs : s < 2) : ∀ (m k : Nat) (τ : Sto), k + m = 6 → RtT σ τ → ALp σ τ s k → ∃ y τ', ev N mX5_findAlike 7 [vR 14 0, vI (s : Int), vI (k : Int)] [] (P τ) = ev N mX5_findAlike 2 [vR 14 0, vI ((s + 1 : Nat) : Int), y] [] (P τ') ∧ RtT σ τ' ∧ ALp σ τ' (s + 1) 0 ∧ ∀ j, 28 ≤ j → τ' 7 4 j = τ 7 4 j := by
  have i1 := hg.2.2.2.1
  have es : w32 ((s : Int) + 1) = ((s + 1 : Nat) : Int) := by rw [w32i (by omega) (by omega)]; omega
  have done : ∀ (k : Nat) (τ : Sto), ¬ (k : Int) < σ 2 1 1 → ALp σ τ s k → ALp σ τ (s + 1) 0 := fun k τ hk h s' i h1 h2 h3 => h s' i h1 h2 (by omega)
  intro m
  induction m with
  | zero =>
    intro k τ hk h ha
    have e21 : τ 2 1 = σ 2 1 := h.1 2 1 (by decide)
    have q : ¬ (k : Int) < σ 2 1 1 := by omega
    rw [eX5_findAlike_7, e21, if_neg q, es]
    exact ⟨_, _, rfl, h, done k τ q ha, fun _ _ => rfl⟩
  | succ m ih =>
    intro k τ hk h ha
    have e21 : τ 2 1 = σ 2 1 := h.1 2 1 (by decide)
    have e1 : w32 ((k : Int) + 1) = ((k + 1 : Nat) : Int) := by rw [w32i (by omega) (by omega)]; omega
    have e2 : w32 (w32 ((s : Int) * 6) + (k : Int)) = ((6 * s + k : Nat) : Int) := by
      rw [w32i (x := (s : Int) * 6) (by omega) (by omega), w32i (by omega) (by omega)]; omega
    rw [eX5_findAlike_7, e21]
    by_cases q : (k : Int) < σ 2 1 1
    · obtain ⟨v, υ, e, h2, r2, w2, cn⟩ := r_first2 (N := N) h hg s k hs q
      have pt := s6_put20 (N := N) (σ := υ) ((6 * s + k : Nat) : Int) v (by omega) (by omega)
      rw [Int.toNat_natCast] at pt
      rw [if_pos q, e, bnd_s, push_s, eX5_findAlike_23, e2, pt, bnd_s, push_n, eX5_findAlike_24, e1]
      have al : ALp σ (row υ 20 0 (set (υ 20 0) (6 * s + k) v)) s (k + 1) := by
        intro s' i h1 h3 h4 c hc
        rw [row_same, r2 20 (by decide) (by decide)]
        by_cases z : s' = s ∧ i = k
        · rw [z.1, z.2, set_same]
          rw [z.1, z.2] at hc
          exact cn c hc
        · rw [set_ne _ _ (by omega)]
          exact ha s' i h1 h3 (by omega) c hc
      obtain ⟨y, τ', b1, b2, b3, b4⟩ := ih (k + 1) (row υ 20 0 (set (υ 20 0) (6 * s + k) v)) (by omega) (RtT_row h2 20 (by decide) _) al
      refine ⟨y, τ', b1, b2, b3, fun j hj => ?_⟩
      rw [b4 j hj, row_at, if_neg (by decide)]
      exact w2 j hj
    · rw [if_neg q, es]
      exact ⟨_, _, rfl, h, done k τ q ha, fun _ _ => rfl⟩
/-- the codes of all images -/
def AL (σ τ : Sto) : Prop := ∀ s i : Nat, s < 2 → (i : Int) < σ 2 1 1 → ∀ c, WEQ c (14 * s) (σ 5 1) (14 * i) → CN σ s (τ 20 0 (6 * s + i)) c
theorem r_findAlike2 (h : RtT σ τ) (hg : OKG σ 1) : ∃ τ', inv N mX5_findAlike [vR 14 0] (P τ) = some (none, P τ') ∧ RtT σ τ' ∧ AL σ τ' ∧ ∀ j, 28 ≤ j → τ' 7 4 j = τ 7 4 j := by
  obtain ⟨y1, υ, e1, h1, a1, w1⟩ := r_findIn2 (N := N) hg 0 (by decide) 6 0 τ rfl h (fun s i h1 h2 h3 => by omega)
  obtain ⟨y2, ρ, e2, h2, a2, w2⟩ := r_findIn2 (N := N) hg 1 (by decide) 6 0 υ rfl h1 a1
  have e0 : ((0 : Nat) : Int) = 0 := rfl
  rw [e0] at e1 e2
  have b1 : ((0 + 1 : Nat) : Int) = 1 := rfl
  have b2 : ((1 + 1 : Nat) : Int) = 2 := rfl
  have b3 : ((1 : Nat) : Int) = 1 := rfl
  rw [b1] at e1
  rw [b2, b3] at e2
  rw [iX5_findAlike, eX5_findAlike_0, eX5_findAlike_2, if_pos (by decide), e1, eX5_findAlike_2, if_pos (by decide), e2, eX5_findAlike_2, if_neg (by decide)]
  exact ⟨_, rfl, h2, fun s i q1 q2 c hc => a2 s i q1 q2 (Or.inl q1) c hc, fun j hj => (w2 j hj).trans (w1 j hj)⟩
/-- whether the version is there -/
def THR (c : Vec) (v : Int) : Int := if (c 78 = 0 ∨ c 78 = 1) ∧ c 80 = 1 ∧ c (14 * (c 78).toNat) - 1 = v then 1 else 0
theorem r_isThere2 (hc : OKC (τ 7 4)) (v : Int) : inv N mX5_isThere [vR 14 0, vI v] (P τ) = some (some (vI (THR (τ 7 4) v)), P τ) := by
  have c78 := s2_cell (N := N) (i := 4) (σ := τ) 78 (by decide) (by decide)
  have c80 := s2_cell (N := N) (i := 4) (σ := τ) 80 (by decide) (by decide)
  have e78 : (78 : Int).toNat = 78 := rfl
  have e80 : (80 : Int).toNat = 80 := rfl
  rw [e78] at c78
  rw [e80] at c80
  rw [iX5_isThere, eX5_isThere_0, c78, bnd_s, push_s, eX5_isThere_4, s8_isSlot, bnd_s, push_s, eX5_isThere_7]
  unfold THR
  by_cases q : τ 7 4 78 = 0 ∨ τ 7 4 78 = 1
  · rw [if_pos q, if_neg (by decide), c80, bnd_s, push_s, eX5_isThere_12]
    by_cases w : τ 7 4 80 = 1
    · obtain ⟨s, hs, es⟩ := slot_s q
      have vs := s2_version (N := N) (i := 4) (σ := τ) s (by omega) hc.1
      rw [if_pos w, es, vs, bnd_s, push_s, eX5_isThere_18, Int.toNat_natCast]
      by_cases z : τ 7 4 (14 * s) - 1 = v
      · rw [if_pos z, if_pos ⟨by omega, w, z⟩]
      · rw [if_neg z, if_neg (fun y => z y.2.2)]
    · rw [if_neg w, if_neg (fun y => w y.2.1)]
  · rw [if_neg q, if_pos rfl, if_neg (fun y => q y.1)]
theorem THR_EA {c d : Vec} (h : EA c d) (v : Int) : THR c v = THR d v := by
  obtain ⟨h1, h2, h3, -⟩ := h
  unfold THR
  rw [h2]
  rcases h3 with z | z
  · have n : ¬ (d 78 = 0 ∨ d 78 = 1) := by omega
    rw [if_neg (fun y => n y.1), if_neg (fun y => n y.1)]
  · rw [z]
    by_cases q : d 78 = 0 ∨ d 78 = 1
    · rw [h1 (14 * (d 78).toNat) (by omega)]
    · rw [if_neg (fun y => q y.1), if_neg (fun y => q y.1)]
theorem pk_int {a b f0 f1 f2 f3 r s u t : Int} (ha : 0 ≤ a ∧ a < 8) (hb : 0 ≤ b ∧ b < 8) (h0 : 0 ≤ f0 ∧ f0 < 256) (h1 : 0 ≤ f1 ∧ f1 < 256) (h2 : 0 ≤ f2 ∧ f2 < 256) (h3 : 0 ≤ f3 ∧ f3 < 256) (hr : 0 ≤ r ∧ r < 32) (hs : 0 ≤ s ∧ s < 64) (hu : 0 ≤ u ∧ u < 4) (ht : 0 ≤ t ∧ t < 2) :
    jOr (jOr (jOr (jOr (jOr (jOr (bOr (bOr (bOr a (shl32 b 3)) (shl32 f0 6)) (shl32 f1 14)) (shl64 f2 22)) (shl64 f3 30)) (shl64 r 38)) (shl64 s 43)) (shl64 u 49)) (shl64 t 51) = HN a b f0 f1 f2 f3 r s u t := by
  have h := pk_sum (a := a.toNat) (b := b.toNat) (f0 := f0.toNat) (f1 := f1.toNat) (f2 := f2.toNat) (f3 := f3.toNat) (r := r.toNat) (s := s.toNat) (u := u.toNat) (t := t.toNat) (by omega) (by omega) (by omega) (by omega) (by omega) (by omega) (by omega) (by omega) (by omega) (by omega)
  rw [Int.toNat_of_nonneg ha.1, Int.toNat_of_nonneg hb.1, Int.toNat_of_nonneg h0.1, Int.toNat_of_nonneg h1.1, Int.toNat_of_nonneg h2.1, Int.toNat_of_nonneg h3.1, Int.toNat_of_nonneg hr.1, Int.toNat_of_nonneg hs.1, Int.toNat_of_nonneg hu.1, Int.toNat_of_nonneg ht.1] at h
  exact h
theorem PKV_EA {a b : Int} {c d : Vec} (h : EA c d) : PKV a b c = PKV a b d := by
  obtain ⟨h1, h2, h3, h4⟩ := h
  unfold PKV
  rw [h4 0 (by decide), h4 1 (by decide), h4 2 (by decide), h4 3 (by decide), h1 76 (by omega), h1 77 (by omega), h2]
  rcases h3 with z | z
  · rw [if_pos (h2.symm.trans z), if_pos (h2.symm.trans z)]
  · rw [z]
theorem r_pack2 (h : RtT σ τ) (h8 : T8 (τ 7 4)) (a b : Int) (ha : 0 ≤ a ∧ a < 8) (hb : 0 ≤ b ∧ b < 8) : ∃ τ', inv N mX5_pack [vR 14 0, vI a, vI b] (P τ) = some (some (vJ (PKV a b (τ 7 4))), P τ') ∧ RtT σ τ' ∧ (∀ j, 14 ≤ j → j ≤ 20 → τ' j 0 = τ j 0) := by
  have hc := h.2.1
  have rf := p2_readFlags (N := N) (i := 4) (σ := τ) (x := (τ 7 4, τ 6 4)) hc
  rw [putC_id] at rf
  have h2 : RtT σ (putC τ 4 (readFlC (τ 7 4, τ 6 4))) := RtT_put h _ h.2.1 h.2.2.1 h.2.2.2
  have r4 : ∀ j, 14 ≤ j → j ≤ 20 → putC τ 4 (readFlC (τ 7 4, τ 6 4)) j 0 = τ j 0 := putC_r
  have u7 : putC τ 4 (readFlC (τ 7 4, τ 6 4)) 7 4 = τ 7 4 := putC_7 _ _ _
  have u6 : putC τ 4 (readFlC (τ 7 4, τ 6 4)) 6 4 = (readFlC (τ 7 4, τ 6 4)).2 := putC_6 _ _ _
  have g2 : (readFlC (τ 7 4, τ 6 4)).2 2 = flagF (τ 7 4) 0 := rfl
  have g3 : (readFlC (τ 7 4, τ 6 4)).2 3 = flagF (τ 7 4) 1 := rfl
  have g4 : (readFlC (τ 7 4, τ 6 4)).2 4 = flagF (τ 7 4) 2 := rfl
  have g5 : (readFlC (τ 7 4, τ 6 4)).2 5 = flagF (τ 7 4) 3 := rfl
  rw [← u6] at g2 g3 g4 g5
  generalize putC τ 4 (readFlC (τ 7 4, τ 6 4)) = υ at rf h2 r4 u7 u6 g2 g3 g4 g5
  have c78 := s2_cell (N := N) (i := 4) (σ := υ) 78 (by decide) (by decide)
  have c80 := s2_cell (N := N) (i := 4) (σ := υ) 80 (by decide) (by decide)
  have c76 := s2_cell (N := N) (i := 4) (σ := υ) 76 (by decide) (by decide)
  have c77 := s2_cell (N := N) (i := 4) (σ := υ) 77 (by decide) (by decide)
  rw [show (78 : Int).toNat = 78 from rfl, u7] at c78
  rw [show (80 : Int).toNat = 80 from rfl, u7] at c80
  rw [show (76 : Int).toNat = 76 from rfl, u7] at c76
  rw [show (77 : Int).toNat = 77 from rfl, u7] at c77
  have f := fun k hk => flagF_r hc.2.1 k hk
  have r := hc.2.2.1
  have s := hc.2.2.2.1
  have u := hc.2.2.2.2
  have w : w64 (τ 7 4 78 + 1) = τ 7 4 78 + 1 := w64i (by omega) (by omega)
  have rest : ∀ t : Int, bnd (inv N mX2_slotFlags [vR 6 4, vI 0] (P υ)) (fun r S2 => ev N mX5_pack 28 [vR 14 0, vI a, vI b, vI (τ 7 4 78), vJ t, vX] (push r [vI (bOr a (shl32 b 3))]) S2) = some (some (vJ (jOr (jOr (jOr (jOr (jOr (jOr (bOr (bOr (bOr a (shl32 b 3)) (shl32 (flagF (τ 7 4) 0) 6)) (shl32 (flagF (τ 7 4) 1) 14)) (shl64 (flagF (τ 7 4) 2) 22)) (shl64 (flagF (τ 7 4) 3) 30)) (shl64 (τ 7 4 76) 38)) (shl64 (τ 7 4 77) 43)) (shl64 (τ 7 4 78 + 1) 49)) (shl64 t 51))), P υ) := by
    intro t
    rw [s2_slotFlags, if_pos rfl, bnd_s, push_s, eX5_pack_28, s2_slotFlags, if_neg (by decide), bnd_s, push_s, eX5_pack_35, c76, bnd_s, push_s, eX5_pack_57, c77, bnd_s, push_s, eX5_pack_65, g2, g3, g4, g5, w]
  have fin : ∀ t : Int, (0 ≤ t ∧ t < 2) → jOr (jOr (jOr (jOr (jOr (jOr (bOr (bOr (bOr a (shl32 b 3)) (shl32 (flagF (τ 7 4) 0) 6)) (shl32 (flagF (τ 7 4) 1) 14)) (shl64 (flagF (τ 7 4) 2) 22)) (shl64 (flagF (τ 7 4) 3) 30)) (shl64 (τ 7 4 76) 38)) (shl64 (τ 7 4 77) 43)) (shl64 (τ 7 4 78 + 1) 49)) (shl64 t 51) = HN a b (flagF (τ 7 4) 0) (flagF (τ 7 4) 1) (flagF (τ 7 4) 2) (flagF (τ 7 4) 3) (τ 7 4 76) (τ 7 4 77) (τ 7 4 78 + 1) t := fun t ht => pk_int ha hb (f 0 (by decide)) (f 1 (by decide)) (f 2 (by decide)) (f 3 (by decide)) ⟨r.1, by omega⟩ s (by omega) ht
  have t8 : 0 ≤ τ 7 4 80 ∧ τ 7 4 80 < 2 := by
    unfold T8 at h8
    omega
  unfold PKV
  rw [iX5_pack, eX5_pack_0, rf, bnd_s, push_n, eX5_pack_3, c78, bnd_s, push_s, eX5_pack_7]
  by_cases q : τ 7 4 78 = -1
  · have e := rest 0
    rw [if_pos q, if_pos q, e, fin 0 (by decide)]
    exact ⟨υ, rfl, h2, r4⟩
  · have e := rest (τ 7 4 80)
    rw [if_neg q, if_neg q, c80, bnd_s, push_s, eX5_pack_17, e, fin _ t8]
    exact ⟨υ, rfl, h2, r4⟩
end ROUTE
