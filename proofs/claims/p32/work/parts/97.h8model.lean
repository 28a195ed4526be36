/-! ROUTE, the model's, told wholly -/
/-- the numbers by which stands are compared -/
def sgF (c : Vec) (k : Nat) : Int := if k < 56 then c k else if k < 64 then flV g00 c (k - 56) else if k = 64 then c 76 else if k = 65 then c 77 else if k = 66 then c 78 else if c 78 = -1 then 0 else c 80
theorem flV_f (f g c : Vec) {k : Nat} (hk : k < 8) : flV f c k = flV g c k := by
  have v : ∀ a0 a1 a2 a3 a4 a5 a6 a7 : Int, v8 f a0 a1 a2 a3 a4 a5 a6 a7 k = v8 g a0 a1 a2 a3 a4 a5 a6 a7 k := by
    intro a0 a1 a2 a3 a4 a5 a6 a7
    rcases (show k = 0 ∨ k = 1 ∨ k = 2 ∨ k = 3 ∨ k = 4 ∨ k = 5 ∨ k = 6 ∨ k = 7 by omega) with rfl | rfl | rfl | rfl | rfl | rfl | rfl | rfl <;> rfl
  unfold flV
  split
  · exact v _ _ _ _ _ _ _ _
  · split
    · exact v _ _ _ _ _ _ _ _
    · exact v _ _ _ _ _ _ _ _
/-- two stands are alike just if their numbers are one -/
theorem sg_PKV {σ : Sto} (hg : OKG σ 1) {B B2 a b a2 b2 : Int} {c d : Vec} (h : SC σ B a b c) (h' : SC σ B2 a2 b2 d) : (∀ k, k < 68 → sgF c k = sgF d k) ↔ PKV a b c = PKV a2 b2 d := by
  obtain ⟨c1, c2, -, c4, c5, c6⟩ := h
  obtain ⟨d1, d2, -, d4, d5, d6⟩ := h'
  have fe := (flV_eq c1.2.1 d1.2.1 g00 g00).trans (oneF_eq c1.2.1 d1.2.1)
  constructor
  · intro e
    have w : ∀ j, j < 56 → c j = d j := fun j hj => by
      have t := e j (by omega)
      unfold sgF at t
      rw [if_pos hj, if_pos hj] at t
      exact t
    have ea : a = a2 := CN_one c4 d4 (fun k hk => w _ (by omega))
    have eb : b = b2 := CN_one c5 d5 (fun k hk => w _ (by omega))
    have f := fe.mp (fun k hk => by
      have t := e (56 + k) (by omega)
      unfold sgF at t
      rw [if_neg (by omega), if_pos (by omega), if_neg (by omega), if_pos (by omega), show 56 + k - 56 = k by omega] at t
      exact t)
    have e76 : c 76 = d 76 := e 64 (by decide)
    have e77 : c 77 = d 77 := e 65 (by decide)
    have e78 : c 78 = d 78 := e 66 (by decide)
    have e80 : (if c 78 = -1 then 0 else c 80) = (if d 78 = -1 then 0 else d 80) := e 67 (by decide)
    rw [ea, eb]
    refine PKV_EA ⟨fun j hj => ?_, e78, ?_, f⟩
    · rcases hj with q | q | q
      · exact w j q
      · rw [q]; exact e76
      · rw [q]; exact e77
    · by_cases q : c 78 = -1
      · exact Or.inl q
      · rw [if_neg q, if_neg (fun z => q (e78.trans z))] at e80
        exact Or.inr e80
  · intro e
    obtain ⟨ea, eb, f, e76, e77, e78, e80⟩ := PKV_inj (CN_r hg c4) (CN_r hg c5) c1 c2 (CN_r hg d4) (CN_r hg d5) d1 d2 e
    rw [ea] at c4
    rw [eb] at c5
    have wa := CN_words c4 d4
    have wb := CN_words c5 d5
    have fl := fe.mpr f
    intro k hk
    unfold sgF
    by_cases q : k < 56
    · rw [if_pos q, if_pos q]
      by_cases q1 : k < 14
      · have t := wa k q1
        rw [Nat.mul_zero, Nat.zero_add] at t
        exact t
      · by_cases q2 : k < 28
        · have t := wb (k - 14) (by omega)
          rw [show 14 * 1 + (k - 14) = k by omega] at t
          exact t
        · rw [c6 k (by omega) q, d6 k (by omega) q]
    · rw [if_neg q, if_neg q]
      by_cases q1 : k < 64
      · rw [if_pos q1, if_pos q1]
        exact fl (k - 56) (by omega)
      · rw [if_neg q1, if_neg q1, e76, e77, e80]
        by_cases q2 : k = 64
        · rw [if_pos q2, if_pos q2]
        · rw [if_neg q2, if_neg q2]
          by_cases q3 : k = 65
          · rw [if_pos q3, if_pos q3]
          · rw [if_neg q3, if_neg q3]
            by_cases q4 : k = 66
            · rw [if_pos q4, if_pos q4, e78]
            · rw [if_neg q4, if_neg q4]
/-- the model's number of a move as the answer tells it -/
def mvc (im k : Int) : Int := if k < 3 then k else w32 (w32 (100 + w32 (10 * w32 ((w32 (k - 3)).tdiv im))) + Int.tmod (w32 (k - 3)) im)
/-- move k of the model is a deed -/
def MKX (im : Int) (k : Nat) (x2 d s i : Int) : Prop := MDO im x2 d s i ∧ ((k = 1 ∧ x2 = 1) ∨ (k = 2 ∧ x2 = 2) ∨ (d = 2 ∧ (k : Int) = 3 + s * im + i))
theorem mk_div {im i s : Int} (i0 : 0 ≤ i) (i1 : i < im) (i6 : im ≤ 6) (hs : s = 0 ∨ s = 1) : (s * im + i).tdiv im = s ∧ (s * im + i).tmod im = i ∧ 0 ≤ s * im + i ∧ s * im + i < 12 := by
  have h : im = 1 ∨ im = 2 ∨ im = 3 ∨ im = 4 ∨ im = 5 ∨ im = 6 := by omega
  have n0 : 0 ≤ s * im + i := by
    rcases hs with rfl | rfl
    · rw [Int.zero_mul]; omega
    · rw [Int.one_mul]; omega
  rw [Int.tdiv_eq_ediv_of_nonneg n0, Int.tmod_eq_emod_of_nonneg n0]
  rcases hs with rfl | rfl
  · rw [Int.zero_mul] at n0 ⊢
    rcases h with rfl | rfl | rfl | rfl | rfl | rfl <;> omega
  · rw [Int.one_mul] at n0 ⊢
    rcases h with rfl | rfl | rfl | rfl | rfl | rfl <;> omega
theorem mvc_of {im : Int} {k : Nat} {x2 d s i : Int} (h : MKX im k x2 d s i) (i6 : im ≤ 6) : mvc im (k : Int) = x2 := by
  unfold mvc
  obtain ⟨m, q | q | ⟨q1, q2⟩⟩ := h
  · rw [if_pos (by omega)]; omega
  · rw [if_pos (by omega)]; omega
  · rcases m with m | m | ⟨m1, -, m3, m4, m5⟩
    · omega
    · omega
    · obtain ⟨e1, e2, e3, e4⟩ := mk_div m4 m5 i6 m3
      have ew : w32 ((k : Int) - 3) = s * im + i := by
        rw [w32i (by omega) (by omega)]; omega
      rw [if_neg (by omega), ew, e1, e2, w32i (x := s) (by omega) (by omega), w32i (x := 10 * s) (by omega) (by omega), w32i (x := 100 + 10 * s) (by omega) (by omega), w32i (by omega) (by omega), m1]
section ROUTE
variable {N : Nat} {σ τ : Sto} {c : Vec}
theorem OKM_RZ (hz : RZ c (τ 40 0)) (hc : OKC c) : OKC (τ 40 0) := OKC_RZ hc hz
theorem m_isThere2 (hz : RZ c (τ 40 0)) (hc : OKC c) (v : Int) : inv N mX9_isThere [vR 30 0, vI v] (P τ) = some (some (vI (THR c v)), P τ) := by
  have okm := OKM_RZ hz hc
  have e78 : (78 : Int).toNat = 78 := rfl
  have e79 : (79 : Int).toNat = 79 := rfl
  have n78 : τ 40 0 78 = c 78 := hz.2.symm
  have n79 : τ 40 0 79 = c 80 := hz.1.2.2.1.symm
  rw [iX9_isThere, eX9_isThere_0, s9_isSR, bnd_s, push_s, eX9_isThere_2, e78, e79, n78, n79]
  unfold THR
  by_cases q : c 78 = 0 ∨ c 78 = 1
  · rw [if_pos q, if_neg (by decide)]
    by_cases w : c 80 = 1
    · obtain ⟨s, hs, es⟩ := slot_s q
      have vs := s9_versionOf (N := N) (σ := τ) s (by omega) okm.1
      rw [if_pos w, es, vs, bnd_s, push_s, eX9_isThere_15, Int.toNat_natCast, ← hz.1.1 (14 * s) (by omega)]
      by_cases z : c (14 * s) - 1 = v
      · rw [if_pos z, if_pos ⟨by omega, w, z⟩]
      · rw [if_neg z, if_neg (fun y => z y.2.2)]
    · rw [if_neg w, if_neg (fun y => w y.2.1)]
  · rw [if_neg q, if_pos rfl, if_neg (fun y => q y.1)]
theorem m_try572 (hg : OKG σ 1) (he : EnvM σ τ) (hz : RZ c (τ 40 0)) (hc : OKC c) (hb : c 82 < 2147483000) (k : Int) {x2 d s i : Int} (hm : MDO (σ 2 1 1) x2 d s i) :
    (¬ ableF (σ 2 1 1) (σ 5 1) c d s i = 1 → bnd (inv N mX9_canDo [vR 30 0, vI d, vI s, vI i] (P τ)) (fun r S2 => ev N mX9_tries 57 [vR 30 0, vI k, vI d, vI s, vI i] (push r []) S2) = some (some (vI 0), P τ))
    ∧ (ableF (σ 2 1 1) (σ 5 1) c d s i = 1 → ∃ υ, bnd (inv N mX9_canDo [vR 30 0, vI d, vI s, vI i] (P τ)) (fun r S2 => ev N mX9_tries 57 [vR 30 0, vI k, vI d, vI s, vI i] (push r []) S2) = some (some (vI 1), P υ) ∧ KM τ υ ∧ RZ (performC σ d s i (-1) (c, g00)).2.1 (υ 40 0)) := by
  have can := s9_canDo (N := N) (σ := τ) he.1 (OKM_RZ hz hc) d s i
  have ea : ableF (τ 30 0 6) (τ 36 0) (τ 40 0) d s i = ableF (σ 2 1 1) (σ 5 1) c d s i := by
    rw [he.2.2.2.1]
    exact ableF_eq hz.2 hz.1.1 he.2.2.2.2.2.2.2.1 d s i
  rw [ea] at can
  rw [can, bnd_s, push_s, eX9_tries_57]
  constructor
  · intro z
    have z0 : ableF (σ 2 1 1) (σ 5 1) c d s i = 0 := by
      rcases ableF_b (σ 2 1 1) (σ 5 1) c d s i with y | y
      · exact y
      · exact absurd y z
    rw [if_pos z0]
  · intro z
    obtain ⟨υ, u1, u2, u3, u4⟩ := m_does (N := N) (σ0 := σ) (σ := τ) (x := (c, g00)) hg hz hc he hb d s i (-1) z (by decide) (by decide)
    rw [if_neg (by rw [z]; decide), u1, bnd_s, push_s, eX9_tries_66]
    exact ⟨υ, rfl, u2, u3⟩
theorem m_tries2 (hg : OKG σ 1) (he : EnvM σ τ) (hz : RZ c (τ 40 0)) (hc : OKC c) (hb : c 82 < 2147483000) {k : Nat} {x2 d s i : Int} (hm : MKX (σ 2 1 1) k x2 d s i) :
    (¬ ableF (σ 2 1 1) (σ 5 1) c d s i = 1 → inv N mX9_tries [vR 30 0, vI (k : Int)] (P τ) = some (some (vI 0), P τ))
    ∧ (ableF (σ 2 1 1) (σ 5 1) c d s i = 1 → ∃ υ, inv N mX9_tries [vR 30 0, vI (k : Int)] (P τ) = some (some (vI 1), P υ) ∧ KM τ υ ∧ RZ (performC σ d s i (-1) (c, g00)).2.1 (υ 40 0)) := by
  have go := m_try572 (N := N) hg he hz hc hb (k : Int) hm.1
  have g4 := hg.2.2.2.1
  have e6 : τ 30 0 6 = σ 2 1 1 := he.2.2.2.1
  obtain ⟨m, q | q | ⟨q1, q2⟩⟩ := hm
  · have hd : d = 0 ∧ s = 0 ∧ i = 0 := by
      rcases m with m | m | m
      · exact m.2
      · omega
      · omega
    obtain ⟨rfl, rfl, rfl⟩ := hd
    rw [iX9_tries, eX9_tries_0, if_neg (show ¬ (k : Int) = 0 by omega), if_pos (show (k : Int) = 1 by omega), if_neg (show ¬ 2 < (k : Int) by omega), if_neg (show ¬ 2 < (k : Int) by omega)]
    exact go
  · have hd : d = 1 ∧ s = 0 ∧ i = 0 := by
      rcases m with m | m | m
      · omega
      · exact m.2
      · omega
    obtain ⟨rfl, rfl, rfl⟩ := hd
    rw [iX9_tries, eX9_tries_0, if_neg (show ¬ (k : Int) = 0 by omega), if_neg (show ¬ (k : Int) = 1 by omega), if_pos (show (k : Int) = 2 by omega), if_neg (show ¬ 2 < (k : Int) by omega), if_neg (show ¬ 2 < (k : Int) by omega)]
    exact go
  · rcases m with m | m | ⟨m1, -, m3, m4, m5⟩
    · omega
    · omega
    · obtain ⟨e1, e2, e3, e4⟩ := mk_div m4 m5 g4 m3
      have ew : w32 ((k : Int) - 3) = s * σ 2 1 1 + i := by
        rw [w32i (by omega) (by omega)]; omega
      have es : w32 s = s := w32i (by omega) (by omega)
      have n3 : ¬ σ 2 1 1 = 0 := by omega
      subst q1
      rw [iX9_tries, eX9_tries_0, e6, if_neg (show ¬ (k : Int) = 0 by omega), if_neg (show ¬ (k : Int) = 1 by omega), if_neg (show ¬ (k : Int) = 2 by omega), if_pos (show 2 < (k : Int) by omega), if_neg n3, if_pos (show 2 < (k : Int) by omega), if_neg n3, ew, e1, e2, es]
      exact go
theorem m_tries0 (hz : RZ c (τ 40 0)) :
    (c 78 = -1 → ∃ υ, inv N mX9_tries [vR 30 0, vI 0] (P τ) = some (some (vI 0), P υ) ∧ KM τ υ)
    ∧ (¬ c 78 = -1 → ∃ υ, inv N mX9_tries [vR 30 0, vI 0] (P τ) = some (some (vI 1), P υ) ∧ KM τ υ ∧ RZ (set c 78 (-1)) (υ 40 0)) := by
  have e78 : (78 : Int).toNat = 78 := rfl
  have km : KM τ (row τ 40 0 (set (τ 40 0) 78 (-1))) := KM_row τ 40 _ (Or.inl rfl)
  rw [iX9_tries, eX9_tries_0, if_pos rfl, s9_isOff, bnd_s, push_s, eX9_tries_4, e78, sup_row, ← hz.2]
  constructor
  · intro q
    rw [if_pos q, if_neg (by decide)]
    exact ⟨_, rfl, km⟩
  · intro q
    rw [if_neg q, if_pos rfl]
    exact ⟨_, rfl, km, by rw [row_same]; exact RZ_78 hz⟩
theorem m_sg82 (a : Nat) (ha : a ≤ 300) : ∀ (m k : Nat) (τ : Sto), k + m = 56 → ∃ g, ev N mX9_signs 8 [vR 30 0, vI (a : Int), vI ((68 * a : Nat) : Int), vI (k : Int)] [] (P τ) = ev N mX9_signs 26 [vR 30 0, vI (a : Int), vI (w32 (((68 * a : Nat) : Int) + 56)), vI 0] [] (P (row τ 49 0 g)) ∧ (∀ j, k ≤ j → j < 56 → g (68 * a + j) = τ 40 0 j) ∧ ∀ j, j < 68 * a + k ∨ 68 * a + 56 ≤ j → g j = τ 49 0 j := by
  intro m
  induction m with
  | zero =>
    intro k τ hk
    rw [eX9_signs_8, if_neg (show ¬ (k : Int) < 56 by omega)]
    exact ⟨τ 49 0, by rw [row_id], fun j h1 h2 => absurd h1 (by omega), fun _ _ => rfl⟩
  | succ m ih =>
    intro k τ hk
    have n := sg_num ha (show k < 68 by omega)
    rw [eX9_signs_8, if_pos (show (k : Int) < 56 by omega), if_neg (show ¬ (k : Int) < 0 by omega), if_pos (show (k : Int) < 107 by omega), n.2.1, if_neg n.2.2.1, if_pos n.2.2.2.1, n.2.2.2.2, sup_row, Int.toNat_natCast, Int.toNat_natCast]
    obtain ⟨g, e, g1, g2⟩ := ih (k + 1) (row τ 49 0 (set (τ 49 0) (68 * a + k) (τ 40 0 k))) (by omega)
    rw [row_row] at e
    rw [row_same] at g2
    refine ⟨g, e, fun j h1 h2 => ?_, fun j hj => ?_⟩
    · by_cases q : j = k
      · rw [q, g2 _ (by omega), set_same]
      · rw [g1 j (by omega) h2, row_at, if_neg (by decide)]
    · rw [g2 j (by omega), set_ne _ _ (by omega)]
theorem m_sg262 (a : Nat) (ha : a ≤ 300) : ∀ (m k : Nat) (τ : Sto), k + m = 8 → ∃ g, ev N mX9_signs 26 [vR 30 0, vI (a : Int), vI ((68 * a + 56 : Nat) : Int), vI (k : Int)] [] (P τ) = some (none, P (row τ 49 0 g)) ∧ (∀ j, k ≤ j → j < 8 → g (68 * a + 56 + j) = τ 43 0 j) ∧ g (68 * a + 64) = τ 40 0 76 ∧ g (68 * a + 65) = τ 40 0 77 ∧ g (68 * a + 66) = τ 40 0 78 ∧ g (68 * a + 67) = (if τ 40 0 78 = -1 then 0 else τ 40 0 79) ∧ ∀ j, j < 68 * a + 56 + k ∨ 68 * a + 68 ≤ j → g j = τ 49 0 j := by
  intro m
  induction m with
  | zero =>
    intro k τ hk
    obtain ⟨n1, n2, n3, n4, p1, p2, p3, p4⟩ := sg_num3 ha
    have e76 : (76 : Int).toNat = 76 := rfl
    have e77 : (77 : Int).toNat = 77 := rfl
    have e78 : (78 : Int).toNat = 78 := rfl
    have e79 : (79 : Int).toNat = 79 := rfl
    have r40 : ∀ g : Vec, row τ 49 0 g 40 0 = τ 40 0 := fun g => by rw [row_at, if_neg (by decide)]
    rw [eX9_signs_26, if_neg (show ¬ (k : Int) < 8 by omega), n1, n2, n3, n4, if_neg p1.1, if_pos p1.2, if_neg p2.1, if_pos p2.2, if_neg p3.1, if_pos p3.2, s9_isOff, bnd_s, push_s, eX9_signs_77]
    simp only [sup_row, row_same, row_row, r40, e76, e77, e78, e79, Int.toNat_natCast]
    by_cases w : τ 40 0 78 = -1
    · rw [if_pos w, if_neg (by decide), if_neg p4.1, if_pos p4.2]
      refine ⟨_, rfl, fun j h1 h2 => absurd h1 (by omega), ?_, ?_, ?_, ?_, fun j hj => ?_⟩
      · rw [set_ne _ _ (by omega), set_ne _ _ (by omega), set_ne _ _ (by omega), set_same]
      · rw [set_ne _ _ (by omega), set_ne _ _ (by omega), set_same]
      · rw [set_ne _ _ (by omega), set_same]
      · rw [set_same, if_pos w]
      · rw [set_ne _ _ (by omega), set_ne _ _ (by omega), set_ne _ _ (by omega), set_ne _ _ (by omega)]
    · rw [if_neg w, if_pos rfl, if_neg p4.1, if_pos p4.2]
      refine ⟨_, rfl, fun j h1 h2 => absurd h1 (by omega), ?_, ?_, ?_, ?_, fun j hj => ?_⟩
      · rw [set_ne _ _ (by omega), set_ne _ _ (by omega), set_ne _ _ (by omega), set_same]
      · rw [set_ne _ _ (by omega), set_ne _ _ (by omega), set_same]
      · rw [set_ne _ _ (by omega), set_same]
      · rw [set_same, if_neg w]
      · rw [set_ne _ _ (by omega), set_ne _ _ (by omega), set_ne _ _ (by omega), set_ne _ _ (by omega)]
  | succ m ih =>
    intro k τ hk
    have n := sg_num2 ha (show k < 12 by omega)
    rw [eX9_signs_26, if_pos (show (k : Int) < 8 by omega), if_neg (show ¬ (k : Int) < 0 by omega), if_pos (show (k : Int) < 8 by omega), n.2.1, if_neg n.2.2.1, if_pos n.2.2.2.1, n.2.2.2.2, sup_row, Int.toNat_natCast, Int.toNat_natCast]
    obtain ⟨g, e, g1, g3, g4, g5, g6, g2⟩ := ih (k + 1) (row τ 49 0 (set (τ 49 0) (68 * a + 56 + k) (τ 43 0 k))) (by omega)
    have r40 : row τ 49 0 (set (τ 49 0) (68 * a + 56 + k) (τ 43 0 k)) 40 0 = τ 40 0 := by rw [row_at, if_neg (by decide)]
    have r43 : row τ 49 0 (set (τ 49 0) (68 * a + 56 + k) (τ 43 0 k)) 43 0 = τ 43 0 := by rw [row_at, if_neg (by decide)]
    rw [row_row] at e
    rw [row_same] at g2
    rw [r40] at g3 g4 g5 g6
    rw [r43] at g1
    refine ⟨g, e, fun j h1 h2 => ?_, g3, g4, g5, g6, fun j hj => ?_⟩
    · by_cases q : j = k
      · rw [q, g2 _ (by omega), set_same]
      · exact g1 j (by omega) h2
    · rw [g2 j (by omega), set_ne _ _ (by omega)]
theorem m_signs2 (hz : RZ c (τ 40 0)) (hc : OKC c) (a : Nat) (ha : a ≤ 300) : ∃ g, inv N mX9_signs [vR 30 0, vI (a : Int)] (P τ) = some (none, P (row (rfM τ) 49 0 g)) ∧ (∀ k, k < 68 → g (68 * a + k) = sgF c k) ∧ ∀ j, j < 68 * a ∨ 68 * a + 68 ≤ j → g j = τ 49 0 j := by
  have okm := OKM_RZ hz hc
  obtain ⟨g1, e1, a1, b1⟩ := m_sg82 (N := N) a ha 56 0 (rfM τ) rfl
  obtain ⟨g2, e2, a2, c2, d2, f2, h2, b2⟩ := m_sg262 (N := N) a ha 8 0 (row (rfM τ) 49 0 g1) rfl
  have q40 : rfM τ 40 0 = τ 40 0 := by
    unfold rfM
    rw [row_at, if_neg (by decide)]
  have q49 : rfM τ 49 0 = τ 49 0 := by
    unfold rfM
    rw [row_at, if_neg (by decide)]
  have q43 : rfM τ 43 0 = flV (τ 43 0) (τ 40 0) := by
    unfold rfM
    rw [row_same]
  have r40 : row (rfM τ) 49 0 g1 40 0 = τ 40 0 := by rw [row_at, if_neg (by decide), q40]
  have r43 : row (rfM τ) 49 0 g1 43 0 = flV (τ 43 0) (τ 40 0) := by rw [row_at, if_neg (by decide), q43]
  rw [q40] at a1
  rw [q49] at b1
  rw [r40] at c2 d2 f2 h2
  rw [r43] at a2
  rw [row_same] at b2
  have e0 : ((0 : Nat) : Int) = 0 := rfl
  rw [e0] at e1 e2
  rw [(sg_num2 ha (show 0 < 12 by decide)).1] at e1
  refine ⟨g2, ?_, fun k hk => ?_, fun j hj => ?_⟩
  · rw [iX9_signs, eX9_signs_0, s9_readsFlags okm.2.1, bnd_s, push_n, eX9_signs_2, (sg_num ha (show 0 < 68 by decide)).1, e1, e2, row_row]
  · have z := hz.1.1
    unfold sgF
    by_cases q : k < 56
    · rw [if_pos q, b2 _ (by omega), a1 k (by omega) q]
      exact (z k (by omega)).symm
    · rw [if_neg q]
      by_cases q1 : k < 64
      · have t := a2 (k - 56) (by omega) (by omega)
        rw [show 68 * a + 56 + (k - 56) = 68 * a + k by omega] at t
        rw [if_pos q1, t, flV_f (τ 43 0) g00 (τ 40 0) (by omega), flV_congr (c := τ 40 0) (n := c) (fun j j1 j2 => (z j (by omega)).symm)]
      · rw [if_neg q1]
        by_cases q2 : k = 64
        · rw [if_pos q2, q2, c2, z 76 (by decide)]
        · rw [if_neg q2]
          by_cases q3 : k = 65
          · rw [if_pos q3, q3, d2, z 77 (by decide)]
          · rw [if_neg q3]
            by_cases q4 : k = 66
            · rw [if_pos q4, q4, f2, hz.2]
            · have q5 : k = 67 := by omega
              rw [if_neg q4, q5, h2, hz.2, hz.1.2.2.1]
  · rw [b2 j (by omega), b1 j (by omega)]
theorem m_alike2 (τ : Sto) (a b : Nat) (ha : a ≤ 300) (hb : b ≤ 300) : ∃ u, inv N mX9_areAlike [vR 30 0, vI (a : Int), vI (b : Int)] (P τ) = some (some (vI u), P τ) ∧ (u = 0 ∨ u = 1) ∧ (u = 1 ↔ ∀ k, k < 68 → τ 49 0 (68 * a + k) = τ 49 0 (68 * b + k)) := by
  have lp : ∀ (m k : Nat), k + m = 68 → (∀ j, j < k → τ 49 0 (68 * a + j) = τ 49 0 (68 * b + j)) → ∃ u, ev N mX9_areAlike 2 [vR 30 0, vI (a : Int), vI (b : Int), vI (k : Int)] [] (P τ) = some (some (vI u), P τ) ∧ (u = 0 ∨ u = 1) ∧ (u = 1 ↔ ∀ k, k < 68 → τ 49 0 (68 * a + k) = τ 49 0 (68 * b + k)) := by
    intro m
    induction m with
    | zero =>
      intro k hk h
      rw [eX9_areAlike_2, if_neg (show ¬ (k : Int) < 68 by omega)]
      exact ⟨1, rfl, Or.inr rfl, ⟨fun _ j hj => h j (by omega), fun _ => rfl⟩⟩
    | succ m ih =>
      intro k hk h
      have n := sg_num ha (show k < 68 by omega)
      have n' := sg_num hb (show k < 68 by omega)
      rw [eX9_areAlike_2, if_pos (show (k : Int) < 68 by omega), n.1, n'.1, n.2.1, n'.2.1, if_neg n.2.2.1, if_pos n.2.2.2.1, if_neg n'.2.2.1, if_pos n'.2.2.2.1, n.2.2.2.2, Int.toNat_natCast, Int.toNat_natCast]
      by_cases q : τ 49 0 (68 * a + k) = τ 49 0 (68 * b + k)
      · rw [if_pos q]
        refine ih (k + 1) (by omega) (fun j hj => ?_)
        by_cases z : j = k
        · rw [z]; exact q
        · exact h j (by omega)
      · rw [if_neg q]
        exact ⟨0, rfl, Or.inl rfl, ⟨fun z => absurd z (by decide), fun z => absurd (z k (by omega)) q⟩⟩
  rw [iX9_areAlike, eX9_areAlike_0]
  exact lp 68 0 rfl (fun j hj => absurd hj (by omega))
/-- whether row o of the signs is row many -/
def ALK (τ : Sto) (many o : Nat) : Prop := ∀ k, k < 68 → τ 49 0 (68 * o + k) = τ 49 0 (68 * many + k)
theorem m_old2 (τ : Sto) (v at' k : Int) (many : Nat) (hm : many ≤ 300) : ∀ (m j : Nat), j + m = many → (∀ o, o < j → ¬ ALK τ many o) → ∃ y5 y6 : Int, ((∃ o, o < many ∧ ALK τ many o) ∧ ev N mX9_seeks 79 [vR 30 0, vI v, vI (many : Int), vI at', vI k, vI 0, vI (j : Int)] [] (P τ) = ev N mX9_seeks 31 [vR 30 0, vI v, vI (many : Int), vI at', vI (w32 (k + 1)), vI y5, vI y6] [] (P τ)) ∨ ((∀ o, o < many → ¬ ALK τ many o) ∧ ev N mX9_seeks 79 [vR 30 0, vI v, vI (many : Int), vI at', vI k, vI 0, vI (j : Int)] [] (P τ) = (if (many : Int) = 300 then some (some (vI (-3)), P τ) else bnd (inv N mX9_keepsIn [vR 30 0, vR 48 0, vI (w32 (107 * (many : Int)))] (P τ)) (fun r S2 => ev N mX9_seeks 105 [vR 30 0, vI v, vI (many : Int), vI at', vI k, vI y5, vI y6] (push r []) S2))) := by
  intro m
  induction m with
  | zero =>
    intro j hj hn
    refine ⟨0, (j : Int), Or.inr ⟨fun o ho => hn o (by omega), ?_⟩⟩
    rw [eX9_seeks_79, if_neg (show ¬ (j : Int) < (many : Int) by omega), if_pos rfl]
  | succ m ih =>
    intro j hj hn
    have e1 : w32 ((j : Int) + 1) = ((j + 1 : Nat) : Int) := by rw [w32i (by omega) (by omega)]; omega
    obtain ⟨u, eu, u1, u2⟩ := m_alike2 (N := N) τ j many (by omega) hm
    by_cases q : u = 0
    · obtain ⟨y5, y6, t⟩ := ih (j + 1) (by omega) (fun o ho => by
        by_cases z : o = j
        · rw [z]
          intro w
          have := u2.mpr w
          omega
        · exact hn o (by omega))
      refine ⟨y5, y6, ?_⟩
      rw [eX9_seeks_79, if_pos (show (j : Int) < (many : Int) by omega), if_pos rfl, eu, bnd_s, push_s, eX9_seeks_88, e1, q]
      exact t
    · have al : ALK τ many j := u2.mp (u1.resolve_left q)
      refine ⟨u, ((j + 1 : Nat) : Int), Or.inl ⟨⟨j, by omega, al⟩, ?_⟩⟩
      rw [eX9_seeks_79, if_pos (show (j : Int) < (many : Int) by omega), if_pos rfl, eu, bnd_s, push_s, eX9_seeks_88, e1, eX9_seeks_79]
      by_cases z : ((j + 1 : Nat) : Int) < (many : Int)
      · rw [if_pos z, if_neg q, if_neg q]
      · rw [if_neg z, if_neg q]
end ROUTE
