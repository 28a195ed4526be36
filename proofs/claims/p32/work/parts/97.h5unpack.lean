/-! ROUTE, the class's: a stand unpacked -/
/-- alike but for the field that says whether power failed, without a cut -/
def S9 (x y : XP) : Prop := x.1 = y.1 ∧ (∀ j, j ≠ 9 → x.2 j = y.2 j) ∧ x.2 7 = -1
theorem S9_wr {x y : XP} (h : S9 x y) (a n : Nat) (v : Int) : S9 (wrC a n v x) (wrC a n v y) := by
  have hy : y.2 7 = -1 := (h.2.1 7 (by decide)).symm.trans h.2.2
  unfold wrC
  rw [if_neg (fun z => z.1 h.2.2), if_neg (fun z => z.1 hy)]
  refine ⟨?_, fun j hj => ?_, ?_⟩
  · show fill x.1 a n v = fill y.1 a n v
    rw [h.1]
  · show set x.2 8 _ j = set y.2 8 _ j
    unfold set
    rw [h.2.1 8 (by decide), h.2.1 j hj]
  · dsimp only
    rw [set_ne _ _ (by decide)]
    exact h.2.2
theorem S9_wfC {x y : XP} (h : S9 x y) (b : Nat) (nx : Int) : S9 (wfC b nx x) (wfC b nx y) := by
  unfold wfC
  rw [h.2.1 2 (by decide), h.2.1 3 (by decide), h.2.1 4 (by decide), h.2.1 5 (by decide)]
  exact S9_wr (S9_wr (S9_wr (S9_wr (S9_wr (S9_wr (S9_wr (S9_wr (S9_wr h _ _ _) _ _ _) _ _ _) _ _ _) _ _ _) _ _ _) _ _ _) _ _ _) _ _ _
theorem S9_wf {x y : XP} (h : S9 x y) : (writeFlagsC x).1 = (writeFlagsC y).1 := by
  have e : ∀ w, nxC x.1 w = nxC y.1 w := fun w => by rw [h.1]
  unfold writeFlagsC
  rw [h.2.1 6 (by decide), e, e]
  split
  · exact (S9_wfC h 64 _).1
  · exact (S9_wfC h 56 _).1
section ROUTE
variable {N : Nat} {σ τ : Sto} {x : XP}
theorem r_clear2 : ∀ (m k : Nat) (x : XP) (a b c d : Int), k + m = 72 → 56 ≤ k → OKC x.1 → ∃ v, ev N mX2_putFlags 8 [vR 6 4, vI a, vI b, vI c, vI d, vI (k : Int)] [] (P (putC τ 4 x)) = ev N mX2_putFlags 8 [vR 6 4, vI a, vI b, vI c, vI d, vI 72] [] (P (putC τ 4 (v, x.2))) ∧ OKC v ∧ (∀ j, j < k ∨ 72 ≤ j → v j = x.1 j) ∧ ∀ j, k ≤ j → j < 72 → v j = 255 := by
  intro m
  induction m with
  | zero =>
    intro k x a b c d hk _ hc
    have e : k = 72 := by omega
    subst e
    exact ⟨x.1, rfl, hc, fun _ _ => rfl, fun j h1 h2 => absurd h1 (by omega)⟩
  | succ m ih =>
    intro k x a b c d hk h56 hc
    have e1 : w32 ((k : Int) + 1) = ((k + 1 : Nat) : Int) := by rw [w32i (by omega) (by omega)]; omega
    have sc := p2_setCell (N := N) (i := 4) (σ := τ) (x := x) (k : Int) 255 (by omega) (by omega)
    have o := okc_page (a := k) (n := 1) (v := 255) hc h56 (by omega) (by decide)
    rw [fill_1] at o
    rw [Int.toNat_natCast] at sc
    obtain ⟨v, v1, v2, v3, v4⟩ := ih (k + 1) (set x.1 k 255, x.2) a b c d (by omega) (by omega) o
    refine ⟨v, ?_, v2, fun j hj => ?_, fun j h1 h2 => ?_⟩
    · rw [eX2_putFlags_8, if_pos (show (k : Int) < 72 by omega), sc, bnd_s, push_n, eX2_putFlags_15, e1]
      exact v1
    · rw [v3 j (by omega)]
      exact set_ne _ _ (by omega)
    · by_cases q : j = k
      · rw [q, v3 k (by omega)]
        exact set_same _ _ _
      · exact v4 j (by omega) h2
theorem r_putFlags2 (hc : OKC x.1) (a b c d : Int) (ha : 0 ≤ a ∧ a < 256) (hb : 0 ≤ b ∧ b < 256) (hcc : 0 ≤ c ∧ c < 256) (hd : 0 ≤ d ∧ d < 256) : ∃ y, inv N mX2_putFlags [vR 6 4, vI a, vI b, vI c, vI d] (P (putC τ 4 x)) = some (none, P (putC τ 4 y)) ∧ OKC y.1 ∧ (∀ j, j < 56 ∨ 72 ≤ j → y.1 j = x.1 j) ∧ flagF y.1 0 = a ∧ flagF y.1 1 = b ∧ flagF y.1 2 = c ∧ flagF y.1 3 = d := by
  have tf : inv N mX2_takeFlags [vR 6 4, vI a, vI b, vI c, vI d] (P (putC τ 4 x)) = some (none, P (putC τ 4 (x.1, set (set (set (set x.2 2 a) 3 b) 4 c) 5 d))) := by
    rw [iX2_takeFlags, eX2_takeFlags_0]
    simp only [sup_row, putC_6, row_putC6]
  obtain ⟨v, v1, v2, v3, v4⟩ := r_clear2 (N := N) (τ := τ) 16 56 (x.1, set (set (set (set x.2 2 a) 3 b) 4 c) 5 d) a b c d rfl (by decide) hc
  have s1 : sup (sup (putC τ 4 (v, set (set (set (set x.2 2 a) 3 b) 4 c) 5 d)) 6 4 6 (-1)) 6 4 7 (-1) = putC τ 4 (v, set (set (set (set (set (set x.2 2 a) 3 b) 4 c) 5 d) 6 (-1)) 7 (-1)) := by
    simp only [sup_row, putC_6, row_putC6]
  have g2 : set (set (set (set (set (set x.2 2 a) 3 b) 4 c) 5 d) 6 (-1)) 7 (-1) 2 = a := rfl
  have g3 : set (set (set (set (set (set x.2 2 a) 3 b) 4 c) 5 d) 6 (-1)) 7 (-1) 3 = b := rfl
  have g4 : set (set (set (set (set (set x.2 2 a) 3 b) 4 c) 5 d) 6 (-1)) 7 (-1) 4 = c := rfl
  have g5 : set (set (set (set (set (set x.2 2 a) 3 b) 4 c) 5 d) 6 (-1)) 7 (-1) 5 = d := rfl
  have g6 : set (set (set (set (set (set x.2 2 a) 3 b) 4 c) 5 d) 6 (-1)) 7 (-1) 6 = -1 := rfl
  have g7 : set (set (set (set (set (set x.2 2 a) 3 b) 4 c) 5 d) 6 (-1)) 7 (-1) 7 = -1 := rfl
  generalize set (set (set (set (set (set x.2 2 a) 3 b) 4 c) 5 d) 6 (-1)) 7 (-1) = g at s1 g2 g3 g4 g5 g6 g7
  have ox : OKX (v, g) := by
    refine ⟨v2, ?_, ?_, ?_, ?_, Or.inl g6⟩
    · show 0 ≤ g 2 ∧ g 2 < 256
      rw [g2]; exact ha
    · show 0 ≤ g 3 ∧ g 3 < 256
      rw [g3]; exact hb
    · show 0 ≤ g 4 ∧ g 4 < 256
      rw [g4]; exact hcc
    · show 0 ≤ g 5 ∧ g 5 < 256
      rw [g5]; exact hd
  have w56 : whole1 v 56 = 0 := by
    unfold whole1
    rw [if_neg (fun z => by have t := z.1; rw [v4 56 (by decide) (by decide)] at t; omega)]
  have w64 : whole1 v 64 = 0 := by
    unfold whole1
    rw [if_neg (fun z => by have t := z.1; rw [v4 64 (by decide) (by decide)] at t; omega)]
  have nw : newestF v = -1 := by
    unfold newestF
    rw [w56, w64]
    rfl
  have n9 : NR (v, set g 9 0) := by
    show set g 9 0 6 = newestF v
    rw [set_ne _ _ (by decide), g6, nw]
  have l9 : LV (v, set g 9 0) := by
    refine ⟨?_, ?_⟩
    · show set g 9 0 7 = -1
      rw [set_ne _ _ (by decide)]
      exact g7
    · show set g 9 0 9 = 0
      exact set_same _ _ _
  have p9 := PF_wf v2.2.1 n9 l9
  have o9 : ∀ j, 2 ≤ j → j < 6 → (writeFlagsC (v, set g 9 0)).2 j = g j := fun j a b => (writeFlagsC_o (v, set g 9 0) (by omega) (by omega) (by omega)).trans (set_ne _ _ (by omega))
  have s9 : (writeFlagsC (v, g)).1 = (writeFlagsC (v, set g 9 0)).1 := S9_wf ⟨rfl, fun j hj => (set_ne _ _ hj).symm, g7⟩
  obtain ⟨-, q2, q3, q4, q5⟩ := p9
  rw [o9 2 (by decide) (by decide), g2, ← s9] at q2
  rw [o9 3 (by decide) (by decide), g3, ← s9] at q3
  rw [o9 4 (by decide) (by decide), g4, ← s9] at q4
  rw [o9 5 (by decide) (by decide), g5, ← s9] at q5
  have wf := p2_writeFlags (N := N) (i := 4) (σ := τ) (x := (v, g)) ox
  have w2 := (writeFlagsC_ok ox).1
  have w3 : ∀ j, j < 56 ∨ 72 ≤ j → (writeFlagsC (v, g)).1 j = v j := fun j hj => writeFlagsC_at (v, g) hj
  generalize writeFlagsC (v, g) = y at wf w2 w3 q2 q3 q4 q5
  refine ⟨y, ?_, w2, fun j hj => (w3 j hj).trans (v3 j (by omega)), q2.symm, q3.symm, q4.symm, q5.symm⟩
  have e56 : ((56 : Nat) : Int) = 56 := rfl
  rw [e56] at v1
  rw [iX2_putFlags, eX2_putFlags_0, tf, bnd_s, push_n, eX2_putFlags_6, v1, eX2_putFlags_8, if_neg (by decide), s1, wf, bnd_s, push_n, eX2_putFlags_25]
/-- one slot of a stand -/
theorem r_un2 (hg : OKG σ 1) (e51 : τ 5 1 = σ 5 1) (e21 : OKG τ 1) (hc : OKC x.1) (y : Int) (s : Nat) (hs : s < 2) (z : MV) {a : Int} {c : Vec} (hy : w32 (shr64 y (w32 (3 * (s : Int)))) % 8 = a) (ha : CN σ s a c) (hx : WEQ x.1 (14 * s) (σ 7 0) (14 * s)) : ∃ v z', ev N mX5_unpack 7 [vR 14 0, vJ y, vX, vI (s : Int), z] [] (P (putC τ 4 x)) = ev N mX5_unpack 7 [vR 14 0, vJ y, vX, vI ((s + 1 : Nat) : Int), z'] [] (P (putC τ 4 (v, x.2))) ∧ OKC v ∧ WEQ v (14 * s) c (14 * s) ∧ ∀ j, j < 14 * s ∨ 14 * s + 14 ≤ j → v j = x.1 j := by
  have e1 : w32 ((s : Int) + 1) = ((s + 1 : Nat) : Int) := by rw [w32i (by omega) (by omega)]; omega
  rw [eX5_unpack_7, if_pos (show (s : Int) < 2 by omega), r_part, bAnd_7, bnd_s, push_s, eX5_unpack_16, hy]
  rcases ha with ⟨a0, w⟩ | ⟨i, a1, i1, w, -⟩
  · rw [if_neg (show ¬ 0 < a by omega), eX5_unpack_26, e1]
    exact ⟨x.1, _, rfl, hc, WEQ_tr hx (WEQ_sym w), fun _ _ => rfl⟩
  · have g4 := hg.2.2.2.1
    have e2 : w32 (a - 1) = (i : Int) := by rw [w32i (by omega) (by omega)]; omega
    obtain ⟨v1, v2, -⟩ := r_img2 (N := N) (τ := τ) (x := x) e21 hc s i (by omega) (by omega)
    rw [if_pos (show 0 < a by omega), e2, v1, bnd_s, push_n, eX5_unpack_26, e1]
    refine ⟨_, _, rfl, v2, fun k hk => ?_, fun j hj => cpyV_out _ _ _ _ _ _ (by omega)⟩
    rw [cpyV_in _ _ _ _ _ _ hk, e51]
    exact (w k hk).symm
theorem sh_parts {z : Int} (h0 : 0 ≤ z) (h1 : z < 4503599627370496) : shr64 z (w32 (3 * ((0 : Nat) : Int))) = z ∧ shr64 z (w32 (3 * ((1 : Nat) : Int))) = z / 8 ∧ shr64 z 6 = z / 64 ∧ shr64 z 14 = z / 16384 ∧ shr64 z 22 = z / 4194304 ∧ shr64 z 30 = z / 1073741824 ∧ shr64 z 38 = z / 274877906944 ∧ shr64 z 43 = z / 8796093022208 ∧ shr64 z 49 = z / 562949953421312 ∧ shr64 z 51 = z / 2251799813685248 := by
  have d := fun (n : Nat) (hn : n < 64) => shr64_div h0 (Int.lt_trans h1 (by decide)) n hn
  have d0 := d 0 (by decide)
  rw [show ((2 ^ 0 : Nat) : Int) = 1 from rfl, Int.ediv_one] at d0
  exact ⟨d0, d 3 (by decide), d 6 (by decide), d 14 (by decide), d 22 (by decide), d 30 (by decide), d 38 (by decide), d 43 (by decide), d 49 (by decide), d 51 (by decide)⟩
theorem okc_parts {c : Vec} (h : OKC c) {r s u t : Int} (hr : 0 ≤ r ∧ r ≤ 31) (hs : 0 ≤ s ∧ s < 64) (hu : -1 ≤ u ∧ u ≤ 2) : OKC (set (set (set (set c 76 r) 77 s) 78 u) 80 t) :=
  okc_hi (okc_set (okc_set (okc_set h (by decide) (fun _ => hr) (fun z => absurd z (by decide)) (fun z => absurd z (by decide))) (by decide) (fun z => absurd z (by decide)) (fun _ => hs) (fun z => absurd z (by decide))) (by decide) (fun z => absurd z (by decide)) (fun z => absurd z (by decide)) (fun _ => hu)) (by decide)
theorem flag_parts (c : Vec) (r s u t : Int) {k : Nat} (hk : k < 4) : flagF (set (set (set (set c 76 r) 77 s) 78 u) 80 t) k = flagF c k :=
  flagF_congr (fun j h1 h2 => by rw [set_ne _ _ (by omega), set_ne _ _ (by omega), set_ne _ _ (by omega), set_ne _ _ (by omega)]) hk
/-- what is told of cells that are unpacked -/
theorem un_EA {v c w : Vec} {t : Int} (f : ∀ k, k < 4 → flagF w k = flagF c k) (hw : ∀ j, j < 56 → w j = c j) (hv : v = set (set (set (set w 76 (c 76)) 77 (c 77)) 78 (c 78)) 80 t) (ht : t = if c 78 = -1 then 0 else c 80) : EA v c ∧ v 78 = c 78 ∧ v 80 = t := by
  subst hv
  have e78 : set (set (set (set w 76 (c 76)) 77 (c 77)) 78 (c 78)) 80 t 78 = c 78 := by rw [set_ne _ _ (by decide), set_same]
  have e80 : set (set (set (set w 76 (c 76)) 77 (c 77)) 78 (c 78)) 80 t 80 = t := set_same _ _ _
  refine ⟨⟨fun j hj => ?_, e78, ?_, fun k hk => (flag_parts w _ _ _ _ hk).trans (f k hk)⟩, e78, e80⟩
  · rcases hj with h | h | h
    · rw [set_ne _ _ (by omega), set_ne _ _ (by omega), set_ne _ _ (by omega), set_ne _ _ (by omega)]
      exact hw j h
    · rw [h, set_ne _ _ (by decide), set_ne _ _ (by decide), set_ne _ _ (by decide), set_same]
    · rw [h, set_ne _ _ (by decide), set_ne _ _ (by decide), set_same]
  · rw [e78, e80, ht]
    by_cases q : c 78 = -1
    · exact Or.inl q
    · exact Or.inr (if_neg q)
theorem r_unpack2 (h : RtT σ τ) (hg : OKG σ 1) (hc0 : OKC (σ 7 0)) {a b : Int} {c : Vec} (ha : CN σ 0 a c) (hb : CN σ 1 b c) (hc : OKC c) (h8 : T8 c) (hw : ∀ j, 28 ≤ j → j < 56 → c j = σ 7 0 j) : ∃ v, inv N mX5_unpack [vR 14 0, vJ (PKV a b c)] (P τ) = some (none, P (putC τ 4 v)) ∧ OKC v.1 ∧ T8 v.1 ∧ v.1 82 = σ 7 0 82 ∧ EA v.1 c := by
  have gt := RtT_G h hg
  have e51 : τ 5 1 = σ 5 1 := h.1 5 1 (by decide)
  obtain ⟨pz, p1, p2, p3, p4, p5, p6, p7, p8, p9, p10⟩ := PKV_parts (CN_r hg ha) (CN_r hg hb) hc h8
  generalize PKV a b c = y at pz p1 p2 p3 p4 p5 p6 p7 p8 p9 p10
  obtain ⟨s1, s2, s3, s4, s5, s6, s7, s8, s9, s10⟩ := sh_parts pz.1 pz.2
  have m := fun x => w32_mod x
  have q1 : w32 (shr64 y (w32 (3 * ((0 : Nat) : Int)))) % 8 = a := by rw [s1, (m y).1]; exact p1
  have q2 : w32 (shr64 y (w32 (3 * ((1 : Nat) : Int)))) % 8 = b := by rw [s2, (m _).1]; exact p2
  have q3 : w32 (shr64 y 6) % 256 = flagF c 0 := by rw [s3, (m _).2.1]; exact p3
  have q4 : w32 (shr64 y 14) % 256 = flagF c 1 := by rw [s4, (m _).2.1]; exact p4
  have q5 : w32 (shr64 y 22) % 256 = flagF c 2 := by rw [s5, (m _).2.1]; exact p5
  have q6 : w32 (shr64 y 30) % 256 = flagF c 3 := by rw [s6, (m _).2.1]; exact p6
  have q7 : w32 (shr64 y 38) % 32 = c 76 := by rw [s7, (m _).2.2.1]; exact p7
  have q8 : w32 (shr64 y 43) % 64 = c 77 := by rw [s8, (m _).2.2.2.1]; exact p8
  have q9 : w32 (w32 (shr64 y 49) % 4 - 1) = c 78 := by
    have u := hc.2.2.2.2
    rw [s9, (m _).2.2.2.2.1, p9, w32i (by omega) (by omega)]
    omega
  have q10 : w32 (shr64 y 51) % 2 = if c 78 = -1 then 0 else c 80 := by rw [s10, (m _).2.2.2.2.2]; exact p10
  clear p1 p2 p3 p4 p5 p6 p7 p8 p9 p10 s1 s2 s3 s4 s5 s6 s7 s8 s9 s10 m
  have ct := p2_take (N := N) (i := 4) (b := τ) (x := (τ 7 4, τ 6 4)) 0 (by decide)
  rw [putC_id, RtT_7 h] at ct
  have oc : OKC (cpyV (σ 7 0) (τ 7 4) 0 0 107) := OKC_107 hc0 (fun j hj => cpy_all _ _ hj)
  have oj : ∀ j, j < 107 → cpyV (σ 7 0) (τ 7 4) 0 0 107 j = σ 7 0 j := fun j hj => cpy_all _ _ hj
  change inv N mX2_takeFrom [vR 6 4, vR 6 0] (P τ) = some (none, P (putC τ 4 (cpyV (σ 7 0) (τ 7 4) 0 0 107, τ 6 4))) at ct
  generalize cpyV (σ 7 0) (τ 7 4) 0 0 107 = d at ct oc oj
  obtain ⟨d1, z1, a1, a2, a3, a4⟩ := r_un2 (N := N) (τ := τ) (x := (d, τ 6 4)) hg e51 gt oc y 0 (by decide) vX q1 ha (fun k hk => oj _ (by omega))
  obtain ⟨d2, z2, b1, b2, b3, b4⟩ := r_un2 (N := N) (τ := τ) (x := (d1, τ 6 4)) hg e51 gt a2 y 1 (by decide) z1 q2 hb (fun k hk => (a4 _ (by omega)).trans (oj _ (by omega)))
  change ∀ j, j < 14 * 0 ∨ 14 * 0 + 14 ≤ j → d1 j = d j at a4
  change ∀ j, j < 14 * 1 ∨ 14 * 1 + 14 ≤ j → d2 j = d1 j at b4
  have e0 : ((0 : Nat) : Int) = 0 := rfl
  rw [e0] at a1
  have f := fun k hk => flagF_r hc.2.1 k hk
  obtain ⟨w, w1, w2, w3, w4, w5, w6, w7⟩ := r_putFlags2 (N := N) (τ := τ) (x := (d2, τ 6 4)) b2 (flagF c 0) (flagF c 1) (flagF c 2) (flagF c 3) (f 0 (by decide)) (f 1 (by decide)) (f 2 (by decide)) (f 3 (by decide))
  change ∀ j, j < 56 ∨ 72 ≤ j → w.1 j = d2 j at w3
  have wj : ∀ j, j < 56 → w.1 j = c j := by
    intro j hj
    rw [w3 j (Or.inl hj)]
    by_cases c1 : j < 14
    · have t := a3 j c1
      rw [Nat.mul_zero, Nat.zero_add] at t
      rw [b4 j (by omega)]
      exact t
    · by_cases c2 : j < 28
      · have t := b3 (j - 14) (by omega)
        rw [show 14 * 1 + (j - 14) = j by omega] at t
        exact t
      · rw [b4 j (by omega), a4 j (by omega), oj j (by omega)]
        exact (hw j (by omega) hj).symm
  have w82 : w.1 82 = σ 7 0 82 := by rw [w3 82 (by decide), b4 82 (by decide), a4 82 (by decide), oj 82 (by decide)]
  have fl : ∀ k, k < 4 → flagF w.1 k = flagF c k := by
    intro k hk
    rcases (show k = 0 ∨ k = 1 ∨ k = 2 ∨ k = 3 by omega) with rfl | rfl | rfl | rfl
    · exact w4
    · exact w5
    · exact w6
    · exact w7
  have s76 := p2_setCell (N := N) (i := 4) (σ := τ) (x := w) 76 (c 76) (by decide) (by decide)
  have s77 := p2_setCell (N := N) (i := 4) (σ := τ) (x := (set w.1 76 (c 76), w.2)) 77 (c 77) (by decide) (by decide)
  have s78 := p2_setCell (N := N) (i := 4) (σ := τ) (x := (set (set w.1 76 (c 76)) 77 (c 77), w.2)) 78 (c 78) (by decide) (by decide)
  have s80 := p2_setCell (N := N) (i := 4) (σ := τ) (x := (set (set (set w.1 76 (c 76)) 77 (c 77)) 78 (c 78), w.2)) 80 (if c 78 = -1 then 0 else c 80) (by decide) (by decide)
  obtain ⟨n1, n2, n3⟩ := un_EA (v := set (set (set (set w.1 76 (c 76)) 77 (c 77)) 78 (c 78)) 80 (if c 78 = -1 then 0 else c 80)) (c := c) fl wj rfl rfl
  refine ⟨(set (set (set (set w.1 76 (c 76)) 77 (c 77)) 78 (c 78)) 80 (if c 78 = -1 then 0 else c 80), w.2), ?_, okc_parts w2 hc.2.2.1 hc.2.2.2.1 hc.2.2.2.2, ?_, ?_, n1⟩
  · rw [iX5_unpack, eX5_unpack_0, ct, bnd_s, push_n, eX5_unpack_5, a1]
    rw [show ((0 + 1 : Nat) : Int) = ((1 : Nat) : Int) from rfl, b1]
    rw [eX5_unpack_7, if_neg (by decide), r_part, bAnd_255, q3, bnd_s, push_s, eX5_unpack_34, r_part, bAnd_255, q4, bnd_s, push_s, eX5_unpack_38, r_part, bAnd_255, q5, bnd_s, push_s, eX5_unpack_42, r_part, bAnd_255, q6, bnd_s, push_s, eX5_unpack_46, w1, bnd_s, push_n, eX5_unpack_47, r_part, m_31, q7, bnd_s, push_s, eX5_unpack_54, s76, bnd_s, push_n, eX5_unpack_55, r_part, bAnd_63, q8, bnd_s, push_s, eX5_unpack_62]
    rw [show (76 : Int).toNat = 76 from rfl, s77, bnd_s, push_n, eX5_unpack_63, r_part, m_3, bnd_s, push_s, eX5_unpack_70, q9, show (77 : Int).toNat = 77 from rfl, s78, bnd_s, push_n, eX5_unpack_73, r_part, bAnd_1, q10, bnd_s, push_s, eX5_unpack_80, show (78 : Int).toNat = 78 from rfl, s80, bnd_s, push_n, eX5_unpack_81]
    rfl
  · unfold T8 at h8 ⊢
    dsimp only
    rw [n3]
    split
    · exact Or.inl rfl
    · exact h8
  · show set (set (set (set w.1 76 (c 76)) 77 (c 77)) 78 (c 78)) 80 (if c 78 = -1 then 0 else c 80) 82 = _
    rw [set_ne _ _ (by decide), set_ne _ _ (by decide), set_ne _ _ (by decide), set_ne _ _ (by decide)]
    exact w82
end ROUTE
