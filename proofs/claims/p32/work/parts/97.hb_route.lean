/-! ROUTE, whole: both answer alike -/
theorem PKV_hi {a b : Int} {c d : Vec} (h : ∀ j, 56 ≤ j → j < 107 → c j = d j) : PKV a b c = PKV a b d := by
  have f : ∀ k, k < 4 → flagF c k = flagF d k := fun k hk => flagF_congr (fun j j1 j2 => h j j1 (by omega)) hk
  unfold PKV
  rw [f 0 (by decide), f 1 (by decide), f 2 (by decide), f 3 (by decide), h 76 (by decide) (by decide), h 77 (by decide) (by decide), h 78 (by decide) (by decide), h 80 (by decide) (by decide)]
section ROUTE
variable {N : Nat} {σ ρ τ υ : Sto}
theorem both_search (hg : OKG σ 1) (hc0 : OKC (σ 7 0)) (h8 : T8 (σ 7 0)) (h82 : 0 ≤ σ 7 0 82 ∧ σ 7 0 82 < 2147482000) (he : EnvM σ ρ) (hz : RZ (σ 7 0) (ρ 40 0)) (v : Int) : ∃ (o n : Int) (τ υ : Sto), inv N mX5_search [vR 14 0, vI v] (P σ) = some (some (vI o), P τ) ∧ inv N mX9_seeks [vR 30 0, vI v] (P ρ) = some (some (vI n), P υ) ∧ RtT σ τ ∧ MR ρ υ ∧ (ENDR σ ρ τ υ o n ∨ (o = 0 ∧ n = -2) ∨ (o = 1 ∧ n = 0 ∧ τ 14 0 10 = 0)) := by
  have ct := p2_take (N := N) (i := 4) (b := σ) (x := (σ 7 4, σ 6 4)) 0 (by decide)
  rw [putC_id] at ct
  have oc : OKC (cpyV (σ 7 0) (σ 7 4) 0 0 107) := OKC_107 hc0 (fun j hj => cpy_all _ _ hj)
  have oj : ∀ j, j < 107 → cpyV (σ 7 0) (σ 7 4) 0 0 107 j = σ 7 0 j := fun j hj => cpy_all _ _ hj
  change inv N mX2_takeFrom [vR 6 4, vR 6 0] (P σ) = some (none, P (putC σ 4 (cpyV (σ 7 0) (σ 7 4) 0 0 107, σ 6 4))) at ct
  generalize cpyV (σ 7 0) (σ 7 4) 0 0 107 = c at ct oc oj
  have h1 : RtT σ (putC σ 4 (c, σ 6 4)) := by
    refine ⟨fun k k' q => ?_, ?_, ?_, ?_⟩
    · unfold putC
      rw [row_at, if_neg (fun z => q (Or.inl ⟨z.2, Or.inl z.1⟩)), row_at, if_neg (fun z => q (Or.inl ⟨z.2, Or.inr z.1⟩))]
    · rw [putC_7]; exact oc
    · rw [putC_7]; show 0 ≤ c 82; rw [oj 82 (by decide)]; exact h82.1
    · rw [putC_7]; show c 82 < _; rw [oj 82 (by decide)]; exact Int.lt_trans h82.2 (by decide)
  have p7 : putC σ 4 (c, σ 6 4) 7 4 = c := putC_7 _ _ _
  rw [iX5_search, eX5_search_0, ct, bnd_s, push_n, eX5_search_5]
  have h2 := RtT_sup h1 14 (by decide) 10 0
  have f10 : sup (putC σ 4 (c, σ 6 4)) 14 0 10 0 14 0 10 = 0 := by rw [sup_row, row_same, set_same]
  have f7 : sup (putC σ 4 (c, σ 6 4)) 14 0 10 0 7 4 = c := by rw [sup_row, row_at, if_neg (by decide), p7]
  generalize sup (putC σ 4 (c, σ 6 4)) 14 0 10 0 = τ1 at h2 f10 f7
  have ea : EA c (σ 7 0) := ⟨fun j hj => oj j (by omega), oj 78 (by decide), Or.inr (oj 80 (by decide)), fun k hk => flagF_congr (fun j j1 j2 => oj j (by omega)) hk⟩
  rw [r_isThere2 h2.2.1, f7, THR_EA ea, bnd_s, push_s, eX5_search_11, iX9_seeks, eX9_seeks_0, m_isThere2 hz hc0, bnd_s, push_s, eX9_seeks_3]
  by_cases q : THR (σ 7 0) v = 0
  case neg =>
    rw [if_neg q, if_neg q]
    exact ⟨1, 0, τ1, _, rfl, rfl, h2, MR_34 (MR_refl ρ) 0, Or.inr (Or.inr ⟨rfl, rfl, f10⟩)⟩
  obtain ⟨τ2, e3, h3, al, w28⟩ := r_findAlike2 (N := N) h2 hg
  rw [f7] at w28
  have h4 := RtT_sup (RtT_row h3 19 (by decide) (fill (τ2 19 0) 0 1024 0)) 14 (by decide) 9 0
  have g9 : sup (row τ2 19 0 (fill (τ2 19 0) 0 1024 0)) 14 0 9 0 14 0 9 = 0 := by rw [sup_row, row_same, set_same]
  have g19 : ∀ p, p < 1024 → sup (row τ2 19 0 (fill (τ2 19 0) 0 1024 0)) 14 0 9 0 19 0 p = 0 := fun p hp => by
    rw [sup_row, row_at, if_neg (by decide), row_same]
    unfold fill
    rw [if_pos (by omega)]
  have g20 : sup (row τ2 19 0 (fill (τ2 19 0) 0 1024 0)) 14 0 9 0 20 0 = τ2 20 0 := by rw [sup_row, row_at, if_neg (by decide), row_at, if_neg (by decide)]
  have g7 : sup (row τ2 19 0 (fill (τ2 19 0) 0 1024 0)) 14 0 9 0 7 4 = τ2 7 4 := by rw [sup_row, row_at, if_neg (by decide), row_at, if_neg (by decide)]
  rw [if_pos q, if_pos q, e3, bnd_s, push_n, eX5_search_16, c_fill19, bnd_s, push_n, eX5_search_20]
  generalize sup (row τ2 19 0 (fill (τ2 19 0) 0 1024 0)) 14 0 9 0 = τ3 at h4 g9 g19 g20 g7
  have hi : ∀ j, 28 ≤ j → j < 107 → τ3 7 4 j = σ 7 0 j := fun j j1 j2 => by rw [g7, w28 j j1, oj j j2]
  obtain ⟨τ4, e5, h5, r5⟩ := r_pack2 (N := N) h4 (T8_eq h8 (hi 80 (by decide) (by decide))) 0 0 (by decide) (by decide)
  rw [PKV_hi (fun j j1 j2 => hi j (by omega) j2)] at e5
  have k9 : τ4 14 0 9 = ((0 : Nat) : Int) := by rw [r5 14 (by decide) (by decide)]; exact g9
  have k19 : HT (τ4 19 0) (τ4 15 0) 0 := HT_0 (fun p hp => by rw [r5 19 (by decide) (by decide)]; exact g19 p hp)
  rw [e5, bnd_s, push_s, eX5_search_28]
  rcases r_add2 (N := N) h5 0 (by decide) k9 k19 (PKV 0 0 (σ 7 0)) 0 (by decide) 0 (fun z => absurd rfl z) with ⟨⟨s, s1, s2⟩, e⟩ | ⟨n, m300, e⟩ | ⟨n, m3, τ5, e, f1, f2, f3, f4, f5, f6, f8, f9⟩
  · exact absurd s1 (by omega)
  · exact absurd m300 (by decide)
  have e0 : ((0 : Nat) : Int) = 0 := rfl
  rw [e0] at e
  rw [e, bnd_s, push_s, eX5_search_31]
  have cs : CTS σ τ5 1 (fun _ => σ 7 0) (fun _ => 0) (fun _ => 0) (fun _ => 0) (fun _ => 0) := by
    refine ⟨f1, ?_, f2, f3, fun s hs => ?_, fun s hs => ?_, fun s s1 s2 => absurd s1 (by omega)⟩
    · unfold AL at al ⊢
      rw [f9, r5 20 (by decide) (by decide), g20]
      exact al
    · have s0 : s = 0 := by omega
      rw [s0, f4, set_same]
      exact ⟨⟨hc0, h8, ⟨h82.1, by show σ 7 0 82 < 2147482000 + ((0 : Nat) : Int); omega⟩, Or.inl ⟨rfl, fun _ _ => rfl⟩, Or.inl ⟨rfl, fun _ _ => rfl⟩, fun _ _ _ => rfl⟩, rfl⟩
    · have s0 : s = 0 := by omega
      rw [s0, f8, set_same, if_pos rfl]
      exact ⟨0, rfl, rfl⟩
  obtain ⟨g, eg, g1, g2⟩ := m_signs2 (N := N) hz hc0 0 (by decide)
  rw [e0] at eg
  have m1 : MR ρ (row (rfM ρ) 49 0 g) := MR_row (MR_KM (MR_refl ρ) (KM_rf ρ)) 49 (by decide) g
  have r1 : row (rfM ρ) 49 0 g 40 0 = ρ 40 0 := by
    unfold rfM
    rw [row_at, if_neg (by decide), row_at, if_neg (by decide)]
  have q49 : row (rfM ρ) 49 0 g 49 0 = g := row_same _ _ _ _
  rw [eg, bnd_s, push_n, eX9_seeks_12]
  generalize row (rfM ρ) 49 0 g = υ1 at m1 r1 q49
  have kp := s9_keep48 (N := N) (σ := υ1) 0 (by decide)
  rw [e0] at kp
  rw [kp, bnd_s, push_n, eX9_seeks_17, sup_row]
  have ms : MTS ρ (row (row υ1 48 0 (cpyV (υ1 40 0) (υ1 48 0) 0 0 107)) 50 0 (set (row υ1 48 0 (cpyV (υ1 40 0) (υ1 48 0) 0 0 107) 50 0) (0 : Int).toNat (-1))) 1 (fun _ => σ 7 0) (fun _ => 0) (fun _ => 0) := by
    refine ⟨MR_row (MR_row m1 48 (by decide) _) 50 (by decide) _, fun s hs => ⟨?_, fun k hk => ?_⟩, fun s s1 s2 => absurd s1 (by omega)⟩
    · have s0 : s = 0 := by omega
      rw [s0, row_at, if_neg (by decide), row_same, r1]
      refine RZ_107 hz (fun _ _ => rfl) (fun j hj => ?_)
      have t := cpyV_in (ρ 40 0) (υ1 48 0) 0 0 107 j hj
      rw [Nat.zero_add] at t
      show cpyV (ρ 40 0) (υ1 48 0) 0 0 107 (107 * 0 + j) = ρ 40 0 j
      rw [Nat.mul_zero, Nat.zero_add]
      exact t
    · have s0 : s = 0 := by omega
      rw [s0, row_at, if_neg (by decide), row_at, if_neg (by decide), q49]
      exact g1 k hk
  generalize row (row υ1 48 0 (cpyV (υ1 40 0) (υ1 48 0) 0 0 107)) 50 0 (set (row υ1 48 0 (cpyV (υ1 40 0) (υ1 48 0) 0 0 107) 50 0) (0 : Int).toNat (-1)) = υ2 at ms
  have out := both_outer (N := N) hg hc0 h82 he v 300 0 τ5 υ2 1 vX vX vX vX vX rfl ⟨_, _, _, _, _, _, cs, ms, fun s s1 s2 => absurd s1 (by omega)⟩ (by decide)
  rw [e0] at out
  obtain ⟨o, n, τ', υ', t1, t2, t3⟩ := out
  refine ⟨o, n, τ', υ', t1, t2, ?_⟩
  rcases t3 with t3 | ⟨o0, n2, a1, a2⟩
  · exact ⟨t3.1, t3.2.1, Or.inl t3⟩
  · exact ⟨a1, a2, Or.inr (Or.inl ⟨o0, n2⟩)⟩
/-- the way back from the goal, both -/
theorem both_walk {g : Nat} {F : Nat → Nat} {X K : Nat → Int} {im : Int} (hg : g ≤ 300) (hX : ∀ s : Nat, 1 ≤ s → s < g → τ 16 0 s = (F s : Int) ∧ τ 17 0 s = X s) (hK : ∀ s : Nat, 1 ≤ s → s ≤ g → υ 50 0 s = (F s : Int) ∧ υ 51 0 s = K s ∧ mvc im (K s) = X s ∧ (K s < 3 ∨ ¬ im = 0)) (hi : υ 30 0 6 = im) (v kk n : Int) (hk0 : 0 ≤ kk) (back : Nat) (hb : back < 1000) : ∀ (d q e j : Nat) (m : Nat), chF F (d + 1 + e) q → q ≤ g → j + d = back → (m : Int) = kk + d → m < 1000 → ∃ ans, ev N mX5_moveAt 8 [vR 14 0, vI (back : Int), vI (X q), vI (F q : Int), vI (j : Int)] [] (P τ) = some (some (vI ans), P τ) ∧ ev N mX9_route 40 [vR 30 0, vI v, vI kk, vI n, vI (q : Int), vI (m : Int)] [] (P υ) = some (some (vI ans), P υ) := by
  intro d
  induction d with
  | zero =>
    intro q e j m h hq hj hm m9
    have q0 : q ≠ 0 := by
      rw [show 0 + 1 + e = e + 1 by omega] at h
      exact h.1
    obtain ⟨k1, k2, k3, k4⟩ := hK q (by omega) hq
    have n0 : ¬ (q : Int) < 0 := by omega
    have n1 : (q : Int) < 301 := by omega
    refine ⟨X q, ?_, ?_⟩
    · rw [eX5_moveAt_8, if_neg (by omega)]
    · rw [eX9_route_40, if_neg (show ¬ kk < (m : Int) by omega), if_neg n0, if_pos n1, Int.toNat_natCast, k2, hi]
      unfold mvc at k3
      by_cases z : K q < 3
      · rw [if_pos z] at k3
        rw [if_pos z, k3]
      · have i0 := k4.resolve_left z
        rw [if_neg z] at k3
        rw [if_neg z, if_neg i0, if_neg i0, k3]
  | succ d ih =>
    intro q e j m h hq hj hm m9
    rw [show d + 1 + 1 + e = (d + 1 + e) + 1 by omega] at h
    obtain ⟨q0, u, h2⟩ := h
    have f0 : F q ≠ 0 := by
      rw [show d + 1 + e = (d + e) + 1 by omega] at h2
      exact h2.1
    obtain ⟨k1, k2, k3, k4⟩ := hK q (by omega) hq
    obtain ⟨x1, x2⟩ := hX (F q) (by omega) (by omega)
    have n0 : ¬ (q : Int) < 0 := by omega
    have n1 : (q : Int) < 301 := by omega
    have a17 := s6_at17 (N := N) (σ := τ) (F q : Int) (by omega) (by omega)
    have a16 := s6_at16 (N := N) (σ := τ) (F q : Int) (by omega) (by omega)
    rw [Int.toNat_natCast, x2] at a17
    rw [Int.toNat_natCast, x1] at a16
    have e1 : w32 ((j : Int) + 1) = ((j + 1 : Nat) : Int) := by rw [w32i (by omega) (by omega)]; omega
    have e2 : w32 ((m : Int) + (-1)) = ((m - 1 : Nat) : Int) := by rw [w32i (by omega) (by omega)]; omega
    obtain ⟨ans, t1, t2⟩ := ih (F q) e (j + 1) (m - 1) h2 (by omega) (by omega) (by omega) (by omega)
    refine ⟨ans, ?_, ?_⟩
    · rw [eX5_moveAt_8, if_pos (show (j : Int) < (back : Int) by omega), a17, bnd_s, push_s, eX5_moveAt_15, a16, bnd_s, push_s, eX5_moveAt_20, e1]
      exact t1
    · rw [eX9_route_40, if_pos (show kk < (m : Int) by omega), if_neg n0, if_pos n1, Int.toNat_natCast, k1, e2]
      exact t2
/-- the model has put all back -/
theorem m_put (h42 : ∀ j, j < 107 → ρ 42 0 j = ρ 40 0 j) (h : MR ρ υ) : QX ρ (row υ 40 0 (cpyV (υ 42 0) (υ 40 0) (107 * 0) 0 107)) := by
  have o : ∀ k k', ¬ (k' = 0 ∧ (k = 30 ∨ k = 40 ∨ k = 43 ∨ k = 44 ∨ k = 45 ∨ k = 48 ∨ k = 49 ∨ k = 50 ∨ k = 51)) → row υ 40 0 (cpyV (υ 42 0) (υ 40 0) (107 * 0) 0 107) k k' = ρ k k' := fun k k' q => by
    rw [row_at, if_neg (fun z => q ⟨z.2, Or.inr (Or.inl z.1)⟩)]
    exact h.1 k k' q
  have o30 : ∀ j, j ≠ 22 → j ≠ 23 → j ≠ 24 → j ≠ 34 → row υ 40 0 (cpyV (υ 42 0) (υ 40 0) (107 * 0) 0 107) 30 0 j = ρ 30 0 j := fun j j1 j2 j3 j4 => by
    rw [row_at, if_neg (by decide)]
    exact h.2 j j1 j2 j3 j4
  have o40 : ∀ j, j < 107 → row υ 40 0 (cpyV (υ 42 0) (υ 40 0) (107 * 0) 0 107) 40 0 j = ρ 40 0 j := fun j hj => by
    rw [row_same, Nat.mul_zero, cpy_all _ _ hj, h.1 42 0 (by decide), h42 j hj]
  generalize row υ 40 0 (cpyV (υ 42 0) (υ 40 0) (107 * 0) 0 107) = τ at o o30 o40
  exact ⟨⟨fun k k' q => o k k' (by omega), o30 1 (by decide) (by decide) (by decide) (by decide), o30 5 (by decide) (by decide) (by decide) (by decide), o30 6 (by decide) (by decide) (by decide) (by decide), o30 35 (by decide) (by decide) (by decide) (by decide)⟩, o 7 0 (by decide), o40, o 9 0 (by decide), o 10 0 (by decide), o 41 0 (by decide), o30 21 (by decide) (by decide) (by decide) (by decide)⟩
/-- what both answer behind the searches -/
theorem both_ans (hr : RtT σ τ) (he : EnvM σ υ) {b o n : Int} (b1 : ¬ b < -1) {υ' : Sto} (e30 : υ' 30 0 = υ 30 0) (e50 : υ' 50 0 = υ 50 0) (e51 : υ' 51 0 = υ 51 0) (v : Int) (h : ENDR σ ρ τ υ o n ∨ (o = 0 ∧ n = -2) ∨ (o = 1 ∧ n = 0 ∧ τ 14 0 10 = 0)) : ∃ ans, ev N mX8_route 14 [vR 0 0, vI v, vI b, vX] [vI o] (P τ) = some (some (vI ans), P τ) ∧ ev N mX9_route 21 [vR 30 0, vI v, vI b, vI n, vX, vX] [] (P υ') = some (some (vI ans), P υ') := by
  rw [eX8_route_14, eX9_route_21]
  rcases h with ⟨-, -, ⟨rfl, rfl⟩ | ⟨rfl, L, g, F, X, K, rfl, L1, g3, ch, f10, f11, f12, hX, f34, hK⟩⟩ | ⟨rfl, rfl⟩ | ⟨rfl, rfl, f10⟩
  · exact ⟨-3, by rw [if_neg (by decide), if_pos rfl], by rw [if_pos (by decide)]⟩
  · have lg := chF_le L g ch
    rw [if_pos rfl, iX5_moveOrLength, eX5_moveOrLength_0, f10, if_neg (show ¬ (L : Int) < 0 by omega)]
    by_cases q : b = -1
    · rw [if_pos q, if_pos q, bnd_s, push_s, eX8_route_22]
      exact ⟨_, rfl, rfl⟩
    by_cases z : b < (L : Int)
    · obtain ⟨bn, rfl⟩ : ∃ k : Nat, b = (k : Int) := ⟨b.toNat, by omega⟩
      have e1 : w32 ((w32 ((L : Int) - 1)) - (bn : Int)) = ((L - 1 - bn : Nat) : Int) := by
        rw [w32i (x := (L : Int) - 1) (by omega) (by omega), w32i (by omega) (by omega)]; omega
      have e2 : w32 ((L : Int) - 1) = ((L - 1 : Nat) : Int) := by rw [w32i (by omega) (by omega)]; omega
      obtain ⟨ans, t1, t2⟩ := both_walk (N := N) (τ := τ) (υ := υ') g3 hX (fun s s1 s2 => by rw [e50, e51]; exact hK s s1 s2) (by rw [e30]; exact he.2.2.2.1) v (bn : Int) (L : Int) (Int.natCast_nonneg bn) (L - 1 - bn) (by omega) (L - 1 - bn) g bn 0 (L - 1) (by rw [show L - 1 - bn + 1 + bn = L by omega]; exact ch) (Nat.le_refl _) (by omega) (by omega) (by omega)
      have e0 : ((0 : Nat) : Int) = 0 := rfl
      rw [e0] at t1
      refine ⟨ans, ?_, ?_⟩
      · rw [if_neg q, if_pos z, e1, iX5_moveAt, eX5_moveAt_0, f11, f12, t1, bnd_s, push_s, eX5_moveOrLength_18, bnd_s, push_s, eX8_route_22]
      · rw [if_neg q, if_pos z, e30, f34, e2]
        exact t2
    · rw [if_neg q, if_neg z, if_neg q, if_neg z, bnd_s, push_s, eX8_route_22]
      exact ⟨_, rfl, rfl⟩
  · exact ⟨-2, by rw [if_neg (by decide), if_neg (by decide)], by rw [if_pos (by decide)]⟩
  · rw [if_pos rfl, iX5_moveOrLength, eX5_moveOrLength_0, f10]
    by_cases q : b = -1
    · refine ⟨0, ?_, ?_⟩
      · rw [if_pos q, bnd_s, push_s, eX8_route_22]
      · rw [if_neg (by decide), if_pos q]
    · refine ⟨-2, ?_, ?_⟩
      · rw [if_neg q, if_neg (show ¬ b < 0 by omega), bnd_s, push_s, eX8_route_22]
      · rw [if_neg (by decide), if_neg q, if_neg (show ¬ b < 0 by omega)]
theorem pair_route (a b : Int) : PAIR N mX8_route mX9_route [vI a, vI b] := by
  intro L σ h hL
  have oi := fun τ v lo hi => s9_in (N := N) (σ := τ) v lo hi
  rw [iX8_route, eX8_route_0]
  by_cases a0 : a < 0
  · rw [if_pos a0]
    refine ⟨-1, σ, σ, rfl, ?_, up300 h (by omega)⟩
    rw [iX9_route, eX9_route_0, oi, bnd_s, push_s, eX9_route_5, if_neg (show ¬ (0 ≤ a ∧ a ≤ 30) by omega), if_pos rfl]
  by_cases a1 : a < 31
  case neg =>
    rw [if_neg a0, if_neg a1]
    refine ⟨-1, σ, σ, rfl, ?_, up300 h (by omega)⟩
    rw [iX9_route, eX9_route_0, oi, bnd_s, push_s, eX9_route_5, if_neg (show ¬ (0 ≤ a ∧ a ≤ 30) by omega), if_pos rfl]
  by_cases b1 : b < -1
  · rw [if_neg a0, if_pos a1, if_pos b1]
    refine ⟨-1, σ, σ, rfl, ?_, up300 h (by omega)⟩
    rw [iX9_route, eX9_route_0, oi, bnd_s, push_s, eX9_route_5, if_pos (show 0 ≤ a ∧ a ≤ 30 by omega), if_neg (by decide), if_pos b1]
  have h82 := CELL_82 h.2.1 hL
  have q1 := fun τ0 : Sto => QX_row τ0 42 0 (cpyV (τ0 40 0) (τ0 42 0) 0 (107 * 0) 107) (by decide) (by decide) (by decide)
  have run := fun (τ0 : Sto) (q : QX σ τ0) => both_search (N := N) (ρ := row τ0 42 0 (cpyV (τ0 40 0) (τ0 42 0) 0 (107 * 0) 107)) h.1.1 h.2.1.1 h.2.1.2.2.2 h82 (EnvM_FX (QX_trans q (q1 τ0)).1 (FX_refl σ) h.1.2.1) (CELL_n h.2.1 (fun j hj => (QX_trans q (q1 τ0)).2.2.1 j hj)).2.1 a
  obtain ⟨o, n0, τ, υ0, s1, -, s3, -⟩ := run σ (QX_refl σ)
  have qτ := QX_RtT s3
  obtain ⟨o2, n, τ2, υ, t1, t2, t3, t4, t5⟩ := run τ qτ
  rw [s1] at t1
  have t1 := Option.some.inj t1
  have eo : o = o2 := Sum.inl.inj (Option.some.inj (congrArg Prod.fst t1))
  have es : τ = τ2 := congrArg (fun z : Option MV × MS => z.2.2.2) t1
  subst eo
  subst es
  have e42 : ∀ j, j < 107 → row τ 42 0 (cpyV (τ 40 0) (τ 42 0) 0 (107 * 0) 107) 42 0 j = row τ 42 0 (cpyV (τ 40 0) (τ 42 0) 0 (107 * 0) 107) 40 0 j := fun j hj => by
    rw [row_same, Nat.mul_zero, row_at, if_neg (by decide)]
    exact cpy_all _ _ hj
  have qρ := QX_trans qτ (q1 τ)
  have mt := m_think0 (N := N) τ
  generalize row τ 42 0 (cpyV (τ 40 0) (τ 42 0) 0 (107 * 0) 107) = ρ at t2 t4 t5 e42 qρ mt
  have fin := m_put e42 t4
  have enυ : EnvM σ υ := MR_env2 t4 (EnvM_FX qρ.1 (FX_refl σ) h.1.2.1)
  obtain ⟨ans, w1, w2⟩ := both_ans (N := N) (υ' := row υ 40 0 (cpyV (υ 42 0) (υ 40 0) (107 * 0) 0 107)) s3 enυ b1 (by rw [row_at, if_neg (by decide)]) (by rw [row_at, if_neg (by decide)]) (by rw [row_at, if_neg (by decide)]) a t5
  refine ⟨ans, τ, _, ?_, ?_, up300 (INV_QX (QX_trans qρ fin) h) (by omega)⟩
  · rw [if_neg a0, if_pos a1, if_neg b1, s1, bnd_s, push_s]
    exact w1
  · rw [iX9_route, eX9_route_0, oi, bnd_s, push_s, eX9_route_5, if_pos (show 0 ≤ a ∧ a ≤ 30 by omega), if_neg (by decide), if_neg b1, mt, bnd_s, push_n, eX9_route_14, t2, bnd_s, push_s, eX9_route_17, m_back0, bnd_s, push_n]
    exact w2
end ROUTE
