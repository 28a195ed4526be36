/-! WAITS, whole -/
section ACT
variable {N : Nat} {σ σ0 : Sto} {L : Int}
theorem s9_isSR : inv N mX9_isSlotRunning [vR 30 0] (P σ) = some (some (vI (if σ 40 0 78 = 0 ∨ σ 40 0 78 = 1 then 1 else 0)), P σ) := by
  rw [iX9_isSlotRunning, eX9_isSlotRunning_0, show (78 : Int).toNat = 78 from rfl]
  by_cases h1 : σ 40 0 78 = 0
  · rw [if_pos h1, if_pos (Or.inl h1)]
  · rw [if_neg h1]
    by_cases h2 : σ 40 0 78 = 1
    · rw [if_pos h2, if_pos (Or.inr h2)]
    · rw [if_neg h2, if_neg (fun z => by rcases z with z | z <;> contradiction)]
theorem w_nums {n : Int} {k m b : Nat} (h : (k : Int) + ((m + 1 : Nat) : Int) = n) (hn : n ≤ 200) (hb : b ≤ k) : (k : Int) < n ∧ ((k + 1 : Nat) : Int) + (m : Int) = n ∧ w32 ((k : Int) + 1) = ((k + 1 : Nat) : Int) ∧ w32 ((b : Int) + 1) = ((b + 1 : Nat) : Int) ∧ b ≤ k + 1 ∧ b + 1 ≤ k + 1 := by
  refine ⟨by omega, by omega, ?_, ?_, by omega, by omega⟩
  · rw [w32i (by omega) (by omega)]; omega
  · rw [w32i (by omega) (by omega)]; omega
theorem w_loop (hg : OKG σ0 1) (n : Int) (hn : n ≤ 200) : ∀ (m k b : Nat) (x : XP) (τ : Sto) (x4 : MV), (k : Int) + (m : Int) = n → b ≤ k → RZ x.1 (τ 40 0) → OKC x.1 → EnvM σ0 τ → x.1 82 + m < 2147483000 → 0 ≤ x.1 82 →
    ∃ (y : XP) (υ : Sto) (ans : Int), ev N mX2_passTicks 4 [vR 6 0, vI n, vI (b : Int), vI (k : Int), x4] [] (P (putC σ0 0 x)) = some (some (vI ans), P (putC σ0 0 y)) ∧ ev N mX9_waits 17 [vR 30 0, vI n, vI (b : Int), vI (k : Int)] [] (P τ) = some (some (vI ans), P υ) ∧ KM τ υ ∧ RZ y.1 (υ 40 0) ∧ OKC y.1 ∧ y.1 82 ≤ x.1 82 + m := by
  intro m
  induction m with
  | zero =>
    intro k b x τ x4 hk hbk hz hc he hb h0
    have nk : ¬ (k : Int) < n := by omega
    refine ⟨x, τ, b, ?_, ?_, KM_refl τ, hz, hc, by omega⟩
    · rw [eX2_passTicks_4, if_neg nk]
    · rw [eX9_waits_17, if_neg nk]
  | succ m ih =>
    intro k b x τ x4 hk hbk hz hc he hb h0
    obtain ⟨n1, n2, n3, n4, n5, n6⟩ := w_nums hk hn hbk
    have hb1 : x.1 82 + m < 2147483000 := by omega
    have hb2 : x.1 82 < 2147483000 := by omega
    have hb3 : x.1 82 + 1 + m < 2147483000 := by omega
    have on := s2_isOn (N := N) (σ := putC σ0 0 x) (i := 0)
    rw [putC_7] at on
    have e78 : (78 : Int).toNat = 78 := rfl
    have e80 : (80 : Int).toNat = 80 := rfl
    have e79 : (79 : Int).toNat = 79 := rfl
    rw [eX2_passTicks_4, if_pos n1, on, bnd_s, push_s, eX2_passTicks_9, eX9_waits_17, if_pos n1, s9_isOff, bnd_s, push_s, eX9_waits_22, ← hz.2]
    by_cases q : x.1 78 = -1
    · rw [if_pos q, if_pos q, if_pos rfl, if_neg (show ¬ (1 : Int) = 0 by decide)]
      exact ⟨x, τ, b, rfl, rfl, KM_refl τ, hz, hc, by omega⟩
    rw [if_neg q, if_neg q, if_neg (show ¬ (1 : Int) = 0 by decide), if_pos rfl, p2_cell _ (by decide) (by decide), bnd_s, push_s, eX2_passTicks_13, p2_setCell _ _ (by decide) (by decide), bnd_s, push_n, eX2_passTicks_20, p2_cell _ (by decide) (by decide), bnd_s, push_s, eX2_passTicks_23, s8_isSlot, bnd_s, push_s, eX2_passTicks_24, sup_row, e80, e79, e78, s9_isSR, bnd_s, push_s, eX9_waits_33]
    have t80 : τ 40 0 80 = x.1 79 := hz.1.2.1.symm
    have r40 : ∀ g, row τ 40 0 g 40 0 = g := fun g => row_same _ _ _ _
    have r38 : ∀ g, row τ 40 0 g 38 0 = τ 38 0 := fun g => by rw [row_at, if_neg (by decide)]
    rw [t80]
    generalize ht : w32 (x.1 79 + 1) = t
    have hz1 := RZ_tick hz t
    have hc1 := OKC_79 hc t
    have km1 := KM_row τ 40 (set (τ 40 0) 80 t) (Or.inl rfl)
    have he1 := EnvM_KM he km1
    have c82 : set x.1 79 t 82 = x.1 82 := set_ne _ _ (by decide)
    have c78 : set x.1 79 t 78 = x.1 78 := set_ne _ _ (by decide)
    have d78 : set (τ 40 0) 80 t 78 = x.1 78 := (set_ne _ _ (by decide)).trans hz.2.symm
    have goOn : ∃ (y : XP) (υ : Sto) (ans : Int), ev N mX2_passTicks 4 [vR 6 0, vI n, vI (b : Int), vI (w32 ((k : Int) + 1)), vI t] [] (P (putC σ0 0 (set x.1 79 t, x.2))) = some (some (vI ans), P (putC σ0 0 y)) ∧ ev N mX9_waits 17 [vR 30 0, vI n, vI (b : Int), vI (w32 ((k : Int) + 1))] [] (P (row τ 40 0 (set (τ 40 0) 80 t))) = some (some (vI ans), P υ) ∧ KM τ υ ∧ RZ y.1 (υ 40 0) ∧ OKC y.1 ∧ y.1 82 ≤ x.1 82 + ((m + 1 : Nat) : Int) := by
      obtain ⟨y, υ, ans, y1, y2, y3, y4, y5, y6⟩ := ih (k + 1) b (set x.1 79 t, x.2) (row τ 40 0 (set (τ 40 0) 80 t)) (vI t) n2 n5 (by rw [row_same]; exact hz1) hc1 he1 (show set x.1 79 t 82 + m < 2147483000 by rw [c82]; exact hb1) (show 0 ≤ set x.1 79 t 82 by rw [c82]; exact h0)
      have y6 : y.1 82 ≤ set x.1 79 t 82 + m := y6
      rw [c82] at y6
      refine ⟨y, υ, ans, ?_, ?_, KM_trans km1 y3, y4, y5, by omega⟩
      · rw [n3]; exact y1
      · rw [n3]; exact y2
    have e80c : set x.1 79 t 80 = x.1 80 := set_ne _ _ (by decide)
    have e79n : set (τ 40 0) 80 t 79 = x.1 80 := (set_ne _ _ (by decide)).trans hz.1.2.2.1.symm
    show ∃ (y : XP) (υ : Sto) (ans : Int), (if (if set x.1 79 t 78 = 0 ∨ set x.1 79 t 78 = 1 then (1 : Int) else 0) = 0 then _ else _) = _ ∧ _
    rw [r40, c78, d78]
    by_cases s : x.1 78 = 0 ∨ x.1 78 = 1
    case neg =>
      rw [if_neg s, if_pos rfl, if_pos rfl]
      exact goOn
    rw [if_pos s, if_neg (show ¬ (1 : Int) = 0 by decide), if_neg (show ¬ (1 : Int) = 0 by decide), p2_cell _ (by decide) (by decide), bnd_s, push_s, eX2_passTicks_28, put2, e80, r38, show (4 : Int).toNat = 4 from rfl, he.2.2.2.2.2.2.1, e79, e79n, set_same]
    show ∃ (y : XP) (υ : Sto) (ans : Int), (if set x.1 79 t 80 = 0 then _ else _) = _ ∧ _
    rw [e80c]
    by_cases u : x.1 80 = 0
    case neg =>
      rw [if_neg u, if_neg u]
      exact goOn
    rw [if_pos u, if_pos u]
    by_cases v : t < σ0 2 1 4
    case pos =>
      rw [if_pos v, if_pos v]
      exact goOn
    rw [if_neg v, if_neg v]
    clear goOn
    have tof := s2_turnOff (N := N) (σ := putC σ0 0 (set x.1 79 t, x.2)) (i := 0)
    rw [putC_7, row_putC7] at tof
    have nn : sup (sup (row τ 40 0 (set (τ 40 0) 80 t)) 40 0 78 (-1)) 40 0 80 0 = row τ 40 0 (set (set (τ 40 0) 78 (-1)) 80 0) := by
      rw [sup_row, sup_row, row_same, row_row, row_same, row_row, set_comm (τ 40 0) 80 78 _ _ (by decide), set_set]
    have hz2 := RZ_tick (RZ_78 hz) 0
    have km2 := KM_row τ 40 (set (set (τ 40 0) 78 (-1)) 80 0) (Or.inl rfl)
    obtain ⟨y, w1, ans2, υ, w2, w3, w4, w5, w6, w7⟩ := w_boot (N := N) (σ0 := σ0) (c := x.1) (g := x.2) (n := x.1) (τ := row τ 40 0 (set (set (τ 40 0) 78 (-1)) 80 0)) hg t (by rw [row_same]; exact hz2) hc (EnvM_KM he km2) h0 hb2
    have y82 : set y.1 79 0 82 = y.1 82 := set_ne _ _ (by decide)
    obtain ⟨z, ω, ans, z1, z2, z3, z4, z5, z6⟩ := ih (k + 1) (b + 1) (set y.1 79 0, y.2) υ (vI t) n2 n6 w4 (OKC_79 w5 0) (EnvM_KM (EnvM_KM he km2) w3) (show set y.1 79 0 82 + m < 2147483000 by rw [y82]; exact Int.lt_of_le_of_lt (Int.add_le_add_right w7 m) hb3) (show 0 ≤ set y.1 79 0 82 by rw [y82]; exact Int.le_trans h0 w6)
    have z6 : z.1 82 ≤ set y.1 79 0 82 + m := z6
    rw [y82] at z6
    refine ⟨z, ω, ans, ?_, ?_, KM_trans km2 (KM_trans w3 z3), z4, z5, by omega⟩
    · rw [tof, bnd_s, push_n, eX2_passTicks_36]
      show bnd (inv N mX2_perform [vR 6 0, vI 0, vI 0, vI 0, vI (-1)] (P (putC σ0 0 (set (set x.1 79 t) 78 (-1), x.2)))) _ = _
      rw [w1, bnd_s, push_s, eX2_passTicks_42, p2_setCell _ _ (by decide) (by decide), bnd_s, push_n, eX2_passTicks_47, n3, n4]
      exact z1
    · rw [e78, nn, w2, bnd_s, push_s, eX9_waits_64, n3, n4]
      exact z2
theorem pair_waits (n : Int) : PAIR N mX8_waits mX9_waits [vI n] := by
  intro L σ h hL
  have hcell := h.2.1
  have e78 := hcell.2.1.2
  have on := s2_isOn (N := N) (σ := σ) (i := 0)
  have oi := fun τ v lo hi => s9_in (N := N) (σ := τ) v lo hi
  by_cases q : 1 ≤ n ∧ n ≤ 200
  case neg =>
    refine ⟨-1, σ, σ, ?_, ?_, up300 h (by omega)⟩
    · rw [iX8_waits, eX8_waits_0]
      by_cases z : n < 1
      · rw [if_pos z]
      · rw [if_neg z, if_pos (by omega)]
    · rw [iX9_waits, eX9_waits_0, oi, if_neg q, bnd_s, push_s, eX9_waits_5, if_pos rfl]
  have q1 : ¬ n < 1 := by omega
  have q2 : ¬ 200 < n := by omega
  by_cases o : σ 7 0 78 = -1
  · refine ⟨-1, σ, σ, ?_, ?_, up300 h (by omega)⟩
    · rw [iX8_waits, eX8_waits_0, if_neg q1, if_neg q2, on, bnd_s, push_s, eX8_waits_9, if_pos o, if_pos rfl]
    · rw [iX9_waits, eX9_waits_0, oi, if_pos q, bnd_s, push_s, eX9_waits_5, if_neg (by decide), s9_isOff, bnd_s, push_s, eX9_waits_8, if_pos (e78.symm.trans o), if_neg (by decide)]
  have k6 := keepS_o σ (k := 6) 0 (by decide) (by decide)
  have k7 := keepS_o σ (k := 7) 0 (by decide) (by decide)
  have k40 := keepS_o σ (k := 40) 0 (by decide) (by decide)
  have k41 := keepS_o σ (k := 41) 0 (by decide) (by decide)
  have k30 := keepS_o σ (k := 30) 0 (by decide) (by decide)
  have hgk := OKG_FX (FX_keep σ) h.1.1
  have hb0 : 0 ≤ (σ 7 0) 82 := hcell.2.1.1.2.2.2.2.1
  obtain ⟨m, hm⟩ : ∃ m : Nat, (m : Int) = n := ⟨n.toNat, by omega⟩
  have hb1 : (σ 7 0) 82 + m < 2147483000 := by
    have := hcell.2.2
    clear hcell on oi e78
    omega
  have idk : putC (keepS σ) 0 (σ 7 0, σ 6 0) = keepS σ := by
    have := putC_id (keepS σ) 0
    rw [k6, k7] at this
    exact this
  have r := fun (y : XP) (k k' : Nat) (h6 : k ≠ 6) (h7 : k ≠ 7) => putC_o (keepS σ) 0 y (k := k) k' h6 h7
  have p30 := fun y => (r y 30 0 (by decide) (by decide)).trans k30
  have p40 := fun y => (r y 40 0 (by decide) (by decide)).trans k40
  have p41 := fun y => (r y 41 0 (by decide) (by decide)).trans k41
  have fx1 := fun y => FX_trans (FX_keep σ) (FX_put (keepS σ) 0 y)
  -- the model's store behind REMEMBERS does not depend on the class's loop but by the rows of the class's machine
  have lp := fun (y : XP) => w_loop (N := N) (σ0 := keepS σ) hgk n q.2 m 0 0 (σ 7 0, σ 6 0) (remS (putC (keepS σ) 0 y)) vX (by rw [Int.cast_ofNat_Int, Int.zero_add]; exact hm) (Nat.le_refl 0) (by rw [remS_o _ 0 (by decide) (by decide), p40]; exact hcell.2.1) hcell.1 (EnvM_FX (FX_trans (fx1 y) (FX_rem _)) (FX_keep σ) h.1.2.1) hb1 hb0
  obtain ⟨y, υ0, ans, a1, -, -, -, c1, -⟩ := lp (σ 7 0, σ 6 0)
  obtain ⟨y2, υ, ans2, b1, b2, b3, b4, b5, b6⟩ := lp y
  rw [a1] at b1
  have b1 := Option.some.inj b1
  have ea : ans = ans2 := Sum.inl.inj (Option.some.inj (congrArg Prod.fst b1))
  have es : putC (keepS σ) 0 y = putC (keepS σ) 0 y2 := congrArg (fun z : Option MV × MS => z.2.2.2) b1
  have ey : y.1 = y2.1 := by
    have := congrFun (congrFun es 7) 0
    rw [putC_7, putC_7] at this
    exact this
  have rm := a_rem (N := N) h (τ := putC (keepS σ) 0 y) (by rw [p30])
  have pb := past_both h (τ := putC (keepS σ) 0 y) (p41 y) (p40 y) (by rw [p30]) (r y 9 0 (by decide) (by decide)) (r y 10 0 (by decide) (by decide))
  have tr := fun (k : Nat) (hk : k ≠ 30 ∧ k ≠ 40 ∧ k ≠ 43 ∧ k ≠ 44 ∧ k ≠ 45) => KM_r b3 k hk 0
  have t7 : υ 7 0 = y2.1 := by
    rw [tr 7 (by decide), remS_o _ 0 (by decide) (by decide), ← ey]
    exact putC_7 _ _ _
  have le : y2.1 82 ≤ L + 300 := by
    have l1 : y2.1 82 ≤ σ 7 0 82 + m := b6
    have l2 := hcell.2.2
    clear hcell on oi e78 lp a1 b2 rm pb
    omega
  refine ⟨ans2, putC (keepS σ) 0 y, υ, ?_, ?_, BASE_FX (FX_trans (FX_trans (fx1 y) (FX_rem _)) (FX_KM b3)) h.1, ?_, ?_⟩
  · rw [Int.cast_ofNat_Int, idk] at a1
    rw [iX8_waits, eX8_waits_0, if_neg q1, if_neg q2, on, bnd_s, push_s, eX8_waits_9, if_neg o, if_neg (by decide), a_keep h, bnd_s, push_n, eX8_waits_15, iX2_passTicks, eX2_passTicks_0, a1, bnd_s, push_s, eX8_waits_19, ea]
  · rw [Int.cast_ofNat_Int] at b2
    rw [iX9_waits, eX9_waits_0, oi, if_pos q, bnd_s, push_s, eX9_waits_5, if_neg (by decide), s9_isOff, bnd_s, push_s, eX9_waits_8, p40, if_neg (fun z => o (e78.trans z)), if_pos rfl, rm, bnd_s, push_n, eX9_waits_13, b2]
  · rw [t7]
    exact ⟨b5, b4, le⟩
  · rw [tr 10 (by decide), tr 9 (by decide), tr 41 (by decide), b3.2 21 (by decide) (by decide) (by decide)]
    exact PAST_le pb (by omega)
end ACT
