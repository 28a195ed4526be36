/-! LIFE, the class's: it ends, and leaves the real machine as it is -/
def LVB (σ : Sto) (f g : Vec) : Sto := row (row σ 12 0 f) 13 0 g
def LVS (σ : Sto) (x : XP) (f g : Vec) : Sto := putC (LVB σ f g) 3 x
section LIFE
variable {N : Nat} {σ : Sto} {x : XP} {f g : Vec}
theorem LVB_o (σ : Sto) (f g : Vec) {k : Nat} (k' : Nat) (h : k ≠ 12) (h2 : k ≠ 13) : LVB σ f g k k' = σ k k' := by
  unfold LVB
  rw [row_at, if_neg (fun z => h2 z.1), row_at, if_neg (fun z => h z.1)]
theorem LVS_12 : LVS σ x f g 12 0 = f := by
  unfold LVS LVB
  rw [putC_o _ _ _ _ (by decide) (by decide), row_at, if_neg (by decide), row_same]
theorem LVS_13 : LVS σ x f g 13 0 = g := by
  unfold LVS LVB
  rw [putC_o _ _ _ _ (by decide) (by decide), row_same]
theorem LVS_2 : LVS σ x f g 2 1 = σ 2 1 := by
  unfold LVS
  rw [putC_o _ _ _ _ (by decide) (by decide), LVB_o _ _ _ _ (by decide) (by decide)]
theorem LVS_7 : LVS σ x f g 7 0 = σ 7 0 := by
  unfold LVS
  rw [putC_i _ _ _ (by decide), LVB_o _ _ _ _ (by decide) (by decide)]
theorem LVS_r12 (h : Vec) : row (LVS σ x f g) 12 0 h = LVS σ x h g := by
  unfold LVS LVB putC
  rw [row_comm _ 6 3 12 0 _ _ (by decide), row_comm _ 7 3 12 0 _ _ (by decide), row_comm _ 13 0 12 0 _ _ (by decide), row_row]
theorem LVS_r13 (h : Vec) : row (LVS σ x f g) 13 0 h = LVS σ x f h := by
  unfold LVS LVB putC
  rw [row_comm _ 6 3 13 0 _ _ (by decide), row_comm _ 7 3 13 0 _ _ (by decide), row_row]
theorem LVS_s12 (j : Nat) (v : Int) : sup (LVS σ x f g) 12 0 j v = LVS σ x (set f j v) g := by
  rw [sup_row, LVS_12, LVS_r12]
theorem LVS_s13 (j : Nat) (v : Int) : sup (LVS σ x f g) 13 0 j v = LVS σ x f (set g j v) := by
  rw [sup_row, LVS_13, LVS_r13]
theorem OKG_LVB (h : OKG σ 1) : OKG (LVB σ f g) 1 := h
theorem QX_LVS (σ : Sto) (x : XP) (f g : Vec) : QX σ (LVS σ x f g) := QX_trans (QX_trans (QX_row σ 12 0 f (by decide) (by decide) (by decide)) (QX_row _ 13 0 g (by decide) (by decide) (by decide))) (QX_put _ 3 (by decide) x)
theorem c_draw (k : Int) : ∃ v f', inv N mX1_draw [vR 12 0, vI k] (P (LVS σ x f g)) = some (some (vI v), P (LVS σ x f' g)) := by
  rw [iX1_draw, eX1_draw_0, LVS_s12]
  by_cases q : 0 < k
  · rw [if_pos q, if_neg (show ¬ k = 0 by omega)]
    exact ⟨_, _, rfl⟩
  · rw [if_neg q]
    exact ⟨_, _, rfl⟩
theorem c_drawDeed : ∃ c f', inv N mX1_drawDeed [vR 12 0] (P (LVS σ x f g)) = some (none, P (LVS σ (c, x.2) f' g)) ∧ (c = x.1 ∨ c = set x.1 78 (-1)) := by
  rw [iX1_drawDeed, eX1_drawDeed_0, LVS_s12, LVS_s12, s2_isOn, bnd_s, push_s, eX1_drawDeed_9]
  generalize set (set f 6 0) 7 0 = f1
  by_cases q : LVS σ x f1 g 7 3 78 = -1
  · rw [if_pos q, if_pos rfl, LVS_s12]
    obtain ⟨v, f2, e⟩ := c_draw (N := N) (σ := σ) (x := x) (f := set f1 5 0) (g := g) 4
    rw [e, bnd_s, push_s, eX1_drawDeed_17]
    by_cases z : v = 0
    · rw [if_pos z, LVS_s12]
      exact ⟨x.1, _, rfl, Or.inl rfl⟩
    · rw [if_neg z, LVS_s12]
      exact ⟨x.1, _, rfl, Or.inl rfl⟩
  rw [if_neg q, if_neg (by decide)]
  obtain ⟨v, f2, e⟩ := c_draw (N := N) (σ := σ) (x := x) (f := f1) (g := g) 8
  have two : ∀ f2, ∃ c f', bnd (inv N mX1_draw [vR 12 0, vI 2] (P (LVS σ x f2 g))) (fun r S2 => ev N mX1_drawDeed 38 [vR 12 0] (push r [vR 12 0]) S2) = some (none, P (LVS σ (c, x.2) f' g)) ∧ (c = x.1 ∨ c = set x.1 78 (-1)) := by
    intro f2
    obtain ⟨v2, f3, e2⟩ := c_draw (N := N) (σ := σ) (x := x) (f := f2) (g := g) 2
    rw [e2, bnd_s, push_s, eX1_drawDeed_38, LVS_s12]
    obtain ⟨v3, f4, e3⟩ := c_draw (N := N) (σ := σ) (x := x) (f := set f3 6 v2) (g := g) (LVS σ x (set f3 6 v2) g 2 1 1)
    rw [e3, bnd_s, push_s, eX1_drawDeed_45, LVS_s12]
    exact ⟨x.1, _, rfl, Or.inl rfl⟩
  rw [e, bnd_s, push_s, eX1_drawDeed_26, LVS_s12, LVS_s12, LVS_s12, LVS_s12, LVS_s12, LVS_s12]
  by_cases z0 : v = 0
  · rw [if_pos z0]
    exact ⟨x.1, _, rfl, Or.inl rfl⟩
  by_cases z1 : v = 1
  · rw [if_neg z0, if_pos z1]
    exact ⟨x.1, _, rfl, Or.inl rfl⟩
  by_cases z2 : v = 2
  · rw [if_neg z0, if_neg z1, if_pos z2]
    exact two _
  by_cases z3 : v = 3
  · rw [if_neg z0, if_neg z1, if_neg z2, if_pos z3]
    exact two _
  by_cases z4 : v = 4
  · rw [if_neg z0, if_neg z1, if_neg z2, if_neg z3, if_pos z4]
    obtain ⟨v3, f4, e3⟩ := c_draw (N := N) (σ := σ) (x := x) (f := set f2 5 3) (g := g) (LVS σ x (set f2 5 3) g 2 1 1)
    rw [e3, bnd_s, push_s, eX1_drawDeed_56, LVS_s12]
    exact ⟨x.1, _, rfl, Or.inl rfl⟩
  by_cases z5 : v = 5
  · rw [if_neg z0, if_neg z1, if_neg z2, if_neg z3, if_neg z4, if_pos z5]
    have t := p2_turnOff (N := N) (i := 3) (σ := LVB σ (set f2 5 (-1)) g) (x := x)
    change inv N mX2_turnOff [vR 6 3] (P (LVS σ x (set f2 5 (-1)) g)) = _ at t
    rw [t, bnd_s, push_n, eX1_drawDeed_64]
    exact ⟨set x.1 78 (-1), _, rfl, Or.inr rfl⟩
  by_cases z6 : v = 6
  · rw [if_neg z0, if_neg z1, if_neg z2, if_neg z3, if_neg z4, if_neg z5, if_pos z6]
    exact ⟨x.1, _, rfl, Or.inl rfl⟩
  rw [if_neg z0, if_neg z1, if_neg z2, if_neg z3, if_neg z4, if_neg z5, if_neg z6]
  exact ⟨x.1, _, rfl, Or.inl rfl⟩
theorem t2_cell (i : Nat) (τ : Sto) (k : Int) : ∃ v, inv N mX2_cell [vR 6 i, vI k] (P τ) = some (some (vI v), P τ) := by
  rw [iX2_cell, eX2_cell_0]
  by_cases a : k < 0
  · rw [if_pos a]
    exact ⟨_, rfl⟩
  by_cases b : k < 107
  · rw [if_neg a, if_pos b, if_neg a, if_pos b]
    exact ⟨_, rfl⟩
  rw [if_neg a, if_neg b]
  exact ⟨_, rfl⟩
theorem t2_version (i : Nat) (τ : Sto) (k : Int) : ∃ v, inv N mX2_version [vR 6 i, vI k] (P τ) = some (some (vI v), P τ) := by
  obtain ⟨v, e⟩ := t2_cell (N := N) i τ (w32 (k * 14))
  rw [iX2_version, eX2_version_0, e, bnd_s, push_s, eX2_version_5]
  exact ⟨_, rfl⟩
theorem t6_at13 (τ : Sto) (k : Int) : ∃ v, inv N mX6_at [vR 13 0, vI k] (P τ) = some (some (vI v), P τ) := by
  by_cases a : 0 ≤ k ∧ k < 31
  · exact ⟨_, s6_at13 k a.1 a.2⟩
  · exact ⟨_, s6_atO13 k (by omega)⟩
theorem t6_put13 (k v : Int) : ∃ g', inv N mX6_put [vR 13 0, vI k, vI v] (P (LVS σ x f g)) = some (none, P (LVS σ x f g')) := by
  by_cases a : k < 0
  · rw [iX6_put_k13, eX6_put_0_k13, if_pos a]
    exact ⟨g, rfl⟩
  by_cases b : k < 31
  · rw [s6_put13 k v (by omega) b, LVS_r13]
    exact ⟨_, rfl⟩
  rw [iX6_put_k13, eX6_put_0_k13, if_neg a, if_neg b]
  exact ⟨g, rfl⟩
theorem c_tally (v : Int) : ∃ f' g', inv N mX1_tally [vR 12 0, vI v] (P (LVS σ x f g)) = some (none, P (LVS σ x f' g')) := by
  rw [iX1_tally, eX1_tally_0, LVS_s12, LVS_s12, LVS_s12]
  by_cases z3 : v = 3
  · rw [if_pos z3]
    exact ⟨_, _, rfl⟩
  by_cases z2 : v = 2
  · rw [if_neg z3, if_pos z2, eX1_tally_41]
    exact ⟨_, _, rfl⟩
  rw [if_neg z3, if_neg z2]
  generalize set f 8 _ = f1
  obtain ⟨u, e⟩ := t2_version (N := N) 3 (LVS σ x f1 g) v
  obtain ⟨u2, e2⟩ := t6_at13 (N := N) (LVS σ x f1 g) u
  obtain ⟨g', e3⟩ := t6_put13 (N := N) (σ := σ) (x := x) (f := f1) (g := g) u (w32 (u2 + 1))
  rw [e, bnd_s, push_s, eX1_tally_30, e2, bnd_s, push_s, eX1_tally_38, e3, bnd_s, push_n, eX1_tally_41]
  exact ⟨_, _, rfl⟩
theorem c_attempt (hg : OKG σ 1) (hc : OKC x.1) (s0 : 0 ≤ x.1 82) (s1 : x.1 82 < 2147483647) : ∃ y f' g', inv N mX1_attempt [vR 12 0] (P (LVS σ x f g)) = some (none, P (LVS σ y f' g')) ∧ OKC y.1 ∧ x.1 82 ≤ y.1 82 ∧ y.1 82 ≤ x.1 82 + 1 := by
  obtain ⟨v, f1, e⟩ := c_draw (N := N) (σ := σ) (x := x) (f := f) (g := g) 20
  rw [iX1_attempt, eX1_attempt_0, e, bnd_s, push_s, eX1_attempt_3, LVS_12]
  have ab := p2_isAble (N := N) (i := 3) (σ := LVB σ f1 g) (x := x) (OKG_LVB hg) hc (f1 5) (f1 6) (f1 7)
  change inv N mX2_isAble [vR 6 3, vI (f1 5), vI (f1 6), vI (f1 7)] (P (LVS σ x f1 g)) = some (some (vI (ableF (σ 2 1 1) (σ 5 1) x.1 (f1 5) (f1 6) (f1 7))), P (LVS σ x f1 g)) at ab
  rw [ab, bnd_s, push_s, eX1_attempt_13]
  rcases ableF_b (σ 2 1 1) (σ 5 1) x.1 (f1 5) (f1 6) (f1 7) with z | z
  · rw [if_pos z]
    exact ⟨x, _, _, rfl, hc, Int.le_refl _, by omega⟩
  have z0 : ¬ ableF (σ 2 1 1) (σ 5 1) x.1 (f1 5) (f1 6) (f1 7) = 0 := by rw [z]; decide
  have pf := fun cut => p2_perform (N := N) (i := 3) (σ := LVB σ f1 g) (x := x) (OKG_LVB hg) hc s0 s1 (f1 5) (f1 6) (f1 7) cut z
  have ok := fun cut => performC_ok (σ := LVB σ f1 g) (x := x) (OKG_LVB hg) hc (f1 5) (f1 6) (f1 7) cut z
  have rest : ∀ cut, ∃ y f' g', bnd (inv N mX2_perform [vR 6 3, vI (f1 5), vI (f1 6), vI (f1 7), vI cut] (P (LVS σ x f1 g))) (fun r S2 => ev N mX1_attempt 32 [vR 12 0, vI v, vX] (push r []) S2) = some (none, P (LVS σ y f' g')) ∧ OKC y.1 ∧ x.1 82 ≤ y.1 82 ∧ y.1 82 ≤ x.1 82 + 1 := by
    intro cut
    have pc := pf cut
    have oc := ok cut
    generalize performC (LVB σ f1 g) (f1 5) (f1 6) (f1 7) cut x = p at pc oc
    change inv N mX2_perform [vR 6 3, vI (f1 5), vI (f1 6), vI (f1 7), vI cut] (P (LVS σ x f1 g)) = some (some (vI p.1), P (LVS σ p.2 f1 g)) at pc
    rw [pc, bnd_s, push_s, eX1_attempt_32, LVS_12, LVS_s12]
    by_cases q : p.1 = -2
    · rw [if_pos q, eX1_attempt_49]
      exact ⟨p.2, _, _, rfl, oc.1.1, oc.2⟩
    by_cases q2 : f1 5 = 0
    · obtain ⟨f', g', t⟩ := c_tally (N := N) (σ := σ) (x := p.2) (f := f1) (g := g) p.1
      rw [if_neg q, if_pos q2, t, bnd_s, push_n, eX1_attempt_49]
      exact ⟨p.2, _, _, rfl, oc.1.1, oc.2⟩
    rw [if_neg q, if_neg q2, eX1_attempt_49]
    exact ⟨p.2, _, _, rfl, oc.1.1, oc.2⟩
  rw [if_neg z0, LVS_12]
  by_cases q : v = 19
  · rw [if_pos q]
    exact rest _
  · rw [if_neg q]
    exact rest _
theorem c_below (τ : Sto) (x1 : Int) (h1 : x1 ≤ 31) : ∀ (m k : Nat) (u : Int), (m : Int) + k = 31 → ∃ v, ev N mX1_startsBelow 4 [vR 12 0, vI x1, vI u, vI (k : Int)] [] (P τ) = some (some (vI v), P τ) := by
  intro m
  induction m with
  | zero =>
    intro k u hk
    rw [eX1_startsBelow_4, if_neg (by omega)]
    exact ⟨_, rfl⟩
  | succ m ih =>
    intro k u hk
    rw [eX1_startsBelow_4]
    by_cases q : (k : Int) < x1
    · obtain ⟨v, e⟩ := t6_at13 (N := N) τ (k : Int)
      have e2 : w32 ((k : Int) + 1) = ((k + 1 : Nat) : Int) := by rw [w32i (by omega) (by omega)]; omega
      rw [if_pos q, e, bnd_s, push_s, eX1_startsBelow_12, e2]
      exact ih (k + 1) _ (by omega)
    · rw [if_neg q]
      exact ⟨_, rfl⟩
theorem c_lloop (hg : OKG σ 1) (n what y : Int) (n0 : 0 ≤ n ∧ n ≤ 60) : ∀ (m k : Nat) (x : XP) (f g : Vec), (m : Int) + k = n → OKC x.1 → 0 ≤ x.1 82 → x.1 82 < 2147482000 + k → ∃ ans z f' g', ev N mX1_answer 34 [vR 12 0, vI n, vI what, vI y, vI (k : Int)] [] (P (LVS σ x f g)) = some (some (vI ans), P (LVS σ z f' g')) := by
  intro m
  induction m with
  | zero =>
    intro k x f g hk hc s0 s1
    rw [eX1_answer_34, if_neg (show ¬ (k : Int) < n by omega), LVS_12]
    by_cases q0 : what = 0
    · rw [if_pos q0]
      exact ⟨_, x, f, g, rfl⟩
    by_cases q1 : what = 1
    · rw [if_neg q0, if_pos q1]
      exact ⟨_, x, f, g, rfl⟩
    by_cases q2 : what = 2
    · rw [if_neg q0, if_neg q1, if_pos q2]
      exact ⟨_, x, f, g, rfl⟩
    by_cases q3 : what = 3
    · rw [if_neg q0, if_neg q1, if_neg q2, if_pos q3]
      exact ⟨_, x, f, g, rfl⟩
    have ce := p2_cell (N := N) (i := 3) (σ := LVB σ f g) (x := x) 76 (by decide) (by decide)
    change inv N mX2_cell [vR 6 3, vI 76] (P (LVS σ x f g)) = some (some (vI (x.1 76)), P (LVS σ x f g)) at ce
    rw [if_neg q0, if_neg q1, if_neg q2, if_neg q3, ce, bnd_s, push_s, bnd_s, push_s]
    by_cases q4 : what = 4
    · rw [if_pos q4, eX1_answer_65]
      exact ⟨_, x, f, g, rfl⟩
    rw [if_neg q4, eX1_answer_71, iX1_startsBelow, eX1_startsBelow_0]
    obtain ⟨v, e⟩ := c_below (N := N) (LVS σ x f g) (x.1 76) hc.2.2.1.2 31 0 0 (by decide)
    have e2 : ((0 : Nat) : Int) = 0 := rfl
    rw [e2] at e
    rw [e, bnd_s, push_s, eX1_answer_72]
    exact ⟨_, x, f, g, rfl⟩
  | succ m ih =>
    intro k x f g hk hc s0 s1
    obtain ⟨c, f1, e, hcc⟩ := c_drawDeed (N := N) (σ := σ) (x := x) (f := f) (g := g)
    have e2 : w32 ((k : Int) + 1) = ((k + 1 : Nat) : Int) := by rw [w32i (by omega) (by omega)]; omega
    have hc1 : OKC c ∧ c 82 = x.1 82 := by
      rcases hcc with z | z
      · rw [z]; exact ⟨hc, rfl⟩
      · rw [z]; exact ⟨OKC_78 hc, set_ne _ _ (by decide)⟩
    rw [eX1_answer_34, if_pos (show (k : Int) < n by omega), e, bnd_s, push_n, eX1_answer_39, LVS_12]
    have b0 : 0 ≤ c 82 := by rw [hc1.2]; exact s0
    have b1 : c 82 < 2147482000 + k := by rw [hc1.2]; exact s1
    have k60 : (k : Int) < 60 := by omega
    by_cases q : f1 5 = -1
    · rw [if_pos q, eX1_answer_45, e2]
      exact ih (k + 1) (c, x.2) f1 g (by omega) hc1.1 b0 (by show c 82 < _; omega)
    · obtain ⟨y2, f2, g2, t1, t2, t3, t4⟩ := c_attempt (N := N) (σ := σ) (x := (c, x.2)) (f := f1) (g := g) hg hc1.1 b0 (by show c 82 < _; omega)
      rw [if_neg q, t1, bnd_s, push_n, eX1_answer_45, e2]
      change c 82 ≤ y2.1 82 at t3
      change y2.1 82 ≤ c 82 + 1 at t4
      exact ih (k + 1) y2 f2 g2 (by omega) t2 (by omega) (by omega)
theorem c_fill13 : inv N mJ7_fill_53178 [vR 13 0, vI 0] (P σ) = some (none, P (row σ 13 0 (fill (σ 13 0) 0 31 0))) := by
  have lp : ∀ (m k : Nat) (τ : Sto), k + m = 31 → ev N mJ7_fill_53178 5 [vR 13 0, vI 0, vI (k : Int), vI 31] [] (P τ) = some (none, P (row τ 13 0 (fill (τ 13 0) k m 0))) := by
    intro m
    induction m with
    | zero =>
      intro k τ hk
      have e : k = 31 := by omega
      subst e
      rw [eJ7_fill_53178_5_k13, if_neg (by decide), fill_0, row_id]
    | succ m ih =>
      intro k τ hk
      have l1 : (k : Int) < 31 ∧ ¬ (k : Int) < 0 ∧ k + 1 + m = 31 := by omega
      have e1 : w32 ((k : Int) + 1) = ((k + 1 : Nat) : Int) := by rw [w32i (by omega) (by omega)]; omega
      rw [eJ7_fill_53178_5_k13, if_pos l1.1, if_neg l1.2.1, if_pos l1.1, e1, sup_row, ih (k + 1) _ l1.2.2, row_same, row_row, Int.toNat_natCast, fill_s]
  rw [iJ7_fill_53178_k13, eJ7_fill_53178_0_k13]
  exact lp 31 0 σ rfl
theorem LVS_id (σ : Sto) : LVS σ (σ 7 3, σ 6 3) (σ 12 0) (σ 13 0) = σ := by
  unfold LVS LVB
  rw [row_id, row_id, putC_id]
theorem c_life {L : Int} (h : INV L σ) (hL : L < 2147480000) (a b : Int) : ∃ ans σ1, inv N mX8_life [vR 0 0, vI a, vI b] (P σ) = some (some (vI ans), P σ1) ∧ QX σ σ1 := by
  rw [iX8_life, eX8_life_0]
  by_cases a1 : a < 1
  · rw [if_pos a1]
    exact ⟨_, _, rfl, QX_refl σ⟩
  by_cases a2 : 60 < a
  · rw [if_neg a1, if_pos a2]
    exact ⟨_, _, rfl, QX_refl σ⟩
  by_cases a3 : σ 2 1 1 = 0
  · rw [if_neg a1, if_neg a2, if_pos a3]
    exact ⟨_, _, rfl, QX_refl σ⟩
  rw [if_neg a1, if_neg a2, if_neg a3, iX1_answer, eX1_answer_0]
  by_cases b1 : b < 0
  · rw [if_pos b1, bnd_s, push_s, eX8_life_19]
    exact ⟨_, _, rfl, QX_refl σ⟩
  by_cases b2 : 5 < b
  · rw [if_neg b1, if_pos b2, bnd_s, push_s, eX8_life_19]
    exact ⟨_, _, rfl, QX_refl σ⟩
  rw [if_neg b1, if_neg b2]
  have e := LVS_id σ
  generalize hx : (σ 7 3, σ 6 3) = x at e
  generalize σ 12 0 = f at e
  generalize σ 13 0 = g at e
  generalize hy : σ 0 0 10 = y
  have e7 : σ 7 0 = LVS σ x f g 7 0 := by rw [e]
  rw [← e, LVS_s12, LVS_s12, LVS_s12, LVS_s12, LVS_s12, e, c_fill13, LVS_r13, bnd_s, push_n, eX1_answer_27]
  generalize set (set (set (set (set f 4 y) 8 0) 9 0) 10 0) 11 0 = f1
  generalize fill _ 0 31 0 = g1
  have ct := p2_take (N := N) (i := 3) (b := LVB σ f1 g1) (x := x) 0 (by decide)
  change inv N mX2_takeFrom [vR 6 3, vR 6 0] (P (LVS σ x f1 g1)) = some (none, P (LVS σ (cpyV (LVB σ f1 g1 7 0) x.1 0 0 107, x.2) f1 g1)) at ct
  rw [LVB_o _ _ _ _ (by decide) (by decide)] at ct
  have hc := CELL_take h (QX_refl σ) x.1
  have h82 := CELL_82 hc hL
  generalize cpyV (σ 7 0) x.1 0 0 107 = c at hc h82 ct
  rw [ct, bnd_s, push_n, eX1_answer_32]
  obtain ⟨ans, z, f', g', t⟩ := c_lloop (N := N) (σ := σ) h.1.1 a b y (by omega) a.toNat 0 (c, x.2) f1 g1 (by omega) hc.1 h82.1 (by show c 82 < _; omega)
  have e2 : ((0 : Nat) : Int) = 0 := rfl
  rw [e2] at t
  rw [t, bnd_s, push_s, eX8_life_19]
  exact ⟨_, _, rfl, QX_LVS _ _ _ _⟩
end LIFE
