/-! ROUTE: one move of both, all moves, all stands -/
/-- where both stand -/
def ST5 (σ ρ τ υ : Sto) (many : Nat) : Prop := ∃ (C : Nat → Vec) (A B : Nat → Int) (F : Nat → Nat) (X K : Nat → Int), CTS σ τ many C A B F X ∧ MTS ρ υ many C F K ∧ XKR (σ 2 1 1) many X K
theorem CTS_rows {σ τ τ3 : Sto} {many : Nat} {C : Nat → Vec} {A B : Nat → Int} {F : Nat → Nat} {X : Nat → Int} (h : CTS σ τ many C A B F X) (r : RtT σ τ3) (e : ∀ j, 14 ≤ j → j ≤ 20 → τ3 j 0 = τ j 0) : CTS σ τ3 many C A B F X := by
  obtain ⟨-, h2, h3, h4, h5, h6, h7⟩ := h
  unfold CTS AL at *
  rw [e 14 (by decide) (by decide), e 15 (by decide) (by decide), e 16 (by decide) (by decide), e 17 (by decide) (by decide), e 18 (by decide) (by decide), e 19 (by decide) (by decide), e 20 (by decide) (by decide)]
  exact ⟨r, h2, h3, h4, h5, h6, h7⟩
/-- what comes of a move of both -/
def MOVR (N : Nat) (σ ρ τ υ : Sto) (many at' : Nat) (v : Int) (k : Nat) (x2 : Int) (x5 x6 : MV) : Prop :=
  (∃ (τ' υ' : Sto) (many' : Nat) (y5 y6 : MV), inv N mX5_step [vR 14 0, vI (at' : Int), vI x2, vI v] (P τ) = some (some (vI 0), P τ') ∧ ST5 σ ρ τ' υ' many' ∧ many ≤ many' ∧ many' ≤ 300 ∧ ev N mX9_seeks 31 [vR 30 0, vI v, vI (many : Int), vI (at' : Int), vI (k : Int), x5, x6] [] (P υ) = ev N mX9_seeks 31 [vR 30 0, vI v, vI (many' : Int), vI (at' : Int), vI ((k + 1 : Nat) : Int), y5, y6] [] (P υ'))
  ∨ (∃ (o n : Int) (τ' υ' : Sto), inv N mX5_step [vR 14 0, vI (at' : Int), vI x2, vI v] (P τ) = some (some (vI o), P τ') ∧ ¬ o = 0 ∧ ev N mX9_seeks 31 [vR 30 0, vI v, vI (many : Int), vI (at' : Int), vI (k : Int), x5, x6] [] (P υ) = some (some (vI n), P υ') ∧ ENDR σ ρ τ' υ' o n)
section ROUTE
variable {N : Nat} {σ ρ τ υ : Sto} {many : Nat} {C : Nat → Vec} {A B : Nat → Int} {F : Nat → Nat} {X K : Nat → Int}
theorem both_new (hg : OKG σ 1) (he : EnvM σ ρ) (h : CTS σ τ many C A B F X) (h' : MTS ρ υ many C F K) (hx : XKR (σ 2 1 1) many X K) (at' : Nat) (ha : at' < many) (hat : at' < 300) (hm : many ≤ 300) (v : Int) (k : Nat) (hk : (k : Int) < 3 + 2 * σ 2 1 1) (x5 x6 : MV) {x2 a b : Int} {c : Vec} (hmv : mvc (σ 2 1 1) (k : Int) = x2) (sc : SC σ (2147482000 + many) a b c) (hS : STEPR N σ τ at' x2 v c a b (inv N mX5_step [vR 14 0, vI (at' : Int), vI x2, vI v] (P τ))) (hT : ∀ υ1, KM υ υ1 → RZ (C at') (υ1 40 0) → ∃ υ2, inv N mX9_tries [vR 30 0, vI (k : Int)] (P υ1) = some (some (vI 1), P υ2) ∧ KM υ1 υ2 ∧ RZ c (υ2 40 0)) : MOVR N σ ρ τ υ many at' v k x2 x5 x6 := by
  have h0 := h
  obtain ⟨c1, c2, c3, c4, c5, c6, c7⟩ := h
  obtain ⟨y1, y2, y3, y4⟩ := m_moveY (N := N) hg he h' at' ha hm v k hk x5 x6 sc.1 (fun s s1 s2 => (c7 s s1 s2).1) hT
  obtain ⟨L, L1, L2⟩ := c6 at' ha
  have lL := chF_le L at' L1
  have ch : chF (upN F many at') (L + 1) many := by
    refine ⟨by omega, by rw [upN_same]; exact ha, ?_⟩
    rw [upN_same]
    exact chF_cong L at' (fun j hj => (upN_ne _ _ (by omega)).symm) L1
  rcases hS with ⟨q, τ', t1, t2, t3, t4, t5, t6⟩ | ⟨q, τ3, t1, t2, t3⟩
  · obtain ⟨υ', u1, u2, u3, u4⟩ := y1 q L L1
    refine Or.inr ⟨1, ((L + 1 : Nat) : Int), τ', υ', t1, by decide, u1, t2, u2, Or.inr ⟨rfl, L + 1, many, upN F many at', upN X many x2, upN K many (k : Int), rfl, by omega, hm, ch, ?_, ?_, ?_, fun s s1 s2 => ?_, u3, fun s s1 s2 => ?_⟩⟩
    · rw [t6, L2]; omega
    · rw [t4, upN_same]
    · rw [t5, upN_same]
    · rw [t3 16 (by decide) (by decide), t3 17 (by decide) (by decide), upN_ne _ _ (by omega), upN_ne _ _ (by omega)]
      exact (c7 s s1 s2).2
    · refine ⟨(u4 s s1 s2).1, (u4 s s1 s2).2, ?_⟩
      by_cases z : s = many
      · rw [z, upN_same, upN_same]; exact ⟨hmv, by omega⟩
      · rw [upN_ne _ _ z, upN_ne _ _ z]
        exact hx s s1 (by omega)
  · have h3 := CTS_rows h0 t1 t2
    have cs3 := h3.2.2.2.2.1
    have d3 : τ3 18 0 at' = (L : Int) := by rw [t2 18 (by decide) (by decide)]; exact L2
    rcases r_add2 (N := N) t1 many hm h3.2.2.1 h3.2.2.2.1 (PKV a b c) at' hat x2 (fun _ => by rw [d3]; omega) with ⟨⟨s, s1, s2⟩, e⟩ | ⟨n, m300, e⟩ | ⟨n, m3, τ', e, f1, f2, f3, f4, f5, f6, f7, f8⟩
    · have sg := (sg_PKV hg (cs3 s s1).1 sc).mpr ((cs3 s s1).2.symm.trans s2)
      obtain ⟨υ', y5, y6, u1, u2⟩ := y2 q ⟨s, s1, sg⟩
      exact Or.inl ⟨τ3, υ', many, y5, y6, t3 _ _ e, ⟨C, A, B, F, X, K, h3, u2, hx⟩, Nat.le_refl _, hm, u1⟩
    · obtain ⟨υ', u1, u2⟩ := y3 q (fun o ho z => n o ho ((cs3 o ho).2.trans ((sg_PKV hg (cs3 o ho).1 sc).mp z))) m300
      exact Or.inr ⟨2, -3, τ3, υ', t3 _ _ e, by decide, u1, t1, u2, Or.inl ⟨rfl, rfl⟩⟩
    · obtain ⟨υ', y5, y6, u1, u2⟩ := y4 q (fun o ho z => n o ho ((cs3 o ho).2.trans ((sg_PKV hg (cs3 o ho).1 sc).mp z))) m3
      refine Or.inl ⟨τ', υ', many + 1, y5, y6, t3 _ _ e, ⟨upN C many c, upN A many a, upN B many b, upN F many at', upN X many x2, upN K many (k : Int), ⟨f1, ?_, f2, f3, fun s hs => ?_, fun s hs => ?_, fun s s1 hs => ?_⟩, u2, fun s s1 hs => ?_⟩, by omega, by omega, u1⟩
      · unfold AL
        rw [f8]
        exact h3.2.1
      · rw [f4]
        by_cases z : s = many
        · rw [z, upN_same, upN_same, upN_same, set_same]
          exact ⟨sc, rfl⟩
        · rw [upN_ne _ _ z, upN_ne _ _ z, upN_ne _ _ z, set_ne _ _ z]
          exact cs3 s (by omega)
      · rw [f7]
        by_cases z : s = many
        · rw [z, set_same, if_neg (by omega), d3]
          exact ⟨L + 1, ch, by omega⟩
        · obtain ⟨n', n1, n2⟩ := h3.2.2.2.2.2.1 s (by omega)
          rw [set_ne _ _ z]
          exact ⟨n', chF_cong n' s (fun j hj => (upN_ne _ _ (by omega)).symm) n1, n2⟩
      · rw [f5, f6]
        by_cases z : s = many
        · rw [z, upN_same, upN_same, set_same, set_same]
          exact ⟨ha, rfl, rfl⟩
        · rw [upN_ne _ _ z, upN_ne _ _ z, set_ne _ _ z, set_ne _ _ z]
          exact h3.2.2.2.2.2.2 s s1 (by omega)
      · by_cases z : s = many
        · rw [z, upN_same, upN_same]; exact ⟨hmv, by omega⟩
        · rw [upN_ne _ _ z, upN_ne _ _ z]
          exact hx s s1 (by omega)
theorem both_move (hg : OKG σ 1) (hc0 : OKC (σ 7 0)) (h82 : 0 ≤ σ 7 0 82 ∧ σ 7 0 82 < 2147482000) (he : EnvM σ ρ) (h5 : ST5 σ ρ τ υ many) (at' : Nat) (ha : at' < many) (hat : at' < 300) (hm : many ≤ 300) (v : Int) (k : Nat) (hk : (k : Int) < 3 + 2 * σ 2 1 1) (x5 x6 : MV) (x2 : Int) (hmv : (k = 0 ∧ x2 = 0) ∨ ∃ d s i, MKX (σ 2 1 1) k x2 d s i) : MOVR N σ ρ τ υ many at' v k x2 x5 x6 := by
  obtain ⟨C, A, B, F, X, K, h, h', hx⟩ := h5
  have g4 := hg.2.2.2.1
  obtain ⟨sc, hz⟩ := h.2.2.2.2.1 at' ha
  obtain ⟨L, L1, L2⟩ := h.2.2.2.2.2.1 at' ha
  have lL := chF_le L at' L1
  have hd : 0 ≤ τ 18 0 at' ∧ τ 18 0 at' < 1000 := by rw [L2]; omega
  have hb : C at' 82 < 2147483000 := by have := sc.2.2.1.2; omega
  have no := r_stepN (N := N) h.1 hg sc at' hat hz x2 v
  have yes := r_stepY (N := N) h.1 hg hc0 h82 h.2.1 sc at' hat hd hz x2 v
  have env : ∀ υ1, KM υ υ1 → EnvM σ υ1 := fun υ1 km => EnvM_KM (MR_env2 h'.1 he) km
  rcases hmv with ⟨rfl, rfl⟩ | ⟨d, s, i, hmk⟩
  · have e0 : ((0 : Nat) : Int) = 0 := rfl
    by_cases q : C at' 78 = -1
    · obtain ⟨υ', u1, u2⟩ := m_moveN (N := N) hg he h' at' ha hm v 0 hk x5 x6 (fun υ1 km rz => by rw [e0]; exact (m_tries0 (N := N) rz).1 q)
      exact Or.inl ⟨τ, υ', many, x5, x6, no.1 rfl q, ⟨C, A, B, F, X, K, h, u2, hx⟩, Nat.le_refl _, hm, u1⟩
    · exact both_new hg he h h' hx at' ha hat hm v 0 hk x5 x6 rfl (SC_le (SC_off sc) (by omega)) (yes.1 rfl q) (fun υ1 km rz => by rw [e0]; exact (m_tries0 (N := N) rz).2 q)
  · by_cases q : ableF (σ 2 1 1) (σ 5 1) (C at') d s i = 1
    · exact both_new hg he h h' hx at' ha hat hm v k hk x5 x6 (mvc_of hmk g4) (SC_le (SC_perf hg h.2.1 sc hmk.1 q) (by omega)) (yes.2 d s i hmk.1 q) (fun υ1 km rz => (m_tries2 (N := N) hg (env υ1 km) rz sc.1 hb hmk).2 q)
    · obtain ⟨υ', u1, u2⟩ := m_moveN (N := N) hg he h' at' ha hm v k hk x5 x6 (fun υ1 km rz => ⟨υ1, (m_tries2 (N := N) hg (env υ1 km) rz sc.1 hb hmk).1 q, KM_refl υ1⟩)
      exact Or.inl ⟨τ, υ', many, x5, x6, no.2 d s i hmk.1 q, ⟨C, A, B, F, X, K, h, u2, hx⟩, Nat.le_refl _, hm, u1⟩
/-- an outcome of the class's search goes through to its end -/
theorem c_done36 (τ : Sto) (v o x3 : Int) (x4 x5 : MV) (ho : ¬ o = 0) : ev N mX5_search 36 [vR 14 0, vI v, vI o, vI x3, x4, x5] [] (P τ) = some (some (vI o), P τ) := by
  rw [eX5_search_36]
  by_cases a : x3 < τ 14 0 9
  · rw [if_pos a]
    by_cases b : x3 < 300
    · rw [if_pos b, if_neg ho]
    · rw [if_neg b]
  · rw [if_neg a]
theorem c_done62 (τ : Sto) (v o x3 x4 : Int) (x5 : MV) (ho : ¬ o = 0) : ev N mX5_search 62 [vR 14 0, vI v, vI o, vI x3, vI x4, x5] [] (P τ) = some (some (vI o), P τ) := by
  rw [eX5_search_62]
  by_cases a : x4 < w32 (2 * τ 2 1 1)
  · rw [if_pos a, if_neg ho]
    exact c_done36 τ v o _ _ _ ho
  · rw [if_neg a]
    exact c_done36 τ v o _ _ _ ho
theorem c_done47 (τ : Sto) (v o x3 x4 : Int) (x5 : MV) (ho : ¬ o = 0) : ev N mX5_search 47 [vR 14 0, vI v, vI o, vI x3, vI x4, x5] [] (P τ) = some (some (vI o), P τ) := by
  rw [eX5_search_47]
  by_cases a : 2 < x4
  · rw [if_pos a]
    exact c_done62 τ v o _ _ _ ho
  · rw [if_neg a, if_neg ho]
    exact c_done62 τ v o _ _ _ ho
theorem both_moves (hg : OKG σ 1) (hc0 : OKC (σ 7 0)) (h82 : 0 ≤ σ 7 0 82 ∧ σ 7 0 82 < 2147482000) (he : EnvM σ ρ) (at' : Nat) (hat : at' < 300) (v : Int) (z5 : MV) : ∀ (m k : Nat) (τ υ : Sto) (many : Nat) (x5 x6 : MV), k + m = 3 → ST5 σ ρ τ υ many → at' < many → many ≤ 300 →
    (∃ (τ' υ' : Sto) (many' : Nat) (y5 y6 : MV), ev N mX5_search 47 [vR 14 0, vI v, vI 0, vI (at' : Int), vI (k : Int), z5] [] (P τ) = ev N mX5_search 62 [vR 14 0, vI v, vI 0, vI (at' : Int), vI 0, z5] [] (P τ') ∧ ev N mX9_seeks 31 [vR 30 0, vI v, vI (many : Int), vI (at' : Int), vI (k : Int), x5, x6] [] (P υ) = ev N mX9_seeks 31 [vR 30 0, vI v, vI (many' : Int), vI (at' : Int), vI ((3 : Nat) : Int), y5, y6] [] (P υ') ∧ ST5 σ ρ τ' υ' many' ∧ at' < many' ∧ many' ≤ 300)
    ∨ (∃ (o n : Int) (τ' υ' : Sto), ev N mX5_search 47 [vR 14 0, vI v, vI 0, vI (at' : Int), vI (k : Int), z5] [] (P τ) = some (some (vI o), P τ') ∧ ev N mX9_seeks 31 [vR 30 0, vI v, vI (many : Int), vI (at' : Int), vI (k : Int), x5, x6] [] (P υ) = some (some (vI n), P υ') ∧ ENDR σ ρ τ' υ' o n) := by
  have i0 := hg.2.2.1
  intro m
  induction m with
  | zero =>
    intro k τ υ many x5 x6 hk h ha hm
    have e : k = 3 := by omega
    subst e
    refine Or.inl ⟨τ, υ, many, x5, x6, ?_, rfl, h, ha, hm⟩
    rw [eX5_search_47, if_pos (by decide)]
  | succ m ih =>
    intro k τ υ many x5 x6 hk h ha hm
    have e1 : w32 ((k : Int) + 1) = ((k + 1 : Nat) : Int) := by rw [w32i (by omega) (by omega)]; omega
    have mv : (k = 0 ∧ (k : Int) = 0) ∨ ∃ d s i, MKX (σ 2 1 1) k (k : Int) d s i := by
      rcases (show k = 0 ∨ k = 1 ∨ k = 2 by omega) with rfl | rfl | rfl
      · exact Or.inl ⟨rfl, rfl⟩
      · exact Or.inr ⟨0, 0, 0, Or.inl ⟨rfl, rfl, rfl, rfl⟩, Or.inl ⟨rfl, rfl⟩⟩
      · exact Or.inr ⟨1, 0, 0, Or.inr (Or.inl ⟨rfl, rfl, rfl, rfl⟩), Or.inr (Or.inl ⟨rfl, rfl⟩)⟩
    rw [eX5_search_47, if_neg (show ¬ (2 : Int) < (k : Int) by omega), if_pos rfl]
    rcases both_move (N := N) hg hc0 h82 he h at' ha hat hm v k (by omega) x5 x6 (k : Int) mv with ⟨τ', υ', many', y5, y6, s1, s2, s3, s4, s5⟩ | ⟨o, n, τ', υ', s1, s2, s3, s4⟩
    · rw [s1, bnd_s, push_s, eX5_search_57, e1, s5]
      exact ih (k + 1) τ' υ' many' y5 y6 (by omega) s2 (by omega) s4
    · rw [s1, bnd_s, push_s, eX5_search_57, e1, s3]
      exact Or.inr ⟨o, n, τ', υ', c_done47 τ' v o _ _ _ s2, rfl, s4⟩
theorem both_inum {k im : Int} (h0 : 0 ≤ k) (i0 : 0 ≤ im) (i1 : im ≤ 6) (hk : k < 2 * im) : w32 (k + 1) = k + 1 ∧ w32 ((w32 ((w32 (100 + (w32 (10 * 0)))) + k)) - (w32 (0 * im))) = 100 + k ∧ w32 ((w32 ((w32 (100 + (w32 (10 * 1)))) + k)) - (w32 (1 * im))) = 110 + (k - im) := by
  have a1 : w32 (10 * 0) = 0 := rfl
  have a2 : w32 (100 + 0) = 100 := rfl
  have a3 : w32 (10 * 1) = 10 := rfl
  have a4 : w32 (100 + 10) = 110 := rfl
  have a5 : w32 (0 * im) = 0 := by rw [Int.zero_mul]; rfl
  have a6 : w32 (1 * im) = im := by rw [Int.one_mul]; exact w32i (by omega) (by omega)
  have a7 : w32 (100 + k) = 100 + k := w32i (by omega) (by omega)
  have a8 : w32 (110 + k) = 110 + k := w32i (by omega) (by omega)
  have a9 : w32 (100 + k - 0) = 100 + k := by rw [w32i (by omega) (by omega)]; omega
  have b1 : w32 (110 + k - im) = 110 + (k - im) := by rw [w32i (by omega) (by omega)]; omega
  rw [a1, a2, a3, a4, a5, a6, a7, a8, a9, b1]
  exact ⟨w32i (by omega) (by omega), rfl, rfl⟩
theorem bi_num {k : Nat} {im : Int} (q : (k : Int) < 2 * im) : ((3 + k : Nat) : Int) < 3 + 2 * im := by omega
theorem bi_mk0 {k : Nat} {im : Int} (b : (k : Int) < im) : MKX im (3 + k) (100 + (k : Int)) 2 0 (k : Int) := ⟨Or.inr (Or.inr ⟨by omega, rfl, Or.inl rfl, by omega, b⟩), Or.inr (Or.inr ⟨rfl, by rw [Int.zero_mul]; omega⟩)⟩
theorem bi_mk1 {k : Nat} {im : Int} (q : (k : Int) < 2 * im) (b : ¬ (k : Int) < im) : MKX im (3 + k) (110 + ((k : Int) - im)) 2 1 ((k : Int) - im) := ⟨Or.inr (Or.inr ⟨by omega, rfl, Or.inr rfl, by omega, by omega⟩), Or.inr (Or.inr ⟨rfl, by rw [Int.one_mul]; omega⟩)⟩
theorem both_imgs (hg : OKG σ 1) (hc0 : OKC (σ 7 0)) (h82 : 0 ≤ σ 7 0 82 ∧ σ 7 0 82 < 2147482000) (he : EnvM σ ρ) (at' : Nat) (hat : at' < 300) (v : Int) : ∀ (m k : Nat) (τ υ : Sto) (many : Nat) (z5 x5 x6 : MV), k + m = 12 → ST5 σ ρ τ υ many → at' < many → many ≤ 300 →
    (∃ (τ' υ' : Sto) (many' : Nat) (z4 z5' y4 y5 y6 : MV), ev N mX5_search 62 [vR 14 0, vI v, vI 0, vI (at' : Int), vI (k : Int), z5] [] (P τ) = ev N mX5_search 36 [vR 14 0, vI v, vI 0, vI ((at' + 1 : Nat) : Int), z4, z5'] [] (P τ') ∧ ev N mX9_seeks 31 [vR 30 0, vI v, vI (many : Int), vI (at' : Int), vI ((3 + k : Nat) : Int), x5, x6] [] (P υ) = ev N mX9_seeks 26 [vR 30 0, vI v, vI (many' : Int), vI ((at' + 1 : Nat) : Int), y4, y5, y6] [] (P υ') ∧ ST5 σ ρ τ' υ' many' ∧ many' ≤ 300)
    ∨ (∃ (o n : Int) (τ' υ' : Sto), ev N mX5_search 62 [vR 14 0, vI v, vI 0, vI (at' : Int), vI (k : Int), z5] [] (P τ) = some (some (vI o), P τ') ∧ ev N mX9_seeks 31 [vR 30 0, vI v, vI (many : Int), vI (at' : Int), vI ((3 + k : Nat) : Int), x5, x6] [] (P υ) = some (some (vI n), P υ') ∧ ENDR σ ρ τ' υ' o n) := by
  have i0 := hg.2.2.1
  have i1 := hg.2.2.2.1
  have w2 : w32 (2 * σ 2 1 1) = 2 * σ 2 1 1 := w32i (by omega) (by omega)
  have w3 : w32 (3 + (w32 (2 * σ 2 1 1))) = 3 + 2 * σ 2 1 1 := by rw [w2, w32i (by omega) (by omega)]
  have ea : w32 ((at' : Int) + 1) = ((at' + 1 : Nat) : Int) := by rw [w32i (by omega) (by omega)]; omega
  have stop : ∀ (k : Nat) (τ υ : Sto) (many : Nat) (z5 x5 x6 : MV), ¬ (k : Int) < 2 * σ 2 1 1 → ST5 σ ρ τ υ many → ev N mX5_search 62 [vR 14 0, vI v, vI 0, vI (at' : Int), vI (k : Int), z5] [] (P τ) = ev N mX5_search 36 [vR 14 0, vI v, vI 0, vI ((at' + 1 : Nat) : Int), vI (k : Int), z5] [] (P τ) ∧ ev N mX9_seeks 31 [vR 30 0, vI v, vI (many : Int), vI (at' : Int), vI ((3 + k : Nat) : Int), x5, x6] [] (P υ) = ev N mX9_seeks 26 [vR 30 0, vI v, vI (many : Int), vI ((at' + 1 : Nat) : Int), vI ((3 + k : Nat) : Int), x5, x6] [] (P υ) := by
    intro k τ υ many z5 x5 x6 q h
    obtain ⟨C, A, B, F, X, K, c, c', -⟩ := h
    have e21 : τ 2 1 = σ 2 1 := c.1.1 2 1 (by decide)
    have e6 : υ 30 0 6 = σ 2 1 1 := (MR_env2 c'.1 he).2.2.2.1
    rw [eX5_search_62, e21, w2, if_neg q, ea, eX9_seeks_31, e6, w3, if_neg (by omega), ea]
    exact ⟨rfl, rfl⟩
  intro m
  induction m with
  | zero =>
    intro k τ υ many z5 x5 x6 hk h ha hm
    obtain ⟨s1, s2⟩ := stop k τ υ many z5 x5 x6 (by omega) h
    exact Or.inl ⟨τ, υ, many, _, _, _, _, _, s1, s2, h, hm⟩
  | succ m ih =>
    intro k τ υ many z5 x5 x6 hk h ha hm
    by_cases q : (k : Int) < 2 * σ 2 1 1
    case neg =>
      obtain ⟨s1, s2⟩ := stop k τ υ many z5 x5 x6 q h
      exact Or.inl ⟨τ, υ, many, _, _, _, _, _, s1, s2, h, hm⟩
    obtain ⟨n1, n2, n3⟩ := both_inum (k := (k : Int)) (by omega) i0 i1 q
    have e1 : w32 ((k : Int) + 1) = ((k + 1 : Nat) : Int) := by rw [n1]; omega
    have e21 : τ 2 1 = σ 2 1 := by
      obtain ⟨C, A, B, F, X, K, c, -⟩ := h
      exact c.1.1 2 1 (by decide)
    have e3 : 3 + k + 1 = 3 + (k + 1) := rfl
    have kk : k + 1 + m = 12 := by omega
    rw [eX5_search_62, e21, w2, if_pos q, if_pos rfl]
    have fin : ∀ (x2 w : Int), ((3 + k = 0 ∧ x2 = 0) ∨ ∃ d s i, MKX (σ 2 1 1) (3 + k) x2 d s i) →
        (∃ (τ' υ' : Sto) (many' : Nat) (z4 z5' y4 y5 y6 : MV), bnd (inv N mX5_step [vR 14 0, vI (at' : Int), vI x2, vI v] (P τ)) (fun r S2 => ev N mX5_search 97 [vR 14 0, vI v, vI 0, vI (at' : Int), vI (k : Int), vI w] (push r []) S2) = ev N mX5_search 36 [vR 14 0, vI v, vI 0, vI ((at' + 1 : Nat) : Int), z4, z5'] [] (P τ') ∧ ev N mX9_seeks 31 [vR 30 0, vI v, vI (many : Int), vI (at' : Int), vI ((3 + k : Nat) : Int), x5, x6] [] (P υ) = ev N mX9_seeks 26 [vR 30 0, vI v, vI (many' : Int), vI ((at' + 1 : Nat) : Int), y4, y5, y6] [] (P υ') ∧ ST5 σ ρ τ' υ' many' ∧ many' ≤ 300)
        ∨ (∃ (o n : Int) (τ' υ' : Sto), bnd (inv N mX5_step [vR 14 0, vI (at' : Int), vI x2, vI v] (P τ)) (fun r S2 => ev N mX5_search 97 [vR 14 0, vI v, vI 0, vI (at' : Int), vI (k : Int), vI w] (push r []) S2) = some (some (vI o), P τ') ∧ ev N mX9_seeks 31 [vR 30 0, vI v, vI (many : Int), vI (at' : Int), vI ((3 + k : Nat) : Int), x5, x6] [] (P υ) = some (some (vI n), P υ') ∧ ENDR σ ρ τ' υ' o n) := by
      intro x2 w mv
      rcases both_move (N := N) hg hc0 h82 he h at' ha hat hm v (3 + k) (bi_num q) x5 x6 x2 mv with ⟨τ', υ', many', y5, y6, s1, s2, s3, s4, s5⟩ | ⟨o, n, τ', υ', s1, s2, s3, s4⟩
      · have t := ih (k + 1) τ' υ' many' (vI w) y5 y6 kk s2 (Nat.lt_of_lt_of_le ha s3) s4
        rw [s1, bnd_s, push_s, eX5_search_97, e1, s5, e3]
        exact t
      · rw [s1, bnd_s, push_s, eX5_search_97, e1, s3]
        exact Or.inr ⟨o, n, τ', υ', c_done62 τ' v o _ _ _ s2, rfl, s4⟩
    by_cases b : (k : Int) < σ 2 1 1
    · rw [if_pos b, n2]
      exact fin _ _ (Or.inr ⟨2, 0, (k : Int), bi_mk0 b⟩)
    · rw [if_neg b, n3]
      exact fin _ _ (Or.inr ⟨2, 1, (k : Int) - σ 2 1 1, bi_mk1 q b⟩)
theorem both_outer (hg : OKG σ 1) (hc0 : OKC (σ 7 0)) (h82 : 0 ≤ σ 7 0 82 ∧ σ 7 0 82 < 2147482000) (he : EnvM σ ρ) (v : Int) : ∀ (m k : Nat) (τ υ : Sto) (many : Nat) (z4 z5 x4 x5 x6 : MV), k + m = 300 → ST5 σ ρ τ υ many → many ≤ 300 →
    ∃ (o n : Int) (τ' υ' : Sto), ev N mX5_search 36 [vR 14 0, vI v, vI 0, vI (k : Int), z4, z5] [] (P τ) = some (some (vI o), P τ') ∧ ev N mX9_seeks 26 [vR 30 0, vI v, vI (many : Int), vI (k : Int), x4, x5, x6] [] (P υ) = some (some (vI n), P υ') ∧ (ENDR σ ρ τ' υ' o n ∨ (o = 0 ∧ n = -2 ∧ RtT σ τ' ∧ MR ρ υ')) := by
  have stop : ∀ (k : Nat) (τ υ : Sto) (many : Nat) (z4 z5 x4 x5 x6 : MV), ¬ k < many → ST5 σ ρ τ υ many → ∃ (o n : Int) (τ' υ' : Sto), ev N mX5_search 36 [vR 14 0, vI v, vI 0, vI (k : Int), z4, z5] [] (P τ) = some (some (vI o), P τ') ∧ ev N mX9_seeks 26 [vR 30 0, vI v, vI (many : Int), vI (k : Int), x4, x5, x6] [] (P υ) = some (some (vI n), P υ') ∧ (ENDR σ ρ τ' υ' o n ∨ (o = 0 ∧ n = -2 ∧ RtT σ τ' ∧ MR ρ υ')) := by
    intro k τ υ many z4 z5 x4 x5 x6 q h
    obtain ⟨C, A, B, F, X, K, c, c', -⟩ := h
    refine ⟨0, -2, τ, υ, ?_, ?_, Or.inr ⟨rfl, rfl, c.1, c'.1⟩⟩
    · rw [eX5_search_36, c.2.2.1, if_neg (by omega)]
    · rw [eX9_seeks_26, if_neg (by omega)]
  intro m
  induction m with
  | zero =>
    intro k τ υ many z4 z5 x4 x5 x6 hk h hm
    exact stop k τ υ many z4 z5 x4 x5 x6 (by omega) h
  | succ m ih =>
    intro k τ υ many z4 z5 x4 x5 x6 hk h hm
    by_cases q : k < many
    case neg => exact stop k τ υ many z4 z5 x4 x5 x6 q h
    have e9 : τ 14 0 9 = (many : Int) := by
      obtain ⟨C, A, B, F, X, K, c, -⟩ := h
      exact c.2.2.1
    have e0 : ((0 : Nat) : Int) = 0 := rfl
    have b1 := both_moves (N := N) hg hc0 h82 he k (by omega) v z5 3 0 τ υ many x5 x6 rfl h q hm
    rw [e0] at b1
    rw [eX5_search_36, e9, if_pos (show (k : Int) < (many : Int) by omega), if_pos (show (k : Int) < 300 by omega), if_pos rfl, eX9_seeks_26, if_pos (show (k : Int) < (many : Int) by omega)]
    rcases b1 with ⟨τ', υ', many', y5, y6, s1, s2, s3, s4, s5⟩ | ⟨o, n, τ', υ', s1, s2, s3⟩
    · have b2 := both_imgs (N := N) hg hc0 h82 he k (by omega) v 12 0 τ' υ' many' z5 y5 y6 rfl s3 s4 s5
      rw [e0, Nat.add_zero] at b2
      rw [s1, s2]
      rcases b2 with ⟨τ2, υ2, many2, w4, w5, w6, w7, w8, t1, t2, t3, t4⟩ | ⟨o, n, τ2, υ2, t1, t2, t3⟩
      · rw [t1, t2]
        exact ih (k + 1) τ2 υ2 many2 w4 w5 w6 w7 w8 (by omega) t3 t4
      · exact ⟨o, n, τ2, υ2, t1, t2, Or.inl t3⟩
    · exact ⟨o, n, τ', υ', s1, s2, Or.inl s3⟩
end ROUTE
