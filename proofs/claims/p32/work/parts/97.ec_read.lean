/-! THE TEXT is read to its end, or to its first fault -/
section RD
variable {N n : Nat} {T : Vec} {σ : Sto} {p : Nat}
theorem k_n3 {k q : Nat} (hq : q ≤ n) (h : n ≤ 300) (hk : k ≤ q) : ¬ (n : Int) < (k : Int) ∧ w32 ((k : Int) + 1) = ((k + 1 : Nat) : Int) := by
  refine ⟨by omega, ?_⟩
  rw [w32i (by omega) (by omega)]; omega
theorem lt_n {q : Nat} (h : q < n) : (q : Int) < (n : Int) := Int.ofNat_lt.mpr h
theorem CR_10 (h : CR n T p σ) (v : Int) : CR n T p (row σ 8 0 (set (σ 8 0) 10 v)) := by
  obtain ⟨ct, hp, h3, h4, a, b, c, d, e, f, i, k⟩ := h
  exact ⟨CT_row ct rfl, hp, h3, h4, a, b, c, d, e, f, i, fun l h1 h2 => by
    rw [row_same, set_ne _ _ (Nat.ne_of_lt h2)]
    exact k l h1 h2⟩
theorem RR_10 {τ : Sto} (h : RR σ τ) (v : Int) : RR (row σ 8 0 (set (σ 8 0) 10 v)) τ := h
/-- the model's way behind a fault, to its last question -/
theorem m_read_bad {τ : Sto} (h3 : ¬ τ 30 0 3 = -1) (x1 : Int) : ∃ τ2, ev N mX9_bundle 38 [vR 30 0, vI x1, vI 1] [] (P τ) = ev N mX9_bundle 70 [vR 30 0, vI (w32 (x1 + 1)), vI 0] [] (P τ2) ∧ MFr τ τ2 ∧ τ2 30 0 3 = τ 30 0 3 := by
  have rt := m_right (N := N) (σ := row τ 30 0 (set (τ 30 0) 2 (w32 (τ 30 0 2 + 0))))
  rw [row_same, set_ne _ _ (show 3 ≠ 2 by decide), if_neg h3] at rt
  refine ⟨row τ 30 0 (set (τ 30 0) 2 (w32 (τ 30 0 2 + 0))), ?_, MFr_30 τ _ (fun j z _ _ _ _ _ => set_ne _ _ z), by rw [row_same, set_ne _ _ (by decide)]⟩
  rw [eX9_bundle_38, m_right, if_neg h3, bnd_s, push_s, eX9_bundle_41, if_pos rfl, s9_truth, if_pos rfl, bnd_s, push_s, eX9_bundle_55, sup_row, eX9_bundle_34, if_pos rfl, rt, bnd_s, push_s, eX9_bundle_60, if_pos rfl]
def RD1 (n : Nat) (T : Vec) (σ : Sto) (C : Option Out) (M : Sto → Option Out) (N : Nat) : Prop := ∃ (f : Int) (σ2 : Sto) (k2 : Int), C = some (some (vI f), P σ2) ∧ CFr σ σ2 ∧ DRAFT σ2 ∧ (f = -1 → σ2 8 0 10 = k2 ∧ ∃ p2, CR n T p2 σ2) ∧ ∀ τ, MX n T τ → RR σ τ → ∃ τ2, M τ = ev N mX9_bundle 70 [vR 30 0, vI k2, vI 0] [] (P τ2) ∧ MFr τ τ2 ∧ τ2 30 0 3 = f ∧ (f = -1 → RR σ2 τ2)
theorem pk_n {p p1 q k : Nat} (h1 : k ≤ p) (h2 : (p : Int) ≤ (p1 : Int)) (h3 : p1 ≤ q) : k ≤ q ∧ p ≤ q := by omega
theorem mq_n {p q m : Nat} (h : n - p < m + 1) (h1 : p ≤ q) (h2 : q < n) : n - (q + 1) < m := by omega
theorem f8_n {q : Nat} : ¬ 8 * (q : Int) + 1 = -1 := by omega
theorem read_loop (x1 : Int) : ∀ (m : Nat) (σ : Sto) (p k : Nat), n - p < m → CR n T p σ → ZW σ → k ≤ p → σ 8 0 10 = (k : Int) → RD1 n T σ (ev N mX4_read 26 [vR 8 0, vI x1, vI (k : Int)] [] (P σ)) (fun τ => ev N mX9_bundle 34 [vR 30 0, vI (k : Int), vI 1] [] (P τ)) N := by
  intro m
  induction m with
  | zero =>
    intro σ p k hm
    exact absurd hm (Nat.not_lt_zero _)
  | succ m ih =>
    intro σ p k hm h zw hk h10
    have n300 := h.1.2.1
    have h3σ := h.2.2.1
    obtain ⟨nk, wk⟩ := k_n3 h.2.1 n300 hk
    obtain ⟨ok, σ1, a, fr, ct, dr, e10, oc, g⟩ := line_any (N := N) h zw
    have cls : ev N mX4_read 26 [vR 8 0, vI x1, vI (k : Int)] [] (P σ) = ev N mX4_read 32 [vR 8 0, vI x1, vI (k : Int)] [vI ok] (P σ1) := by
      rw [eX4_read_26, h.1.1, if_neg nk, a, bnd_s, push_s]
    rcases oc with ⟨ok1, zw1, mo, p1, cr1⟩ | ⟨ok0, bad⟩
    case inr =>
      refine ⟨σ1 8 0 4, σ1, ((k + 1 : Nat) : Int), ?_, fr, dr, fun z => absurd z bad, fun τ hx hr => ?_⟩
      · rw [cls, ok0, eX4_read_32, if_pos rfl]
      · obtain ⟨τ1, b1, b2, -, b4⟩ := g τ hx hr trivial
        change inv N mX9_readsLine [vR 30 0] (P τ) = some (none, P τ1) at b1
        obtain ⟨τ2, c1, c2, c3⟩ := m_read_bad (N := N) (τ := τ1) (by rw [b4 ok0]; exact bad) (k : Int)
        refine ⟨τ2, ?_, MFr_trans b2 c2, c3.trans (b4 ok0), fun z => absurd z bad⟩
        show ev N mX9_bundle 34 [vR 30 0, vI (k : Int), vI 1] [] (P τ) = _
        rw [eX9_bundle_34, if_neg (by decide), b1, bnd_s, push_n, c1, wk]
    subst ok1
    have sk := SK_le (T := T) cr1.2.1
    have skk := SK_SK (T := T) cr1.2.1
    rw [h3σ, cr1.2.2.1] at mo
    have cs := c_skip (N := N) (CR_10 cr1 ((k + 1 : Nat) : Int)).1 cr1.2.1 (by rw [row_same, set_ne _ _ (by decide)]; exact cr1.2.2.1)
    have mnf := fun (τ1 : Sto) (hx1 : MX n T τ1) (hr1 : RR σ1 τ1) => m_next (N := N) hx1 cr1.2.1 (hr1.1.trans cr1.2.2.1)
    have e10' : σ1 8 0 10 = (k : Int) := e10.trans h10
    generalize SK n T p1 = q at sk skk cs mnf
    obtain ⟨kq, pq⟩ := pk_n hk mo sk.1
    rw [row_same, row_row] at cs
    have cr2 : CR n T q (row σ1 8 0 (set (set (σ1 8 0) 10 ((k + 1 : Nat) : Int)) 3 (q : Int))) := by
      have z := CR_8 (CR_10 cr1 ((k + 1 : Nat) : Int)) (g := set (set (σ1 8 0) 10 ((k + 1 : Nat) : Int)) 3 (q : Int)) sk.2 rfl (set_same _ _ _) ((set_ne _ _ (by decide)).trans ((set_ne _ _ (by decide)).trans cr1.2.2.2.1)) (fun j hj => by rw [row_same, set_ne _ _ (ge_ne hj (by decide))])
      rw [row_row] at z
      exact z
    have s10 : row σ1 8 0 (set (set (σ1 8 0) 10 ((k + 1 : Nat) : Int)) 3 (q : Int)) 8 0 10 = ((k + 1 : Nat) : Int) := rfl
    have fr2 : CFr σ (row σ1 8 0 (set (set (σ1 8 0) 10 ((k + 1 : Nat) : Int)) 3 (q : Int))) := CFr_trans fr (CFr_row σ1 8 _ (by decide))
    have zw2 : ZW (row σ1 8 0 (set (set (σ1 8 0) 10 ((k + 1 : Nat) : Int)) 3 (q : Int))) := ZW_o zw1 rfl rfl
    have rr2 : ∀ τ1 : Sto, RR σ1 τ1 → RR (row σ1 8 0 (set (set (σ1 8 0) 10 ((k + 1 : Nat) : Int)) 3 (q : Int))) (row τ1 30 0 (set (τ1 30 0) 2 (q : Int))) := fun τ1 hr => ⟨rfl, hr.2⟩
    have cls2 : ev N mX4_read 26 [vR 8 0, vI x1, vI (k : Int)] [] (P σ) = ev N mX4_read 44 [vR 8 0, vI x1, vI (k : Int)] [] (P (row σ1 8 0 (set (set (σ1 8 0) 10 ((k + 1 : Nat) : Int)) 3 (q : Int)))) := by
      rw [cls, eX4_read_32, if_neg (by decide), sup_row, e10', wk, cs, bnd_s, push_n]
    -- the model: a line, the next sign
    have mdl : ∀ τ, MX n T τ → RR σ τ → ∃ τ1, RR σ1 τ1 ∧ MX n T τ1 ∧ MFr τ τ1 ∧ ev N mX9_bundle 34 [vR 30 0, vI (k : Int), vI 1] [] (P τ) = ev N mX9_bundle 44 [vR 30 0, vI ((k + 1 : Nat) : Int), vI 1] [vI (byI n T q)] (P (row τ1 30 0 (set (τ1 30 0) 2 (q : Int)))) := by
      intro τ hx hr
      obtain ⟨τ1, b1, b2, b3, -⟩ := g τ hx hr trivial
      have hr1 := b3 rfl
      have hx1 := MX_MFr hx b2
      change inv N mX9_readsLine [vR 30 0] (P τ) = some (none, P τ1) at b1
      refine ⟨τ1, hr1, hx1, b2, ?_⟩
      rw [eX9_bundle_34, if_neg (by decide), b1, bnd_s, push_n, eX9_bundle_38, m_right, if_pos hr1.2.1, bnd_s, push_s, wk, eX9_bundle_41, if_neg (by decide), mnf τ1 hx1 hr1, bnd_s, push_s]
    clear mnf a g cls cs dr ct fr zw1
    generalize hσ2 : row σ1 8 0 (set (set (σ1 8 0) 10 ((k + 1 : Nat) : Int)) 3 (q : Int)) = σ2 at cr2 s10 fr2 zw2 rr2 cls2
    have h83 := cr2.2.2.1
    have h82 := cr2.1.1
    have p0 := p0_n cr2.2.1 n300
    -- behind the last line: the model's end
    have mend : ∀ τ1, RR σ1 τ1 → MX n T τ1 → ¬ byI n T q = 59 → ev N mX9_bundle 44 [vR 30 0, vI ((k + 1 : Nat) : Int), vI 1] [vI (byI n T q)] (P (row τ1 30 0 (set (τ1 30 0) 2 (q : Int)))) = ev N mX9_bundle 63 [vR 30 0, vI ((k + 1 : Nat) : Int), vI 0] [vI (byI n T q)] (P (row τ1 30 0 (set (τ1 30 0) 2 (q : Int)))) := by
      intro τ1 hr1 hx1 ne
      have rt := m_right (N := N) (σ := row τ1 30 0 (set (τ1 30 0) 2 (q : Int)))
      rw [row_same, set_ne _ _ (show 3 ≠ 2 by decide), if_pos hr1.2.1] at rt
      have mn := m_next (N := N) (MX_30 hx1 (f := set (τ1 30 0) 2 (q : Int)) (set_ne _ _ (by decide))) cr2.2.1 (by rw [row_same, set_same])
      rw [skk, row_same, row_row, set_set] at mn
      rw [eX9_bundle_44, if_neg ne, s9_truth, if_pos rfl, bnd_s, push_s, row_same, set_same, eX9_bundle_55, sup_row, p0, row_same, row_row, set_set, eX9_bundle_34, if_pos rfl, rt, bnd_s, push_s, eX9_bundle_60, if_neg (by decide), mn, bnd_s, push_s]
    by_cases ql : q < n
    · have cb := c_byteAt (N := N) cr2.1 q
      by_cases b59 : byI n T q = 59
      · -- a further line
        have pn := p_n (Nat.le_of_lt ql) n300
        have cr3 : CR n T (q + 1) (row σ2 8 0 (set (σ2 8 0) 3 ((q + 1 : Nat) : Int))) := CR_8 cr2 ql (set_ne _ _ (by decide)) (set_same _ _ _) ((set_ne _ _ (by decide)).trans cr2.2.2.2.1) (fun j hj => set_ne _ _ (ge_ne hj (by decide)))
        obtain ⟨f, σ3, k3, d1, d2, d3, d4, d5⟩ := ih _ (q + 1) (k + 1) (mq_n hm pq ql) cr3 (ZW_o zw2 rfl rfl) (Nat.succ_le_succ kq) (by rw [row_same, set_ne _ _ (by decide)]; exact s10)
        refine ⟨f, σ3, k3, ?_, CFr_trans fr2 (CFr_trans (CFr_row σ2 8 _ (by decide)) d2), d3, d4, fun τ hx hr => ?_⟩
        · rw [cls2, eX4_read_44, h83, h82, if_pos (lt_n ql), cb, bnd_s, push_s, eX4_read_55, if_pos b59, sup_row, h83, pn, wk]
          exact d1
        · obtain ⟨τ1, m1, m2, m3, m4⟩ := mdl τ hx hr
          have r2 := rr2 τ1 m1
          have mf : MFr τ1 (row τ1 30 0 (set (τ1 30 0) 2 ((q + 1 : Nat) : Int))) := MFr_30 τ1 _ (fun j z _ _ _ _ _ => set_ne _ _ z)
          obtain ⟨τ4, e1, e2, e3⟩ := d5 (row τ1 30 0 (set (τ1 30 0) 2 ((q + 1 : Nat) : Int))) (MX_MFr m2 mf) ⟨by rw [row_same, row_same, set_same, set_same], r2.2⟩
          refine ⟨τ4, ?_, MFr_trans m3 (MFr_trans mf e2), e3⟩
          show ev N mX9_bundle 34 [vR 30 0, vI (k : Int), vI 1] [] (P τ) = _
          rw [m4, eX9_bundle_44, if_pos b59, s9_truth, if_neg (by decide), bnd_s, push_s, row_same, set_same, eX9_bundle_55, sup_row, pn, row_same, row_row, set_set]
          exact e1
      · -- no further line, and no end
        have cf := c_fail (N := N) (σ := σ2) q 1 (Nat.le_trans cr2.2.1 n300) (by decide)
        rw [Int.cast_ofNat_Int] at cf
        refine ⟨8 * (q : Int) + 1, row σ2 8 0 (set (σ2 8 0) 4 (8 * (q : Int) + 1)), ((k + 1 : Nat) : Int), ?_, CFr_trans fr2 (CFr_row σ2 8 _ (by decide)), cr2.2.2.2.2.2.2.2.2.2.1, fun z => absurd z f8_n, fun τ hx hr => ?_⟩
        · rw [cls2, eX4_read_44, h83, h82, if_pos (lt_n ql), cb, bnd_s, push_s, eX4_read_55, if_neg b59, h83, cf, bnd_s, push_s, eX4_read_62, row_same, set_same]
        · obtain ⟨τ1, m1, m2, m3, m4⟩ := mdl τ hx hr
          have mf1 : MFr τ1 (row τ1 30 0 (set (τ1 30 0) 2 (q : Int))) := MFr_30 τ1 _ (fun j z _ _ _ _ _ => set_ne _ _ z)
          have bn : ¬ byI n T q = -1 := by
            have t0 := (hx.2.2.2 q (Nat.lt_of_lt_of_le ql n300)).1
            unfold byI
            rw [if_pos ql]
            exact fun z => absurd (z ▸ t0) (by decide)
          have ff := m_fails (N := N) (σ := row τ1 30 0 (set (τ1 30 0) 2 (q : Int))) q 1 (Nat.le_trans cr2.2.1 n300) (by decide)
          rw [Int.cast_ofNat_Int, row_same, row_row, set_ne _ _ (show 3 ≠ 2 by decide), if_pos m1.2.1] at ff
          refine ⟨row τ1 30 0 (set (set (τ1 30 0) 2 (q : Int)) 3 (8 * (q : Int) + 1)), ?_, MFr_trans m3 (MFr_30 τ1 _ (fun j z z3 _ _ _ _ => (set_ne _ _ z3).trans (set_ne _ _ z))), by rw [row_same, set_same], fun z => absurd z f8_n⟩
          show ev N mX9_bundle 34 [vR 30 0, vI (k : Int), vI 1] [] (P τ) = _
          rw [m4, mend τ1 m1 m2 b59, eX9_bundle_63, if_neg bn, row_same, set_same, ff, bnd_s, push_n]
    · -- the text's end
      have bm : byI n T q = -1 := by
        unfold byI
        rw [if_neg ql]
      refine ⟨-1, σ2, ((k + 1 : Nat) : Int), ?_, fr2, cr2.2.2.2.2.2.2.2.2.2.1, fun _ => ⟨s10, q, cr2⟩, fun τ hx hr => ?_⟩
      · rw [cls2, eX4_read_44, h83, h82, if_neg (fun z => ql (Int.ofNat_lt.mp z))]
      · obtain ⟨τ1, m1, m2, m3, m4⟩ := mdl τ hx hr
        refine ⟨row τ1 30 0 (set (τ1 30 0) 2 (q : Int)), ?_, MFr_trans m3 (MFr_30 τ1 _ (fun j z _ _ _ _ _ => set_ne _ _ z)), by rw [row_same, set_ne _ _ (by decide)]; exact m1.2.1, fun _ => rr2 τ1 m1⟩
        show ev N mX9_bundle 34 [vR 30 0, vI (k : Int), vI 1] [] (P τ) = _
        rw [m4, mend τ1 m1 m2 (by rw [bm]; decide), eX9_bundle_63, if_pos bm]
end RD
