/-! TWICE, whole -/
section TRY
variable {N : Nat} {σ b : Sto} {L : Int}
def MW (σ τ : Sto) : Prop := QX σ τ ∧ ∀ j, j < 107 → τ 42 0 j = σ 40 0 j
theorem tw_loop (h : INV L σ) (hL : L < 2147480000) (d a1 a2 n : Int) (hd : ableF (σ 2 1 1) (σ 5 1) (σ 7 0) d a1 a2 = 1) (hn : n < 2147483648) : ∀ (m k : Nat) (t : Int) (b : Sto) (x : XP), QX σ b → n ≤ (k : Int) + (m : Int) → w32 t = t → ∃ (r : Int) (ρ : Sto), ev N mX7_countTwos 19 [vR 11 0, vI d, vI a1, vI a2, vI n, vI t, vI (k : Int)] [] (P (putC b 1 x)) = some (some (vI r), P ρ) ∧ QX σ ρ ∧ ∀ τ x7 x8, MW σ τ → ∃ υ, ev N mX9_twice 27 [vR 30 0, vI d, vI a1, vI a2, vI n, vI t, vI (k : Int), x7, x8] [] (P τ) = some (some (vI r), P υ) ∧ MW σ υ := by
  intro m
  induction m with
  | zero =>
    intro k t b x qb hk ht
    have q : ¬ (k : Int) < n := by omega
    refine ⟨t, putC b 1 x, ?_, QX_trans qb (QX_put b 1 (by decide) x), fun τ x7 x8 hτ => ⟨τ, ?_, hτ⟩⟩
    · rw [eX7_countTwos_19, if_neg q]
    · rw [eX9_twice_27, if_neg q]
  | succ m ih =>
    intro k t b x qb hk htt
    by_cases q : (k : Int) < n
    case neg =>
      refine ⟨t, putC b 1 x, ?_, QX_trans qb (QX_put b 1 (by decide) x), fun τ x7 x8 hτ => ⟨τ, ?_, hτ⟩⟩
      · rw [eX7_countTwos_19, if_neg q]
      · rw [eX9_twice_27, if_neg q]
    obtain ⟨nk, c0, c1⟩ := ct_num hn q
    have hkm : n ≤ ((k + 1 : Nat) : Int) + (m : Int) := by omega
    have hg := OKG_FX qb.1 h.1.1
    have hc := CELL_take h (QX_refl σ) x.1
    have hcm := fun τ (qq : QX σ τ) => CELL_take h qq x.1
    have ceq : ∀ j, j < 107 → cpyV (σ 7 0) x.1 0 0 107 j = σ 7 0 j := fun j hj => cpy_all _ _ hj
    have h82 := CELL_82 hc hL
    have b82 : cpyV (σ 7 0) x.1 0 0 107 82 ≤ L := hc.2.2.1
    have ct := p2_take (N := N) (i := 1) (b := b) (x := x) 0 (by decide)
    rw [qb.2.1] at ct
    generalize cpyV (σ 7 0) x.1 0 0 107 = c at hc h82 b82 ct ceq hcm
    have hdc := (able_take h qb.1 ceq d a1 a2).trans hd
    have pf := p2_perform (N := N) (i := 1) (σ := b) (x := (c, x.2)) hg hc.1 h82.1 (Int.lt_trans h82.2 (by decide)) d a1 a2 (k : Int) hdc
    have ok := performC_ok (σ := b) (x := (c, x.2)) hg hc.1 d a1 a2 (k : Int) hdc
    have md := fun τ (qq : QX σ τ) => m_does (N := N) (σ := τ) (x := (c, x.2)) hg (hcm τ qq).2.1 hc.1 (EnvM_FX qq.1 qb.1 h.1.2.1) (Int.lt_trans h82.2 (by decide)) d a1 a2 (k : Int) hdc c0 c1
    generalize performC b d a1 a2 (k : Int) (c, x.2) = p at pf ok md
    have l1 : c 82 ≤ p.2.1 82 := ok.2.1
    have l2 : p.2.1 82 ≤ c 82 + 1 := ok.2.2
    have p0 : 0 ≤ p.2.1 82 := Int.le_trans h82.1 l1
    have p1 : p.2.1 82 ≤ 2147482000 := by omega
    have p2 : p.2.1 82 < 2147483000 := Int.lt_of_le_of_lt p1 (by decide)
    -- the class's second machine
    have qS : QX σ (putC b 1 p.2) := QX_trans qb (QX_put b 1 (by decide) p.2)
    have S71 : putC b 1 p.2 7 1 = p.2.1 := putC_7 b 1 p.2
    have cm : ∀ z, putC (putC b 1 p.2) 2 z = putC (putC b 2 z) 1 p.2 := fun z => putC_comm b p.2 z
    generalize putC b 1 p.2 = S at pf qS S71 cm
    have hgS := OKG_FX qS.1 h.1.1
    have dd := p2_dead0 (N := N) (b := S) hgS S71 ok.1.1 p0 p2 (S 7 2, S 6 2)
    rw [putC_id] at dd
    have ce2 := fun j (hj : j < 107) => cpy_all p.2.1 (S 7 2) hj
    have w8 := W8_boot S 0 (-1) (cpyV p.2.1 (S 7 2) 0 0 107, S 6 2)
    have ok2 : OKC (cpyV p.2.1 (S 7 2) 0 0 107) := OKC_107 ok.1.1 ce2
    have mb := fun n1 τ (hz : RZ p.2.1 n1) (o : QW σ τ) (e : ∀ j, j < 107 → τ 40 0 j = n1 j) => m_doesBoot (N := N) (σ := τ) (x := (cpyV p.2.1 (S 7 2) 0 0 107, S 6 2)) hgS (RZ_107 hz ce2 e) ok2 (EnvM_FX o.1 qS.1 h.1.2.1) (show cpyV p.2.1 (S 7 2) 0 0 107 82 < 2147483000 by rw [ce2 82 (by decide)]; exact p2) 0 0 (-1) (by decide) (by decide)
    change inv N mX7_countDeadBoots [vR 11 0] (P S) = ev N mX7_countDeadBoots 22 [vR 11 0, vI ((bootC S 0 (-1) (cpyV p.2.1 (S 7 2) 0 0 107, S 6 2)).2.1 81), vI 0, vI 0] [] (P (putC S 2 (bootC S 0 (-1) (cpyV p.2.1 (S 7 2) 0 0 107, S 6 2)).2)) at dd
    generalize bootC S 0 (-1) (cpyV p.2.1 (S 7 2) 0 0 107, S 6 2) = e at dd w8 mb
    generalize hn2 : e.2.1 81 = n2 at dd w8 mb
    obtain ⟨r, k2, y, i1, i2, i3⟩ := tw_inner (N := N) h.1.1 h.1.2.1 qS.1 S71 ok.1.1 p0 p1 d a1 a2 n (k : Int) n2 w8 t n2.toNat 0 0 e.2 (by omega) (by decide)
    simp only [Int.cast_ofNat_Int, Int.add_zero, htt] at i1 i3
    obtain ⟨r', ρ, j1, j2, j3⟩ := ih (k + 1) (w32 (t + r)) (putC b 2 y) p.2 (QX_trans qb (QX_put b 2 (by decide) y)) hkm (w32_ww _)
    refine ⟨r', ρ, ?_, j2, fun τ x7 x8 hτ => ?_⟩
    · rw [eX7_countTwos_19, if_pos q, ct, bnd_s, push_n, eX7_countTwos_27, pf, bnd_s, push_s, eX7_countTwos_34, dd, i1, bnd_s, push_s, eX7_countTwos_38, nk, cm]
      exact j1
    · obtain ⟨υ1, u1, u2, u3, -⟩ := md τ hτ.1
      have v42 : υ1 42 0 = τ 42 0 := KM_r u2 42 (by decide) 0
      have t1 := m_think1 (N := N) υ1
      have o1 : OM υ1 (row υ1 42 0 (cpyV (υ1 40 0) (υ1 42 0) 0 (107 * 1) 107)) := OM_row υ1 42 _ (Or.inr (Or.inl rfl))
      have g40 : row υ1 42 0 (cpyV (υ1 40 0) (υ1 42 0) 0 (107 * 1) 107) 40 0 = υ1 40 0 := by rw [row_at, if_neg (by decide)]
      have g42 : ∀ j, j < 107 → row υ1 42 0 (cpyV (υ1 40 0) (υ1 42 0) 0 (107 * 1) 107) 42 0 (107 + j) = υ1 40 0 j := fun j hj => by
        rw [row_same]
        have z := cpyV_in (υ1 40 0) (υ1 42 0) 0 (107 * 1) 107 j hj
        rw [Nat.mul_one, Nat.zero_add] at z
        rw [Nat.mul_one]
        exact z
      have g0 : ∀ j, j < 107 → row υ1 42 0 (cpyV (υ1 40 0) (υ1 42 0) 0 (107 * 1) 107) 42 0 j = σ 40 0 j := fun j hj => by
        rw [row_same, cpyV_out _ _ _ _ _ _ (Or.inl (by omega)), v42]
        exact hτ.2 j hj
      have qw1 : QW σ υ1 := QW_OM (QW_QX hτ.1) (OM_KM u2)
      generalize row υ1 42 0 (cpyV (υ1 40 0) (υ1 42 0) 0 (107 * 1) 107) = τ2 at t1 o1 g40 g42 g0
      have qw2 : QW σ τ2 := QW_OM qw1 o1
      obtain ⟨υ2, w1, w2, -, w4⟩ := mb (υ1 40 0) τ2 u3 qw2 (fun j _ => by rw [g40])
      have e42 : υ2 42 0 = τ2 42 0 := KM_r w2 42 (by decide) 0
      have md0 : MD σ (υ1 40 0) τ2 := ⟨qw2, fun j _ => by rw [g40], g0, g42⟩
      have md1 := MD_back md0 (OM_KM w2) (fun j _ => by rw [e42])
      obtain ⟨υ3, x1, x2⟩ := i3 (υ1 40 0) _ u3 md1
      have z0 := m_back0 (N := N) υ3
      have o4 : OM υ3 (row υ3 40 0 (cpyV (υ3 42 0) (υ3 40 0) (107 * 0) 0 107)) := OM_row υ3 40 _ (Or.inl rfl)
      have mw : MW σ (row υ3 40 0 (cpyV (υ3 42 0) (υ3 40 0) (107 * 0) 0 107)) := by
        refine ⟨QX_QW (QW_OM x2.1 o4) (fun j hj => ?_), fun j hj => ?_⟩
        · rw [row_same, Nat.mul_zero, cpy_all _ _ hj, x2.2.2.1 j hj]
        · rw [row_at, if_neg (by decide), x2.2.2.1 j hj]
      obtain ⟨ω, y1, y2⟩ := j3 _ (vI n2) (vI k2) mw
      refine ⟨ω, ?_, y2⟩
      rw [eX9_twice_27, if_pos q, u1, bnd_s, push_s, eX9_twice_36, t1, bnd_s, push_n, eX9_twice_40, w1, bnd_s, push_s, eX9_twice_46, w4, m_back1, bnd_s, push_n, eX9_twice_53, x1, z0, bnd_s, push_n, eX9_twice_85, nk]
      exact y1
theorem pair_twice (d a1 a2 : Int) : PAIR N mX8_twice mX9_twice [vI d, vI a1, vI a2] := by
  intro L σ h hL
  have oi := fun τ v lo hi => s9_in (N := N) (σ := τ) v lo hi
  have okm := INV_okm h
  have ab := p2_isAble (N := N) (i := 0) (σ := σ) (x := (σ 7 0, σ 6 0)) h.1.1 h.2.1.1 d a1 a2
  rw [putC_id] at ab
  have aeq := INV_able h d a1 a2
  have can := s9_canDo (N := N) (σ := σ) h.1.2.1.1 okm d a1 a2
  rcases ableF_b (σ 2 1 1) (σ 5 1) (σ 7 0) d a1 a2 with hd | hd
  · refine ⟨-1, σ, σ, ?_, ?_, up300 h (by omega)⟩
    · rw [iX8_twice, eX8_twice_0, iX7_countTwos, eX7_countTwos_0, ab, bnd_s, push_s, eX7_countTwos_6, if_pos hd, bnd_s, push_s, eX8_twice_6]
    · rw [iX9_twice, eX9_twice_0, oi, bnd_s, push_s, eX9_twice_5]
      by_cases d06 : 0 ≤ d ∧ d ≤ 6
      · rw [if_pos d06, if_neg (by decide), can, bnd_s, push_s, eX9_twice_11, if_pos (aeq.trans hd)]
      · rw [if_neg d06, if_pos rfl]
  have d06 := able_06 hd
  have hdm : ¬ ableF (σ 30 0 6) (σ 36 0) (σ 40 0) d a1 a2 = 0 := by rw [aeq, hd]; decide
  have hdn : ¬ ableF (σ 2 1 1) (σ 5 1) (σ 7 0) d a1 a2 = 0 := by rw [hd]; decide
  have wo := p2_writesOf (N := N) (b := σ) h hL (FX_refl σ) rfl d a1 a2 hd (σ 7 1, σ 6 1)
  rw [putC_id] at wo
  have mo := fun (τ : Sto) (q : QX σ τ) => m_writesOf (N := N) (b := σ) h hL (FX_refl σ) q d a1 a2 hd (σ 7 1) (σ 6 1)
  have ceq : ∀ j, j < 107 → cpyV (σ 7 0) (σ 7 1) 0 0 107 j = σ 7 0 j := fun j hj => cpy_all _ _ hj
  have hda := (able_take h (FX_refl σ) ceq d a1 a2).trans hd
  have w8 := W8_able (σ := σ) (x := (cpyV (σ 7 0) (σ 7 1) 0 0 107, σ 6 1)) hda (-1)
  change inv N mX7_writesOf [vR 11 0, vI d, vI a1, vI a2] (P σ) = some (some (vI ((performC σ d a1 a2 (-1) (cpyV (σ 7 0) (σ 7 1) 0 0 107, σ 6 1)).2.1 81)), P (putC σ 1 (performC σ d a1 a2 (-1) (cpyV (σ 7 0) (σ 7 1) 0 0 107, σ 6 1)).2)) at wo
  generalize performC σ d a1 a2 (-1) (cpyV (σ 7 0) (σ 7 1) 0 0 107, σ 6 1) = p at wo mo w8
  generalize hn : p.2.1 81 = n at wo mo w8
  obtain ⟨r, ρ, r1, r2, r3⟩ := tw_loop (N := N) h hL d a1 a2 n hd w8 n.toNat 0 0 σ p.2 (QX_refl σ) (by omega) (by decide)
  simp only [Int.cast_ofNat_Int] at r1 r3
  have e := EnvM_FX r2.1 (FX_refl σ) h.1.2.1
  have okρ : OKC (ρ 40 0) := OKC_107 okm (fun j hj => r2.2.2.1 j hj)
  have can2 := s9_canDo (N := N) (σ := ρ) e.1 okρ d a1 a2
  have ae2 : ableF (ρ 30 0 6) (ρ 36 0) (ρ 40 0) d a1 a2 = 1 := by
    rw [r2.1.2.2.2.1, r2.1.1 36 0 (by decide)]
    rw [ableF_eq (r2.2.2.1 78 (by decide)).symm (fun j hj => (r2.2.2.1 j (by omega)).symm) (fun _ _ => rfl), aeq]
    exact hd
  obtain ⟨υ, u1, u2, -, -⟩ := mo ρ r2
  have t0 := m_think0 (N := N) υ
  have o1 : OM υ (row υ 42 0 (cpyV (υ 40 0) (υ 42 0) 0 (107 * 0) 107)) := OM_row υ 42 _ (Or.inr (Or.inl rfl))
  have mw : MW σ (row υ 42 0 (cpyV (υ 40 0) (υ 42 0) 0 (107 * 0) 107)) := by
    refine ⟨QX_OM u2 o1 (fun j _ => by rw [row_at, if_neg (by decide)]), fun j hj => ?_⟩
    rw [row_same, Nat.mul_zero, cpy_all _ _ hj, u2.2.2.1 j hj]
  obtain ⟨ω, z1, z2⟩ := r3 _ vX vX mw
  refine ⟨r, ρ, ω, ?_, ?_, up300 (INV_QX z2.1 h) (by omega)⟩
  · rw [iX8_twice, eX8_twice_0, iX7_countTwos, eX7_countTwos_0, ab, bnd_s, push_s, eX7_countTwos_6, if_neg hdn, wo, bnd_s, push_s, eX7_countTwos_14, r1, bnd_s, push_s, eX8_twice_6]
  · rw [iX9_twice, eX9_twice_0, oi, if_pos d06, bnd_s, push_s, eX9_twice_5, if_neg (by decide), can2, bnd_s, push_s, eX9_twice_11, if_neg (by rw [ae2]; decide), u1, bnd_s, push_s, eX9_twice_19, t0, bnd_s, push_n, eX9_twice_25]
    exact z1
end TRY
