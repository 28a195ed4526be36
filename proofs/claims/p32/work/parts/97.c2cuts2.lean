/-! CUTS, whole -/
section TRY
variable {N : Nat} {σ b : Sto} {L : Int}
theorem m_writesOf (h : INV L σ) (hL : L < 2147480000) (fb : FX σ b) {τ : Sto} (q : QX σ τ) (d a1 a2 : Int) (hd : ableF (σ 2 1 1) (σ 5 1) (σ 7 0) d a1 a2 = 1) (g0 g : Vec) : ∃ υ, inv N mX9_writesOf [vR 30 0, vI d, vI a1, vI a2] (P τ) = some (some (vI ((performC b d a1 a2 (-1) (cpyV (σ 7 0) g0 0 0 107, g)).2.1 81)), P υ) ∧ QX σ υ ∧ υ 46 0 = τ 46 0 ∧ KF (υ 47 0) (performC b d a1 a2 (-1) (cpyV (σ 7 0) g0 0 0 107, g)).2.1 := by
  have hg := OKG_FX fb h.1.1
  have hcm := CELL_take h q g0
  have ceq : ∀ j, j < 107 → cpyV (σ 7 0) g0 0 0 107 j = σ 7 0 j := fun j hj => cpy_all _ _ hj
  have h82 := CELL_82 hcm hL
  generalize cpyV (σ 7 0) g0 0 0 107 = c at hcm h82 ceq ⊢
  have hdc := (able_take h fb ceq d a1 a2).trans hd
  have ok := performC_ok (σ := b) (x := (c, g)) hg hcm.1 d a1 a2 (-1) hdc
  have t1 := m_think0 (N := N) τ
  have o1 : OM τ (row τ 42 0 (cpyV (τ 40 0) (τ 42 0) 0 (107 * 0) 107)) := OM_row τ 42 _ (Or.inr (Or.inl rfl))
  have e42 : ∀ j, j < 107 → row τ 42 0 (cpyV (τ 40 0) (τ 42 0) 0 (107 * 0) 107) 42 0 j = τ 40 0 j := fun j hj => by
    rw [row_same, Nat.mul_zero]
    exact cpy_all _ _ hj
  have e40 : row τ 42 0 (cpyV (τ 40 0) (τ 42 0) 0 (107 * 0) 107) 40 0 = τ 40 0 := by rw [row_at, if_neg (by decide)]
  have f1 : FX τ (row τ 42 0 (cpyV (τ 40 0) (τ 42 0) 0 (107 * 0) 107)) := FX_row τ 42 0 _ (by decide) (by decide) (by decide)
  generalize row τ 42 0 (cpyV (τ 40 0) (τ 42 0) 0 (107 * 0) 107) = τ1 at t1 o1 e42 e40 f1
  obtain ⟨υ, u1, u2, u3, u4⟩ := m_does (N := N) (σ := τ1) (x := (c, g)) hg (by rw [e40]; exact hcm.2.1) hcm.1 (EnvM_FX (FX_trans q.1 f1) fb h.1.2.1) (Int.lt_trans h82.2 (by decide)) d a1 a2 (-1) hdc (by decide) (by decide)
  generalize performC b d a1 a2 (-1) (c, g) = p at u1 u3 u4 ok ⊢
  obtain ⟨r, k1, k2⟩ := m_keepsFlags47 (N := N) (σ := υ) (RZ_okb ok.1.1 u3)
  have o2 : OM τ (rfM υ) := OM_trans o1 (OM_trans (OM_KM u2) (OM_rf υ))
  have v42 : ∀ j, j < 107 → rfM υ 42 0 j = τ 40 0 j := fun j hj => by
    unfold rfM
    rw [row_at, if_neg (by decide), KM_r u2 42 (by decide) 0, e42 j hj]
  have r42 : row (rfM υ) 47 0 r 42 0 = rfM υ 42 0 := by rw [row_at, if_neg (by decide)]
  have r40 : row (rfM υ) 47 0 r 40 0 = rfM υ 40 0 := by rw [row_at, if_neg (by decide)]
  have pb := m_back0 (N := N) (row (rfM υ) 47 0 r)
  rw [r42, r40, row_comm _ 47 0 40 0 _ _ (by decide)] at pb
  have o3 := OM_trans o2 (OM_row (rfM υ) 40 (cpyV (rfM υ 42 0) (rfM υ 40 0) (107 * 0) 0 107) (Or.inl rfl))
  refine ⟨_, ?_, QX_trans (QX_OM q o3 (fun j hj => ?_)) (QX_row _ 47 0 r (by decide) (by decide) (by decide)), ?_, ?_⟩
  · rw [iX9_writesOf, eX9_writesOf_0, t1, bnd_s, push_n, eX9_writesOf_3, u1, bnd_s, push_s, eX9_writesOf_9, k1, bnd_s, push_n, eX9_writesOf_17, pb, bnd_s, push_n, eX9_writesOf_20, u4]
  · rw [row_same, Nat.mul_zero, cpy_all _ _ hj, v42 j hj]
  · rw [row_at, if_neg (by decide), OM_46 o3]
  · rw [row_same]
    exact KF_congr k2 (fun j h1 h2 => (RZ_cells u3 j (by omega)).symm)
theorem pair_cuts (d a1 a2 w : Int) : PAIR N mX8_cuts mX9_cuts [vI d, vI a1, vI a2, vI w] := by
  intro L σ h hL
  have oi := fun τ v lo hi => s9_in (N := N) (σ := τ) v lo hi
  have okm := INV_okm h
  have ab := p2_isAble (N := N) (i := 0) (σ := σ) (x := (σ 7 0, σ 6 0)) h.1.1 h.2.1.1 d a1 a2
  rw [putC_id] at ab
  have aeq := INV_able h d a1 a2
  have can := s9_canDo (N := N) (σ := σ) h.1.2.1.1 okm d a1 a2
  by_cases qw : 0 ≤ w ∧ w ≤ 6
  case neg =>
    refine ⟨-1, σ, σ, ?_, ?_, up300 h (by omega)⟩
    · rw [iX8_cuts, eX8_cuts_0, iX7_countCuts, eX7_countCuts_0]
      by_cases w0 : w < 0
      · rw [if_pos w0, bnd_s, push_s, eX8_cuts_7]
      · rw [if_neg w0, if_pos (by omega), bnd_s, push_s, eX8_cuts_7]
    · rw [iX9_cuts, eX9_cuts_0, oi, bnd_s, push_s, eX9_cuts_5]
      by_cases d06 : 0 ≤ d ∧ d ≤ 6
      · rw [if_pos d06, if_neg (by decide), can, bnd_s, push_s, eX9_cuts_11]
        rcases ableF_b (σ 30 0 6) (σ 36 0) (σ 40 0) d a1 a2 with z | z
        · rw [if_pos z]
        · rw [if_neg (by rw [z]; decide), oi, if_neg qw, bnd_s, push_s, eX9_cuts_17, if_pos rfl]
      · rw [if_neg d06, if_pos rfl]
  have w0 : ¬ w < 0 := by omega
  have w6 : ¬ 6 < w := by omega
  rcases ableF_b (σ 2 1 1) (σ 5 1) (σ 7 0) d a1 a2 with hd | hd
  · refine ⟨-1, σ, σ, ?_, ?_, up300 h (by omega)⟩
    · rw [iX8_cuts, eX8_cuts_0, iX7_countCuts, eX7_countCuts_0, if_neg w0, if_neg w6, ab, bnd_s, push_s, eX7_countCuts_11, if_pos hd, bnd_s, push_s, eX8_cuts_7]
    · rw [iX9_cuts, eX9_cuts_0, oi, bnd_s, push_s, eX9_cuts_5]
      by_cases d06 : 0 ≤ d ∧ d ≤ 6
      · rw [if_pos d06, if_neg (by decide), can, bnd_s, push_s, eX9_cuts_11, if_pos (aeq.trans hd)]
      · rw [if_neg d06, if_pos rfl]
  have d06 := able_06 hd
  have hdm : ¬ ableF (σ 30 0 6) (σ 36 0) (σ 40 0) d a1 a2 = 0 := by rw [aeq, hd]; decide
  have hdn : ¬ ableF (σ 2 1 1) (σ 5 1) (σ 7 0) d a1 a2 = 0 := by rw [hd]; decide
  have wo := p2_writesOf (N := N) (b := σ) h hL (FX_refl σ) rfl d a1 a2 hd (σ 7 1, σ 6 1)
  rw [putC_id] at wo
  have mo := fun (τ : Sto) (q : QX σ τ) => m_writesOf (N := N) (b := σ) h hL (FX_refl σ) q d a1 a2 hd (σ 7 1) (σ 6 1)
  have ceq : ∀ j, j < 107 → cpyV (σ 7 0) (σ 7 1) 0 0 107 j = σ 7 0 j := fun j hj => cpy_all _ _ hj
  have hc := CELL_take h (QX_refl σ) (σ 7 1)
  have hda := (able_take h (FX_refl σ) ceq d a1 a2).trans hd
  have ok := performC_ok (σ := σ) (x := (cpyV (σ 7 0) (σ 7 1) 0 0 107, σ 6 1)) h.1.1 hc.1 d a1 a2 (-1) hda
  have w8 := W8_able (σ := σ) (x := (cpyV (σ 7 0) (σ 7 1) 0 0 107, σ 6 1)) hda (-1)
  change inv N mX7_writesOf [vR 11 0, vI d, vI a1, vI a2] (P σ) = some (some (vI ((performC σ d a1 a2 (-1) (cpyV (σ 7 0) (σ 7 1) 0 0 107, σ 6 1)).2.1 81)), P (putC σ 1 (performC σ d a1 a2 (-1) (cpyV (σ 7 0) (σ 7 1) 0 0 107, σ 6 1)).2)) at wo
  generalize performC σ d a1 a2 (-1) (cpyV (σ 7 0) (σ 7 1) 0 0 107, σ 6 1) = p at wo mo ok w8
  generalize hn : p.2.1 81 = n at wo mo w8
  have q1 := QX_put σ 1 (by decide) p.2
  -- the model up to its loop
  have mk : ∀ τ, QX σ τ → ∃ r, inv N mX9_keepsFlags [vR 30 0, vR 46 0] (P τ) = some (none, P (row (rfM τ) 46 0 r)) ∧ QX σ (row (rfM τ) 46 0 r) ∧ KF (row (rfM τ) 46 0 r 46 0) (σ 40 0) := by
    intro τ q
    obtain ⟨r, k1, k2⟩ := m_keepsFlags46 (N := N) (σ := τ) (fun j h1 h2 => by rw [q.2.2.1 j (by omega)]; exact okm.2.1 j h1 h2)
    refine ⟨r, k1, QX_trans (QX_OM q (OM_rf τ) (fun j _ => by unfold rfM; rw [row_at, if_neg (by decide)])) (QX_row _ 46 0 r (by decide) (by decide) (by decide)), ?_⟩
    rw [row_same]
    exact KF_congr k2 (fun j h1 h2 => q.2.2.1 j (by omega))
  have mm : ∀ τ, QX σ τ → ∃ υ, inv N mX9_cuts [vR 30 0, vI d, vI a1, vI a2, vI w] (P τ) = ev N mX9_cuts 29 [vR 30 0, vI d, vI a1, vI a2, vI w, vX, vX, vX] [vI n] (P υ) ∧ QX σ υ ∧ KF (υ 46 0) (σ 40 0) ∧ KF (υ 47 0) p.2.1 := by
    intro τ q
    obtain ⟨r, k1, k2, k3⟩ := mk τ q
    obtain ⟨υ, u1, u2, u3, u4⟩ := mo _ k2
    have okτ : OKC (τ 40 0) := OKC_107 okm (fun j hj => q.2.2.1 j hj)
    have e := EnvM_FX q.1 (FX_refl σ) h.1.2.1
    have can2 := s9_canDo (N := N) (σ := τ) e.1 okτ d a1 a2
    have ae2 : ableF (τ 30 0 6) (τ 36 0) (τ 40 0) d a1 a2 = 1 := by
      rw [q.1.2.2.2.1, q.1.1 36 0 (by decide)]
      rw [ableF_eq (q.2.2.1 78 (by decide)).symm (fun j hj => (q.2.2.1 j (by omega)).symm) (fun _ _ => rfl), aeq]
      exact hd
    refine ⟨υ, ?_, u2, by rw [u3]; exact k3, u4⟩
    rw [iX9_cuts, eX9_cuts_0, oi, if_pos d06, bnd_s, push_s, eX9_cuts_5, if_neg (by decide), can2, bnd_s, push_s, eX9_cuts_11, if_neg (by rw [ae2]; decide), oi, if_pos qw, bnd_s, push_s, eX9_cuts_17, if_neg (by decide), k1, bnd_s, push_n, eX9_cuts_24, u1, bnd_s, push_s]
  have cc : inv N mX8_cuts [vR 0 0, vI d, vI a1, vI a2, vI w] (P σ) = bnd (ev N mX7_countCuts 19 [vR 11 0, vI d, vI a1, vI a2, vI w, vX, vX, vX, vX, vX] [vI n] (P (putC σ 1 p.2))) (fun r S2 => ev N mX8_cuts 7 [vR 0 0, vI d, vI a1, vI a2, vI w] (push r []) S2) := by
    rw [iX8_cuts, eX8_cuts_0, iX7_countCuts, eX7_countCuts_0, if_neg w0, if_neg w6, ab, bnd_s, push_s, eX7_countCuts_11, if_neg hdn, wo, bnd_s, push_s]
  by_cases wz : w = 0
  · obtain ⟨υ, u1, u2, -, -⟩ := mm _ q1
    refine ⟨n, putC σ 1 p.2, υ, ?_, ?_, up300 (INV_QX u2 h) (by omega)⟩
    · rw [cc, eX7_countCuts_19, if_pos wz, bnd_s, push_s, eX8_cuts_7]
    · rw [u1, eX9_cuts_29, if_pos wz]
  have h19 : ∃ (b : Sto) (x : XP) (due : Int), QX σ b ∧ (w = 5 → due = oneF (σ 7 0)) ∧ (w = 6 → due = oneF p.2.1) ∧ ev N mX7_countCuts 19 [vR 11 0, vI d, vI a1, vI a2, vI w, vX, vX, vX, vX, vX] [vI n] (P (putC σ 1 p.2)) = ev N mX7_countCuts 39 [vR 11 0, vI d, vI a1, vI a2, vI w, vI n, vI due, vI 0, vI 0, vX] [] (P (putC b 1 x)) := by
    by_cases w5 : w = 5
    · generalize putC σ 1 p.2 = τ at q1
      have fo := p2_flagsAsOne (N := N) (i := 0) (σ := τ) (x := (τ 7 0, τ 6 0)) (by rw [q1.2.1]; exact h.2.1.1)
      rw [putC_id] at fo
      have ps : putC τ 0 (readFlC (τ 7 0, τ 6 0)) = row τ 6 0 (readFlC (τ 7 0, τ 6 0)).2 := putC_same τ 0 (readFlC (τ 7 0, τ 6 0)).2
      rw [ps] at fo
      have q2 : QX σ (row τ 6 0 (readFlC (τ 7 0, τ 6 0)).2) := QX_trans q1 (QX_6 _ _ _)
      generalize row τ 6 0 (readFlC (τ 7 0, τ 6 0)).2 = b at fo q2
      change inv N mX2_flagsAsOne [vR 6 0] (P τ) = some (some (vI (oneF (τ 7 0))), P b) at fo
      rw [q1.2.1] at fo
      refine ⟨b, (b 7 1, b 6 1), oneF (σ 7 0), q2, fun _ => rfl, fun z => absurd (w5.symm.trans z) (by decide), ?_⟩
      rw [putC_id, eX7_countCuts_19, if_neg wz, if_pos w5, fo, bnd_s, push_s, eX7_countCuts_30, eX7_countCuts_34]
    · have fo := p2_flagsAsOne (N := N) (i := 1) (σ := σ) (x := p.2) ok.1.1
      refine ⟨σ, readFlC p.2, oneF p.2.1, QX_refl σ, fun z => absurd z w5, fun _ => rfl, ?_⟩
      rw [eX7_countCuts_19, if_neg wz, if_neg w5, fo, bnd_s, push_s, eX7_countCuts_34]
  obtain ⟨b, x, due, b1, b2, b3, b4⟩ := h19
  obtain ⟨r, y, r1, r2⟩ := ct_loop (N := N) h hL b1.1 b1.2.1 d a1 a2 w n due hd (by omega) w8 p.2.1 ok.1.1.2.1 b2 b3 n.toNat 0 0 x vX (by omega)
  simp only [Int.cast_ofNat_Int] at r1 r2
  have q3 : QX σ (putC b 1 y) := QX_trans b1 (QX_put b 1 (by decide) y)
  obtain ⟨υ, u1, u2, u3, u4⟩ := mm _ q3
  have t0 := m_think0 (N := N) υ
  have o1 : OM υ (row υ 42 0 (cpyV (υ 40 0) (υ 42 0) 0 (107 * 0) 107)) := OM_row υ 42 _ (Or.inr (Or.inl rfl))
  have mc : MC σ p.2.1 (row υ 42 0 (cpyV (υ 40 0) (υ 42 0) 0 (107 * 0) 107)) := by
    refine ⟨QX_OM u2 o1 (fun j _ => by rw [row_at, if_neg (by decide)]), fun j hj => ?_, by rw [OM_46 o1]; exact u3, by rw [OM_47 o1]; exact u4⟩
    rw [row_same, Nat.mul_zero, cpy_all _ _ hj, u2.2.2.1 j hj]
  obtain ⟨ω, z1, z2⟩ := r2 _ mc
  refine ⟨r, putC b 1 y, ω, ?_, ?_, up300 (INV_QX z2.1 h) (by omega)⟩
  · rw [cc, b4, r1, bnd_s, push_s, eX8_cuts_7]
  · rw [u1, eX9_cuts_29, if_neg wz, t0, bnd_s, push_n, eX9_cuts_39]
    exact z1
end TRY
