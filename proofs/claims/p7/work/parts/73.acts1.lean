/-! ACTS: what is kept, deeds -/
section ACT
variable {N : Nat} {σ : Sto} {L : Int}
/-- the store behind the class's KEEP -/
def keepS (σ : Sto) : Sto := row (row σ 10 0 (cpyV (σ 7 0) (σ 10 0) 0 (107 * (σ 9 0 2).toNat) 107)) 9 0 (set (set (σ 9 0) 2 ((σ 9 0 2 + 1) % 12)) 3 (min (σ 9 0 3 + 1) 12))
theorem keepS_o (σ : Sto) {k : Nat} (k' : Nat) (h9 : k ≠ 9) (h10 : k ≠ 10) : keepS σ k k' = σ k k' := by
  unfold keepS
  rw [row_at, if_neg (by omega), row_at, if_neg (by omega)]
theorem FX_keep (σ : Sto) : FX σ (keepS σ) := FX_trans (FX_row σ 10 0 _ (by omega) (by omega) (by omega)) (FX_row _ 9 0 _ (by omega) (by omega) (by omega))
theorem a_keep (h : INV L σ) : inv N mX3_keep [vR 9 0] (P σ) = some (none, P (keepS σ)) := by
  obtain ⟨t, d, -⟩ := h.2.2
  exact c_keep t.1 t.2 d.1 d.2
/-- the store behind the model's REMEMBERS -/
def remS (σ : Sto) : Sto := row (row σ 41 0 (remV (σ 40 0) (σ 41 0) (σ 30 0 21))) 30 0 (set (σ 30 0) 21 (remP (σ 30 0 21)))
theorem remS_o (σ : Sto) {k : Nat} (k' : Nat) (h9 : k ≠ 41) (h10 : k ≠ 30) : remS σ k k' = σ k k' := by
  unfold remS
  rw [row_at, if_neg (by omega), row_at, if_neg (by omega)]
theorem remS_30 (σ : Sto) {j : Nat} (h : j ≠ 21) : remS σ 30 0 j = σ 30 0 j := by
  unfold remS
  rw [row_same, set_ne _ _ h]
theorem FX_rem (σ : Sto) : FX σ (remS σ) := by
  refine ⟨fun k k' q => remS_o σ k' (by omega) (by omega), remS_30 σ (by omega), remS_30 σ (by omega), remS_30 σ (by omega), remS_30 σ (by omega)⟩
/-- both have kept: cells and past -/
theorem past_both (h : INV L σ) {τ : Sto} (h41 : τ 41 0 = σ 41 0) (h40 : τ 40 0 = σ 40 0) (h30 : τ 30 0 21 = σ 30 0 21) (h9 : τ 9 0 = keepS σ 9 0) (h10 : τ 10 0 = keepS σ 10 0) : PAST L (remS τ 10 0) (remS τ 9 0 2) (remS τ 9 0 3) (remS τ 41 0) (remS τ 30 0 21) := by
  have p := PAST_keep h.2.2 h.2.1
  have e10 : remS τ 10 0 = cpyV (σ 7 0) (σ 10 0) 0 (107 * (σ 9 0 2).toNat) 107 := by
    rw [remS_o τ 0 (by omega) (by omega), h10]
    unfold keepS
    rw [row_at, if_neg (by omega), row_same]
  have e9 : remS τ 9 0 = set (set (σ 9 0) 2 ((σ 9 0 2 + 1) % 12)) 3 (min (σ 9 0 3 + 1) 12) := by
    rw [remS_o τ 0 (by omega) (by omega), h9]
    unfold keepS
    rw [row_same]
  have e41 : remS τ 41 0 = remV (σ 40 0) (σ 41 0) (σ 30 0 21) := by
    unfold remS
    rw [row_at, if_neg (by omega), row_same, h41, h40, h30]
  have e21 : remS τ 30 0 21 = remP (σ 30 0 21) := by
    unfold remS
    rw [row_same, set_same, h30]
  rw [e10, e9, e41, e21, set_same, set_ne _ _ (show 2 ≠ 3 by decide), set_same]
  exact p
theorem a_rem (h : INV L σ) {τ : Sto} (h30 : τ 30 0 21 = σ 30 0 21) : inv N mX9_remembers [vR 30 0] (P τ) = some (none, P (remS τ)) := by
  obtain ⟨-, d, e, -⟩ := h.2.2
  exact m_remembers (by rw [h30, e]; exact d.1) (by rw [h30, e]; exact d.2)
/-- a deed of both -/
theorem a_act (h : INV L σ) (hL : L < 2147480000) (d a b cut : Int) (c1 : cut < 2147483648) : ∃ ans σ1 σ2, inv N mX8_act [vR 0 0, vI d, vI a, vI b, vI cut] (P σ) = some (some (vI ans), P σ1) ∧ inv N mX9_acts [vR 30 0, vI d, vI a, vI b, vI cut] (P σ1) = some (some (vI ans), P σ2) ∧ INV (L + 1) σ2 := by
  have hl1 : L ≤ L + 1 := by omega
  by_cases hc : cut < -1
  · refine ⟨-1, σ, σ, ?_, ?_, INV_le h hl1⟩
    · rw [iX8_act, eX8_act_0, if_pos hc]
    · rw [iX9_acts, eX9_acts_0, if_pos hc]
  have hc0 : -1 ≤ cut := by omega
  have hcell := h.2.1
  have hg := h.1.1
  have he := h.1.2.1
  have hm : OKC (σ 40 0) := OKC_R hcell.1 hcell.2.1.1.1 (by rw [← hcell.2.1.2]; exact hcell.1.2.2.2.2)
  have hcan := fun (τ : Sto) (h1 : OKM τ) (h2 : OKC (τ 40 0)) => s9_canDo (N := N) (σ := τ) h1 h2 d a b
  have ab := p2_isAble (N := N) (i := 0) (σ := σ) (x := (σ 7 0, σ 6 0)) hg hcell.1 d a b
  rw [putC_id] at ab
  have aeq := INV_able h d a b
  rcases ableF_b (σ 2 1 1) (σ 5 1) (σ 7 0) d a b with q | q
  · refine ⟨-1, σ, σ, ?_, ?_, INV_le h hl1⟩
    · rw [iX8_act, eX8_act_0, if_neg hc, ab, bnd_s, push_s, eX8_act_9, if_pos q]
    · rw [iX9_acts, eX9_acts_0, if_neg hc, hcan σ he.1 hm, bnd_s, push_s, eX9_acts_8, if_pos (aeq.trans q)]
  · have k2 := keepS_o σ (k := 2) 1 (by decide) (by decide)
    have k5 := keepS_o σ (k := 5) 1 (by decide) (by decide)
    have k6 := keepS_o σ (k := 6) 0 (by decide) (by decide)
    have k7 := keepS_o σ (k := 7) 0 (by decide) (by decide)
    have k40 := keepS_o σ (k := 40) 0 (by decide) (by decide)
    have k41 := keepS_o σ (k := 41) 0 (by decide) (by decide)
    have k30 := keepS_o σ (k := 30) 0 (by decide) (by decide)
    have hgk := OKG_FX (FX_keep σ) hg
    have hb0 : 0 ≤ (σ 7 0) 82 := hcell.2.1.1.2.2.2.2.1
    have hb1 : (σ 7 0) 82 < 2147483000 := by
      have := hcell.2.2
      omega
    have hb2 : (σ 7 0) 82 < 2147483647 := by omega
    have hdk : ableF (keepS σ 2 1 1) (keepS σ 5 1) (σ 7 0) d a b = 1 := by rw [k2, k5]; exact q
    have pf := p2_perform (N := N) (i := 0) (σ := keepS σ) (x := (σ 7 0, σ 6 0)) hgk hcell.1 hb0 hb2 d a b cut hdk
    have pok := performC_ok (σ := keepS σ) (x := (σ 7 0, σ 6 0)) hgk hcell.1 d a b cut hdk
    have idk : putC (keepS σ) 0 (σ 7 0, σ 6 0) = keepS σ := by
      have := putC_id (keepS σ) 0
      rw [k6, k7] at this
      exact this
    rw [idk] at pf
    generalize hy : (performC (keepS σ) d a b cut (σ 7 0, σ 6 0)) = y at pf pok
    have r := fun (k k' : Nat) (h6 : k ≠ 6) (h7 : k ≠ 7) => putC_o (keepS σ) 0 y.2 (k := k) k' h6 h7
    have p30 : putC (keepS σ) 0 y.2 30 0 = σ 30 0 := (r 30 0 (by decide) (by decide)).trans k30
    have p40 : putC (keepS σ) 0 y.2 40 0 = σ 40 0 := (r 40 0 (by decide) (by decide)).trans k40
    have p41 : putC (keepS σ) 0 y.2 41 0 = σ 41 0 := (r 41 0 (by decide) (by decide)).trans k41
    have fx1 : FX σ (putC (keepS σ) 0 y.2) := FX_trans (FX_keep σ) (FX_put _ _ _)
    have he1 : EnvM σ (putC (keepS σ) 0 y.2) := EnvM_FX fx1 (FX_refl σ) he
    have hrem := a_rem (N := N) h (τ := putC (keepS σ) 0 y.2) (by rw [p30])
    have fx2 : FX σ (remS (putC (keepS σ) 0 y.2)) := FX_trans fx1 (FX_rem _)
    have he2 : EnvM (keepS σ) (remS (putC (keepS σ) 0 y.2)) := EnvM_FX fx2 (FX_keep σ) he
    have s40 : remS (putC (keepS σ) 0 y.2) 40 0 = σ 40 0 := (remS_o _ 0 (by decide) (by decide)).trans p40
    have hz : RZ (σ 7 0) (remS (putC (keepS σ) 0 y.2) 40 0) := by rw [s40]; exact hcell.2.1
    obtain ⟨τ, t1, t2, t3, t4⟩ := m_does (N := N) (x := (σ 7 0, σ 6 0)) hgk hz hcell.1 he2 hb1 d a b cut hdk hc0 c1
    rw [hy] at t1 t3 t4
    have pb := past_both h (τ := putC (keepS σ) 0 y.2) p41 p40 (by rw [p30]) (r 9 0 (by decide) (by decide)) (r 10 0 (by decide) (by decide))
    have tr := fun (k : Nat) (hk : k ≠ 30 ∧ k ≠ 40 ∧ k ≠ 43 ∧ k ≠ 44 ∧ k ≠ 45) => KM_r t2 k hk 0
    have t7 : τ 7 0 = y.2.1 := by
      rw [tr 7 (by decide), remS_o _ 0 (by decide) (by decide)]
      exact putC_7 _ _ _
    refine ⟨y.1, putC (keepS σ) 0 y.2, τ, ?_, ?_, BASE_FX (FX_trans fx2 (FX_KM t2)) h.1, ?_, ?_⟩
    · rw [iX8_act, eX8_act_0, if_neg hc, ab, bnd_s, push_s, eX8_act_9, if_neg (by rw [show ableF (σ 2 1 1) (σ 5 1) (σ 7 0, σ 6 0).1 d a b = 1 from q]; decide), a_keep h, bnd_s, push_n, eX8_act_15, pf, bnd_s, push_s, eX8_act_22]
    · rw [iX9_acts, eX9_acts_0, if_neg hc, hcan _ he1.1 (by rw [p40]; exact hm), bnd_s, push_s, eX9_acts_8, if_neg (by rw [p30, p40, r 36 0 (by decide) (by decide), keepS_o σ 0 (by decide) (by decide), aeq, q]; decide), hrem, bnd_s, push_n, eX9_acts_13, t1, bnd_s, push_s, eX9_acts_19]
    · rw [t7]
      refine ⟨pok.1.1, t3, ?_⟩
      have l1 := pok.2.2
      have l2 := hcell.2.2
      exact Int.le_trans l1 (Int.add_le_add_right l2 1)
    · rw [tr 10 (by decide), tr 9 (by decide), tr 41 (by decide), t2.2 21 (by decide) (by decide) (by decide)]
      exact PAST_le pb hl1
end ACT
