/-! FRAIL, whole -/
section TRY
variable {N : Nat} {σ b : Sto} {L : Int}
theorem fr_outer (h : INV L σ) (hL : L < 2147480000) (fb : FX σ b) (hb7 : b 7 0 = σ 7 0) (what start : Int) : ∀ (m k : Nat) (v : Int) (x : XP) (x6 x7 y5 : MV), k + m = 16 → ∃ (r : Int) (y : XP), ev N mX7_frailBits 19 [vR 11 0, vI what, vI start, vI (oneF (σ 7 0)), vI v, vI ((56 + k : Nat) : Int), x6, x7] [] (P (putC b 1 x)) = some (some (vI r), P (putC b 1 y)) ∧ ∀ τ, MT σ τ → ∃ υ, ev N mX9_frail 20 [vR 30 0, vI what, vI start, vI v, vI (k : Int), y5] [] (P τ) = some (some (vI r), P υ) ∧ MT σ υ := by
  intro m
  induction m with
  | zero =>
    intro k v x x6 x7 y5 hk
    have e : k = 16 := by omega
    subst e
    refine ⟨v, x, ?_, fun τ ht => ⟨τ, ?_, ht⟩⟩
    · rw [eX7_frailBits_19, if_neg (by decide)]
    · rw [eX9_frail_20, if_neg (by decide)]
  | succ m ih =>
    intro k v x x6 x7 y5 hk
    have k16 : k < 16 := by omega
    have p1 : ((56 + k : Nat) : Int) < 72 := by omega
    have p2 : (k : Int) < 16 := by omega
    have e1 : w32 (((56 + k : Nat) : Int) + 1) = ((56 + (k + 1) : Nat) : Int) := by rw [w32i (by omega) (by omega)]; omega
    have e2 : w32 ((k : Int) + 1) = ((k + 1 : Nat) : Int) := by rw [w32i (by omega) (by omega)]; omega
    obtain ⟨r, y, z7, r1, r2⟩ := fr_inner (N := N) h hL fb hb7 what start k k16 8 0 v x x7 rfl
    obtain ⟨r', y', s1, s2⟩ := ih (k + 1) r y (vI 8) z7 (vI 8) (by omega)
    simp only [Int.cast_ofNat_Int] at r1 r2
    refine ⟨r', y', ?_, fun τ ht => ?_⟩
    · rw [eX7_frailBits_19, if_pos p1, r1, eX7_frailBits_24, if_neg (by decide), e1]
      exact s1
    · obtain ⟨υ, u1, u2⟩ := r2 τ ht
      obtain ⟨ρ, t1, t2⟩ := s2 υ u2
      refine ⟨ρ, ?_, t2⟩
      rw [eX9_frail_20, if_pos p2, u1, eX9_frail_25, if_neg (by decide), e2]
      exact t1
theorem QX_6 (σ : Sto) (i : Nat) (g : Vec) : QX σ (row σ 6 i g) := QX_row σ 6 i g (by decide) (by decide) (by decide)
theorem pair_frail (w : Int) : PAIR N mX8_frail mX9_frail [vI w] := by
  intro L σ h hL
  have oi := fun τ v lo hi => s9_in (N := N) (σ := τ) v lo hi
  by_cases q : w = 0 ∨ w = 1
  case neg =>
    refine ⟨-1, σ, σ, ?_, ?_, up300 h (by omega)⟩
    · rw [iX8_frail, eX8_frail_0, iX7_frailBits, eX7_frailBits_0, if_neg (fun z => q (Or.inl z)), if_neg (fun z => q (Or.inr z)), bnd_s, push_s, eX8_frail_4]
    · rw [iX9_frail, eX9_frail_0, oi, if_neg (show ¬ (0 ≤ w ∧ w ≤ 1) by omega), bnd_s, push_s, eX9_frail_5, if_pos rfl]
  have qi : 0 ≤ w ∧ w ≤ 1 := by omega
  have pn := p2_next (N := N) (b := σ) (x := (σ 7 1, σ 6 1)) h hL (FX_refl σ) rfl
  rw [putC_id] at pn
  have hc := CELL_take h (QX_refl σ) (σ 7 1)
  have h82 := CELL_82 hc hL
  have mw := fun (τ : Sto) (e : τ 40 0 = σ 40 0) (he : EnvM σ τ) => m_would (N := N) (σ0 := σ) (σ := τ) (c := cpyV (σ 7 0) (σ 7 1) 0 0 107) (g := σ 6 1) h.1.1 (by rw [e]; exact hc.2.1) hc.1 he (Int.lt_trans h82.2 (by decide)) 0 (Or.inl rfl)
  change inv N mX7_nextStart [vR 11 0, vI 0] (P σ) = some (some (vI (bootC σ 0 (-1) (set (cpyV (σ 7 0) (σ 7 1) 0 0 107) 78 (-1), σ 6 1)).1), P (putC σ 1 (bootC σ 0 (-1) (set (cpyV (σ 7 0) (σ 7 1) 0 0 107) 78 (-1), σ 6 1)).2)) at pn
  simp only [performC_0] at mw
  generalize bootC σ 0 (-1) (set (cpyV (σ 7 0) (σ 7 1) 0 0 107) 78 (-1), σ 6 1) = p at pn mw
  -- the class's store behind the real machine's flags were read
  have q1 := QX_put σ 1 (by decide) p.2
  generalize hτ : putC σ 1 p.2 = τ at pn q1
  have fo := p2_flagsAsOne (N := N) (i := 0) (σ := τ) (x := (τ 7 0, τ 6 0)) (by rw [q1.2.1]; exact h.2.1.1)
  rw [putC_id] at fo
  have ps : putC τ 0 (readFlC (τ 7 0, τ 6 0)) = row τ 6 0 (readFlC (τ 7 0, τ 6 0)).2 := putC_same τ 0 (readFlC (τ 7 0, τ 6 0)).2
  rw [ps] at fo
  have q2 : QX σ (row τ 6 0 (readFlC (τ 7 0, τ 6 0)).2) := QX_trans q1 (QX_6 _ _ _)
  generalize row τ 6 0 (readFlC (τ 7 0, τ 6 0)).2 = b at fo q2
  change inv N mX2_flagsAsOne [vR 6 0] (P τ) = some (some (vI (oneF (τ 7 0))), P b) at fo
  rw [q1.2.1] at fo
  obtain ⟨r, y, o1, o2⟩ := fr_outer (N := N) h hL q2.1 q2.2.1 w p.1 16 0 0 (b 7 1, b 6 1) vX vX vX rfl
  rw [putC_id] at o1
  have q3 : QX σ (putC b 1 y) := QX_trans q2 (QX_put b 1 (by decide) y)
  generalize putC b 1 y = ρ at o1 q3
  -- the model
  obtain ⟨υ, u1, u2⟩ := m_would (N := N) (σ0 := σ) (σ := ρ) (c := cpyV (σ 7 0) (σ 7 1) 0 0 107) (g := σ 6 1) h.1.1 (CELL_take h q3 _).2.1 hc.1 (EnvM_FX q3.1 (FX_refl σ) h.1.2.1) (Int.lt_trans h82.2 (by decide)) 0 (Or.inl rfl)
  have q4 : QX σ υ := QX_OM q3 (OM_WM u2) u2.2.2.1
  have e5 : ∀ j, j < 107 → υ 40 0 j = σ 40 0 j := q4.2.2.1
  have okm := INV_okm h
  have oku : OKB (υ 40 0) := fun j h1 h2 => by rw [e5 j (by omega)]; exact okm.2.1 j h1 h2
  obtain ⟨f, k1, k2⟩ := m_keepsFlags46 (N := N) (σ := υ) oku
  have q5 : QX σ (rfM υ) := QX_OM q4 (OM_rf υ) (fun j _ => by unfold rfM; rw [row_at, if_neg (by decide)])
  have mt : MT σ (row (rfM υ) 46 0 f) := ⟨QX_trans q5 (QX_row _ 46 0 _ (by decide) (by decide) (by decide)), by rw [row_same]; exact KF_congr k2 (fun j h1 h2 => e5 j (by omega))⟩
  obtain ⟨ω, z1, z2⟩ := o2 _ mt
  simp only [Nat.add_zero, Int.cast_ofNat_Int] at o1 z1
  have pe : (performC σ 0 0 0 (-1) (set (cpyV (σ 7 0) (σ 7 1) 0 0 107) 78 (-1), σ 6 1)).1 = p.1 := by
    obtain ⟨υ2, v1, -⟩ := mw σ rfl h.1.2.1
    obtain ⟨υ3, v3, -⟩ := m_would (N := N) (σ0 := σ) (σ := σ) (c := cpyV (σ 7 0) (σ 7 1) 0 0 107) (g := σ 6 1) h.1.1 hc.2.1 hc.1 h.1.2.1 (Int.lt_trans h82.2 (by decide)) 0 (Or.inl rfl)
    exact Sum.inl.inj (Option.some.inj (congrArg Prod.fst (Option.some.inj (v3.symm.trans v1))))
  rw [pe] at u1
  refine ⟨r, ρ, ω, ?_, ?_, up300 (INV_QX z2.1 h) (by omega)⟩
  · rw [iX8_frail, eX8_frail_0, iX7_frailBits, eX7_frailBits_0]
    rcases q with rfl | rfl
    · rw [if_pos rfl, pn, bnd_s, push_s, eX7_frailBits_10, fo, bnd_s, push_s, eX7_frailBits_14, o1, bnd_s, push_s, eX8_frail_4]
    · rw [if_neg (by decide), if_pos rfl, pn, bnd_s, push_s, eX7_frailBits_10, fo, bnd_s, push_s, eX7_frailBits_14, o1, bnd_s, push_s, eX8_frail_4]
  · rw [iX9_frail, eX9_frail_0, oi, if_pos qi, bnd_s, push_s, eX9_frail_5, if_neg (by decide), u1, bnd_s, push_s, eX9_frail_11, k1, bnd_s, push_n, eX9_frail_16, z1]
end TRY
