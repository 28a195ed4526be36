/-! LASTS -/
theorem startL_ans (W : Vec → Nat → Int) : ∀ (m : Nat) (x : XP), (startL W m x).1 = -1 ∨ (startL W m x).1 = 0 ∨ (startL W m x).1 = 1
  | 0, _ => Or.inl rfl
  | m + 1, x => by
    unfold startL
    by_cases c : chosenC x.2 = -1
    · rw [if_pos c]
      exact Or.inl rfl
    · obtain ⟨s, hs, e⟩ := chosen_s c
      rw [if_neg c]
      split
      · show chosenC x.2 = -1 ∨ chosenC x.2 = 0 ∨ chosenC x.2 = 1
        rw [e]
        rcases (show s = 0 ∨ s = 1 by omega) with rfl | rfl
        · exact Or.inr (Or.inl rfl)
        · exact Or.inr (Or.inr rfl)
      · exact startL_ans W m _
theorem endC_ans (a : Int) (x : XP) : (endC a x).1 = a ∨ (endC a x).1 = -2 := by
  unfold endC
  split
  · exact Or.inl rfl
  · exact Or.inr rfl
theorem boot_ans (σ : Sto) (a cut : Int) (x : XP) : (bootC σ a cut x).1 < 2 ∨ (bootC σ a cut x).1 = 2 ∨ (bootC σ a cut x).1 = 3 := by
  unfold bootC
  generalize (if a = 1 then (1 : Int) else 0) = bt
  have hs : (startSlotC (whyS σ) (σ 2 1 2) bt (beginC cut x)).1 = -1 ∨ (startSlotC (whyS σ) (σ 2 1 2) bt (beginC cut x)).1 = 0 ∨ (startSlotC (whyS σ) (σ 2 1 2) bt (beginC cut x)).1 = 1 := by
    unfold startSlotC
    split
    · exact startL_ans _ _ _
    · exact Or.inl rfl
  generalize startSlotC (whyS σ) (σ 2 1 2) bt (beginC cut x) = p at hs
  have lt : ∀ v : Int, v = -2 → v < 2 ∨ v = 2 ∨ v = 3 := fun v h => by omega
  by_cases q : p.1 = -1
  · rw [if_pos q]
    have hr : (startRecoveryC (copyF (σ 2 1 0) (σ 3 1) (σ 4 1) p.2.1) p.2).1 = 2 ∨ (startRecoveryC (copyF (σ 2 1 0) (σ 3 1) (σ 4 1) p.2.1) p.2).1 = 3 := by
      unfold startRecoveryC
      split
      · exact Or.inr rfl
      · exact Or.inl rfl
    generalize startRecoveryC (copyF (σ 2 1 0) (σ 3 1) (σ 4 1) p.2.1) p.2 = r at hr
    rcases endC_ans r.1 r.2 with h | h
    · rw [h]
      exact Or.inr hr
    · exact lt _ h
  · rw [if_neg q]
    rcases endC_ans p.1 p.2 with h | h
    · rw [h]
      rcases hs with z | z | z <;> rw [z] <;> exact Or.inl (by decide)
    · exact lt _ h
section TRY
variable {N : Nat} {σ σ0 : Sto} {L : Int}
theorem la_loop (hg : OKG σ0 1) (w : Int) (hw : w = 0 ∨ w = 1) : ∀ (m k : Nat) (x : XP) (τ : Sto) (x3 : MV) (is : Int), k + m = 60 → ¬ is = 2 → ¬ is = 3 → RZ x.1 (τ 40 0) → OKC x.1 → EnvM σ0 τ → x.1 82 + m < 2147483000 → 0 ≤ x.1 82 →
    ∃ (y : XP) (υ : Sto) (ans n2 is2 : Int), ev N mX7_bootsWithoutHealth 14 [vR 11 0, vI w, vI ((k + 1 : Nat) : Int), x3] [] (P (putC σ0 1 x)) = some (some (vI ans), P (putC σ0 1 y)) ∧ ev N mX9_lasts 15 [vR 30 0, vI w, vI (k : Int), vI is] [] (P τ) = bnd (inv N mX9_putsBack [vR 30 0, vI 0] (P υ)) (fun r S2 => ev N mX9_lasts 41 [vR 30 0, vI w, vI n2, vI is2] (push r []) S2) ∧ KM τ υ ∧ (∀ ρ, ev N mX9_lasts 41 [vR 30 0, vI w, vI n2, vI is2] [] (P ρ) = some (some (vI ans), P ρ)) := by
  intro m
  induction m with
  | zero =>
    intro k x τ x3 is hk i2 i3 hz hc he hb h0
    have e : k = 60 := by omega
    subst e
    refine ⟨x, τ, -2, 60, is, ?_, ?_, KM_refl τ, fun ρ => ?_⟩
    · rw [eX7_bootsWithoutHealth_14, if_pos (by decide)]
    · rw [eX9_lasts_15, if_neg (by decide)]
      rfl
    · rw [eX9_lasts_41, if_neg i2, if_neg i3]
  | succ m ih =>
    intro k x τ x3 is hk i2 i3 hz hc he hb h0
    have k1 : ¬ 60 < ((k + 1 : Nat) : Int) := by omega
    have k2 : (k : Int) < 60 := by omega
    have k3 : k + 1 + m = 60 := by omega
    have e1 : w32 (((k + 1 : Nat) : Int) + 1) = ((k + 1 + 1 : Nat) : Int) := by rw [w32i (by omega) (by omega)]; omega
    have e2 : w32 ((k : Int) + 1) = ((k + 1 : Nat) : Int) := by rw [w32i (by omega) (by omega)]; omega
    have hb1 : x.1 82 + 1 + m < 2147483000 := by omega
    have hb2 : x.1 82 < 2147483000 := by omega
    have e82 : set x.1 78 (-1) 82 = x.1 82 := set_ne _ _ (by decide)
    have tof := s2_turnOff (N := N) (σ := putC σ0 1 x) (i := 1)
    rw [putC_7, row_putC7] at tof
    have a1 : ableF (σ0 2 1 1) (σ0 5 1) (set x.1 78 (-1)) 0 0 0 = 1 := by
      unfold ableF
      rw [if_pos rfl, if_pos ⟨set_same _ _ _, Or.inl rfl, rfl⟩]
    have pf := p2_perform (N := N) (i := 1) (σ := σ0) (x := (set x.1 78 (-1), x.2)) hg (OKC_78 hc) (show 0 ≤ set x.1 78 (-1) 82 by rw [e82]; exact h0) (show set x.1 78 (-1) 82 < 2147483647 by rw [e82]; exact Int.lt_trans hb2 (by decide)) 0 0 0 (-1) a1
    have ok := performC_ok (σ := σ0) (x := (set x.1 78 (-1), x.2)) hg (OKC_78 hc) 0 0 0 (-1) a1
    have l1 : set x.1 78 (-1) 82 ≤ _ := ok.2.1
    have l2 : _ ≤ set x.1 78 (-1) 82 + 1 := ok.2.2
    rw [e82] at l1 l2
    have km := KM_row τ 40 (set (τ 40 0) 78 (-1)) (Or.inl rfl)
    obtain ⟨υ, u1, u2, u3, -⟩ := m_does (N := N) (σ := row τ 40 0 (set (τ 40 0) 78 (-1))) (x := (set x.1 78 (-1), x.2)) hg (by rw [row_same]; exact RZ_78 hz) (OKC_78 hc) (EnvM_KM he km) (show set x.1 78 (-1) 82 < 2147483000 by rw [e82]; exact hb2) 0 0 0 (-1) a1 (by decide) (by decide)
    have an : (performC σ0 0 0 0 (-1) (set x.1 78 (-1), x.2)).1 < 2 ∨ (performC σ0 0 0 0 (-1) (set x.1 78 (-1), x.2)).1 = 2 ∨ (performC σ0 0 0 0 (-1) (set x.1 78 (-1), x.2)).1 = 3 := by
      unfold performC
      rw [if_pos rfl]
      exact boot_ans _ _ _ _
    generalize performC σ0 0 0 0 (-1) (set x.1 78 (-1), x.2) = p at pf ok l1 l2 u1 u3 an
    have cl : ev N mX7_bootsWithoutHealth 14 [vR 11 0, vI w, vI ((k + 1 : Nat) : Int), x3] [] (P (putC σ0 1 x)) = ev N mX7_bootsWithoutHealth 27 [vR 11 0, vI w, vI ((k + 1 : Nat) : Int), x3] [vI p.1] (P (putC σ0 1 p.2)) := by
      rw [eX7_bootsWithoutHealth_14, if_neg k1, tof, bnd_s, push_n, eX7_bootsWithoutHealth_20]
      show bnd (inv N mX2_perform [vR 6 1, vI 0, vI 0, vI 0, vI (-1)] (P (putC σ0 1 (set x.1 78 (-1), x.2)))) _ = _
      rw [pf, bnd_s, push_s]
    have ml : ev N mX9_lasts 15 [vR 30 0, vI w, vI (k : Int), vI is] [] (P τ) = ev N mX9_lasts 15 [vR 30 0, vI w, vI ((k + 1 : Nat) : Int), vI p.1] [] (P υ) := by
      rw [eX9_lasts_15, if_pos k2, if_neg i2, if_neg i3, sup_row, show (78 : Int).toNat = 78 from rfl, u1, bnd_s, push_s, eX9_lasts_35, e2]
    rw [cl, ml, eX7_bootsWithoutHealth_27]
    by_cases lt : p.1 < 2
    · have n2 : ¬ p.1 = 2 := fun z => absurd lt (by rw [z]; decide)
      have n3 : ¬ p.1 = 3 := fun z => absurd lt (by rw [z]; decide)
      obtain ⟨y, ρ, ans, a, b, y1, y2, y3, y4⟩ := ih (k + 1) p.2 υ (vI p.1) p.1 k3 n2 n3 u3 ok.1.1 (EnvM_KM (EnvM_KM he km) u2) (Int.lt_of_le_of_lt (Int.add_le_add_right l2 m) hb1) (Int.le_trans h0 l1)
      exact ⟨y, ρ, ans, a, b, by rw [if_pos lt, e1]; exact y1, y2, KM_trans km (KM_trans u2 y3), y4⟩
    · rw [if_neg lt]
      have st : p.1 = 2 ∨ p.1 = 3 := by
        rcases an with z | z
        · exact absurd z lt
        · exact z
      refine ⟨p.2, υ, if w = 0 then ((k + 1 : Nat) : Int) else p.1, ((k + 1 : Nat) : Int), p.1, ?_, ?_, KM_trans km u2, fun ρ => ?_⟩
      · split <;> rfl
      · rw [eX9_lasts_15]
        rcases st with z | z
        · rw [z, if_pos rfl]
          split <;> rfl
        · rw [z, if_neg (show ¬ (3 : Int) = 2 by decide), if_pos rfl]
          split <;> rfl
      · rw [eX9_lasts_41]
        rcases st with z | z
        · rw [z, if_pos rfl]
          split <;> rfl
        · rw [z, if_neg (show ¬ (3 : Int) = 2 by decide), if_pos rfl]
          split <;> rfl
end TRY
