/-! WAITS -/
theorem Z79_note {x : XP} (h : x.1 79 = 0) (w v : Int) : (noteStartC w v x).1 79 = 0 := by
  unfold noteStartC
  split
  · exact (set_ne (set (set (set (set (set x.1 (83 + 2 * (x.1 82 % 12).toNat) w) (83 + 2 * (x.1 82 % 12).toNat + 1) v) 82 (x.1 82 + 1)) 78 w) 79 0) 0 (show 79 ≠ 80 by decide)).trans (set_same _ _ _)
  · exact h
theorem Z79_startL (W : Vec → Nat → Int) : ∀ (m : Nat) (x : XP), x.1 79 = 0 → (startL W m x).2.1 79 = 0
  | 0, _, h => h
  | m + 1, x, h => by
    unfold startL
    split
    · exact h
    · split
      · exact Z79_note (by rw [writeFlagsC_at _ (Or.inr (by decide))]; exact h) _ _
      · exact Z79_startL W m _ (by rw [writeFlagsC_at _ (Or.inr (by decide))]; exact h)
theorem Z79_rec {x : XP} (h : x.1 79 = 0) (cp : Int) : (startRecoveryC cp x).2.1 79 = 0 := by
  unfold startRecoveryC
  split
  · exact h
  · exact Z79_note (by rw [writeFlagsC_at _ (Or.inr (by decide))]; exact h) _ _
theorem Z79_end {x : XP} (h : x.1 79 = 0) (a : Int) : (endC a x).2.1 79 = 0 := by
  unfold endC
  split
  · show set x.1 81 (x.2 8) 79 = 0
    rw [set_ne _ _ (by decide)]
    exact h
  · show set (set x.1 81 (x.2 8)) 78 (-1) 79 = 0
    rw [set_ne _ _ (by decide), set_ne _ _ (by decide)]
    exact h
theorem Z79_boot (σ : Sto) {x : XP} (h : x.1 79 = 0) (a cut : Int) : (bootC σ a cut x).2.1 79 = 0 := by
  have hs : ∀ bt lim, (startSlotC (whyS σ) lim bt (beginC cut x)).2.1 79 = 0 := by
    intro bt lim
    unfold startSlotC
    split
    · exact Z79_startL _ 2 _ h
    · exact h
  unfold bootC
  generalize (if a = 1 then (1 : Int) else 0) = bt
  have e := hs bt (σ 2 1 2)
  generalize startSlotC (whyS σ) (σ 2 1 2) bt (beginC cut x) = p at e
  by_cases q : p.1 = -1
  · rw [if_pos q]
    exact Z79_end (Z79_rec e _) _
  · rw [if_neg q]
    exact Z79_end e _
section ACT
variable {N : Nat} {σ σ0 : Sto} {L : Int}
theorem OKC_79 {c : Vec} (h : OKC c) (v : Int) : OKC (set c 79 v) := okc_hi h (by decide)
theorem RZ_tick {c n : Vec} (h : RZ c n) (v : Int) : RZ (set c 79 v) (set n 80 v) := by
  obtain ⟨⟨b1, b2, b3, b4, b5⟩, d⟩ := h
  refine ⟨⟨fun j hj => ?_, ?_, ?_, ?_, RS_congr b5 (fun j hj => set_ne _ _ (by omega)) (fun j hj => set_ne _ _ (by omega))⟩, ?_⟩
  · rw [set_ne _ _ (by omega), set_ne _ _ (by omega), b1 j hj]
  · rw [set_same, set_same]
  · rw [set_ne _ _ (by decide), set_ne _ _ (by decide), b3]
  · rw [set_ne _ _ (by decide), set_ne _ _ (by decide), b4]
  · rw [set_ne _ _ (by decide), set_ne _ _ (by decide), d]
theorem RZ_78 {c n : Vec} (h : RZ c n) : RZ (set c 78 (-1)) (set n 78 (-1)) := by
  obtain ⟨⟨b1, b2, b3, b4, b5⟩, d⟩ := h
  refine ⟨⟨fun j hj => ?_, ?_, ?_, ?_, RS_congr b5 (fun j hj => set_ne _ _ (by omega)) (fun j hj => set_ne _ _ (by omega))⟩, ?_⟩
  · rw [set_ne _ _ (by omega), set_ne _ _ (by omega), b1 j hj]
  · rw [set_ne _ _ (by decide), set_ne _ _ (by decide), b2]
  · rw [set_ne _ _ (by decide), set_ne _ _ (by decide), b3]
  · rw [set_ne _ _ (by decide), set_ne _ _ (by decide), b4]
  · rw [set_same, set_same]
theorem OKC_78 {c : Vec} (h : OKC c) : OKC (set c 78 (-1)) := okc_set h (by decide) (fun z => absurd z (by decide)) (fun z => absurd z (by decide)) (fun _ => by omega)
/-- one boot by the watch, both: the class keeps its ticks till behind it -/
theorem w_boot (hg : OKG σ0 1) {c g n : Vec} {τ : Sto} (t : Int) (hz : RZ (set (set c 78 (-1)) 79 0) (τ 40 0)) (hc : OKC c) (he : EnvM σ0 τ) (b0 : 0 ≤ c 82) (hb : c 82 < 2147483000) :
    ∃ y : XP, inv N mX2_perform [vR 6 0, vI 0, vI 0, vI 0, vI (-1)] (P (putC σ0 0 (set (set c 79 t) 78 (-1), g))) = some (some (vI (performC σ0 0 0 0 (-1) (set (set c 79 t) 78 (-1), g)).1), P (putC σ0 0 y)) ∧ ∃ ans υ, inv N mX9_does [vR 30 0, vI 0, vI 0, vI 0, vI (-1)] (P τ) = some (some (vI ans), P υ) ∧ KM τ υ ∧ RZ (set y.1 79 0) (υ 40 0) ∧ OKC y.1 ∧ c 82 ≤ y.1 82 ∧ y.1 82 ≤ c 82 + 1 := by
  have e78 : (set (set c 78 (-1)) 79 0) 78 = -1 := by rw [set_ne _ _ (by decide), set_same]
  have f78 : (set (set c 79 t) 78 (-1)) 78 = -1 := set_same _ _ _
  have e82 : (set (set c 78 (-1)) 79 0) 82 = c 82 := by rw [set_ne _ _ (by decide), set_ne _ _ (by decide)]
  have f82 : (set (set c 79 t) 78 (-1)) 82 = c 82 := by rw [set_ne _ _ (by decide), set_ne _ _ (by decide)]
  have a1 : ableF (σ0 2 1 1) (σ0 5 1) (set (set c 78 (-1)) 79 0) 0 0 0 = 1 := by
    unfold ableF
    rw [if_pos rfl, if_pos ⟨e78, Or.inl rfl, rfl⟩]
  have a2 : ableF (σ0 2 1 1) (σ0 5 1) (set (set c 79 t) 78 (-1)) 0 0 0 = 1 := by
    unfold ableF
    rw [if_pos rfl, if_pos ⟨f78, Or.inl rfl, rfl⟩]
  have o1 : OKC (set (set c 78 (-1)) 79 0) := OKC_79 (OKC_78 hc) 0
  have o2 : OKC (set (set c 79 t) 78 (-1)) := OKC_78 (OKC_79 hc t)
  have pf := p2_perform (N := N) (i := 0) (σ := σ0) (x := (set (set c 79 t) 78 (-1), g)) hg o2 (show 0 ≤ set (set c 79 t) 78 (-1) 82 by rw [f82]; exact b0) (show set (set c 79 t) 78 (-1) 82 < 2147483647 by rw [f82]; exact Int.lt_trans hb (by decide)) 0 0 0 (-1) a2
  have ok := performC_ok (σ := σ0) (x := (set (set c 79 t) 78 (-1), g)) hg o2 0 0 0 (-1) a2
  obtain ⟨υ, u1, u2, u3, -⟩ := m_does (N := N) (x := (set (set c 78 (-1)) 79 0, g)) hg hz o1 he (show set (set c 78 (-1)) 79 0 82 < 2147483000 by rw [e82]; exact hb) 0 0 0 (-1) a1 (by decide) (by decide)
  have s0 : S79 (set (set c 78 (-1)) 79 0, g) (set (set c 79 t) 78 (-1), g) := by
    refine ⟨fun j hj => ?_, rfl⟩
    show set (set c 78 (-1)) 79 0 j = set (set c 79 t) 78 (-1) j
    by_cases q : j = 78
    · rw [q, set_ne _ _ (by decide), set_same, set_same]
    · rw [set_ne _ _ hj, set_ne _ _ q, set_ne _ _ q, set_ne _ _ hj]
  have sb : S79 (performC σ0 0 0 0 (-1) (set (set c 78 (-1)) 79 0, g)).2 (performC σ0 0 0 0 (-1) (set (set c 79 t) 78 (-1), g)).2 := by
    unfold performC
    rw [if_pos rfl, if_pos rfl]
    exact (S79_boot σ0 s0 0 (-1)).2
  have l1 : set (set c 79 t) 78 (-1) 82 ≤ _ := ok.2.1
  have l2 : _ ≤ set (set c 79 t) 78 (-1) 82 + 1 := ok.2.2
  rw [f82] at l1 l2
  have z0 := Z79_boot σ0 (x := (set (set c 78 (-1)) 79 0, g)) (set_same (set c 78 (-1)) 79 0) 0 (-1)
  refine ⟨_, pf, _, υ, u1, u2, ?_, ok.1.1, l1, l2⟩
  refine RZ_107 u3 (fun j hj => ?_) (fun _ _ => rfl)
  have zp : (performC σ0 0 0 0 (-1) (set (set c 78 (-1)) 79 0, g)).2.1 79 = 0 := by
    unfold performC
    rw [if_pos rfl]
    exact z0
  by_cases q : j = 79
  · rw [q, set_same, zp]
  · rw [set_ne _ _ q]
    exact (sb.1 j q).symm
end ACT
