/-! WAITS, whole -/
section ACT
variable {N : Nat} {σ σ0 : Sto} {L : Int}
theorem s9_isSR : inv N mX9_isSlotRunning [vR 30 0] (P σ) = some (some (vI (if σ 40 0 78 = 0 ∨ σ 40 0 78 = 1 then 1 else 0)), P σ) := by
  rw [iX9_isSlotRunning, eX9_isSlotRunning_0, show (78 : Int).toNat = 78 from rfl]
  by_cases h1 : σ 40 0 78 = 0
  · rw [if_pos h1, if_pos (Or.inl h1)]
  · rw [if_neg h1]
    by_cases h2 : σ 40 0 78 = 1
    · rw [if_pos h2, if_pos (Or.inr h2)]
    · rw [if_neg h2, if_neg (fun z => by rcases z with z | z <;> contradiction)]
theorem w_nums {n : Int} {k m b : Nat} (h : (k : Int) + ((m + 1 : Nat) : Int) = n) (hn : n ≤ 200) (hb : b ≤ k) : (k : Int) < n ∧ ((k + 1 : Nat) : Int) + (m : Int) = n ∧ w32 ((k : Int) + 1) = ((k + 1 : Nat) : Int) ∧ w32 ((b : Int) + 1) = ((b + 1 : Nat) : Int) ∧ b ≤ k + 1 ∧ b + 1 ≤ k + 1 := by
  refine ⟨by omega, by omega, ?_, ?_, by omega, by omega⟩
  · rw [w32i (by omega) (by omega)]; omega
  · rw [w32i (by omega) (by omega)]; omega
theorem w_loop (hg : OKG σ0 1) (n : Int) (hn : n ≤ 200) : ∀ (m k b : Nat) (x : XP) (τ : Sto) (x4 : MV), (k : Int) + (m : Int) = n → b ≤ k → RZ x.1 (τ 40 0) → OKC x.1 → EnvM σ0 τ → x.1 82 + m < 2147483000 → 0 ≤ x.1 82 →
    ∃ (y : XP) (υ : Sto) (ans : Int), ev N mX2_passTicks 4 [vR 6 0, vI n, vI (b : Int), vI (k : Int), x4] [] (P (putC σ0 0 x)) = some (some (vI ans), P (putC σ0 0 y)) ∧ ev N mX9_waits 17 [vR 30 0, vI n, vI (b : Int), vI (k : Int)] [] (P τ) = some (some (vI ans), P υ) ∧ KM τ υ ∧ RZ y.1 (υ 40 0) ∧ OKC y.1 ∧ y.1 82 ≤ x.1 82 + m := by
  intro m
  induction m with
  | zero =>
    intro k b x τ x4 hk hbk hz hc he hb h0
    have nk : ¬ (k : Int) < n := by omega
    refine ⟨x, τ, b, ?_, ?_, KM_refl τ, hz, hc, by omega⟩
    · rw [eX2_passTicks_4, if_neg nk]
    · rw [eX9_waits_17, if_neg nk]
  | succ m ih =>
    intro k b x τ x4 hk hbk hz hc he hb h0
    obtain ⟨n1, n2, n3, n4, n5, n6⟩ := w_nums hk hn hbk
    have hb1 : x.1 82 + m < 2147483000 := by omega
    have hb2 : x.1 82 < 2147483000 := by omega
    have hb3 : x.1 82 + 1 + m < 2147483000 := by omega
    have on := s2_isOn (N := N) (σ := putC σ0 0 x) (i := 0)
    rw [putC_7] at on
    have e78 : (78 : Int).toNat = 78 := rfl
    have e80 : (80 : Int).toNat = 80 := rfl
    have e79 : (79 : Int).toNat = 79 := rfl
    rw [eX2_passTicks_4, if_pos n1, on, bnd_s, push_s, eX2_passTicks_9, eX9_waits_17, if_pos n1, s9_isOff, bnd_s, push_s, eX9_waits_22, ← hz.2]
    by_cases q : x.1 78 = -1
    · rw [if_pos q, if_pos q, if_pos rfl, if_neg (show ¬ (1 : Int) = 0 by decide)]
      exact ⟨x, τ, b, rfl, rfl, KM_refl τ, hz, hc, by omega⟩
    rw [if_neg q, if_neg q, if_neg (show ¬ (1 : Int) = 0 by decide), if_pos rfl, p2_cell _ (by decide) (by decide), bnd_s, push_s, eX2_passTicks_13, p2_setCell _ _ (by decide) (by decide), bnd_s, push_n, eX2_passTicks_20, p2_cell _ (by decide) (by decide), bnd_s, push_s, eX2_passTicks_23, s8_isSlot, bnd_s, push_s, eX2_passTicks_24, sup_row, e80, e79, e78, s9_isSR, bnd_s, push_s, eX9_waits_33]
    have t80 : τ 40 0 80 = x.1 79 := hz.1.2.1.symm
    have r40 : ∀ g, row τ 40 0 g 40 0 = g := fun g => row_same _ _ _ _
    have r38 : ∀ g, row τ 40 0 g 38 0 = τ 38 0 := fun g => by rw [row_at, if_neg (by decide)]
    rw [t80]
    generalize ht : w32 (x.1 79 + 1) = t
    have hz1 := RZ_tick hz t
    have hc1 := OKC_79 hc t
    have km1 := KM_row τ 40 (set (τ 40 0) 80 t) (Or.inl rfl)
    have he1 := EnvM_KM he km1
    have c82 : set x.1 79 t 82 = x.1 82 := set_ne _ _ (by decide)
    have c78 : set x.1 79 t 78 = x.1 78 := set_ne _ _ (by decide)
    have d78 : set (τ 40 0) 80 t 78 = x.1 78 := (set_ne _ _ (by decide)).trans hz.2.symm
    have goOn : ∃ (y : XP) (υ : Sto) (ans : Int), ev N mX2_passTicks 4 [vR 6 0, vI n, vI (b : Int), vI (w32 ((k : Int) + 1)), vI t] [] (P (putC σ0 0 (set x.1 79 t, x.2))) = some (some (vI ans), P (putC σ0 0 y)) ∧ ev N mX9_waits 17 [vR 30 0, vI n, vI (b : Int), vI (w32 ((k : Int) + 1))] [] (P (row τ 40 0 (set (τ 40 0) 80 t))) = some (some (vI ans), P υ) ∧ KM τ υ ∧ RZ y.1 (υ 40 0) ∧ OKC y.1 ∧ y.1 82 ≤ x.1 82 + ((m + 1 : Nat) : Int) := by
      obtain ⟨y, υ, ans, y1, y2, y3, y4, y5, y6⟩ := ih (k + 1) b (set x.1 79 t, x.2) (row τ 40 0 (set (τ 40 0) 80 t)) (vI t) n2 n5 (by rw [row_same]; exact hz1) hc1 he1 (show set x.1 79 t 82 + m < 2147483000 by rw [c82]; exact hb1) (show 0 ≤ set x.1 79 t 82 by rw [c82]; exact h0)
      have y6 : y.1 82 ≤ set x.1 79 t 82 + m := y6
      rw [c82] at y6
      refine ⟨y, υ, ans, ?_, ?_, KM_trans km1 y3, y4, y5, by omega⟩
      · rw [n3]; exact y1
      · rw [n3]; exact y2
    have e80c : set x.1 79 t 80 = x.1 80 := set_ne _ _ (by decide)
    have e79n : set (τ 40 0) 80 t 79 = x.1 80 := (set_ne _ _ (by decide)).trans hz.1.2.2.1.symm
    show ∃ (y : XP) (υ : Sto) (ans : Int), (if (if set x.1 79 t 78 = 0 ∨ set x.1 79 t 78 = 1 then (1 : Int) else 0) = 0 then _ else _) = _ ∧ _
    rw [r40, c78, d78]
    by_cases s : x.1 78 = 0 ∨ x.1 78 = 1
    case neg =>
      rw [if_neg s, if_pos rfl, if_pos rfl]
      exact goOn
    rw [if_pos s, if_neg (show ¬ (1 : Int) = 0 by decide), if_neg (show ¬ (1 : Int) = 0 by decide), p2_cell _ (by decide) (by decide), bnd_s, push_s, eX2_passTicks_28, put2, e80, r38, show (4 : Int).toNat = 4 from rfl, he.2.2.2.2.2.2.1, e79n]
    sorry
end ACT
