/-! THE CLASS: the deeds -/
theorem ok82 {x : XP} {what ver : Int} : (noteStartC what ver x).1 82 = if x.2 9 = 0 then x.1 82 + 1 else x.1 82 := by
  unfold noteStartC
  split
  · simp (disch := omega) only [set_at, Nat.reduceEqDiff, ↓reduceIte]
  · rfl
theorem noteStartC_le {x : XP} {what ver : Int} : x.1 82 ≤ (noteStartC what ver x).1 82 ∧ (noteStartC what ver x).1 82 ≤ x.1 82 + 1 := by
  rw [ok82]
  split <;> omega
theorem setFl_ok {s : Nat} {v : Int} {x : XP} (h : OKX x) (hv : 0 ≤ v ∧ v < 256) (hs : s < 2) : OKX (x.1, set x.2 (2 + s) v) := ⟨h.1, okf_set h.2 (fun _ => hv) (by omega)⟩
theorem startL_ok (W : Vec → Nat → Int) : ∀ (m : Nat) (x : XP), OKX x → OKX (startL W m x).2 ∧ x.1 82 ≤ (startL W m x).2.1 82 ∧ (startL W m x).2.1 82 ≤ x.1 82 + 1 ∧ ((startL W m x).1 = -1 → (startL W m x).2.1 82 = x.1 82) ∧ ((startL W m x).1 = -1 ∨ (startL W m x).1 = 0 ∨ (startL W m x).1 = 1) := by
  intro m
  induction m with
  | zero =>
    intro x hx
    unfold startL
    exact ⟨hx, Int.le_refl _, Int.le_add_one (Int.le_refl _), fun _ => rfl, Or.inl rfl⟩
  | succ m ih =>
    intro x hx
    unfold startL
    by_cases h1 : chosenC x.2 = -1
    · rw [if_pos h1]
      exact ⟨hx, Int.le_refl _, Int.le_add_one (Int.le_refl _), fun _ => rfl, Or.inl rfl⟩
    rw [if_neg h1]
    obtain ⟨s, hs, hcs, hr⟩ : ∃ s : Nat, s < 2 ∧ chosenC x.2 = (s : Int) ∧ ¬ x.2 (2 + s) % 16 = 0 := by
      rcases chosenC_c hx.2 with h | ⟨h, h2⟩ | ⟨h, h2⟩
      · exact absurd h h1
      · exact ⟨0, by omega, h, h2⟩
      · exact ⟨1, by omega, h, h2⟩
    rw [hcs, Int.toNat_natCast]
    by_cases h2 : W x.1 s = 0
    · rw [if_pos h2]
      have hx1 := countTryC_ok s hs hx hr
      have hx2 := writeFlagsC_ok hx1
      have e82 : (writeFlagsC (countTryC s x)).1 82 = x.1 82 := writeFlagsC_at _ (Or.inr (by omega))
      have h9 := noteStartC_le (x := writeFlagsC (countTryC s x)) (what := (s : Int)) (ver := (writeFlagsC (countTryC s x)).1 (14 * s) - 1)
      rw [e82] at h9
      exact ⟨noteStartC_ok hx2 (by omega), h9.1, h9.2, fun z => by dsimp only at z; omega, Or.inr (by dsimp only; omega)⟩
    · rw [if_neg h2]
      have hx1 := setFl_ok (s := s) (v := 0) hx (by omega) hs
      have e82 : (writeFlagsC (x.1, set x.2 (2 + s) 0)).1 82 = x.1 82 := writeFlagsC_at _ (Or.inr (by omega))
      have := ih _ (writeFlagsC_ok hx1)
      rw [e82] at this
      exact this
theorem startSlotC_ok (W : Vec → Nat → Int) (lim button : Int) {x : XP} (hx : OKX x) : OKX (startSlotC W lim button x).2 ∧ x.1 82 ≤ (startSlotC W lim button x).2.1 82 ∧ (startSlotC W lim button x).2.1 82 ≤ x.1 82 + 1 ∧ ((startSlotC W lim button x).1 = -1 → (startSlotC W lim button x).2.1 82 = x.1 82) ∧ ((startSlotC W lim button x).1 = -1 ∨ (startSlotC W lim button x).1 = 0 ∨ (startSlotC W lim button x).1 = 1) := by
  unfold startSlotC
  split
  · exact startL_ok W 2 x hx
  · exact ⟨hx, Int.le_refl _, Int.le_add_one (Int.le_refl _), fun _ => rfl, Or.inl rfl⟩
theorem startRecoveryC_ok (cp : Int) {x : XP} (hx : OKX x) : OKX (startRecoveryC cp x).2 ∧ x.1 82 ≤ (startRecoveryC cp x).2.1 82 ∧ (startRecoveryC cp x).2.1 82 ≤ x.1 82 + 1 := by
  unfold startRecoveryC
  split
  · exact ⟨hx, Int.le_refl _, Int.le_add_one (Int.le_refl _)⟩
  · have hx1 : OKX (x.1, set x.2 5 2) := ⟨hx.1, okf_set hx.2 (fun _ => by omega) (by omega)⟩
    have hx2 := writeFlagsC_ok hx1
    have e82 : (writeFlagsC (x.1, set x.2 5 2)).1 82 = x.1 82 := writeFlagsC_at _ (Or.inr (by omega))
    have h9 := noteStartC_le (x := writeFlagsC (x.1, set x.2 5 2)) (what := 2) (ver := (writeFlagsC (x.1, set x.2 5 2)).1 (14 * cp.toNat) - 1)
    rw [e82] at h9
    exact ⟨noteStartC_ok hx2 (by omega), h9.1, h9.2⟩
theorem copyF_c (ks : Int) (sec und c : Vec) : copyF ks sec und c = -1 ∨ copyF ks sec und c = 2 ∨ copyF ks sec und c = 3 := by
  unfold copyF
  (repeat' split) <;> simp
/-- a deed begins: no write yet, the flags are read -/
def readFlC (x : XP) : XP := (x.1, set (set (set (set (set x.2 6 (newestF x.1)) 2 (flagF x.1 0)) 3 (flagF x.1 1)) 4 (flagF x.1 2)) 5 (flagF x.1 3))
def beginC (cut : Int) (x : XP) : XP := readFlC (x.1, set (set (set x.2 7 cut) 8 0) 9 0)
def endC (ans : Int) (x : XP) : Int × XP := if x.2 9 = 0 then (ans, (set x.1 81 (x.2 8), x.2)) else (-2, (set (set x.1 81 (x.2 8)) 78 (-1), x.2))
theorem flagF_r {c : Vec} (h : OKB c) (k : Nat) (hk : k < 4) : 0 ≤ flagF c k ∧ flagF c k < 256 := by
  unfold flagF
  split
  · split <;> omega
  · split
    · exact h _ (by omega) (by omega)
    · exact h _ (by omega) (by omega)
theorem readFlC_ok {x : XP} (h : OKC x.1) : OKX (readFlC x) := by
  have f0 := flagF_r h.2.1 0 (by omega)
  have f1 := flagF_r h.2.1 1 (by omega)
  have f2 := flagF_r h.2.1 2 (by omega)
  have f3 := flagF_r h.2.1 3 (by omega)
  have n := newest_c x.1
  refine ⟨h, ?_⟩
  unfold readFlC OKF
  simp (disch := omega) only [set_at, Nat.reduceEqDiff, ↓reduceIte]
  exact ⟨f0, f1, f2, f3, n⟩
theorem beginC_ok {x : XP} (cut : Int) (h : OKC x.1) : OKX (beginC cut x) := readFlC_ok (x := (x.1, _)) h
theorem endC_ok {x : XP} (ans : Int) (h : OKX x) : OKX (endC ans x).2 ∧ (endC ans x).2.1 82 = x.1 82 := by
  unfold endC
  split
  · refine ⟨⟨okc_hi h.1 (by omega), h.2⟩, ?_⟩
    show set x.1 81 (x.2 8) 82 = _
    rw [set_ne _ _ (by omega)]
  · refine ⟨⟨okc_set (okc_hi h.1 (by omega)) (by omega) (fun z => by omega) (fun z => by omega) (fun _ => by omega), h.2⟩, ?_⟩
    show set (set x.1 81 (x.2 8)) 78 (-1) 82 = _
    rw [set_ne _ _ (by omega), set_ne _ _ (by omega)]
section CLS
variable {N i j : Nat} {σ : Sto} {x : XP}
theorem p2_readFlags (h : OKC x.1) : inv N mX2_readFlags [vR 6 i] (P (putC σ i x)) = some (none, P (putC σ i (readFlC x))) := by
  rw [s2_readFlags (by rw [putC_7]; exact h.2.1), putC_7, putC_6, row_putC6]
  rfl
theorem p2_turnOff : inv N mX2_turnOff [vR 6 i] (P (putC σ i x)) = some (none, P (putC σ i (set x.1 78 (-1), x.2))) := by
  rw [s2_turnOff, putC_7, row_putC7]
theorem p2_recoveryCopy (hg : OKG σ 1) (hc : OKC x.1) : inv N mX2_recoveryCopy [vR 6 i] (P (putC σ i x)) = some (some (vI (copyF (σ 2 1 0) (σ 3 1) (σ 4 1) x.1)), P (putC σ i x)) := by
  have h := s2_recoveryCopy (N := N) (i := i) (σ := putC σ i x) (OKG_put hg) (by rw [putC_7]; exact hc)
  rw [putC_7, put2, put3, put4] at h
  exact h
/-- the tail that all deeds share -/
theorem s2_end (x1 x2 x3 x4 x5 : Int) : ev N mX2_perform 87 [vR 6 i, vI x1, vI x2, vI x3, vI x4, vI x5] [] (P (putC σ i (set x.1 81 (x.2 8), x.2))) = some (some (vI (endC x5 x).1), P (putC σ i (endC x5 x).2)) := by
  rw [eX2_perform_87, putC_6]
  unfold endC
  by_cases h : x.2 9 = 0
  · rw [if_pos h, if_pos h]
  · rw [if_neg h, if_neg h, p2_turnOff, bnd_s, push_n, eX2_perform_92]
theorem p2_begin (x1 x2 x3 cut : Int) (h : OKC x.1) : inv N mX2_perform [vR 6 i, vI x1, vI x2, vI x3, vI cut] (P (putC σ i x)) = ev N mX2_perform 11 [vR 6 i, vI x1, vI x2, vI x3, vI cut, vX] [] (P (putC σ i (beginC cut x))) := by
  rw [iX2_perform, eX2_perform_0]
  simp only [sup_row, row_putC6, putC_6]
  rw [p2_readFlags (by exact h), bnd_s, push_n]
  rfl
/-- BOOT -/
def bootC (σ : Sto) (a cut : Int) (x : XP) : Int × XP :=
  if (startSlotC (whyS σ) (σ 2 1 2) (if a = 1 then 1 else 0) (beginC cut x)).1 = -1
  then endC (startRecoveryC (copyF (σ 2 1 0) (σ 3 1) (σ 4 1) (startSlotC (whyS σ) (σ 2 1 2) (if a = 1 then 1 else 0) (beginC cut x)).2.1) (startSlotC (whyS σ) (σ 2 1 2) (if a = 1 then 1 else 0) (beginC cut x)).2).1 (startRecoveryC (copyF (σ 2 1 0) (σ 3 1) (σ 4 1) (startSlotC (whyS σ) (σ 2 1 2) (if a = 1 then 1 else 0) (beginC cut x)).2.1) (startSlotC (whyS σ) (σ 2 1 2) (if a = 1 then 1 else 0) (beginC cut x)).2).2
  else endC (startSlotC (whyS σ) (σ 2 1 2) (if a = 1 then 1 else 0) (beginC cut x)).1 (startSlotC (whyS σ) (σ 2 1 2) (if a = 1 then 1 else 0) (beginC cut x)).2
theorem p2_boot (hg : OKG σ 1) (hc : OKC x.1) (s0 : 0 ≤ x.1 82) (s1 : x.1 82 < 2147483647) (a b cut : Int) : inv N mX2_perform [vR 6 i, vI 0, vI a, vI b, vI cut] (P (putC σ i x)) = some (some (vI (bootC σ a cut x).1), P (putC σ i (bootC σ a cut x).2)) := by
  have hx := beginC_ok cut hc
  have hs := p2_startSlot (N := N) (i := i) (σ := σ) (x := beginC cut x) hg (if a = 1 then 1 else 0) hx s0 s1
  have hok := startSlotC_ok (whyS σ) (σ 2 1 2) (if a = 1 then 1 else 0) hx
  rw [p2_begin _ _ _ _ hc, eX2_perform_11, if_pos rfl]
  have e1 : (if a = 1 then bnd (inv N mX2_startSlot [vR 6 i, vI 1] (P (putC σ i (beginC cut x)))) (fun r S2 => ev N mX2_perform 23 [vR 6 i, vI 0, vI a, vI b, vI cut, vI (-1)] (push r []) S2) else bnd (inv N mX2_startSlot [vR 6 i, vI 0] (P (putC σ i (beginC cut x)))) (fun r S2 => ev N mX2_perform 23 [vR 6 i, vI 0, vI a, vI b, vI cut, vI (-1)] (push r []) S2)) = bnd (inv N mX2_startSlot [vR 6 i, vI (if a = 1 then 1 else 0)] (P (putC σ i (beginC cut x)))) (fun r S2 => ev N mX2_perform 23 [vR 6 i, vI 0, vI a, vI b, vI cut, vI (-1)] (push r []) S2) := by
    split <;> rfl
  rw [e1, hs, bnd_s, push_s, eX2_perform_23]
  unfold bootC
  have s01 : 0 ≤ (beginC cut x).1 82 := s0
  have s11 : (beginC cut x).1 82 < 2147483647 := s1
  generalize startSlotC (whyS σ) (σ 2 1 2) (if a = 1 then 1 else 0) (beginC cut x) = r at hok
  generalize beginC cut x = x0 at hok s01 s11
  obtain ⟨h1, h2, h3, h4, h5⟩ := hok
  by_cases h : r.1 = -1
  · have e82 := h4 h
    have hrc := p2_startRecovery (N := N) (i := i) (σ := σ) (x := r.2) (copyF (σ 2 1 0) (σ 3 1) (σ 4 1) r.2.1) (copyF_c _ _ _ _) h1 (by omega) (by omega)
    rw [if_pos h, if_pos h, p2_recoveryCopy hg h1.1, bnd_s, push_s, eX2_perform_30, hrc, bnd_s, push_s, eX2_perform_31, putC_6, p2_setCell _ _ (by omega) (by omega), bnd_s, push_n]
    exact s2_end _ _ _ _ _
  · rw [if_neg h, if_neg h, putC_6, p2_setCell _ _ (by omega) (by omega), bnd_s, push_n]
    exact s2_end _ _ _ _ _
end CLS
