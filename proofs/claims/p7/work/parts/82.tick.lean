/-! TICKS: a boot does not look at them -/
def S79 (x y : XP) : Prop := (∀ j, j ≠ 79 → x.1 j = y.1 j) ∧ x.2 = y.2
theorem S79_wr {x y : XP} (h : S79 x y) (a n : Nat) (v : Int) (ha : a + n ≤ 78) : S79 (wrC a n v x) (wrC a n v y) := by
  obtain ⟨h1, h2⟩ := h
  unfold wrC
  rw [h2]
  split
  · exact ⟨h1, rfl⟩
  · refine ⟨fun j hj => ?_, rfl⟩
    show fill x.1 a n v j = fill y.1 a n v j
    unfold fill
    rw [h1 j hj]
theorem S79_wfC {x y : XP} (h : S79 x y) (b : Nat) (hb : b = 56 ∨ b = 64) (nx : Int) : S79 (wfC b nx x) (wfC b nx y) := by
  unfold wfC
  rw [h.2]
  exact S79_wr (S79_wr (S79_wr (S79_wr (S79_wr (S79_wr (S79_wr (S79_wr (S79_wr h _ _ _ (by omega)) _ _ _ (by omega)) _ _ _ (by omega)) _ _ _ (by omega)) _ _ _ (by omega)) _ _ _ (by omega)) _ _ _ (by omega)) _ _ _ (by omega)) _ _ _ (by omega)
theorem S79_wf {x y : XP} (h : S79 x y) : S79 (writeFlagsC x) (writeFlagsC y) := by
  have e : ∀ w, nxC x.1 w = nxC y.1 w := fun w => nxC_congr (fun j a b => h.1 j (by omega)) w
  unfold writeFlagsC
  rw [h.2, e, e]
  split
  · have s := S79_wfC h 64 (Or.inr rfl) (nxC y.1 0)
    exact ⟨s.1, by show set _ 6 1 = set _ 6 1; rw [s.2]⟩
  · have s := S79_wfC h 56 (Or.inl rfl) (nxC y.1 (y.2 6))
    exact ⟨s.1, by show set _ 6 0 = set _ 6 0; rw [s.2]⟩
theorem S79_g {x y : XP} (h : S79 x y) (f : Vec → Vec) : S79 (x.1, f x.2) (y.1, f y.2) := ⟨h.1, by show f x.2 = f y.2; rw [h.2]⟩
theorem S79_note {x y : XP} (h : S79 x y) (w v : Int) : S79 (noteStartC w v x) (noteStartC w v y) := by
  unfold noteStartC
  rw [h.2]
  split
  · refine ⟨fun j hj => ?_, rfl⟩
    show set (set (set (set (set (set x.1 _ _) _ _) _ _) _ _) _ _) _ _ j = set (set (set (set (set (set y.1 _ _) _ _) _ _) _ _) _ _) _ _ j
    rw [h.1 82 (by decide)]
    unfold set
    rw [h.1 j hj]
  · exact h
theorem S79_why {x y : XP} (h : S79 x y) (ks : Int) (sec u : Vec) (s : Nat) (hs : s < 4) : whyF ks sec u x.1 s = whyF ks sec u y.1 s := whyF_cells (fun j hj => h.1 j (by omega)) ks sec u s hs
theorem S79_startL (σ : Sto) : ∀ (m : Nat) (x y : XP), S79 x y → (startL (whyS σ) m x).1 = (startL (whyS σ) m y).1 ∧ S79 (startL (whyS σ) m x).2 (startL (whyS σ) m y).2
  | 0, _, _, h => ⟨rfl, h⟩
  | m + 1, x, y, h => by
    unfold startL
    rw [h.2]
    by_cases c : chosenC y.2 = -1
    · rw [if_pos c, if_pos c]
      exact ⟨rfl, h⟩
    · obtain ⟨s, hs, e⟩ := chosen_s c
      have ew : whyS σ x.1 s = whyS σ y.1 s := S79_why h _ _ _ s (by omega)
      rw [if_neg c, if_neg c, e, Int.toNat_natCast, ew]
      split
      · have s1 : S79 (countTryC s x) (countTryC s y) := S79_g h (fun g => set (set (if g (2 + s) % 2 = 0 then set g (2 + s) (g (2 + s) - 2) else g) 4 (min (g 4 + 1) 255)) 5 (s : Int))
        have s2 := S79_wf s1
        rw [s2.1 (14 * s) (by omega)]
        exact ⟨rfl, S79_note s2 _ _⟩
      · exact S79_startL σ m _ _ (S79_wf ⟨h.1, rfl⟩)
theorem S79_rec {x y : XP} (h : S79 x y) (cp : Int) (hc : cp = -1 ∨ cp = 2 ∨ cp = 3) : (startRecoveryC cp x).1 = (startRecoveryC cp y).1 ∧ S79 (startRecoveryC cp x).2 (startRecoveryC cp y).2 := by
  unfold startRecoveryC
  split
  · exact ⟨rfl, h⟩
  · have s2 := S79_wf (S79_g h (fun g => set g 5 2))
    have : 14 * cp.toNat ≠ 79 := by omega
    refine ⟨rfl, ?_⟩
    show S79 (noteStartC 2 ((writeFlagsC (x.1, set x.2 5 2)).1 (14 * cp.toNat) - 1) _) (noteStartC 2 ((writeFlagsC (y.1, set y.2 5 2)).1 (14 * cp.toNat) - 1) _)
    rw [s2.1 _ this]
    exact S79_note s2 _ _
theorem S79_end {x y : XP} (h : S79 x y) (a : Int) : (endC a x).1 = (endC a y).1 ∧ S79 (endC a x).2 (endC a y).2 := by
  unfold endC
  rw [h.2]
  split
  · refine ⟨rfl, fun j hj => ?_, rfl⟩
    show set x.1 81 _ j = set y.1 81 _ j
    unfold set
    rw [h.1 j hj]
  · refine ⟨rfl, fun j hj => ?_, rfl⟩
    show set (set x.1 81 _) 78 _ j = set (set y.1 81 _) 78 _ j
    unfold set
    rw [h.1 j hj]
theorem S79_begin {x y : XP} (h : S79 x y) (cut : Int) : S79 (beginC cut x) (beginC cut y) := by
  have cg : ∀ j, 56 ≤ j → j < 72 → x.1 j = y.1 j := fun j a b => h.1 j (by omega)
  refine ⟨h.1, ?_⟩
  show set (set (set (set (set (set (set (set x.2 7 cut) 8 0) 9 0) 6 (newestF x.1)) 2 (flagF x.1 0)) 3 (flagF x.1 1)) 4 (flagF x.1 2)) 5 (flagF x.1 3) = set (set (set (set (set (set (set (set y.2 7 cut) 8 0) 9 0) 6 (newestF y.1)) 2 (flagF y.1 0)) 3 (flagF y.1 1)) 4 (flagF y.1 2)) 5 (flagF y.1 3)
  rw [h.2, newestF_congr cg, flagF_congr cg (by decide : 0 < 4), flagF_congr cg (by decide : 1 < 4), flagF_congr cg (by decide : 2 < 4), flagF_congr cg (by decide : 3 < 4)]
theorem S79_boot (σ : Sto) {x y : XP} (h : S79 x y) (a cut : Int) : (bootC σ a cut x).1 = (bootC σ a cut y).1 ∧ S79 (bootC σ a cut x).2 (bootC σ a cut y).2 := by
  have hb := S79_begin h cut
  have hs : ∀ bt lim, (startSlotC (whyS σ) lim bt (beginC cut x)).1 = (startSlotC (whyS σ) lim bt (beginC cut y)).1 ∧ S79 (startSlotC (whyS σ) lim bt (beginC cut x)).2 (startSlotC (whyS σ) lim bt (beginC cut y)).2 := by
    intro bt lim
    unfold startSlotC
    rw [hb.2]
    split
    · exact S79_startL σ 2 _ _ hb
    · exact ⟨rfl, hb⟩
  unfold bootC
  generalize (if a = 1 then (1 : Int) else 0) = bt
  obtain ⟨e1, e2⟩ := hs bt (σ 2 1 2)
  generalize startSlotC (whyS σ) (σ 2 1 2) bt (beginC cut x) = p at e1 e2
  generalize startSlotC (whyS σ) (σ 2 1 2) bt (beginC cut y) = q at e1 e2
  have ec : copyF (σ 2 1 0) (σ 3 1) (σ 4 1) p.2.1 = copyF (σ 2 1 0) (σ 3 1) (σ 4 1) q.2.1 := copyF_cells (fun j hj => e2.1 j (by omega)) _ _ _
  rw [e1, ec]
  split
  · obtain ⟨r1, r2⟩ := S79_rec e2 (copyF (σ 2 1 0) (σ 3 1) (σ 4 1) q.2.1) (copyF_c _ _ _ _)
    rw [r1]
    exact S79_end r2 _
  · exact S79_end e2 _
