/-! THE TWO MACHINES: every deed -/
/-- the two machines between deeds -/
def RZ (c n : Vec) : Prop := RC c n ∧ c 78 = n 78
section MOD
variable {N : Nat} {σ σ0 : Sto} {x : XP}
theorem m_boots (hg : OKG σ0 1) (b : Int) (h : RP x σ) (he : EnvM σ0 σ) (hb : x.1 82 < 2147483000) :
    ∃ τ, inv N mX9_boots [vR 30 0, vI b] (P σ) = some (some (vI (if τ 30 0 24 = 0 then (if (startSlotC (whyS σ0) (σ0 2 1 2) b x).1 = -1 then startRecoveryC (copyF (σ0 2 1 0) (σ0 3 1) (σ0 4 1) (startSlotC (whyS σ0) (σ0 2 1 2) b x).2.1) (startSlotC (whyS σ0) (σ0 2 1 2) b x).2 else startSlotC (whyS σ0) (σ0 2 1 2) b x).1 else -2)), P τ)
      ∧ KM σ τ ∧ R (if (startSlotC (whyS σ0) (σ0 2 1 2) b x).1 = -1 then startRecoveryC (copyF (σ0 2 1 0) (σ0 3 1) (σ0 4 1) (startSlotC (whyS σ0) (σ0 2 1 2) b x).2.1) (startSlotC (whyS σ0) (σ0 2 1 2) b x).2 else startSlotC (whyS σ0) (σ0 2 1 2) b x).2 τ := by
  obtain ⟨r1, r2, r3⟩ := m_read (N := N) h
  have he2 := EnvM_KM he r2
  have g4 : x.2 4 = rfM σ 43 0 6 := r3.2.2.1.2.2.1
  have e38 := he2.2.2.2.2.1
  rw [iX9_boots, eX9_boots_0, r1, bnd_s, push_n, eX9_boots_2, show (6 : Int).toNat = 6 from rfl, show (2 : Int).toNat = 2 from rfl, e38, ← g4]
  unfold startSlotC
  by_cases q : b = 0 ∧ x.2 4 < σ0 2 1 2
  · obtain ⟨τ, t1, t2, t3⟩ := m_boot_loop (N := N) hg b 2 x (rfM σ) (cnt_2 _) r3 he2 hb
    rw [if_pos q.1, if_pos q.2, s9_slotChosen r3.2.2.1, bnd_s, push_s, eX9_boots_15, if_pos q]
    exact ⟨τ, t1, KM_trans r2 t2, t3⟩
  · obtain ⟨τ, t1, t2, t3⟩ := m_rec (N := N) r3 he2 hb b
    rw [if_neg q]
    refine ⟨τ, ?_, KM_trans r2 t2, t3⟩
    by_cases q1 : b = 0
    · rw [if_pos q1, if_neg (fun z => q ⟨q1, z⟩), t1]
      rfl
    · rw [if_neg q1, t1]
      rfl
/-- a deed begins -/
theorem m_begin (hz : RZ x.1 (σ 40 0)) (hx : OKC x.1) (cut : Int) (c0 : -1 ≤ cut) (c1 : cut < 2147483648) : ∃ τ, inv N mX9_begins [vR 30 0, vI cut] (P σ) = some (none, P τ) ∧ KM σ τ ∧ RP (beginC cut x) τ ∧ τ 40 0 = σ 40 0 := by
  have e40 : ∀ q : Vec, row σ 30 0 q 40 0 = σ 40 0 := fun q => by rw [row_at, if_neg (by decide)]
  rw [iX9_begins, eX9_begins_0]
  simp only [sup_row, row_same, row_row]
  generalize hq : set (set (set (σ 30 0) 22 cut) 23 0) 24 0 = q
  have q22 : q 22 = cut := by rw [← hq, set_ne _ _ (by decide), set_ne _ _ (by decide), set_same]
  have q23 : q 23 = 0 := by rw [← hq, set_ne _ _ (by decide), set_same]
  have q24 : q 24 = 0 := by rw [← hq, set_same]
  have qo : ∀ j, j ≠ 22 → j ≠ 23 → j ≠ 24 → q j = σ 30 0 j := fun j a b c => by rw [← hq, set_ne _ _ c, set_ne _ _ b, set_ne _ _ a]
  clear hq
  have b7 : (beginC cut x).2 7 = cut := by
    show set (set (set (set (set (set (set (set x.2 7 cut) 8 0) 9 0) 6 (newestF x.1)) 2 (flagF x.1 0)) 3 (flagF x.1 1)) 4 (flagF x.1 2)) 5 (flagF x.1 3) 7 = cut
    rw [set_ne _ _ (by decide), set_ne _ _ (by decide), set_ne _ _ (by decide), set_ne _ _ (by decide), set_ne _ _ (by decide), set_ne _ _ (by decide), set_ne _ _ (by decide), set_same]
  have b8 : (beginC cut x).2 8 = 0 := by
    show set (set (set (set (set (set (set (set x.2 7 cut) 8 0) 9 0) 6 (newestF x.1)) 2 (flagF x.1 0)) 3 (flagF x.1 1)) 4 (flagF x.1 2)) 5 (flagF x.1 3) 8 = 0
    rw [set_ne _ _ (by decide), set_ne _ _ (by decide), set_ne _ _ (by decide), set_ne _ _ (by decide), set_ne _ _ (by decide), set_ne _ _ (by decide), set_same]
  have b9 : (beginC cut x).2 9 = 0 := by
    show set (set (set (set (set (set (set (set x.2 7 cut) 8 0) 9 0) 6 (newestF x.1)) 2 (flagF x.1 0)) 3 (flagF x.1 1)) 4 (flagF x.1 2)) 5 (flagF x.1 3) 9 = 0
    rw [set_ne _ _ (by decide), set_ne _ _ (by decide), set_ne _ _ (by decide), set_ne _ _ (by decide), set_ne _ _ (by decide), set_same]
  have pf : PF (beginC cut x) := by
    refine ⟨?_, ?_, ?_, ?_, ?_⟩
    · show set (set (set (set (set (set (set (set x.2 7 cut) 8 0) 9 0) 6 (newestF x.1)) 2 (flagF x.1 0)) 3 (flagF x.1 1)) 4 (flagF x.1 2)) 5 (flagF x.1 3) 6 = _
      rw [set_ne _ _ (by decide), set_ne _ _ (by decide), set_ne _ _ (by decide), set_ne _ _ (by decide), set_same]
      rfl
    · show set (set (set (set (set (set (set (set x.2 7 cut) 8 0) 9 0) 6 (newestF x.1)) 2 (flagF x.1 0)) 3 (flagF x.1 1)) 4 (flagF x.1 2)) 5 (flagF x.1 3) 2 = _
      rw [set_ne _ _ (by decide), set_ne _ _ (by decide), set_ne _ _ (by decide), set_same]
      rfl
    · show set (set (set (set (set (set (set (set x.2 7 cut) 8 0) 9 0) 6 (newestF x.1)) 2 (flagF x.1 0)) 3 (flagF x.1 1)) 4 (flagF x.1 2)) 5 (flagF x.1 3) 3 = _
      rw [set_ne _ _ (by decide), set_ne _ _ (by decide), set_same]
      rfl
    · show set (set (set (set (set (set (set (set x.2 7 cut) 8 0) 9 0) 6 (newestF x.1)) 2 (flagF x.1 0)) 3 (flagF x.1 1)) 4 (flagF x.1 2)) 5 (flagF x.1 3) 4 = _
      rw [set_ne _ _ (by decide), set_same]
      rfl
    · show set (set (set (set (set (set (set (set x.2 7 cut) 8 0) 9 0) 6 (newestF x.1)) 2 (flagF x.1 0)) 3 (flagF x.1 1)) 4 (flagF x.1 2)) 5 (flagF x.1 3) 5 = _
      rw [set_same]
      rfl
  refine ⟨row σ 30 0 q, rfl, KM_30 σ q qo, ⟨⟨by rw [e40]; exact hz.1, by rw [row_same, b8, q23], Or.inl ⟨by rw [row_same]; exact q24, b9, by rw [e40]; exact hz.2, ?_⟩⟩, by rw [row_same]; exact q24, pf, beginC_ok cut hx⟩, e40 q⟩
  rw [row_same, b7, b8, q22]
  by_cases h1 : cut = -1
  · exact Or.inl ⟨h1, h1⟩
  · exact Or.inr ⟨by decide, by omega, c1, by omega⟩
/-- a deed ends -/
theorem m_end (h : R x σ) (ans : Int) : (endC ans x).1 = (if σ 30 0 24 = 0 then ans else -2) ∧ RZ (endC ans x).2.1 (set (σ 40 0) 81 (σ 30 0 23)) ∧ (endC ans x).2.1 81 = σ 30 0 23 := by
  unfold endC
  by_cases hl : σ 30 0 24 = 0
  · obtain ⟨l1, l2, l3, l4⟩ := R_live h hl
    rw [if_pos l2, if_pos hl]
    refine ⟨rfl, ⟨?_, ?_⟩, ?_⟩
    · obtain ⟨h1, h2, h3, h4, h5⟩ := h.1
      refine ⟨fun j hj => ?_, ?_, ?_, ?_, RS_congr h5 (fun j hj => set_ne _ _ (by omega)) (fun j hj => set_ne _ _ (by omega))⟩
      · show set x.1 81 (x.2 8) j = _
        rw [set_ne _ _ (by omega), set_ne _ _ (by omega), h1 j hj]
      · show set x.1 81 (x.2 8) 79 = _
        rw [set_ne _ _ (by decide), set_ne _ _ (by decide), h2]
      · show set x.1 81 (x.2 8) 80 = _
        rw [set_ne _ _ (by decide), set_ne _ _ (by decide), h3]
      · show set x.1 81 (x.2 8) 81 = _
        rw [set_same, set_same, h.2.1]
    · show set x.1 81 (x.2 8) 78 = _
      rw [set_ne _ _ (by decide), set_ne _ _ (by decide), l3]
    · show set x.1 81 (x.2 8) 81 = _
      rw [set_same, h.2.1]
  · have d := R_dead h hl
    rw [if_neg (by rw [d.1]; decide), if_neg hl]
    have n78 : σ 40 0 78 = -1 := by
      rcases h.2.2 with ⟨q, _⟩ | ⟨_, _, q, _⟩
      · exact absurd q hl
      · exact q
    refine ⟨rfl, ⟨?_, ?_⟩, ?_⟩
    · obtain ⟨h1, h2, h3, h4, h5⟩ := h.1
      refine ⟨fun j hj => ?_, ?_, ?_, ?_, RS_congr h5 (fun j hj => (set_ne _ _ (by omega)).trans (set_ne _ _ (by omega))) (fun j hj => set_ne _ _ (by omega))⟩
      · show set (set x.1 81 (x.2 8)) 78 (-1) j = _
        rw [set_ne _ _ (by omega), set_ne _ _ (by omega), set_ne _ _ (by omega), h1 j hj]
      · show set (set x.1 81 (x.2 8)) 78 (-1) 79 = _
        rw [set_ne _ _ (by decide), set_ne _ _ (by decide), set_ne _ _ (by decide), h2]
      · show set (set x.1 81 (x.2 8)) 78 (-1) 80 = _
        rw [set_ne _ _ (by decide), set_ne _ _ (by decide), set_ne _ _ (by decide), h3]
      · show set (set x.1 81 (x.2 8)) 78 (-1) 81 = _
        rw [set_ne _ _ (by decide), set_same, set_same, h.2.1]
    · show set (set x.1 81 (x.2 8)) 78 (-1) 78 = _
      rw [set_same, set_ne _ _ (by decide), n78]
    · show set (set x.1 81 (x.2 8)) 78 (-1) 81 = _
      rw [set_ne _ _ (by decide), set_same, h.2.1]
end MOD
