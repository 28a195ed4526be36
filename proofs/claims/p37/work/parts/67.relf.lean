section
/-! THE TWO MACHINES: every deed -/
/-- the two machines between deeds -/
def RZ (c n : Vec) : Prop := RC c n ∧ c 78 = n 78
section MOD
variable {N : Nat} {σ σ0 : Sto} {x : XP}
theorem m_boots (hg : OKG σ0 1) (b : Int) (h : RP x σ) (he : EnvM σ0 σ) (hb : x.1 82 < 2147483000) :
    ∃ τ, inv N mX9_boots [vR 30 0, vI b] (P σ) = some (some (vI (if τ 30 0 24 = 0 then (if (startSlotC (whyS σ0) (σ0 2 1 2) b x).1 = -1 then startRecoveryC (copyF (σ0 2 1 0) (σ0 3 1) (σ0 4 1) (startSlotC (whyS σ0) (σ0 2 1 2) b x).2.1) (startSlotC (whyS σ0) (σ0 2 1 2) b x).2 else startSlotC (whyS σ0) (σ0 2 1 2) b x).1 else -2)), P τ)
      ∧ KM σ τ ∧ R (if (startSlotC (whyS σ0) (σ0 2 1 2) b x).1 = -1 then startRecoveryC (copyF (σ0 2 1 0) (σ0 3 1) (σ0 4 1) (startSlotC (whyS σ0) (σ0 2 1 2) b x).2.1) (startSlotC (whyS σ0) (σ0 2 1 2) b x).2 else startSlotC (whyS σ0) (σ0 2 1 2) b x).2 τ := by
  obtain ⟨r1, r2, r3⟩ := m_read (N := N) h
  have he2 := EnvM_KM he r2
  have g4 : x.2 4 = rfM σ 43 0 6 := r3.2.2.1.2.2.1
  have e38 := he2.2.2.2.2.1
  rw [iX9_boots, eX9_boots_0, r1, bnd_s, push_n, eX9_boots_2, show (6 : Int).toNat = 6 from rfl, show (2 : Int).toNat = 2 from rfl, e38, ← g4]
  unfold startSlotC
  by_cases q : b = 0 ∧ x.2 4 < σ0 2 1 2
  · obtain ⟨τ, t1, t2, t3⟩ := m_boot_loop (N := N) hg b 2 x (rfM σ) (cnt_2 _) r3 he2 hb
    rw [if_pos q.1, if_pos q.2, s9_slotChosen r3.2.2.1, bnd_s, push_s, eX9_boots_15, if_pos q]
    exact ⟨τ, t1, KM_trans r2 t2, t3⟩
  · obtain ⟨τ, t1, t2, t3⟩ := m_rec (N := N) r3 he2 hb b
    rw [if_neg q]
    refine ⟨τ, ?_, KM_trans r2 t2, t3⟩
    by_cases q1 : b = 0
    · rw [if_pos q1, if_neg (fun z => q ⟨q1, z⟩), t1]
      rfl
    · rw [if_neg q1, t1]
      rfl
/-- a deed begins -/
theorem m_begin (hz : RZ x.1 (σ 40 0)) (hx : OKC x.1) (cut : Int) (c0 : -1 ≤ cut) (c1 : cut < 2147483648) : ∃ τ, inv N mX9_begins [vR 30 0, vI cut] (P σ) = some (none, P τ) ∧ KM σ τ ∧ RP (beginC cut x) τ ∧ τ 40 0 = σ 40 0 := by
  have e40 : ∀ q : Vec, row σ 30 0 q 40 0 = σ 40 0 := fun q => by rw [row_at, if_neg (by decide)]
  rw [iX9_begins, eX9_begins_0]
  simp only [sup_row, row_same, row_row]
  generalize hq : set (set (set (σ 30 0) 22 cut) 23 0) 24 0 = q
  have q22 : q 22 = cut := by rw [← hq, set_ne _ _ (by decide), set_ne _ _ (by decide), set_same]
  have q23 : q 23 = 0 := by rw [← hq, set_ne _ _ (by decide), set_same]
  have q24 : q 24 = 0 := by rw [← hq, set_same]
  have qo : ∀ j, j ≠ 22 → j ≠ 23 → j ≠ 24 → q j = σ 30 0 j := fun j a b c => by rw [← hq, set_ne _ _ c, set_ne _ _ b, set_ne _ _ a]
  clear hq
  have b7 : (beginC cut x).2 7 = cut := by
    show set (set (set (set (set (set (set (set x.2 7 cut) 8 0) 9 0) 6 (newestF x.1)) 2 (flagF x.1 0)) 3 (flagF x.1 1)) 4 (flagF x.1 2)) 5 (flagF x.1 3) 7 = cut
    rw [set_ne _ _ (by decide), set_ne _ _ (by decide), set_ne _ _ (by decide), set_ne _ _ (by decide), set_ne _ _ (by decide), set_ne _ _ (by decide), set_ne _ _ (by decide), set_same]
  have b8 : (beginC cut x).2 8 = 0 := by
    show set (set (set (set (set (set (set (set x.2 7 cut) 8 0) 9 0) 6 (newestF x.1)) 2 (flagF x.1 0)) 3 (flagF x.1 1)) 4 (flagF x.1 2)) 5 (flagF x.1 3) 8 = 0
    rw [set_ne _ _ (by decide), set_ne _ _ (by decide), set_ne _ _ (by decide), set_ne _ _ (by decide), set_ne _ _ (by decide), set_ne _ _ (by decide), set_same]
  have b9 : (beginC cut x).2 9 = 0 := by
    show set (set (set (set (set (set (set (set x.2 7 cut) 8 0) 9 0) 6 (newestF x.1)) 2 (flagF x.1 0)) 3 (flagF x.1 1)) 4 (flagF x.1 2)) 5 (flagF x.1 3) 9 = 0
    rw [set_ne _ _ (by decide), set_ne _ _ (by decide), set_ne _ _ (by decide), set_ne _ _ (by decide), set_ne _ _ (by decide), set_same]
  have pf : PF (beginC cut x) := by
    refine ⟨?_, ?_, ?_, ?_, ?_⟩
    · show set (set (set (set (set (set (set (set x.2 7 cut) 8 0) 9 0) 6 (newestF x.1)) 2 (flagF x.1 0)) 3 (flagF x.1 1)) 4 (flagF x.1 2)) 5 (flagF x.1 3) 6 = _
      rw [set_ne _ _ (by decide), set_ne _ _ (by decide), set_ne _ _ (by decide), set_ne _ _ (by decide), set_same]
      rfl
    · show set (set (set (set (set (set (set (set x.2 7 cut) 8 0) 9 0) 6 (newestF x.1)) 2 (flagF x.1 0)) 3 (flagF x.1 1)) 4 (flagF x.1 2)) 5 (flagF x.1 3) 2 = _
      rw [set_ne _ _ (by decide), set_ne _ _ (by decide), set_ne _ _ (by decide), set_same]
      rfl
    · show set (set (set (set (set (set (set (set x.2 7 cut) 8 0) 9 0) 6 (newestF x.1)) 2 (flagF x.1 0)) 3 (flagF x.1 1)) 4 (flagF x.1 2)) 5 (flagF x.1 3) 3 = _
      rw [set_ne _ _ (by decide), set_ne _ _ (by decide), set_same]
      rfl
    · show set (set (set (set (set (set (set (set x.2 7 cut) 8 0) 9 0) 6 (newestF x.1)) 2 (flagF x.1 0)) 3 (flagF x.1 1)) 4 (flagF x.1 2)) 5 (flagF x.1 3) 4 = _
      rw [set_ne _ _ (by decide), set_same]
      rfl
    · show set (set (set (set (set (set (set (set x.2 7 cut) 8 0) 9 0) 6 (newestF x.1)) 2 (flagF x.1 0)) 3 (flagF x.1 1)) 4 (flagF x.1 2)) 5 (flagF x.1 3) 5 = _
      rw [set_same]
      rfl
  refine ⟨row σ 30 0 q, rfl, KM_30 σ q qo, ⟨⟨by rw [e40]; exact hz.1, by rw [row_same, b8, q23], Or.inl ⟨by rw [row_same]; exact q24, b9, by rw [e40]; exact hz.2, ?_⟩⟩, by rw [row_same]; exact q24, pf, beginC_ok cut hx⟩, e40 q⟩
  rw [row_same, b7, b8, q22]
  by_cases h1 : cut = -1
  · exact Or.inl ⟨h1, h1⟩
  · exact Or.inr ⟨by decide, by omega, c1, by omega⟩
/-- a deed ends -/
theorem m_end (h : R x σ) (ans : Int) : (endC ans x).1 = (if σ 30 0 24 = 0 then ans else -2) ∧ RZ (endC ans x).2.1 (set (σ 40 0) 81 (σ 30 0 23)) ∧ (endC ans x).2.1 81 = σ 30 0 23 := by
  unfold endC
  by_cases hl : σ 30 0 24 = 0
  · obtain ⟨l1, l2, l3, l4⟩ := R_live h hl
    rw [if_pos l2, if_pos hl]
    refine ⟨rfl, ⟨?_, ?_⟩, ?_⟩
    · obtain ⟨h1, h2, h3, h4, h5⟩ := h.1
      refine ⟨fun j hj => ?_, ?_, ?_, ?_, RS_congr h5 (fun j hj => set_ne _ _ (by omega)) (fun j hj => set_ne _ _ (by omega))⟩
      · show set x.1 81 (x.2 8) j = _
        rw [set_ne _ _ (by omega), set_ne _ _ (by omega), h1 j hj]
      · show set x.1 81 (x.2 8) 79 = _
        rw [set_ne _ _ (by decide), set_ne _ _ (by decide), h2]
      · show set x.1 81 (x.2 8) 80 = _
        rw [set_ne _ _ (by decide), set_ne _ _ (by decide), h3]
      · show set x.1 81 (x.2 8) 81 = _
        rw [set_same, set_same, h.2.1]
    · show set x.1 81 (x.2 8) 78 = _
      rw [set_ne _ _ (by decide), set_ne _ _ (by decide), l3]
    · show set x.1 81 (x.2 8) 81 = _
      rw [set_same, h.2.1]
  · have d := R_dead h hl
    rw [if_neg (by rw [d.1]; decide), if_neg hl]
    have n78 : σ 40 0 78 = -1 := by
      rcases h.2.2 with ⟨q, _⟩ | ⟨_, _, q, _⟩
      · exact absurd q hl
      · exact q
    refine ⟨rfl, ⟨?_, ?_⟩, ?_⟩
    · obtain ⟨h1, h2, h3, h4, h5⟩ := h.1
      refine ⟨fun j hj => ?_, ?_, ?_, ?_, RS_congr h5 (fun j hj => (set_ne _ _ (by omega)).trans (set_ne _ _ (by omega))) (fun j hj => set_ne _ _ (by omega))⟩
      · show set (set x.1 81 (x.2 8)) 78 (-1) j = _
        rw [set_ne _ _ (by omega), set_ne _ _ (by omega), set_ne _ _ (by omega), h1 j hj]
      · show set (set x.1 81 (x.2 8)) 78 (-1) 79 = _
        rw [set_ne _ _ (by decide), set_ne _ _ (by decide), set_ne _ _ (by decide), h2]
      · show set (set x.1 81 (x.2 8)) 78 (-1) 80 = _
        rw [set_ne _ _ (by decide), set_ne _ _ (by decide), set_ne _ _ (by decide), h3]
      · show set (set x.1 81 (x.2 8)) 78 (-1) 81 = _
        rw [set_ne _ _ (by decide), set_same, set_same, h.2.1]
    · show set (set x.1 81 (x.2 8)) 78 (-1) 78 = _
      rw [set_same, set_ne _ _ (by decide), n78]
    · show set (set x.1 81 (x.2 8)) 78 (-1) 81 = _
      rw [set_ne _ _ (by decide), set_same, h.2.1]
end MOD
end
section
/-! THE TWO MACHINES: a deed does alike -/
section MOD
variable {N : Nat} {σ σ0 : Sto} {x : XP}
theorem m_close {τ υ : Sto} {y : XP} {ans : Int} {F : Int × XP} (hF : F = endC ans y) (hr : R y τ) (km : KM σ υ) (km2 : KM υ τ) : KM σ (row τ 40 0 (set (τ 40 0) 81 (τ 30 0 23))) ∧ RZ F.2.1 (row τ 40 0 (set (τ 40 0) 81 (τ 30 0 23)) 40 0) ∧ row τ 40 0 (set (τ 40 0) 81 (τ 30 0 23)) 30 0 23 = F.2.1 81 ∧ F.1 = (if τ 30 0 24 = 0 then ans else -2) := by
  obtain ⟨e1, e2, e3⟩ := m_end hr ans
  rw [hF, row_same, row_at, if_neg (by decide)]
  exact ⟨KM_trans km (KM_trans km2 (KM_row _ _ _ (Or.inl rfl))), e2, e3.symm, e1⟩
theorem bootC_end (a cut : Int) (B : Int × XP) (hB : B = if (startSlotC (whyS σ) (σ 2 1 2) (if a = 1 then 1 else 0) (beginC cut x)).1 = -1 then startRecoveryC (copyF (σ 2 1 0) (σ 3 1) (σ 4 1) (startSlotC (whyS σ) (σ 2 1 2) (if a = 1 then 1 else 0) (beginC cut x)).2.1) (startSlotC (whyS σ) (σ 2 1 2) (if a = 1 then 1 else 0) (beginC cut x)).2 else startSlotC (whyS σ) (σ 2 1 2) (if a = 1 then 1 else 0) (beginC cut x)) : bootC σ a cut x = endC B.1 B.2 := by
  subst hB
  unfold bootC
  generalize (if a = 1 then (1 : Int) else 0) = bt
  by_cases h : (startSlotC (whyS σ) (σ 2 1 2) bt (beginC cut x)).1 = -1
  · rw [if_pos h, if_pos h]
  · rw [if_neg h, if_neg h]
theorem m_does (hg : OKG σ0 1) (hz : RZ x.1 (σ 40 0)) (hx : OKC x.1) (he : EnvM σ0 σ) (hb : x.1 82 < 2147483000) (d a b cut : Int) (hd : ableF (σ0 2 1 1) (σ0 5 1) x.1 d a b = 1) (c0 : -1 ≤ cut) (c1 : cut < 2147483648) :
    ∃ τ, inv N mX9_does [vR 30 0, vI d, vI a, vI b, vI cut] (P σ) = some (some (vI (performC σ0 d a b cut x).1), P τ) ∧ KM σ τ ∧ RZ (performC σ0 d a b cut x).2.1 (τ 40 0) ∧ τ 30 0 23 = (performC σ0 d a b cut x).2.1 81 := by
  obtain ⟨υ, b1, b2, b3, b4⟩ := m_begin (N := N) hz hx cut c0 c1
  have he2 := EnvM_KM he b2
  have e82 : (beginC cut x).1 82 = x.1 82 := rfl
  have e81 : (81 : Int).toNat = 81 := rfl
  rw [iX9_does, eX9_does_0, b1, bnd_s, push_n, eX9_does_3]
  unfold ableF at hd
  unfold performC
  by_cases d0 : d = 0
  · obtain ⟨τ, t1, t2, t3⟩ := m_boots (N := N) hg (if a = 1 then 1 else 0) b3 he2 (by rw [e82]; exact hb)
    have hB := bootC_end (σ := σ0) (x := x) a cut _ rfl
    obtain ⟨k1, k2, k3, k4⟩ := m_close hB t3 b2 t2
    rw [if_pos d0, if_pos d0]
    refine ⟨_, ?_, k1, k2, k3⟩
    rw [k4]
    by_cases ha : a = 1
    · rw [if_pos ha] at t1 ⊢
      rw [if_pos ha, t1, bnd_s, push_s, eX9_does_13, sup_row, e81]
    · rw [if_neg ha] at t1 ⊢
      rw [if_neg ha, t1, bnd_s, push_s, eX9_does_13, sup_row, e81]
  rw [if_neg d0] at hd ⊢
  rw [if_neg d0]
  by_cases hr : x.1 78 = -1
  · rw [if_pos hr] at hd
    cases hd
  rw [if_neg hr] at hd
  by_cases d1 : d = 1
  · obtain ⟨τ, t1, t2, t3⟩ := m_heals (N := N) hg b3 he2 hr
    obtain ⟨k1, k2, k3, k4⟩ := m_close (F := perfHealthC σ0 cut x) rfl t3 b2 t2
    rw [if_pos d1, if_pos d1]
    exact ⟨_, by rw [k4, t1, bnd_s, push_s, eX9_does_17, sup_row, e81], k1, k2, k3⟩
  rw [if_neg d1] at hd ⊢
  rw [if_neg d1]
  by_cases d2 : d = 2
  · rw [if_pos d2] at hd ⊢
    rw [if_pos d2]
    by_cases q : (a = 0 ∨ a = 1) ∧ ¬ a = x.1 78 ∧ 0 ≤ b ∧ b < σ0 2 1 1
    · obtain ⟨s, hs, es⟩ := slot_s q.1
      have g4 := hg.2.2.2.1
      have bi : b.toNat < 6 ∧ ((b.toNat : Nat) : Int) = b := by omega
      obtain ⟨τ, t1, t2, t3⟩ := m_installs (N := N) hg s b.toNat hs bi.1 (by rw [bi.2]; exact q.2.2.2) b3 he2
      rw [bi.2] at t1 t3
      obtain ⟨k1, k2, k3, k4⟩ := m_close (F := perfInstallC σ0 s b.toNat cut x) (by unfold perfInstallC; rw [bi.2]) t3 b2 t2
      rw [es, Int.toNat_natCast]
      exact ⟨_, by rw [k4, t1, bnd_s, push_s, eX9_does_23, sup_row, e81], k1, k2, k3⟩
    · rw [if_neg q] at hd
      cases hd
  rw [if_neg d2] at hd ⊢
  rw [if_neg d2]
  by_cases d3 : d = 3
  · rw [if_pos d3] at hd ⊢
    rw [if_pos d3]
    by_cases q : a = 0 ∧ 0 ≤ b ∧ b < σ0 2 1 1 ∧ σ0 5 1 (14 * b.toNat + 1) = 0
    · have g4 := hg.2.2.2.1
      have bi : b.toNat < 6 ∧ ((b.toNat : Nat) : Int) = b := by
        obtain ⟨-, q1, q2, -⟩ := q
        clear hd b1 b4 e82 e81
        omega
      obtain ⟨τ, t1, t2, t3⟩ := m_refreshes (N := N) hg b.toNat bi.1 (by rw [bi.2]; exact q.2.2.1) b3.1 b3.2.2.2 he2
      rw [bi.2] at t1
      obtain ⟨k1, k2, k3, k4⟩ := m_close (F := perfRefreshC σ0 b.toNat cut x) rfl t3 b2 t2
      exact ⟨_, by rw [k4, t1, bnd_s, push_s, eX9_does_28, sup_row, e81]; rfl, k1, k2, k3⟩
    · rw [if_neg q] at hd
      cases hd
  rw [if_neg d3] at hd ⊢
  rw [if_neg d3]
  by_cases d4 : d = 4
  · rw [if_pos d4] at hd ⊢
    rw [if_pos d4]
    by_cases q : (a = 0 ∨ a = 1) ∧ b = 0
    · obtain ⟨s, hs, es⟩ := slot_s q.1
      obtain ⟨τ, t1, t2, t3⟩ := m_prefersNow (N := N) s hs b3
      obtain ⟨k1, k2, k3, k4⟩ := m_close (F := perfPreferC s cut x) rfl t3 b2 t2
      rw [es, Int.toNat_natCast]
      exact ⟨_, by rw [k4, t1, bnd_s, push_s, eX9_does_33, sup_row, e81], k1, k2, k3⟩
    · rw [if_neg q] at hd
      cases hd
  rw [if_neg d4] at hd ⊢
  rw [if_neg d4]
  by_cases d5 : d = 5
  · obtain ⟨τ, t1, t2, t3⟩ := m_mends (N := N) b3 he2
    obtain ⟨k1, k2, k3, k4⟩ := m_close (F := perfMendC σ0 cut x) rfl t3 b2 t2
    rw [if_pos d5, if_pos d5]
    exact ⟨_, by rw [k4, t1, bnd_s, push_s, eX9_does_37, sup_row, e81], k1, k2, k3⟩
  rw [if_neg d5] at hd ⊢
  rw [if_neg d5]
  by_cases d6 : d = 6
  · rw [if_pos d6] at hd
    by_cases q : a = 0 ∧ b = 0 ∧ openF (σ0 2 1 1) x.1 = 1 ∧ ¬ x.1 72 = x.1 78
    · obtain ⟨o1, o2⟩ := able_open q.2.2.1
      obtain ⟨s, hs, es⟩ := slot_s o1
      have g4 := hg.2.2.2.1
      have b73 := hx.2.1 73 (by decide) (by decide)
      have bi : (x.1 73).toNat < 6 ∧ (((x.1 73).toNat : Nat) : Int) = x.1 73 := by
        generalize x.1 73 = v at o2 b73 ⊢
        clear hd b1 b4 e82 e81 q es
        omega
      obtain ⟨τ, t1, t2, t3⟩ := m_resumes (N := N) hg s (x.1 73).toNat hs bi.1 (by rw [bi.2]; exact o2) b3 he2 (by rw [b4, ← hz.1.1 72 (by decide), es]) (by rw [b4, ← hz.1.1 73 (by decide), bi.2])
      obtain ⟨k1, k2, k3, k4⟩ := m_close (F := perfResumeC σ0 cut x) (by unfold perfResumeC; rw [es, Int.toNat_natCast]) t3 b2 t2
      refine ⟨_, ?_, k1, k2, k3⟩
      rw [k4, t1, bnd_s, push_n, eX9_does_41, sup_row, e81, t3.2.1]
      split <;> rfl
    · rw [if_neg q] at hd
      cases hd
  · rw [if_neg d6] at hd
    cases hd
end MOD
end
section
/-! COPIES of stretches -/
def seg (f : Vec) (a : Nat) : Vec := fun j => f (a + j)
theorem cpyV_0 (f g : Vec) (sp dp : Nat) : cpyV f g sp dp 0 = g := by
  funext j
  unfold cpyV
  rw [if_neg (by omega)]
theorem cpyV_s (f g : Vec) (sp dp k : Nat) : set (cpyV f g sp dp k) (dp + k) (f (sp + k)) = cpyV f g sp dp (k + 1) := by
  funext j
  unfold set cpyV
  by_cases h : j = dp + k
  · subst h
    rw [if_pos rfl, if_pos (by omega), show dp + k - dp = k by omega]
  · rw [if_neg h]
    by_cases h2 : dp ≤ j ∧ j < dp + k
    · rw [if_pos h2, if_pos (by omega)]
    · rw [if_neg h2, if_neg (by omega)]
theorem cpyV_in (f g : Vec) (sp dp n j : Nat) (h : j < n) : cpyV f g sp dp n (dp + j) = f (sp + j) := by
  unfold cpyV
  rw [if_pos (by omega), show dp + j - dp = j by omega]
theorem cpyV_out (f g : Vec) (sp dp n j : Nat) (h : j < dp ∨ dp + n ≤ j) : cpyV f g sp dp n j = g j := by
  unfold cpyV
  rw [if_neg (by omega)]
section MOD
variable {N : Nat} {σ : Sto}
theorem s9_keep41_loop (a : Nat) (ha : a + 107 ≤ 1284) : ∀ (m j : Nat), j + m = 107 → ev N mX9_keepsIn 2 [vR 30 0, vR 41 0, vI (a : Int), vI (j : Int)] [] (P (row σ 41 0 (cpyV (σ 40 0) (σ 41 0) 0 a j))) = some (none, P (row σ 41 0 (cpyV (σ 40 0) (σ 41 0) 0 a 107))) := by
  intro m
  induction m with
  | zero =>
    intro j hj
    have e : j = 107 := by omega
    subst e
    rw [eX9_keepsIn_2_k41, if_neg (by omega)]
  | succ m ih =>
    intro j hj
    have e1 : w32 ((a : Int) + (j : Int)) = ((a + j : Nat) : Int) := by rw [w32i (by omega) (by omega)]; omega
    have e2 : w32 ((j : Int) + 1) = ((j + 1 : Nat) : Int) := by rw [w32i (by omega) (by omega)]; omega
    have r40 : row σ 41 0 (cpyV (σ 40 0) (σ 41 0) 0 a j) 40 0 = σ 40 0 := by rw [row_at, if_neg (by omega)]
    have st := cpyV_s (σ 40 0) (σ 41 0) 0 a j
    rw [Nat.zero_add] at st
    rw [eX9_keepsIn_2_k41, if_pos (by omega), if_neg (by omega), if_pos (by omega), e1, e2, if_neg (by omega), if_pos (by omega), sup_row, row_same, row_row, r40, Int.toNat_natCast, Int.toNat_natCast, st]
    exact ih (j + 1) (by omega)
theorem s9_keep41 (a : Nat) (ha : a + 107 ≤ 1284) : inv N mX9_keepsIn [vR 30 0, vR 41 0, vI (a : Int)] (P σ) = some (none, P (row σ 41 0 (cpyV (σ 40 0) (σ 41 0) 0 a 107))) := by
  have h := s9_keep41_loop (N := N) (σ := σ) a ha 107 0 rfl
  rw [cpyV_0, row_id] at h
  rw [iX9_keepsIn_k41, eX9_keepsIn_0_k41]
  exact h
theorem s9_lays41_loop (a : Nat) (ha : a + 107 ≤ 1284) : ∀ (m j : Nat), j + m = 107 → ev N mX9_laysFrom 2 [vR 30 0, vR 41 0, vI (a : Int), vI (j : Int)] [] (P (row σ 40 0 (cpyV (σ 41 0) (σ 40 0) a 0 j))) = some (none, P (row σ 40 0 (cpyV (σ 41 0) (σ 40 0) a 0 107))) := by
  intro m
  induction m with
  | zero =>
    intro j hj
    have e : j = 107 := by omega
    subst e
    rw [eX9_laysFrom_2_k41, if_neg (by omega)]
  | succ m ih =>
    intro j hj
    have e1 : w32 ((a : Int) + (j : Int)) = ((a + j : Nat) : Int) := by rw [w32i (by omega) (by omega)]; omega
    have e2 : w32 ((j : Int) + 1) = ((j + 1 : Nat) : Int) := by rw [w32i (by omega) (by omega)]; omega
    have r40 : row σ 40 0 (cpyV (σ 41 0) (σ 40 0) a 0 j) 41 0 = σ 41 0 := by rw [row_at, if_neg (by omega)]
    have st := cpyV_s (σ 41 0) (σ 40 0) a 0 j
    rw [Nat.zero_add] at st
    rw [eX9_laysFrom_2_k41, if_pos (by omega), e1, e2, if_neg (by omega), if_pos (by omega), if_neg (by omega), if_pos (by omega), sup_row, row_same, row_row, r40, Int.toNat_natCast, Int.toNat_natCast, st]
    exact ih (j + 1) (by omega)
theorem s9_lays41 (a : Nat) (ha : a + 107 ≤ 1284) : inv N mX9_laysFrom [vR 30 0, vR 41 0, vI (a : Int)] (P σ) = some (none, P (row σ 40 0 (cpyV (σ 41 0) (σ 40 0) a 0 107))) := by
  have h := s9_lays41_loop (N := N) (σ := σ) a ha 107 0 rfl
  rw [cpyV_0, row_id] at h
  rw [iX9_laysFrom_k41, eX9_laysFrom_0_k41]
  exact h
theorem s9_keep42_loop (a : Nat) (ha : a + 107 ≤ 321) : ∀ (m j : Nat), j + m = 107 → ev N mX9_keepsIn 2 [vR 30 0, vR 42 0, vI (a : Int), vI (j : Int)] [] (P (row σ 42 0 (cpyV (σ 40 0) (σ 42 0) 0 a j))) = some (none, P (row σ 42 0 (cpyV (σ 40 0) (σ 42 0) 0 a 107))) := by
  intro m
  induction m with
  | zero =>
    intro j hj
    have e : j = 107 := by omega
    subst e
    rw [eX9_keepsIn_2_k42, if_neg (by omega)]
  | succ m ih =>
    intro j hj
    have e1 : w32 ((a : Int) + (j : Int)) = ((a + j : Nat) : Int) := by rw [w32i (by omega) (by omega)]; omega
    have e2 : w32 ((j : Int) + 1) = ((j + 1 : Nat) : Int) := by rw [w32i (by omega) (by omega)]; omega
    have r40 : row σ 42 0 (cpyV (σ 40 0) (σ 42 0) 0 a j) 40 0 = σ 40 0 := by rw [row_at, if_neg (by omega)]
    have st := cpyV_s (σ 40 0) (σ 42 0) 0 a j
    rw [Nat.zero_add] at st
    rw [eX9_keepsIn_2_k42, if_pos (by omega), if_neg (by omega), if_pos (by omega), e1, e2, if_neg (by omega), if_pos (by omega), sup_row, row_same, row_row, r40, Int.toNat_natCast, Int.toNat_natCast, st]
    exact ih (j + 1) (by omega)
theorem s9_keep42 (a : Nat) (ha : a + 107 ≤ 321) : inv N mX9_keepsIn [vR 30 0, vR 42 0, vI (a : Int)] (P σ) = some (none, P (row σ 42 0 (cpyV (σ 40 0) (σ 42 0) 0 a 107))) := by
  have h := s9_keep42_loop (N := N) (σ := σ) a ha 107 0 rfl
  rw [cpyV_0, row_id] at h
  rw [iX9_keepsIn_k42, eX9_keepsIn_0_k42]
  exact h
theorem s9_lays42_loop (a : Nat) (ha : a + 107 ≤ 321) : ∀ (m j : Nat), j + m = 107 → ev N mX9_laysFrom 2 [vR 30 0, vR 42 0, vI (a : Int), vI (j : Int)] [] (P (row σ 40 0 (cpyV (σ 42 0) (σ 40 0) a 0 j))) = some (none, P (row σ 40 0 (cpyV (σ 42 0) (σ 40 0) a 0 107))) := by
  intro m
  induction m with
  | zero =>
    intro j hj
    have e : j = 107 := by omega
    subst e
    rw [eX9_laysFrom_2_k42, if_neg (by omega)]
  | succ m ih =>
    intro j hj
    have e1 : w32 ((a : Int) + (j : Int)) = ((a + j : Nat) : Int) := by rw [w32i (by omega) (by omega)]; omega
    have e2 : w32 ((j : Int) + 1) = ((j + 1 : Nat) : Int) := by rw [w32i (by omega) (by omega)]; omega
    have r40 : row σ 40 0 (cpyV (σ 42 0) (σ 40 0) a 0 j) 42 0 = σ 42 0 := by rw [row_at, if_neg (by omega)]
    have st := cpyV_s (σ 42 0) (σ 40 0) a 0 j
    rw [Nat.zero_add] at st
    rw [eX9_laysFrom_2_k42, if_pos (by omega), e1, e2, if_neg (by omega), if_pos (by omega), if_neg (by omega), if_pos (by omega), sup_row, row_same, row_row, r40, Int.toNat_natCast, Int.toNat_natCast, st]
    exact ih (j + 1) (by omega)
theorem s9_lays42 (a : Nat) (ha : a + 107 ≤ 321) : inv N mX9_laysFrom [vR 30 0, vR 42 0, vI (a : Int)] (P σ) = some (none, P (row σ 40 0 (cpyV (σ 42 0) (σ 40 0) a 0 107))) := by
  have h := s9_lays42_loop (N := N) (σ := σ) a ha 107 0 rfl
  rw [cpyV_0, row_id] at h
  rw [iX9_laysFrom_k42, eX9_laysFrom_0_k42]
  exact h
theorem s9_keep48_loop (a : Nat) (ha : a + 107 ≤ 32100) : ∀ (m j : Nat), j + m = 107 → ev N mX9_keepsIn 2 [vR 30 0, vR 48 0, vI (a : Int), vI (j : Int)] [] (P (row σ 48 0 (cpyV (σ 40 0) (σ 48 0) 0 a j))) = some (none, P (row σ 48 0 (cpyV (σ 40 0) (σ 48 0) 0 a 107))) := by
  intro m
  induction m with
  | zero =>
    intro j hj
    have e : j = 107 := by omega
    subst e
    rw [eX9_keepsIn_2_k48, if_neg (by omega)]
  | succ m ih =>
    intro j hj
    have e1 : w32 ((a : Int) + (j : Int)) = ((a + j : Nat) : Int) := by rw [w32i (by omega) (by omega)]; omega
    have e2 : w32 ((j : Int) + 1) = ((j + 1 : Nat) : Int) := by rw [w32i (by omega) (by omega)]; omega
    have r40 : row σ 48 0 (cpyV (σ 40 0) (σ 48 0) 0 a j) 40 0 = σ 40 0 := by rw [row_at, if_neg (by omega)]
    have st := cpyV_s (σ 40 0) (σ 48 0) 0 a j
    rw [Nat.zero_add] at st
    rw [eX9_keepsIn_2_k48, if_pos (by omega), if_neg (by omega), if_pos (by omega), e1, e2, if_neg (by omega), if_pos (by omega), sup_row, row_same, row_row, r40, Int.toNat_natCast, Int.toNat_natCast, st]
    exact ih (j + 1) (by omega)
theorem s9_keep48 (a : Nat) (ha : a + 107 ≤ 32100) : inv N mX9_keepsIn [vR 30 0, vR 48 0, vI (a : Int)] (P σ) = some (none, P (row σ 48 0 (cpyV (σ 40 0) (σ 48 0) 0 a 107))) := by
  have h := s9_keep48_loop (N := N) (σ := σ) a ha 107 0 rfl
  rw [cpyV_0, row_id] at h
  rw [iX9_keepsIn_k48, eX9_keepsIn_0_k48]
  exact h
theorem s9_lays48_loop (a : Nat) (ha : a + 107 ≤ 32100) : ∀ (m j : Nat), j + m = 107 → ev N mX9_laysFrom 2 [vR 30 0, vR 48 0, vI (a : Int), vI (j : Int)] [] (P (row σ 40 0 (cpyV (σ 48 0) (σ 40 0) a 0 j))) = some (none, P (row σ 40 0 (cpyV (σ 48 0) (σ 40 0) a 0 107))) := by
  intro m
  induction m with
  | zero =>
    intro j hj
    have e : j = 107 := by omega
    subst e
    rw [eX9_laysFrom_2_k48, if_neg (by omega)]
  | succ m ih =>
    intro j hj
    have e1 : w32 ((a : Int) + (j : Int)) = ((a + j : Nat) : Int) := by rw [w32i (by omega) (by omega)]; omega
    have e2 : w32 ((j : Int) + 1) = ((j + 1 : Nat) : Int) := by rw [w32i (by omega) (by omega)]; omega
    have r40 : row σ 40 0 (cpyV (σ 48 0) (σ 40 0) a 0 j) 48 0 = σ 48 0 := by rw [row_at, if_neg (by omega)]
    have st := cpyV_s (σ 48 0) (σ 40 0) a 0 j
    rw [Nat.zero_add] at st
    rw [eX9_laysFrom_2_k48, if_pos (by omega), e1, e2, if_neg (by omega), if_pos (by omega), if_neg (by omega), if_pos (by omega), sup_row, row_same, row_row, r40, Int.toNat_natCast, Int.toNat_natCast, st]
    exact ih (j + 1) (by omega)
theorem s9_lays48 (a : Nat) (ha : a + 107 ≤ 32100) : inv N mX9_laysFrom [vR 30 0, vR 48 0, vI (a : Int)] (P σ) = some (none, P (row σ 40 0 (cpyV (σ 48 0) (σ 40 0) a 0 107))) := by
  have h := s9_lays48_loop (N := N) (σ := σ) a ha 107 0 rfl
  rw [cpyV_0, row_id] at h
  rw [iX9_laysFrom_k48, eX9_laysFrom_0_k48]
  exact h
/-- the row of the past is shifted -/
theorem s9_shift_loop : ∀ (m j : Nat), j + m = 1284 → 107 ≤ j → ev N mX9_remembers 6 [vR 30 0, vI (j : Int)] [] (P (row σ 41 0 (cpyV (σ 41 0) (σ 41 0) 107 0 (j - 107)))) = ev N mX9_remembers 6 [vR 30 0, vI 1284] [] (P (row σ 41 0 (cpyV (σ 41 0) (σ 41 0) 107 0 1177))) := by
  intro m
  induction m with
  | zero =>
    intro j hj h2
    have e : j = 1284 := by omega
    subst e
    rfl
  | succ m ih =>
    intro j hj h2
    have e1 : w32 ((j : Int) - 107) = ((j - 107 : Nat) : Int) := by rw [w32i (by omega) (by omega)]; omega
    have e2 : w32 ((j : Int) + 1) = ((j + 1 : Nat) : Int) := by rw [w32i (by omega) (by omega)]; omega
    have st := cpyV_s (σ 41 0) (σ 41 0) 107 0 (j - 107)
    have o : cpyV (σ 41 0) (σ 41 0) 107 0 (j - 107) j = σ 41 0 (107 + (j - 107)) := by rw [cpyV_out _ _ _ _ _ _ (by omega), show 107 + (j - 107) = j by omega]
    rw [Nat.zero_add, show j - 107 + 1 = j + 1 - 107 by omega] at st
    rw [eX9_remembers_6, if_pos (by omega), if_neg (by omega), if_pos (by omega), e1, e2, if_neg (by omega), if_pos (by omega), sup_row, row_same, row_row, Int.toNat_natCast, Int.toNat_natCast, o, st]
    exact ih (j + 1) (by omega) (by omega)
end MOD
end
section
/-! THE PAST -/
/-- cells of both, alike and good -/
def CELL (L : Int) (c n : Vec) : Prop := OKC c ∧ RZ c n ∧ c 82 ≤ L
theorem OKC_107 {c c2 : Vec} (h : OKC c) (h1 : ∀ j, j < 107 → c2 j = c j) : OKC c2 := by
  obtain ⟨a, b, d, e, f⟩ := h
  refine ⟨fun j hj => ?_, fun j hj hj2 => ?_, ?_, ?_, ?_⟩
  · rw [h1 j (by omega)]
    exact a j hj
  · rw [h1 j (by omega)]
    exact b j hj hj2
  · rw [h1 76 (by omega)]
    exact d
  · rw [h1 77 (by omega)]
    exact e
  · rw [h1 78 (by omega)]
    exact f
theorem RS_107 {c n c2 n2 : Vec} (h : RS c n) (h1 : ∀ j, j < 107 → c2 j = c j) (h2 : ∀ j, j < 107 → n2 j = n j) : RS c2 n2 := by
  obtain ⟨a, b, d⟩ := h
  unfold RS
  rw [h1 82 (by omega), h2 82 (by omega)]
  refine ⟨a, b, fun k hk hk2 => ?_⟩
  rw [h2 _ (by omega), h2 _ (by omega), h1 _ (by omega), h1 _ (by omega)]
  exact d k hk hk2
theorem RZ_107 {c n c2 n2 : Vec} (h : RZ c n) (h1 : ∀ j, j < 107 → c2 j = c j) (h2 : ∀ j, j < 107 → n2 j = n j) : RZ c2 n2 := by
  obtain ⟨⟨a, b, d, e, f⟩, g⟩ := h
  refine ⟨⟨fun j hj => ?_, ?_, ?_, ?_, RS_107 f h1 h2⟩, ?_⟩
  · rw [h1 j (by omega), h2 j (by omega), a j hj]
  · rw [h1 79 (by omega), h2 80 (by omega), b]
  · rw [h1 80 (by omega), h2 79 (by omega), d]
  · rw [h1 81 (by omega), h2 81 (by omega), e]
  · rw [h1 78 (by omega), h2 78 (by omega), g]
theorem CELL_107 {L : Int} {c n c2 n2 : Vec} (h : CELL L c n) (h1 : ∀ j, j < 107 → c2 j = c j) (h2 : ∀ j, j < 107 → n2 j = n j) : CELL L c2 n2 :=
  ⟨OKC_107 h.1 h1, RZ_107 h.2.1 h1 h2, by rw [h1 82 (by omega)]; exact h.2.2⟩
theorem CELL_le {L M : Int} {c n : Vec} (h : CELL L c n) (hl : L ≤ M) : CELL M c n := ⟨h.1, h.2.1, Int.le_trans h.2.2 hl⟩
def PAST (L : Int) (r : Vec) (t d : Int) (m : Vec) (p : Int) : Prop := (0 ≤ t ∧ t < 12) ∧ (0 ≤ d ∧ d ≤ 12) ∧ p = d ∧ ∀ k : Nat, (k : Int) < d → CELL L (seg r (107 * ((t + 11 - k) % 12).toNat)) (seg m (107 * (d - 1 - k).toNat))
theorem PAST_le {L M : Int} {r m : Vec} {t d p : Int} (h : PAST L r t d m p) (hl : L ≤ M) : PAST M r t d m p := ⟨h.1, h.2.1, h.2.2.1, fun k hk => CELL_le (h.2.2.2 k hk) hl⟩
theorem PAST_0 (L : Int) (r m : Vec) (t : Int) (ht : 0 ≤ t ∧ t < 12) : PAST L r t 0 m 0 := ⟨ht, by omega, rfl, fun k hk => absurd hk (by omega)⟩
/-- the model's row and its number behind REMEMBERS -/
def remV (n m : Vec) (p : Int) : Vec := if p = 12 then cpyV n (cpyV m m 107 0 1177) 0 1177 107 else cpyV n m 0 (107 * p.toNat) 107
def remP (p : Int) : Int := if p = 12 then 12 else p + 1
theorem PAST_keep {L : Int} {r m c n : Vec} {t d p : Int} (h : PAST L r t d m p) (hc : CELL L c n) : PAST L (cpyV c r 0 (107 * t.toNat) 107) ((t + 1) % 12) (min (d + 1) 12) (remV n m p) (remP p) := by
  obtain ⟨ht, hd, hp, hk⟩ := h
  subst hp
  unfold remP
  refine ⟨by omega, by omega, by split <;> omega, fun k hk2 => ?_⟩
  by_cases k0 : k = 0
  · subst k0
    have i1 : (((t + 1) % 12 + 11 - ((0 : Nat) : Int)) % 12).toNat = t.toNat := by omega
    rw [i1]
    refine CELL_107 hc (fun j hj => ?_) (fun j hj => ?_)
    · unfold seg
      rw [cpyV_in _ _ _ _ _ _ hj, Nat.zero_add]
    · unfold seg remV
      by_cases q : p = 12
      · rw [if_pos q, show 107 * (min (p + 1) 12 - 1 - ((0 : Nat) : Int)).toNat = 1177 by omega, cpyV_in _ _ _ _ _ _ hj, Nat.zero_add]
      · rw [if_neg q, show (min (p + 1) 12 - 1 - ((0 : Nat) : Int)).toNat = p.toNat by omega, cpyV_in _ _ _ _ _ _ hj, Nat.zero_add]
  · have old := hk (k - 1) (by omega)
    have i1 : (((t + 1) % 12 + 11 - (k : Int)) % 12).toNat = ((t + 11 - ((k - 1 : Nat) : Int)) % 12).toNat := by omega
    have i2 : ((t + 11 - ((k - 1 : Nat) : Int)) % 12).toNat ≠ t.toNat := by omega
    rw [i1]
    generalize ((t + 11 - ((k - 1 : Nat) : Int)) % 12).toNat = i at i2 old ⊢
    refine CELL_107 old (fun j hj => ?_) (fun j hj => ?_)
    · unfold seg
      exact cpyV_out _ _ _ _ _ _ (by omega)
    · unfold seg remV
      by_cases q : p = 12
      · rw [if_pos q, cpyV_out _ _ _ _ _ _ (by omega)]
        have e1 : 107 * (min (p + 1) 12 - 1 - (k : Int)).toNat + j = 0 + (107 * (min (p + 1) 12 - 1 - (k : Int)).toNat + j) := by omega
        rw [e1, cpyV_in _ _ _ _ _ _ (by omega), show 107 + (107 * (min (p + 1) 12 - 1 - (k : Int)).toNat + j) = 107 * (p - 1 - ((k - 1 : Nat) : Int)).toNat + j by omega]
      · rw [if_neg q, cpyV_out _ _ _ _ _ _ (by omega), show (min (p + 1) 12 - 1 - (k : Int)).toNat = (p - 1 - ((k - 1 : Nat) : Int)).toNat by omega]
theorem PAST_back {L : Int} {r m : Vec} {t d p : Int} (h : PAST L r t d m p) (hd0 : ¬ d = 0) (c n : Vec) : PAST L r ((t + 11) % 12) (d - 1) m (p - 1) ∧ CELL L (cpyV r c (107 * ((t + 11) % 12).toNat) 0 107) (cpyV m n (107 * (p - 1).toNat) 0 107) := by
  obtain ⟨ht, hd, hp, hk⟩ := h
  subst hp
  refine ⟨⟨by omega, by omega, rfl, fun k hk2 => ?_⟩, ?_⟩
  · have old := hk (k + 1) (by omega)
    rw [show (((t + 11) % 12 + 11 - (k : Int)) % 12).toNat = ((t + 11 - ((k + 1 : Nat) : Int)) % 12).toNat by omega, show (p - 1 - 1 - (k : Int)).toNat = (p - 1 - ((k + 1 : Nat) : Int)).toNat by omega]
    exact old
  · have old := hk 0 (by omega)
    rw [show ((t + 11 - ((0 : Nat) : Int)) % 12).toNat = ((t + 11) % 12).toNat by omega, show (p - 1 - ((0 : Nat) : Int)).toNat = (p - 1).toNat by omega] at old
    refine CELL_107 old (fun j hj => ?_) (fun j hj => ?_)
    · have := cpyV_in r c (107 * ((t + 11) % 12).toNat) 0 107 j hj
      rw [Nat.zero_add] at this
      exact this
    · have := cpyV_in m n (107 * (p - 1).toNat) 0 107 j hj
      rw [Nat.zero_add] at this
      exact this
section CLS
variable {N : Nat} {σ : Sto}
theorem tmod12 {x : Int} (h0 : 0 ≤ x) : Int.tmod x 12 = x % 12 := Int.tmod_eq_emod_of_nonneg h0
theorem c_keep (t0 : 0 ≤ σ 9 0 2) (t1 : σ 9 0 2 < 12) (d0 : 0 ≤ σ 9 0 3) (d1 : σ 9 0 3 ≤ 12) : inv N mX3_keep [vR 9 0] (P σ) = some (none, P (row (row σ 10 0 (cpyV (σ 7 0) (σ 10 0) 0 (107 * (σ 9 0 2).toNat) 107)) 9 0 (set (set (σ 9 0) 2 ((σ 9 0 2 + 1) % 12)) 3 (min (σ 9 0 3 + 1) 12)))) := by
  have e1 : w32 (σ 9 0 2 * 107) = ((107 * (σ 9 0 2).toNat : Nat) : Int) := by rw [w32i (by omega) (by omega)]; omega
  have e2 : w32 (σ 9 0 2 + 1) = σ 9 0 2 + 1 := w32i (by omega) (by omega)
  have e3 : w32 (σ 9 0 3 + 1) = σ 9 0 3 + 1 := w32i (by omega) (by omega)
  have e4 : Int.tmod (σ 9 0 2 + 1) 12 = (σ 9 0 2 + 1) % 12 := tmod12 (by omega)
  have w1 : w32 (107 - 107) = 0 := rfl
  have w2 : w32 (1284 - 107) = 1177 := rfl
  have b : 107 * (σ 9 0 2).toNat ≤ 1177 := by omega
  generalize 107 * (σ 9 0 2).toNat = a at e1 b ⊢
  have r9 : ∀ g, row σ 10 0 g 9 0 = σ 9 0 := fun g => by rw [row_at, if_neg (by omega)]
  clear t0 t1 d0 d1
  rw [iX3_keep, eX3_keep_0, e1]
  generalize hs : σ 9 0 2 = t at e1 e2 e4
  rw [iX2_saveTo, eX2_saveTo_0, iX6_copy_k7_k10, eX6_copy_0_k7_k10, w1, w2]
  rw [if_neg (by omega), if_neg (by omega), if_neg (by omega), if_neg (by omega), if_neg (by omega), if_neg (by omega), if_neg (by omega), if_neg (by omega), if_neg (by omega), if_neg (by omega), bnd_s, push_n, eX2_saveTo_7, bnd_s, push_n, eX3_keep_9]
  simp only [Int.reduceToNat, Int.toNat_natCast, cpy_row, sup_row, row_same, row_row, r9, hs, e2, e4]
  rw [set_ne _ _ (show 3 ≠ 2 by decide), e3]
theorem c_back (t0 : 0 ≤ σ 9 0 2) (t1 : σ 9 0 2 < 12) (d0 : 0 < σ 9 0 3) (d1 : σ 9 0 3 ≤ 12) : inv N mX3_bringBack [vR 9 0] (P σ) = some (some (vI (σ 9 0 3 - 1)), P (row (row σ 9 0 (set (set (σ 9 0) 2 ((σ 9 0 2 + 11) % 12)) 3 (σ 9 0 3 - 1))) 7 0 (cpyV (σ 10 0) (σ 7 0) (107 * ((σ 9 0 2 + 11) % 12).toNat) 0 107))) := by
  have e2 : w32 (w32 (σ 9 0 2 + 12) - 1) = σ 9 0 2 + 11 := by rw [w32i (x := σ 9 0 2 + 12) (by omega) (by omega), w32i (by omega) (by omega)]; omega
  have e3 : w32 (σ 9 0 3 - 1) = σ 9 0 3 - 1 := w32i (by omega) (by omega)
  have e4 : Int.tmod (σ 9 0 2 + 11) 12 = (σ 9 0 2 + 11) % 12 := tmod12 (by omega)
  have e1 : w32 ((σ 9 0 2 + 11) % 12 * 107) = ((107 * ((σ 9 0 2 + 11) % 12).toNat : Nat) : Int) := by rw [w32i (by omega) (by omega)]; omega
  have w1 : w32 (107 - 107) = 0 := rfl
  have w2 : w32 (1284 - 107) = 1177 := rfl
  have b : 107 * ((σ 9 0 2 + 11) % 12).toNat ≤ 1177 := by omega
  have n0 : ¬ σ 9 0 3 = 0 := by omega
  clear t0 t1 d0 d1
  have r10 : ∀ g, row σ 9 0 g 10 0 = σ 10 0 := fun g => by rw [row_at, if_neg (by omega)]
  have r7 : ∀ g, row σ 9 0 g 7 0 = σ 7 0 := fun g => by rw [row_at, if_neg (by omega)]
  have r9 : ∀ (g h : Vec), row (row σ 9 0 g) 7 0 h 9 0 = g := fun g h => by rw [row_at, if_neg (by omega), row_same]
  rw [iX3_bringBack, eX3_bringBack_0, if_neg n0]
  simp only [sup_row, row_same, row_row, e2, e4]
  rw [set_ne _ _ (show 2 ≠ 3 by decide), set_same, set_ne _ _ (show 3 ≠ 2 by decide), e3, e1]
  generalize 107 * ((σ 9 0 2 + 11) % 12).toNat = a at b ⊢
  rw [iX2_loadFrom, eX2_loadFrom_0, iX6_copy_k10_k7, eX6_copy_0_k10_k7, w1, w2]
  rw [if_neg (by omega), if_neg (by omega), if_neg (by omega), if_neg (by omega), if_neg (by omega), if_neg (by omega), if_neg (by omega), if_neg (by omega), if_neg (by omega), if_neg (by omega), bnd_s, push_n, eX2_loadFrom_7, bnd_s, push_n, eX3_bringBack_30]
  simp only [Int.reduceToNat, Int.toNat_natCast, cpy_row, r10, r7, r9]
  rw [set_same]
theorem c_back0 (d0 : σ 9 0 3 = 0) : inv N mX3_bringBack [vR 9 0] (P σ) = some (some (vI (-1)), P σ) := by
  rw [iX3_bringBack, eX3_bringBack_0, if_pos d0]
theorem m_remembers (p0 : 0 ≤ σ 30 0 21) (p1 : σ 30 0 21 ≤ 12) : inv N mX9_remembers [vR 30 0] (P σ) = some (none, P (row (row σ 41 0 (remV (σ 40 0) (σ 41 0) (σ 30 0 21))) 30 0 (set (σ 30 0) 21 (remP (σ 30 0 21))))) := by
  have r30 : ∀ g, row σ 41 0 g 30 0 = σ 30 0 := fun g => by rw [row_at, if_neg (by omega)]
  have r40 : ∀ g, row σ 41 0 g 40 0 = σ 40 0 := fun g => by rw [row_at, if_neg (by omega)]
  rw [iX9_remembers, eX9_remembers_0]
  unfold remV remP
  by_cases q : σ 30 0 21 = 12
  · have lp := s9_shift_loop (N := N) (σ := σ) 1177 107 rfl (by omega)
    rw [show 107 - 107 = 0 from rfl, cpyV_0, row_id, Int.cast_ofNat_Int] at lp
    rw [if_pos q, if_pos q, if_pos q, lp, eX9_remembers_6, if_neg (by omega), sup_row, r30, row_same, set_same, q]
    have e : w32 (107 * w32 (12 - 1)) = ((1177 : Nat) : Int) := rfl
    have k := s9_keep41 (N := N) (σ := row (row σ 41 0 (cpyV (σ 41 0) (σ 41 0) 107 0 1177)) 30 0 (set (σ 30 0) 21 (w32 (12 - 1)))) 1177 (by omega)
    rw [e, k, bnd_s, push_n, eX9_remembers_35]
    have c1 : ∀ g h : Vec, row (row σ 41 0 g) 30 0 h 40 0 = σ 40 0 := fun g h => by rw [row_at, if_neg (by omega), row_at, if_neg (by omega)]
    have c2 : ∀ g h : Vec, row (row σ 41 0 g) 30 0 h 41 0 = g := fun g h => by rw [row_at, if_neg (by omega), row_same]
    have c3 : ∀ g h f : Vec, row (row (row σ 41 0 g) 30 0 h) 41 0 f 30 0 = h := fun g h f => by rw [row_at, if_neg (by omega), row_same]
    simp only [c1, c2, sup_row, c3, set_same, set_set]
    rw [row_comm (row σ 41 0 _) 30 0 41 0 _ _ (by omega), row_row, row_row]
    rfl
  · have e : w32 (107 * σ 30 0 21) = ((107 * (σ 30 0 21).toNat : Nat) : Int) := by rw [w32i (by omega) (by omega)]; omega
    have b : 107 * (σ 30 0 21).toNat + 107 ≤ 1284 := by omega
    have e2 : w32 (σ 30 0 21 + 1) = σ 30 0 21 + 1 := w32i (by omega) (by omega)
    rw [if_neg q, if_neg q, if_neg q, e, s9_keep41 _ b, bnd_s, push_n, eX9_remembers_35, sup_row, r30, e2]
theorem m_undo (p0 : 0 < σ 30 0 21) (p1 : σ 30 0 21 ≤ 12) : inv N mX9_undo [vR 30 0] (P σ) = some (some (vI (σ 30 0 21 - 1)), P (row (row σ 30 0 (set (σ 30 0) 21 (σ 30 0 21 - 1))) 40 0 (cpyV (σ 41 0) (σ 40 0) (107 * (σ 30 0 21 - 1).toNat) 0 107))) := by
  have e1 : w32 (σ 30 0 21 - 1) = σ 30 0 21 - 1 := w32i (by omega) (by omega)
  have e : w32 (107 * (σ 30 0 21 - 1)) = ((107 * (σ 30 0 21 - 1).toNat : Nat) : Int) := by rw [w32i (by omega) (by omega)]; omega
  have b : 107 * (σ 30 0 21 - 1).toNat + 107 ≤ 1284 := by omega
  have n0 : ¬ σ 30 0 21 = 0 := by omega
  have c1 : ∀ g : Vec, row σ 30 0 g 40 0 = σ 40 0 := fun g => by rw [row_at, if_neg (by omega)]
  have c2 : ∀ g : Vec, row σ 30 0 g 41 0 = σ 41 0 := fun g => by rw [row_at, if_neg (by omega)]
  have c3 : ∀ g h : Vec, row (row σ 30 0 g) 40 0 h 30 0 = g := fun g h => by rw [row_at, if_neg (by omega), row_same]
  rw [iX9_undo, eX9_undo_0, if_neg n0, e1, sup_row, row_same, set_same, e, s9_lays41 _ b, bnd_s, push_n, eX9_undo_19, c1, c2, c3, set_same]
theorem m_undo0 (p0 : σ 30 0 21 = 0) : inv N mX9_undo [vR 30 0] (P σ) = some (some (vI (-1)), P σ) := by
  rw [iX9_undo, eX9_undo_0, if_pos p0]
end CLS
end
section
/-! WHAT HOLDS BETWEEN CALLS -/
def TAPE (σ : Sto) : Prop := 0 ≤ σ 0 0 1 ∧ σ 0 0 1 ≤ 300 ∧ σ 30 0 1 = σ 0 0 1 ∧ ∀ j, j < 300 → 0 ≤ σ 1 0 j ∧ σ 1 0 j < 256 ∧ -128 ≤ σ 31 0 j ∧ σ 31 0 j < 128 ∧ σ 31 0 j % 256 = σ 1 0 j
def DRAWN (σ : Sto) : Prop := σ 0 0 10 = σ 30 0 35 ∧ 0 ≤ σ 30 0 35 ∧ σ 30 0 35 < 2147483648
def DRAFT (σ : Sto) : Prop := (∀ k, k < 6 → 0 ≤ σ 3 0 k ∧ σ 3 0 k < 10000) ∧ (∀ k, k < 84 → 0 ≤ σ 5 0 k ∧ σ 5 0 k < 100000)
def BASE (σ : Sto) : Prop := OKG σ 1 ∧ EnvM σ σ ∧ TAPE σ ∧ DRAWN σ ∧ DRAFT σ
def INV (L : Int) (σ : Sto) : Prop := BASE σ ∧ CELL L (σ 7 0) (σ 40 0) ∧ PAST L (σ 10 0) (σ 9 0 2) (σ 9 0 3) (σ 41 0) (σ 30 0 21)
/-- what deeds and trials leave as it is -/
def FX (σ τ : Sto) : Prop := (∀ k k', k ≤ 5 ∨ (31 ≤ k ∧ k ≤ 39) → τ k k' = σ k k') ∧ τ 30 0 1 = σ 30 0 1 ∧ τ 30 0 5 = σ 30 0 5 ∧ τ 30 0 6 = σ 30 0 6 ∧ τ 30 0 35 = σ 30 0 35
theorem FX_refl (σ : Sto) : FX σ σ := ⟨fun _ _ _ => rfl, rfl, rfl, rfl, rfl⟩
theorem FX_trans {σ τ υ : Sto} (h : FX σ τ) (g : FX τ υ) : FX σ υ := ⟨fun k k' q => (g.1 k k' q).trans (h.1 k k' q), g.2.1.trans h.2.1, g.2.2.1.trans h.2.2.1, g.2.2.2.1.trans h.2.2.2.1, g.2.2.2.2.trans h.2.2.2.2⟩
theorem FX_KM {σ τ : Sto} (h : KM σ τ) : FX σ τ := ⟨fun k k' q => h.1 k k' (by omega), h.2 1 (by decide) (by decide) (by decide), h.2 5 (by decide) (by decide) (by decide), h.2 6 (by decide) (by decide) (by decide), h.2 35 (by decide) (by decide) (by decide)⟩
theorem FX_row (σ : Sto) (k i : Nat) (f : Vec) (h1 : 5 < k) (h2 : k < 31 ∨ 39 < k) (h3 : k ≠ 30) : FX σ (row σ k i f) := by
  have e : row σ k i f 30 0 = σ 30 0 := by rw [row_at, if_neg (by omega)]
  refine ⟨fun k1 k' q => ?_, by rw [e], by rw [e], by rw [e], by rw [e]⟩
  rw [row_at, if_neg (by omega)]
theorem FX_30 (σ : Sto) (f : Vec) (h1 : f 1 = σ 30 0 1) (h5 : f 5 = σ 30 0 5) (h6 : f 6 = σ 30 0 6) (h35 : f 35 = σ 30 0 35) : FX σ (row σ 30 0 f) := by
  refine ⟨fun k1 k' q => ?_, by rw [row_same]; exact h1, by rw [row_same]; exact h5, by rw [row_same]; exact h6, by rw [row_same]; exact h35⟩
  rw [row_at, if_neg (by omega)]
theorem FX_put (σ : Sto) (i : Nat) (x : XP) : FX σ (putC σ i x) := FX_trans (FX_row σ 7 i x.1 (by omega) (by omega) (by omega)) (FX_row _ 6 i x.2 (by omega) (by omega) (by omega))
theorem OKG_FX {σ τ : Sto} (h : FX σ τ) (g : OKG σ 1) : OKG τ 1 := by
  unfold OKG at g ⊢
  rw [h.1 2 1 (by omega), h.1 3 1 (by omega), h.1 4 1 (by omega), h.1 5 1 (by omega)]
  exact g
theorem EnvM_FX {σ τ υ : Sto} (h : FX σ τ) (h2 : FX σ υ) (g : EnvM σ σ) : EnvM υ τ := by
  unfold EnvM OKM whyM whyS at g ⊢
  rw [h.1 32 0 (by omega), h.1 33 0 (by omega), h.1 36 0 (by omega), h.1 38 0 (by omega), h.2.2.1, h.2.2.2.1, h2.1 2 1 (by omega), h2.1 3 1 (by omega), h2.1 4 1 (by omega), h2.1 5 1 (by omega)]
  exact g
theorem BASE_FX {σ τ : Sto} (h : FX σ τ) (g : BASE σ) : BASE τ := by
  refine ⟨OKG_FX h g.1, EnvM_FX h h g.2.1, ?_, ?_, ?_⟩
  · have t := g.2.2.1
    unfold TAPE at t ⊢
    rw [h.1 0 0 (by omega), h.1 1 0 (by omega), h.1 31 0 (by omega), h.2.1]
    exact t
  · have t := g.2.2.2.1
    unfold DRAWN at t ⊢
    rw [h.1 0 0 (by omega), h.2.2.2.2]
    exact t
  · have t := g.2.2.2.2
    unfold DRAFT at t ⊢
    rw [h.1 3 0 (by omega), h.1 5 0 (by omega)]
    exact t
/-- what questions leave as it is -/
def QX (σ τ : Sto) : Prop := FX σ τ ∧ τ 7 0 = σ 7 0 ∧ (∀ j, j < 107 → τ 40 0 j = σ 40 0 j) ∧ τ 9 0 = σ 9 0 ∧ τ 10 0 = σ 10 0 ∧ τ 41 0 = σ 41 0 ∧ τ 30 0 21 = σ 30 0 21
theorem QX_refl (σ : Sto) : QX σ σ := ⟨FX_refl σ, rfl, fun _ _ => rfl, rfl, rfl, rfl, rfl⟩
theorem QX_trans {σ τ υ : Sto} (h : QX σ τ) (g : QX τ υ) : QX σ υ := ⟨FX_trans h.1 g.1, g.2.1.trans h.2.1, fun j hj => (g.2.2.1 j hj).trans (h.2.2.1 j hj), g.2.2.2.1.trans h.2.2.2.1, g.2.2.2.2.1.trans h.2.2.2.2.1, g.2.2.2.2.2.1.trans h.2.2.2.2.2.1, g.2.2.2.2.2.2.trans h.2.2.2.2.2.2⟩
theorem INV_QX {L : Int} {σ τ : Sto} (h : QX σ τ) (g : INV L σ) : INV L τ := by
  obtain ⟨q1, q2, q3, q4, q5, q6, q7⟩ := h
  refine ⟨BASE_FX q1 g.1, ?_, ?_⟩
  · rw [q2]
    exact CELL_107 g.2.1 (fun _ _ => rfl) q3
  · rw [q4, q5, q6, q7]
    exact g.2.2
theorem INV_le {L M : Int} {σ : Sto} (h : INV L σ) (hl : L ≤ M) : INV M σ := ⟨h.1, CELL_le h.2.1 hl, PAST_le h.2.2 hl⟩
theorem ableF_eq {im : Int} {w w2 c n : Vec} (h78 : c 78 = n 78) (hc : ∀ j, j < 78 → c j = n j) (hw : ∀ j : Nat, (j : Int) < 14 * im → w2 j = w j) (d a b : Int) : ableF im w2 n d a b = ableF im w c d a b := by
  have eo : openF im n = openF im c := by
    unfold openF
    rw [hc 72 (by omega), hc 73 (by omega), hc 74 (by omega), hc 75 (by omega)]
  have e3 : (if a = 0 ∧ 0 ≤ b ∧ b < im ∧ w2 (14 * b.toNat + 1) = 0 then (1 : Int) else 0) = if a = 0 ∧ 0 ≤ b ∧ b < im ∧ w (14 * b.toNat + 1) = 0 then 1 else 0 := by
    by_cases q : 0 ≤ b ∧ b < im
    · rw [hw _ (by omega)]
    · rw [if_neg (fun z => q ⟨z.2.1, z.2.2.1⟩), if_neg (fun z => q ⟨z.2.1, z.2.2.1⟩)]
  unfold ableF
  rw [eo, e3, h78, hc 72 (by omega)]
theorem INV_able {L : Int} {σ : Sto} (h : INV L σ) (d a b : Int) : ableF (σ 30 0 6) (σ 36 0) (σ 40 0) d a b = ableF (σ 2 1 1) (σ 5 1) (σ 7 0) d a b := by
  have e := h.1.2.1
  have z := h.2.1.2.1
  rw [e.2.2.2.1]
  exact ableF_eq z.2 z.1.1 e.2.2.2.2.2.2.2.1 d a b
theorem ableF_b (im : Int) (w c : Vec) (d a b : Int) : ableF im w c d a b = 0 ∨ ableF im w c d a b = 1 := by
  unfold ableF
  repeat (first | (split; first | exact Or.inl rfl | exact Or.inr rfl | skip) | exact Or.inl rfl | exact Or.inr rfl)
end
section
/-! ACTS: what is kept, deeds -/
section ACT
variable {N : Nat} {σ : Sto} {L : Int}
/-- the store behind the class's KEEP -/
def keepS (σ : Sto) : Sto := row (row σ 10 0 (cpyV (σ 7 0) (σ 10 0) 0 (107 * (σ 9 0 2).toNat) 107)) 9 0 (set (set (σ 9 0) 2 ((σ 9 0 2 + 1) % 12)) 3 (min (σ 9 0 3 + 1) 12))
theorem keepS_o (σ : Sto) {k : Nat} (k' : Nat) (h9 : k ≠ 9) (h10 : k ≠ 10) : keepS σ k k' = σ k k' := by
  unfold keepS
  rw [row_at, if_neg (by omega), row_at, if_neg (by omega)]
theorem FX_keep (σ : Sto) : FX σ (keepS σ) := FX_trans (FX_row σ 10 0 _ (by omega) (by omega) (by omega)) (FX_row _ 9 0 _ (by omega) (by omega) (by omega))
theorem a_keep (h : INV L σ) : inv N mX3_keep [vR 9 0] (P σ) = some (none, P (keepS σ)) := by
  obtain ⟨t, d, -⟩ := h.2.2
  exact c_keep t.1 t.2 d.1 d.2
/-- the store behind the model's REMEMBERS -/
def remS (σ : Sto) : Sto := row (row σ 41 0 (remV (σ 40 0) (σ 41 0) (σ 30 0 21))) 30 0 (set (σ 30 0) 21 (remP (σ 30 0 21)))
theorem remS_o (σ : Sto) {k : Nat} (k' : Nat) (h9 : k ≠ 41) (h10 : k ≠ 30) : remS σ k k' = σ k k' := by
  unfold remS
  rw [row_at, if_neg (by omega), row_at, if_neg (by omega)]
theorem remS_30 (σ : Sto) {j : Nat} (h : j ≠ 21) : remS σ 30 0 j = σ 30 0 j := by
  unfold remS
  rw [row_same, set_ne _ _ h]
theorem FX_rem (σ : Sto) : FX σ (remS σ) := by
  refine ⟨fun k k' q => remS_o σ k' (by omega) (by omega), remS_30 σ (by omega), remS_30 σ (by omega), remS_30 σ (by omega), remS_30 σ (by omega)⟩
/-- both have kept: cells and past -/
theorem past_both (h : INV L σ) {τ : Sto} (h41 : τ 41 0 = σ 41 0) (h40 : τ 40 0 = σ 40 0) (h30 : τ 30 0 21 = σ 30 0 21) (h9 : τ 9 0 = keepS σ 9 0) (h10 : τ 10 0 = keepS σ 10 0) : PAST L (remS τ 10 0) (remS τ 9 0 2) (remS τ 9 0 3) (remS τ 41 0) (remS τ 30 0 21) := by
  have p := PAST_keep h.2.2 h.2.1
  have e10 : remS τ 10 0 = cpyV (σ 7 0) (σ 10 0) 0 (107 * (σ 9 0 2).toNat) 107 := by
    rw [remS_o τ 0 (by omega) (by omega), h10]
    unfold keepS
    rw [row_at, if_neg (by omega), row_same]
  have e9 : remS τ 9 0 = set (set (σ 9 0) 2 ((σ 9 0 2 + 1) % 12)) 3 (min (σ 9 0 3 + 1) 12) := by
    rw [remS_o τ 0 (by omega) (by omega), h9]
    unfold keepS
    rw [row_same]
  have e41 : remS τ 41 0 = remV (σ 40 0) (σ 41 0) (σ 30 0 21) := by
    unfold remS
    rw [row_at, if_neg (by omega), row_same, h41, h40, h30]
  have e21 : remS τ 30 0 21 = remP (σ 30 0 21) := by
    unfold remS
    rw [row_same, set_same, h30]
  rw [e10, e9, e41, e21, set_same, set_ne _ _ (show 2 ≠ 3 by decide), set_same]
  exact p
theorem a_rem (h : INV L σ) {τ : Sto} (h30 : τ 30 0 21 = σ 30 0 21) : inv N mX9_remembers [vR 30 0] (P τ) = some (none, P (remS τ)) := by
  obtain ⟨-, d, e, -⟩ := h.2.2
  exact m_remembers (by rw [h30, e]; exact d.1) (by rw [h30, e]; exact d.2)
/-- a deed of both -/
theorem a_act (h : INV L σ) (hL : L < 2147480000) (d a b cut : Int) (c1 : cut < 2147483648) : ∃ ans σ1 σ2, inv N mX8_act [vR 0 0, vI d, vI a, vI b, vI cut] (P σ) = some (some (vI ans), P σ1) ∧ inv N mX9_acts [vR 30 0, vI d, vI a, vI b, vI cut] (P σ1) = some (some (vI ans), P σ2) ∧ INV (L + 1) σ2 := by
  have hl1 : L ≤ L + 1 := by omega
  by_cases hc : cut < -1
  · refine ⟨-1, σ, σ, ?_, ?_, INV_le h hl1⟩
    · rw [iX8_act, eX8_act_0, if_pos hc]
    · rw [iX9_acts, eX9_acts_0, if_pos hc]
  have hc0 : -1 ≤ cut := by omega
  have hcell := h.2.1
  have hg := h.1.1
  have he := h.1.2.1
  have hm : OKC (σ 40 0) := OKC_R hcell.1 hcell.2.1.1.1 (by rw [← hcell.2.1.2]; exact hcell.1.2.2.2.2)
  have hcan := fun (τ : Sto) (h1 : OKM τ) (h2 : OKC (τ 40 0)) => s9_canDo (N := N) (σ := τ) h1 h2 d a b
  have ab := p2_isAble (N := N) (i := 0) (σ := σ) (x := (σ 7 0, σ 6 0)) hg hcell.1 d a b
  rw [putC_id] at ab
  have aeq := INV_able h d a b
  rcases ableF_b (σ 2 1 1) (σ 5 1) (σ 7 0) d a b with q | q
  · refine ⟨-1, σ, σ, ?_, ?_, INV_le h hl1⟩
    · rw [iX8_act, eX8_act_0, if_neg hc, ab, bnd_s, push_s, eX8_act_9, if_pos q]
    · rw [iX9_acts, eX9_acts_0, if_neg hc, hcan σ he.1 hm, bnd_s, push_s, eX9_acts_8, if_pos (aeq.trans q)]
  · have k2 := keepS_o σ (k := 2) 1 (by decide) (by decide)
    have k5 := keepS_o σ (k := 5) 1 (by decide) (by decide)
    have k6 := keepS_o σ (k := 6) 0 (by decide) (by decide)
    have k7 := keepS_o σ (k := 7) 0 (by decide) (by decide)
    have k40 := keepS_o σ (k := 40) 0 (by decide) (by decide)
    have k41 := keepS_o σ (k := 41) 0 (by decide) (by decide)
    have k30 := keepS_o σ (k := 30) 0 (by decide) (by decide)
    have hgk := OKG_FX (FX_keep σ) hg
    have hb0 : 0 ≤ (σ 7 0) 82 := hcell.2.1.1.2.2.2.2.1
    have hb1 : (σ 7 0) 82 < 2147483000 := by
      have := hcell.2.2
      omega
    have hb2 : (σ 7 0) 82 < 2147483647 := by omega
    have hdk : ableF (keepS σ 2 1 1) (keepS σ 5 1) (σ 7 0) d a b = 1 := by rw [k2, k5]; exact q
    have pf := p2_perform (N := N) (i := 0) (σ := keepS σ) (x := (σ 7 0, σ 6 0)) hgk hcell.1 hb0 hb2 d a b cut hdk
    have pok := performC_ok (σ := keepS σ) (x := (σ 7 0, σ 6 0)) hgk hcell.1 d a b cut hdk
    have idk : putC (keepS σ) 0 (σ 7 0, σ 6 0) = keepS σ := by
      have := putC_id (keepS σ) 0
      rw [k6, k7] at this
      exact this
    rw [idk] at pf
    generalize hy : (performC (keepS σ) d a b cut (σ 7 0, σ 6 0)) = y at pf pok
    have r := fun (k k' : Nat) (h6 : k ≠ 6) (h7 : k ≠ 7) => putC_o (keepS σ) 0 y.2 (k := k) k' h6 h7
    have p30 : putC (keepS σ) 0 y.2 30 0 = σ 30 0 := (r 30 0 (by decide) (by decide)).trans k30
    have p40 : putC (keepS σ) 0 y.2 40 0 = σ 40 0 := (r 40 0 (by decide) (by decide)).trans k40
    have p41 : putC (keepS σ) 0 y.2 41 0 = σ 41 0 := (r 41 0 (by decide) (by decide)).trans k41
    have fx1 : FX σ (putC (keepS σ) 0 y.2) := FX_trans (FX_keep σ) (FX_put _ _ _)
    have he1 : EnvM σ (putC (keepS σ) 0 y.2) := EnvM_FX fx1 (FX_refl σ) he
    have hrem := a_rem (N := N) h (τ := putC (keepS σ) 0 y.2) (by rw [p30])
    have fx2 : FX σ (remS (putC (keepS σ) 0 y.2)) := FX_trans fx1 (FX_rem _)
    have he2 : EnvM (keepS σ) (remS (putC (keepS σ) 0 y.2)) := EnvM_FX fx2 (FX_keep σ) he
    have s40 : remS (putC (keepS σ) 0 y.2) 40 0 = σ 40 0 := (remS_o _ 0 (by decide) (by decide)).trans p40
    have hz : RZ (σ 7 0) (remS (putC (keepS σ) 0 y.2) 40 0) := by rw [s40]; exact hcell.2.1
    obtain ⟨τ, t1, t2, t3, t4⟩ := m_does (N := N) (x := (σ 7 0, σ 6 0)) hgk hz hcell.1 he2 hb1 d a b cut hdk hc0 c1
    rw [hy] at t1 t3 t4
    have pb := past_both h (τ := putC (keepS σ) 0 y.2) p41 p40 (by rw [p30]) (r 9 0 (by decide) (by decide)) (r 10 0 (by decide) (by decide))
    have tr := fun (k : Nat) (hk : k ≠ 30 ∧ k ≠ 40 ∧ k ≠ 43 ∧ k ≠ 44 ∧ k ≠ 45) => KM_r t2 k hk 0
    have t7 : τ 7 0 = y.2.1 := by
      rw [tr 7 (by decide), remS_o _ 0 (by decide) (by decide)]
      exact putC_7 _ _ _
    refine ⟨y.1, putC (keepS σ) 0 y.2, τ, ?_, ?_, BASE_FX (FX_trans fx2 (FX_KM t2)) h.1, ?_, ?_⟩
    · rw [iX8_act, eX8_act_0, if_neg hc, ab, bnd_s, push_s, eX8_act_9, if_neg (by rw [show ableF (σ 2 1 1) (σ 5 1) (σ 7 0, σ 6 0).1 d a b = 1 from q]; decide), a_keep h, bnd_s, push_n, eX8_act_15, pf, bnd_s, push_s, eX8_act_22]
    · rw [iX9_acts, eX9_acts_0, if_neg hc, hcan _ he1.1 (by rw [p40]; exact hm), bnd_s, push_s, eX9_acts_8, if_neg (by rw [p30, p40, r 36 0 (by decide) (by decide), keepS_o σ 0 (by decide) (by decide), aeq, q]; decide), hrem, bnd_s, push_n, eX9_acts_13, t1, bnd_s, push_s, eX9_acts_19]
    · rw [t7]
      refine ⟨pok.1.1, t3, ?_⟩
      have l1 := pok.2.2
      have l2 := hcell.2.2
      exact Int.le_trans l1 (Int.add_le_add_right l2 1)
    · rw [tr 10 (by decide), tr 9 (by decide), tr 41 (by decide), t2.2 21 (by decide) (by decide) (by decide)]
      exact PAST_le pb hl1
end ACT
end
section
/-! ACTS of the program -/
/-- a call of both: the same answer, and all holds behind it -/
def PAIR (N mc mm : Nat) (args : List MV) : Prop := ∀ (L : Int) (σ : Sto), INV L σ → L < 2147480000 → ∃ ans σ1 σ2, inv N mc (vR 0 0 :: args) (P σ) = some (some (vI ans), P σ1) ∧ inv N mm (vR 30 0 :: args) (P σ1) = some (some (vI ans), P σ2) ∧ INV (L + 300) σ2
section ACT
variable {N : Nat} {σ : Sto} {L : Int}
theorem up300 {L M : Int} {σ : Sto} (h : INV L σ) (hl : L ≤ M + 300) : INV (M + 300) σ := INV_le h hl
theorem pair_boot (b c : Int) (hb : b = 0 ∨ b = 1) (hc : c < 2147483648) : PAIR N mX8_boot mX9_boot [vI b, vI c] := by
  intro L σ h hL
  obtain ⟨ans, σ1, σ2, h1, h2, h3⟩ := a_act (N := N) h hL 0 b 0 c hc
  refine ⟨ans, σ1, σ2, ?_, ?_, up300 h3 (by omega)⟩
  · rw [iX8_boot, eX8_boot_0]
    rcases hb with rfl | rfl
    · rw [if_pos rfl, h1, bnd_s, push_s, eX8_boot_10]
    · rw [if_neg (by decide), h1, bnd_s, push_s, eX8_boot_10]
  · rw [iX9_boot, eX9_boot_0, s9_truth, bnd_s, push_s, eX9_boot_4]
    rcases hb with rfl | rfl
    · rw [if_pos rfl, h2, bnd_s, push_s, eX9_boot_7]
    · rw [if_neg (by decide), h2, bnd_s, push_s, eX9_boot_7]
theorem pair_health (c : Int) (hc : c < 2147483648) : PAIR N mX8_health mX9_health [vI c] := by
  intro L σ h hL
  obtain ⟨ans, σ1, σ2, h1, h2, h3⟩ := a_act (N := N) h hL 1 0 0 c hc
  refine ⟨ans, σ1, σ2, ?_, ?_, up300 h3 (by omega)⟩
  · rw [iX8_health, eX8_health_0, h1, bnd_s, push_s, eX8_health_6]
  · rw [iX9_health, eX9_health_0, h2, bnd_s, push_s, eX9_health_6]
theorem pair_install (s b c : Int) (hc : c < 2147483648) : PAIR N mX8_install mX9_install [vI s, vI b, vI c] := by
  intro L σ h hL
  obtain ⟨ans, σ1, σ2, h1, h2, h3⟩ := a_act (N := N) h hL 2 s b c hc
  refine ⟨ans, σ1, σ2, ?_, ?_, up300 h3 (by omega)⟩
  · rw [iX8_install, eX8_install_0, h1, bnd_s, push_s, eX8_install_6]
  · rw [iX9_install, eX9_install_0, h2, bnd_s, push_s, eX9_install_6]
theorem pair_refresh (b c : Int) (hc : c < 2147483648) : PAIR N mX8_refresh mX9_refresh [vI b, vI c] := by
  intro L σ h hL
  obtain ⟨ans, σ1, σ2, h1, h2, h3⟩ := a_act (N := N) h hL 3 0 b c hc
  refine ⟨ans, σ1, σ2, ?_, ?_, up300 h3 (by omega)⟩
  · rw [iX8_refresh, eX8_refresh_0, h1, bnd_s, push_s, eX8_refresh_6]
  · rw [iX9_refresh, eX9_refresh_0, h2, bnd_s, push_s, eX9_refresh_6]
theorem pair_prefer (s c : Int) (hc : c < 2147483648) : PAIR N mX8_prefer mX9_prefer [vI s, vI c] := by
  intro L σ h hL
  obtain ⟨ans, σ1, σ2, h1, h2, h3⟩ := a_act (N := N) h hL 4 s 0 c hc
  refine ⟨ans, σ1, σ2, ?_, ?_, up300 h3 (by omega)⟩
  · rw [iX8_prefer, eX8_prefer_0, h1, bnd_s, push_s, eX8_prefer_6]
  · rw [iX9_prefer, eX9_prefer_0, h2, bnd_s, push_s, eX9_prefer_6]
theorem pair_mend (c : Int) (hc : c < 2147483648) : PAIR N mX8_mend mX9_mend [vI c] := by
  intro L σ h hL
  obtain ⟨ans, σ1, σ2, h1, h2, h3⟩ := a_act (N := N) h hL 5 0 0 c hc
  refine ⟨ans, σ1, σ2, ?_, ?_, up300 h3 (by omega)⟩
  · rw [iX8_mend, eX8_mend_0, h1, bnd_s, push_s, eX8_mend_6]
  · rw [iX9_mend, eX9_mend_0, h2, bnd_s, push_s, eX9_mend_6]
theorem pair_resume (c : Int) (hc : c < 2147483648) : PAIR N mX8_resume mX9_resume [vI c] := by
  intro L σ h hL
  obtain ⟨ans, σ1, σ2, h1, h2, h3⟩ := a_act (N := N) h hL 6 0 0 c hc
  refine ⟨ans, σ1, σ2, ?_, ?_, up300 h3 (by omega)⟩
  · rw [iX8_resume, eX8_resume_0, h1, bnd_s, push_s, eX8_resume_6]
  · rw [iX9_resume, eX9_resume_0, h2, bnd_s, push_s, eX9_resume_6]
/-- an act that sets cells in one go -/
theorem a_cells (h : INV L σ) {c n : Vec} (hc : CELL L c n) : INV L (row (remS (row (keepS σ) 7 0 c)) 40 0 n) := by
  have fx1 : FX σ (row (keepS σ) 7 0 c) := FX_trans (FX_keep σ) (FX_row _ 7 0 c (by omega) (by omega) (by omega))
  have fx2 := FX_trans fx1 (FX_rem (row (keepS σ) 7 0 c))
  have fx3 := FX_trans fx2 (FX_row (remS (row (keepS σ) 7 0 c)) 40 0 n (by omega) (by omega) (by omega))
  have o := fun (k : Nat) (hk : k ≠ 7) => (row_at (keepS σ) 7 0 c k 0).trans (if_neg (fun z => hk z.1))
  have p41 : row (keepS σ) 7 0 c 41 0 = σ 41 0 := (o 41 (by decide)).trans (keepS_o σ 0 (by decide) (by decide))
  have p40 : row (keepS σ) 7 0 c 40 0 = σ 40 0 := (o 40 (by decide)).trans (keepS_o σ 0 (by decide) (by decide))
  have p30 : row (keepS σ) 7 0 c 30 0 = σ 30 0 := (o 30 (by decide)).trans (keepS_o σ 0 (by decide) (by decide))
  have pb := past_both h (τ := row (keepS σ) 7 0 c) p41 p40 (by rw [p30]) (o 9 (by decide)) (o 10 (by decide))
  have r := fun (k : Nat) (hk : k ≠ 40) => (row_at (remS (row (keepS σ) 7 0 c)) 40 0 n k 0).trans (if_neg (fun z => hk z.1))
  refine ⟨BASE_FX fx3 h.1, ?_, ?_⟩
  · rw [row_same, r 7 (by decide), remS_o _ 0 (by decide) (by decide), row_same]
    exact hc
  · rw [r 10 (by decide), r 9 (by decide), r 41 (by decide), r 30 (by decide)]
    exact pb
theorem CELL_78 {c n : Vec} (h : CELL L c n) : CELL L (set c 78 (-1)) (set n 78 (-1)) := by
  obtain ⟨a, ⟨⟨b1, b2, b3, b4, b5⟩, d⟩, e⟩ := h
  refine ⟨okc_set a (by decide) (fun z => absurd z (by decide)) (fun z => absurd z (by decide)) (fun _ => by omega), ⟨⟨fun j hj => ?_, ?_, ?_, ?_, RS_congr b5 (fun j hj => set_ne _ _ (by omega)) (fun j hj => set_ne _ _ (by omega))⟩, ?_⟩, ?_⟩
  · rw [set_ne _ _ (by omega), set_ne _ _ (by omega), b1 j hj]
  · rw [set_ne _ _ (by decide), set_ne _ _ (by decide), b2]
  · rw [set_ne _ _ (by decide), set_ne _ _ (by decide), b3]
  · rw [set_ne _ _ (by decide), set_ne _ _ (by decide), b4]
  · rw [set_same, set_same]
  · rw [set_ne _ _ (by decide)]
    exact e
theorem CELL_low {c n : Vec} (h : CELL L c n) (k : Nat) (v : Int) (hk : k < 72) (h1 : k < 56 → 0 ≤ v ∧ v < 2147483648) (h2 : 56 ≤ k → 0 ≤ v ∧ v < 256) : CELL L (set c k v) (set n k v) := by
  obtain ⟨a, ⟨⟨b1, b2, b3, b4, b5⟩, d⟩, e⟩ := h
  have ok : OKC (set c k v) := by
    rw [← fill_1]
    by_cases q : k < 56
    · exact okc_word a (by omega) (h1 q)
    · exact okc_page a (by omega) (by omega) (h2 (by omega))
  refine ⟨ok, ⟨⟨fun j hj => ?_, ?_, ?_, ?_, RS_congr b5 (fun j hj => set_ne _ _ (by omega)) (fun j hj => set_ne _ _ (by omega))⟩, ?_⟩, ?_⟩
  · unfold set
    rw [b1 j hj]
  · rw [set_ne _ _ (by omega), set_ne _ _ (by omega), b2]
  · rw [set_ne _ _ (by omega), set_ne _ _ (by omega), b3]
  · rw [set_ne _ _ (by omega), set_ne _ _ (by omega), b4]
  · rw [set_ne _ _ (by omega), set_ne _ _ (by omega), d]
  · rw [set_ne _ _ (by omega)]
    exact e
theorem pair_off : PAIR N mX8_off mX9_off [] := by
  intro L σ h hL
  have e78 := h.2.1.2.1.2
  have on := s2_isOn (N := N) (σ := σ) (i := 0)
  by_cases q : σ 7 0 78 = -1
  · refine ⟨0, σ, σ, ?_, ?_, up300 h (by omega)⟩
    · rw [iX8_off, eX8_off_0, on, bnd_s, push_s, eX8_off_3, if_pos q, if_pos rfl]
    · rw [iX9_off, eX9_off_0, s9_isOff, bnd_s, push_s, eX9_off_2, if_pos (e78.symm.trans q), if_neg (by decide)]
  · have k7 := keepS_o σ (k := 7) 0 (by decide) (by decide)
    have o := fun (k : Nat) (hk : k ≠ 7) => (row_at (keepS σ) 7 0 (set (σ 7 0) 78 (-1)) k 0).trans (if_neg (fun z => hk z.1))
    have p40 : row (keepS σ) 7 0 (set (σ 7 0) 78 (-1)) 40 0 = σ 40 0 := (o 40 (by decide)).trans (keepS_o σ 0 (by decide) (by decide))
    have p30 : row (keepS σ) 7 0 (set (σ 7 0) 78 (-1)) 30 0 = σ 30 0 := (o 30 (by decide)).trans (keepS_o σ 0 (by decide) (by decide))
    have rm := a_rem (N := N) h (τ := row (keepS σ) 7 0 (set (σ 7 0) 78 (-1))) (by rw [p30])
    have s40 : remS (row (keepS σ) 7 0 (set (σ 7 0) 78 (-1))) 40 0 = σ 40 0 := (remS_o _ 0 (by decide) (by decide)).trans p40
    have of := s2_turnOff (N := N) (σ := keepS σ) (i := 0)
    rw [k7] at of
    refine ⟨1, row (keepS σ) 7 0 (set (σ 7 0) 78 (-1)), row (remS (row (keepS σ) 7 0 (set (σ 7 0) 78 (-1)))) 40 0 (set (σ 40 0) 78 (-1)), ?_, ?_, up300 (a_cells h (CELL_78 h.2.1)) (by omega)⟩
    · rw [iX8_off, eX8_off_0, on, bnd_s, push_s, eX8_off_3, if_neg q, if_neg (by decide), a_keep h, bnd_s, push_n, eX8_off_9, of, bnd_s, push_n, eX8_off_12]
    · rw [iX9_off, eX9_off_0, s9_isOff, bnd_s, push_s, eX9_off_2, p40, if_neg (fun z => q (e78.trans z)), if_pos rfl, rm, bnd_s, push_n, eX9_off_7, sup_row, s40]
      rfl
theorem pair_undo : PAIR N mX8_undo mX9_undo [] := by
  intro L σ h hL
  obtain ⟨t, d, e, -⟩ := h.2.2
  by_cases q : σ 9 0 3 = 0
  · refine ⟨-1, σ, σ, ?_, ?_, up300 h (by omega)⟩
    · rw [iX8_undo, eX8_undo_0, c_back0 q, bnd_s, push_s, eX8_undo_3]
    · exact m_undo0 (e.trans q)
  · have cb := c_back (N := N) t.1 t.2 (by omega) d.2
    have r30 : row (row σ 9 0 (set (set (σ 9 0) 2 ((σ 9 0 2 + 11) % 12)) 3 (σ 9 0 3 - 1))) 7 0 (cpyV (σ 10 0) (σ 7 0) (107 * ((σ 9 0 2 + 11) % 12).toNat) 0 107) 30 0 = σ 30 0 := by rw [row_at, if_neg (by decide), row_at, if_neg (by decide)]
    have r40 : row (row σ 9 0 (set (set (σ 9 0) 2 ((σ 9 0 2 + 11) % 12)) 3 (σ 9 0 3 - 1))) 7 0 (cpyV (σ 10 0) (σ 7 0) (107 * ((σ 9 0 2 + 11) % 12).toNat) 0 107) 40 0 = σ 40 0 := by rw [row_at, if_neg (by decide), row_at, if_neg (by decide)]
    have r41 : row (row σ 9 0 (set (set (σ 9 0) 2 ((σ 9 0 2 + 11) % 12)) 3 (σ 9 0 3 - 1))) 7 0 (cpyV (σ 10 0) (σ 7 0) (107 * ((σ 9 0 2 + 11) % 12).toNat) 0 107) 41 0 = σ 41 0 := by rw [row_at, if_neg (by decide), row_at, if_neg (by decide)]
    have mu := m_undo (N := N) (σ := row (row σ 9 0 (set (set (σ 9 0) 2 ((σ 9 0 2 + 11) % 12)) 3 (σ 9 0 3 - 1))) 7 0 (cpyV (σ 10 0) (σ 7 0) (107 * ((σ 9 0 2 + 11) % 12).toNat) 0 107)) (by rw [r30, e]; omega) (by rw [r30, e]; exact d.2)
    have pb := PAST_back h.2.2 q (σ 7 0) (σ 40 0)
    rw [r30, r40, r41] at mu
    refine ⟨σ 9 0 3 - 1, _, _, ?_, by rw [e] at mu; exact mu, ?_⟩
    · rw [iX8_undo, eX8_undo_0, cb, bnd_s, push_s, eX8_undo_3]
    · rw [← e]
      generalize hc : cpyV (σ 10 0) (σ 7 0) (107 * ((σ 9 0 2 + 11) % 12).toNat) 0 107 = c at pb
      generalize hn : cpyV (σ 41 0) (σ 40 0) (107 * (σ 30 0 21 - 1).toNat) 0 107 = n at pb
      generalize hs : row (row σ 9 0 (set (set (σ 9 0) 2 ((σ 9 0 2 + 11) % 12)) 3 (σ 30 0 21 - 1))) 7 0 c = τ
      have fx1 : FX σ τ := by
        rw [← hs]
        exact FX_trans (FX_row σ 9 0 _ (by omega) (by omega) (by omega)) (FX_row _ 7 0 c (by omega) (by omega) (by omega))
      have t30 : τ 30 0 = σ 30 0 := by rw [← hs, row_at, if_neg (by decide), row_at, if_neg (by decide)]
      have t7 : τ 7 0 = c := by rw [← hs, row_same]
      have t9 : τ 9 0 = set (set (σ 9 0) 2 ((σ 9 0 2 + 11) % 12)) 3 (σ 9 0 3 - 1) := by rw [← hs, row_at, if_neg (by decide), row_same, e]
      have t10 : τ 10 0 = σ 10 0 := by rw [← hs, row_at, if_neg (by decide), row_at, if_neg (by decide)]
      have t41 : τ 41 0 = σ 41 0 := by rw [← hs, row_at, if_neg (by decide), row_at, if_neg (by decide)]
      have fx2 : FX τ (row τ 30 0 (set (σ 30 0) 21 (σ 30 0 21 - 1))) := FX_30 τ _ (by rw [set_ne _ _ (by decide), t30]) (by rw [set_ne _ _ (by decide), t30]) (by rw [set_ne _ _ (by decide), t30]) (by rw [set_ne _ _ (by decide), t30])
      have fx3 := FX_trans fx1 (FX_trans fx2 (FX_row _ 40 0 n (by omega) (by omega) (by omega)))
      have o := fun (k : Nat) (h1 : k ≠ 40) (h2 : k ≠ 30) => ((row_at (row τ 30 0 (set (σ 30 0) 21 (σ 30 0 21 - 1))) 40 0 n k 0).trans (if_neg (fun z => h1 z.1))).trans ((row_at τ 30 0 _ k 0).trans (if_neg (fun z => h2 z.1)))
      refine up300 (L := L) ⟨BASE_FX fx3 h.1, ?_, ?_⟩ (by omega)
      · rw [row_same, o 7 (by decide) (by decide), t7]
        exact pb.2
      · rw [o 10 (by decide) (by decide), o 9 (by decide) (by decide), o 41 (by decide) (by decide), t10, t9, t41, row_at, if_neg (by decide), row_same, set_same, set_same, set_ne _ _ (show 2 ≠ 3 by decide), set_same]
        exact pb.1
end ACT
end
section
/-! ACTS: bits, the factory -/
section ACT
variable {N : Nat} {σ : Sto} {L : Int}
theorem a_bit (h : INV L σ) (k b : Nat) (hk : k < 72) (hb : k < 56 → b < 31) (hb2 : 56 ≤ k → b < 8) : INV L (row (remS (row (keepS σ) 7 0 (set (σ 7 0) k (bXor (σ 7 0 k) (shl32 1 (b : Int)))))) 40 0 (set (σ 40 0) k (bXor (σ 7 0 k) (shl32 1 (b : Int))))) := by
  have b31 : b < 31 := by omega
  have hp : 0 < 2 ^ b := Nat.pow_pos (by omega)
  refine a_cells h (CELL_low h.2.1 k _ hk (fun q => ?_) (fun q => ?_))
  · have w := h.2.1.1.1 k q
    have p : 2 ^ b < 2 ^ 31 := Nat.pow_lt_pow_right (by omega) b31
    rw [shl1 b b31]
    exact bXor_lt (n := 31) (by omega) w.1 (by have := w.2; omega) (by omega) (by omega)
  · have w := h.2.1.1.2.1 k q (by omega)
    have p : 2 ^ b < 2 ^ 8 := Nat.pow_lt_pow_right (by omega) (hb2 q)
    rw [shl1 b b31]
    have := bXor_lt (x := σ 7 0 k) (m := ((2 ^ b : Nat) : Int)) (n := 8) (by omega) w.1 (by have := w.2; omega) (by omega) (by omega)
    exact ⟨this.1, by have := this.2; omega⟩
theorem s8_isStore (x : Int) : inv N mX8_isStore [vI x] (P σ) = some (some (vI (if 0 ≤ x ∧ x < 4 then 1 else 0)), P σ) := by
  rw [iX8_isStore, eX8_isStore_0]
  by_cases h1 : x < 0
  · rw [if_pos h1, if_neg (by omega)]
  · rw [if_neg h1]
    by_cases h2 : x < 4
    · rw [if_pos h2, if_pos (by omega)]
    · rw [if_neg h2, if_neg (by omega)]
theorem s8_isPage (x : Int) : inv N mX8_isPage [vI x] (P σ) = some (some (vI (if x = 0 ∨ x = 1 then 1 else 0)), P σ) := by
  rw [iX8_isPage, eX8_isPage_0]
  by_cases h1 : x = 0
  · rw [if_pos h1, if_pos (Or.inl h1)]
  · rw [if_neg h1]
    by_cases h2 : x = 1
    · rw [if_pos h2, if_pos (Or.inr h2)]
    · rw [if_neg h2, if_neg (by omega)]
/-- the model's side of a bit's turn -/
theorem bit_store (h : INV L σ) (k b : Nat) : row (keepS σ) 7 0 (set (σ 7 0) k (bXor (σ 7 0 k) (shl32 1 (b : Int)))) 40 0 = σ 40 0 ∧ remS (row (keepS σ) 7 0 (set (σ 7 0) k (bXor (σ 7 0 k) (shl32 1 (b : Int))))) 40 0 = σ 40 0 ∧ inv N mX9_remembers [vR 30 0] (P (row (keepS σ) 7 0 (set (σ 7 0) k (bXor (σ 7 0 k) (shl32 1 (b : Int)))))) = some (none, P (remS (row (keepS σ) 7 0 (set (σ 7 0) k (bXor (σ 7 0 k) (shl32 1 (b : Int))))))) := by
  have o := fun (j : Nat) (hk : j ≠ 7) => (row_at (keepS σ) 7 0 (set (σ 7 0) k (bXor (σ 7 0 k) (shl32 1 (b : Int)))) j 0).trans (if_neg (fun z => hk z.1))
  have p40 := (o 40 (by decide)).trans (keepS_o σ (k := 40) 0 (by decide) (by decide))
  have p30 := (o 30 (by decide)).trans (keepS_o σ (k := 30) 0 (by decide) (by decide))
  exact ⟨p40, (remS_o _ 0 (by decide) (by decide)).trans p40, a_rem h (by rw [p30])⟩
theorem pair_flip (s w b : Int) : PAIR N mX8_flip mX9_flip [vI s, vI w, vI b] := by
  intro L σ h hL
  by_cases q : (0 ≤ s ∧ s < 4) ∧ (0 ≤ w ∧ w < 14) ∧ 0 ≤ b ∧ b < 31
  · obtain ⟨q1, q2, q3⟩ := q
    obtain ⟨s, rfl⟩ := Int.eq_ofNat_of_zero_le q1.1
    obtain ⟨w, rfl⟩ := Int.eq_ofNat_of_zero_le q2.1
    obtain ⟨b, rfl⟩ := Int.eq_ofNat_of_zero_le q3.1
    have hk : 14 * s + w < 56 := by omega
    have hb : b < 31 := by omega
    have e1 : w32 (w32 ((s : Int) * 14) + (w : Int)) = ((14 * s + w : Nat) : Int) := by rw [w32i (x := (s : Int) * 14) (by omega) (by omega), w32i (by omega) (by omega)]; omega
    have e2 : w32 (w32 (14 * (s : Int)) + (w : Int)) = ((14 * s + w : Nat) : Int) := by rw [w32i (x := 14 * (s : Int)) (by omega) (by omega), w32i (by omega) (by omega)]; omega
    have n1 : ¬ (((14 * s + w : Nat) : Int) < 0) ∧ ((14 * s + w : Nat) : Int) < 107 := by omega
    have a1 := s9_in (N := N) (σ := row (keepS σ) 7 0 (set (σ 7 0) (14 * s + w) (bXor (σ 7 0 (14 * s + w)) (shl32 1 (b : Int))))) (s : Int) 0 3
    have a2 := s9_in (N := N) (σ := row (keepS σ) 7 0 (set (σ 7 0) (14 * s + w) (bXor (σ 7 0 (14 * s + w)) (shl32 1 (b : Int))))) (w : Int) 0 13
    have a3 := s9_in (N := N) (σ := row (keepS σ) 7 0 (set (σ 7 0) (14 * s + w) (bXor (σ 7 0 (14 * s + w)) (shl32 1 (b : Int))))) (b : Int) 0 30
    rw [if_pos (by omega)] at a1 a2 a3
    have tb := s2_turnBit (N := N) (σ := keepS σ) (i := 0) ((14 * s + w : Nat) : Int) (b : Int) (by omega) (by omega)
    have g1 : ¬ (w : Int) < 0 := by omega
    have g2 : (w : Int) < 14 := by omega
    have g3 : ¬ (b : Int) < 0 := by omega
    have g4 : (b : Int) < 31 := by omega
    have iv := a_bit h (14 * s + w) b (by omega) (fun _ => hb) (fun z => absurd hk (by omega))
    have ex := h.2.1.2.1.1.1 (14 * s + w) (by omega)
    generalize 14 * s + w = k at hk e1 e2 n1 a1 a2 a3 tb iv ex
    rw [Int.toNat_natCast, keepS_o σ 0 (by decide) (by decide)] at tb
    obtain ⟨m1, m2, m3⟩ := bit_store (N := N) h k b
    refine ⟨bXor (σ 7 0 k) (shl32 1 (b : Int)), row (keepS σ) 7 0 (set (σ 7 0) k (bXor (σ 7 0 k) (shl32 1 (b : Int)))), _, ?_, ?_, up300 iv (by omega)⟩
    · rw [iX8_flip, eX8_flip_0, s8_isStore, if_pos q1, bnd_s, push_s, eX8_flip_2, if_neg (by decide), if_neg g1, if_pos g2, if_neg g3, if_pos g4, a_keep h, bnd_s, push_n, eX8_flip_18, e1, tb, bnd_s, push_s, eX8_flip_27]
    · rw [iX9_flip, eX9_flip_0, a1, bnd_s, push_s, eX9_flip_5, if_neg (by decide), a2, bnd_s, push_s, eX9_flip_11, if_neg (by decide), a3, bnd_s, push_s, eX9_flip_17, if_neg (by decide), m3, bnd_s, push_n, eX9_flip_22, e2, if_neg n1.1, if_pos n1.2, if_neg n1.1, if_pos n1.2, if_neg n1.1, if_pos n1.2, sup_row, Int.toNat_natCast, m2, row_same, set_same, ex]
  · have c : inv N mX8_flip [vR 0 0, vI s, vI w, vI b] (P σ) = some (some (vI (-1)), P σ) := by
      rw [iX8_flip, eX8_flip_0, s8_isStore, bnd_s, push_s, eX8_flip_2]
      by_cases q1 : 0 ≤ s ∧ s < 4
      · rw [if_pos q1, if_neg (by decide)]
        by_cases z1 : w < 0
        · rw [if_pos z1]
        rw [if_neg z1]
        by_cases z2 : w < 14
        · rw [if_pos z2]
          by_cases z3 : b < 0
          · rw [if_pos z3]
          · rw [if_neg z3, if_neg (by omega)]
        · rw [if_neg z2]
      · rw [if_neg q1, if_pos rfl]
    have m : inv N mX9_flip [vR 30 0, vI s, vI w, vI b] (P σ) = some (some (vI (-1)), P σ) := by
      rw [iX9_flip, eX9_flip_0, s9_in, bnd_s, push_s, eX9_flip_5]
      by_cases q1 : 0 ≤ s ∧ s ≤ 3
      · rw [if_pos q1, if_neg (by decide), s9_in, bnd_s, push_s, eX9_flip_11]
        by_cases q2 : 0 ≤ w ∧ w ≤ 13
        · rw [if_pos q2, if_neg (by decide), s9_in, bnd_s, push_s, eX9_flip_17, if_neg (show ¬ (0 ≤ b ∧ b ≤ 30) by omega), if_pos rfl]
        · rw [if_neg q2, if_pos rfl]
      · rw [if_neg q1, if_pos rfl]
    exact ⟨-1, σ, σ, c, m, up300 h (by omega)⟩
theorem pair_blot (s w b : Int) : PAIR N mX8_blot mX9_blot [vI s, vI w, vI b] := by
  intro L σ h hL
  by_cases q : (s = 0 ∨ s = 1) ∧ (0 ≤ w ∧ w < 8) ∧ 0 ≤ b ∧ b < 8
  · obtain ⟨q1, q2, q3⟩ := q
    obtain ⟨s, rfl⟩ := Int.eq_ofNat_of_zero_le (show 0 ≤ s by omega)
    obtain ⟨w, rfl⟩ := Int.eq_ofNat_of_zero_le q2.1
    obtain ⟨b, rfl⟩ := Int.eq_ofNat_of_zero_le q3.1
    have hk : 56 ≤ 56 + 8 * s + w ∧ 56 + 8 * s + w < 72 := by omega
    have hb : b < 8 := by omega
    have e1 : w32 (w32 (56 + w32 ((s : Int) * 8)) + (w : Int)) = ((56 + 8 * s + w : Nat) : Int) := by rw [w32i (x := (s : Int) * 8) (by omega) (by omega), w32i (x := 56 + (s : Int) * 8) (by omega) (by omega), w32i (by omega) (by omega)]; omega
    have e2 : w32 (56 + 8 * (s : Int) + (w : Int)) = ((56 + 8 * s + w : Nat) : Int) := by rw [w32i (by omega) (by omega)]; omega
    have n1 : ¬ (((56 + 8 * s + w : Nat) : Int) < 0) ∧ ((56 + 8 * s + w : Nat) : Int) < 107 := by omega
    have a1 := s9_in (N := N) (σ := row (keepS σ) 7 0 (set (σ 7 0) (56 + 8 * s + w) (bXor (σ 7 0 (56 + 8 * s + w)) (shl32 1 (b : Int))))) (s : Int) 0 1
    have a2 := s9_in (N := N) (σ := row (keepS σ) 7 0 (set (σ 7 0) (56 + 8 * s + w) (bXor (σ 7 0 (56 + 8 * s + w)) (shl32 1 (b : Int))))) (w : Int) 0 7
    have a3 := s9_in (N := N) (σ := row (keepS σ) 7 0 (set (σ 7 0) (56 + 8 * s + w) (bXor (σ 7 0 (56 + 8 * s + w)) (shl32 1 (b : Int))))) (b : Int) 0 7
    rw [if_pos (by omega)] at a1 a2 a3
    have pa := fun τ : Sto => s9_pageAt (N := N) (σ := τ) (s : Int) (by omega) (by omega)
    have tb := s2_turnBit (N := N) (σ := keepS σ) (i := 0) ((56 + 8 * s + w : Nat) : Int) (b : Int) (by omega) (by omega)
    have g1 : ¬ (w : Int) < 0 := by omega
    have g2 : (w : Int) < 8 := by omega
    have g3 : ¬ (b : Int) < 0 := by omega
    have g4 : ¬ 7 < (b : Int) := by omega
    have iv := a_bit h (56 + 8 * s + w) b hk.2 (fun z => absurd hk.1 (by omega)) (fun _ => hb)
    have ex := h.2.1.2.1.1.1 (56 + 8 * s + w) (by omega)
    generalize 56 + 8 * s + w = k at hk e1 e2 n1 a1 a2 a3 tb iv ex
    rw [Int.toNat_natCast, keepS_o σ 0 (by decide) (by decide)] at tb
    obtain ⟨m1, m2, m3⟩ := bit_store (N := N) h k b
    refine ⟨bXor (σ 7 0 k) (shl32 1 (b : Int)), row (keepS σ) 7 0 (set (σ 7 0) k (bXor (σ 7 0 k) (shl32 1 (b : Int)))), _, ?_, ?_, up300 iv (by omega)⟩
    · rw [iX8_blot, eX8_blot_0, s8_isPage, if_pos q1, bnd_s, push_s, eX8_blot_2, if_neg (by decide), if_neg g1, if_pos g2, if_neg g3, if_neg g4, a_keep h, bnd_s, push_n, eX8_blot_18, e1, tb, bnd_s, push_s, eX8_blot_29]
    · rw [iX9_blot, eX9_blot_0, a1, bnd_s, push_s, eX9_blot_5, if_neg (by decide), a2, bnd_s, push_s, eX9_blot_11, if_neg (by decide), a3, bnd_s, push_s, eX9_blot_17, if_neg (by decide), m3, bnd_s, push_n, eX9_blot_22, pa, bnd_s, push_s, eX9_blot_26, e2, if_neg n1.1, if_pos n1.2, if_neg n1.1, if_pos n1.2, pa, bnd_s, push_s, eX9_blot_39, e2, if_neg n1.1, if_pos n1.2, sup_row, Int.toNat_natCast, m2, row_same, set_same, ex]
  · have c : inv N mX8_blot [vR 0 0, vI s, vI w, vI b] (P σ) = some (some (vI (-1)), P σ) := by
      rw [iX8_blot, eX8_blot_0, s8_isPage, bnd_s, push_s, eX8_blot_2]
      by_cases q1 : s = 0 ∨ s = 1
      · rw [if_pos q1, if_neg (by decide)]
        by_cases z1 : w < 0
        · rw [if_pos z1]
        rw [if_neg z1]
        by_cases z2 : w < 8
        · rw [if_pos z2]
          by_cases z3 : b < 0
          · rw [if_pos z3]
          · rw [if_neg z3, if_pos (by omega)]
        · rw [if_neg z2]
      · rw [if_neg q1, if_pos rfl]
    have m : inv N mX9_blot [vR 30 0, vI s, vI w, vI b] (P σ) = some (some (vI (-1)), P σ) := by
      rw [iX9_blot, eX9_blot_0, s9_in, bnd_s, push_s, eX9_blot_5]
      by_cases q1 : 0 ≤ s ∧ s ≤ 1
      · rw [if_pos q1, if_neg (by decide), s9_in, bnd_s, push_s, eX9_blot_11]
        by_cases q2 : 0 ≤ w ∧ w ≤ 7
        · rw [if_pos q2, if_neg (by decide), s9_in, bnd_s, push_s, eX9_blot_17, if_neg (show ¬ (0 ≤ b ∧ b ≤ 7) by omega), if_pos rfl]
        · rw [if_neg q2, if_pos rfl]
      · rw [if_neg q1, if_pos rfl]
    exact ⟨-1, σ, σ, c, m, up300 h (by omega)⟩
end ACT
end
section
/-! QUESTIONS about what is held -/
section ASK
variable {N : Nat} {σ : Sto} {L : Int}
theorem pair_of {mc mm : Nat} {args : List MV} (h : ∀ (L : Int) (σ : Sto), INV L σ → ∃ ans, inv N mc (vR 0 0 :: args) (P σ) = some (some (vI ans), P σ) ∧ inv N mm (vR 30 0 :: args) (P σ) = some (some (vI ans), P σ)) : PAIR N mc mm args := by
  intro L σ hI hL
  obtain ⟨ans, h1, h2⟩ := h L σ hI
  exact ⟨ans, σ, σ, h1, h2, up300 hI (by omega)⟩
theorem INV_eq (h : INV L σ) : ∀ j, j < 78 → σ 7 0 j = σ 40 0 j := h.2.1.2.1.1.1
theorem INV_okm (h : INV L σ) : OKC (σ 40 0) := OKC_R h.2.1.1 (INV_eq h) (by rw [← h.2.1.2.1.2]; exact h.2.1.1.2.2.2.2)
theorem pair_word (s w : Int) : PAIR N mX8_word mX9_word [vI s, vI w] := pair_of (fun L σ h => by
  have eq := INV_eq h
  have ci := fun k h0 h1 => s2_cell (N := N) (σ := σ) (i := 0) k h0 h1
  have oi := fun v lo hi => s9_in (N := N) (σ := σ) v lo hi
  clear h
  by_cases q : (0 ≤ s ∧ s < 4) ∧ (0 ≤ w ∧ w < 14)
  · have e1 : w32 (w32 (s * 14) + w) = 14 * s + w := by rw [w32i (x := s * 14) (by omega) (by omega), w32i (by omega) (by omega)]; omega
    have e2 : w32 (w32 (14 * s) + w) = 14 * s + w := by rw [w32i (x := 14 * s) (by omega) (by omega), w32i (by omega) (by omega)]
    refine ⟨σ 7 0 (14 * s + w).toNat, ?_, ?_⟩
    · rw [iX8_word, eX8_word_0, s8_isStore, if_pos q.1, bnd_s, push_s, eX8_word_2, if_neg (by decide), if_neg (by omega), if_pos (by omega), e1, ci _ (by omega) (by omega), bnd_s, push_s, eX8_word_18]
    · rw [iX9_word, eX9_word_0, oi, if_pos (by omega), bnd_s, push_s, eX9_word_5, if_neg (by decide), oi, if_pos (by omega), bnd_s, push_s, eX9_word_11, if_neg (by decide), e2, if_neg (by omega), if_pos (by omega), eq _ (by omega)]
  · refine ⟨-1, ?_, ?_⟩
    · rw [iX8_word, eX8_word_0, s8_isStore, bnd_s, push_s, eX8_word_2]
      by_cases q1 : 0 ≤ s ∧ s < 4
      · rw [if_pos q1, if_neg (by decide)]
        by_cases z1 : w < 0
        · rw [if_pos z1]
        · rw [if_neg z1, if_neg (by omega)]
      · rw [if_neg q1, if_pos rfl]
    · rw [iX9_word, eX9_word_0, oi, bnd_s, push_s, eX9_word_5]
      by_cases q1 : 0 ≤ s ∧ s ≤ 3
      · rw [if_pos q1, if_neg (by decide), oi, bnd_s, push_s, eX9_word_11, if_neg (show ¬ (0 ≤ w ∧ w ≤ 13) by omega), if_pos rfl]
      · rw [if_neg q1, if_pos rfl])
theorem pair_octet (s w : Int) : PAIR N mX8_octet mX9_octet [vI s, vI w] := pair_of (fun L σ h => by
  have eq := INV_eq h
  have ci := fun k h0 h1 => s2_cell (N := N) (σ := σ) (i := 0) k h0 h1
  have oi := fun v lo hi => s9_in (N := N) (σ := σ) v lo hi
  have pa := fun h0 h1 => s9_pageAt (N := N) (σ := σ) s h0 h1
  clear h
  by_cases q : (s = 0 ∨ s = 1) ∧ (0 ≤ w ∧ w < 8)
  · have e1 : w32 (w32 (56 + w32 (s * 8)) + w) = 56 + 8 * s + w := by rw [w32i (x := s * 8) (by omega) (by omega), w32i (x := 56 + s * 8) (by omega) (by omega), w32i (by omega) (by omega)]; omega
    have e2 : w32 (56 + 8 * s + w) = 56 + 8 * s + w := w32i (by omega) (by omega)
    refine ⟨σ 7 0 (56 + 8 * s + w).toNat, ?_, ?_⟩
    · rw [iX8_octet, eX8_octet_0, s8_isPage, if_pos q.1, bnd_s, push_s, eX8_octet_2, if_neg (by decide), if_neg (by omega), if_pos (by omega), e1, ci _ (by omega) (by omega), bnd_s, push_s, eX8_octet_20]
    · rw [iX9_octet, eX9_octet_0, oi, if_pos (by omega), bnd_s, push_s, eX9_octet_5, if_neg (by decide), oi, if_pos (by omega), bnd_s, push_s, eX9_octet_11, if_neg (by decide), pa (by omega) (by omega), bnd_s, push_s, eX9_octet_16, e2, if_neg (by omega), if_pos (by omega), eq _ (by omega)]
  · refine ⟨-1, ?_, ?_⟩
    · rw [iX8_octet, eX8_octet_0, s8_isPage, bnd_s, push_s, eX8_octet_2]
      by_cases q1 : s = 0 ∨ s = 1
      · rw [if_pos q1, if_neg (by decide)]
        by_cases z1 : w < 0
        · rw [if_pos z1]
        · rw [if_neg z1, if_neg (by omega)]
      · rw [if_neg q1, if_pos rfl]
    · rw [iX9_octet, eX9_octet_0, oi, bnd_s, push_s, eX9_octet_5]
      by_cases q1 : 0 ≤ s ∧ s ≤ 1
      · rw [if_pos q1, if_neg (by decide), oi, bnd_s, push_s, eX9_octet_11, if_neg (show ¬ (0 ≤ w ∧ w ≤ 7) by omega), if_pos rfl]
      · rw [if_neg q1, if_pos rfl])
theorem pair_journal (s : Int) : PAIR N mX8_journal mX9_journal [vI s] := pair_of (fun L σ h => by
  have eq := INV_eq h
  have ci := fun k h0 h1 => s2_cell (N := N) (σ := σ) (i := 0) k h0 h1
  have oi := fun v lo hi => s9_in (N := N) (σ := σ) v lo hi
  clear h
  by_cases q : 0 ≤ s ∧ s ≤ 3
  · have e1 : w32 (72 + s) = 72 + s := w32i (by omega) (by omega)
    refine ⟨σ 7 0 (72 + s).toNat, ?_, ?_⟩
    · rw [iX8_journal, eX8_journal_0, if_neg (by omega), if_neg (by omega), e1, ci _ (by omega) (by omega), bnd_s, push_s, eX8_journal_13]
    · rw [iX9_journal, eX9_journal_0, oi, if_pos q, bnd_s, push_s, eX9_journal_5, if_neg (by decide), e1, if_neg (by omega), if_pos (by omega), eq _ (by omega)]
  · refine ⟨-1, ?_, ?_⟩
    · rw [iX8_journal, eX8_journal_0]
      by_cases z1 : s < 0
      · rw [if_pos z1]
      · rw [if_neg z1, if_pos (by omega)]
    · rw [iX9_journal, eX9_journal_0, oi, if_neg q, bnd_s, push_s, eX9_journal_5, if_pos rfl])
theorem pair_whole (s : Int) : PAIR N mX8_whole mX9_whole [vI s] := pair_of (fun L σ h => by
  have eq := INV_eq h
  have hm := INV_okm h
  have hc := h.2.1.1
  have c0 := s2_isWhole0 (N := N) (σ := σ) (i := 0) hc.2.1
  have c1 := s2_isWhole1 (N := N) (σ := σ) (i := 0) hc.2.1
  have m0 := s9_isWhole0 (N := N) (σ := σ) hm.2.1
  have m1 := s9_isWhole1 (N := N) (σ := σ) hm.2.1
  have g0 : whole1 (σ 40 0) 56 = whole1 (σ 7 0) 56 := (whole1_congr (fun j a b => eq j (by omega))).symm
  have g1 : whole1 (σ 40 0) 64 = whole1 (σ 7 0) 64 := (whole1_congr (fun j a b => eq j (by omega))).symm
  have oi := fun v lo hi => s9_in (N := N) (σ := σ) v lo hi
  have tr := fun v => s9_truth (N := N) (σ := σ) v
  rw [g0] at m0
  rw [g1] at m1
  by_cases q0 : s = 0
  · subst q0
    refine ⟨if whole1 (σ 7 0) 56 = 0 then 0 else 1, ?_, ?_⟩
    · rw [iX8_whole, eX8_whole_0, s8_isPage, if_pos (Or.inl rfl), bnd_s, push_s, eX8_whole_2, if_neg (by decide), c0, bnd_s, push_s, eX8_whole_9]
      split <;> rfl
    · rw [iX9_whole, eX9_whole_0, oi, if_pos (by decide), bnd_s, push_s, eX9_whole_5, if_neg (by decide), m0, bnd_s, push_s, eX9_whole_9, tr, bnd_s, push_s, eX9_whole_10]
  by_cases q1 : s = 1
  · subst q1
    refine ⟨if whole1 (σ 7 0) 64 = 0 then 0 else 1, ?_, ?_⟩
    · rw [iX8_whole, eX8_whole_0, s8_isPage, if_pos (Or.inr rfl), bnd_s, push_s, eX8_whole_2, if_neg (by decide), c1, bnd_s, push_s, eX8_whole_9]
      split <;> rfl
    · rw [iX9_whole, eX9_whole_0, oi, if_pos (by decide), bnd_s, push_s, eX9_whole_5, if_neg (by decide), m1, bnd_s, push_s, eX9_whole_9, tr, bnd_s, push_s, eX9_whole_10]
  refine ⟨-1, ?_, ?_⟩
  · rw [iX8_whole, eX8_whole_0, s8_isPage, if_neg (fun z => by rcases z with z | z <;> contradiction), bnd_s, push_s, eX8_whole_2, if_pos rfl]
  · rw [iX9_whole, eX9_whole_0, oi, if_neg (fun z => by have := z.1; have := z.2; clear c0 c1 m0 m1 g0 g1; omega), bnd_s, push_s, eX9_whole_5, if_pos rfl])
theorem pair_why (s : Int) : PAIR N mX8_why mX9_why [vI s] := pair_of (fun L σ h => by
  have eq := INV_eq h
  have hm := INV_okm h
  have hc := h.2.1.1
  have he := h.1.2.1
  have hg := h.1.1
  have oi := fun v lo hi => s9_in (N := N) (σ := σ) v lo hi
  by_cases q : 0 ≤ s ∧ s < 4
  · obtain ⟨s, rfl⟩ := Int.eq_ofNat_of_zero_le q.1
    have hs : s < 4 := Int.ofNat_lt.mp q.2
    have q3 : 0 ≤ (s : Int) ∧ (s : Int) ≤ 3 := by omega
    have m := s9_why (N := N) s hs he.1 hm
    have c := s2_reason (N := N) (i := 0) s hs hg hc
    rw [show whyM σ (σ 40 0) s = whyF (σ 2 1 0) (σ 3 1) (σ 4 1) (σ 7 0) s from (he.2.1 _ _).trans (whyF_cells eq _ _ _ s hs).symm] at m
    exact ⟨_, by rw [iX8_why, eX8_why_0, s8_isStore, if_pos q, bnd_s, push_s, eX8_why_2, if_neg (by decide), c, bnd_s, push_s, eX8_why_7], by rw [iX9_why, eX9_why_0, oi, if_pos q3, bnd_s, push_s, eX9_why_5, if_neg (by decide), m, bnd_s, push_s, eX9_why_9]⟩
  · refine ⟨-1, ?_, ?_⟩
    · rw [iX8_why, eX8_why_0, s8_isStore, if_neg q, bnd_s, push_s, eX8_why_2, if_pos rfl]
    · rw [iX9_why, eX9_why_0, oi, if_neg (fun z => q ⟨z.1, Int.lt_of_le_of_lt z.2 (by decide)⟩), bnd_s, push_s, eX9_why_5, if_pos rfl])
theorem pair_revoked (k : Int) : PAIR N mX8_revoked mX9_revoked [vI k] := pair_of (fun L σ h => by
  have e77 := INV_eq h 77 (by decide)
  have hm := INV_okm h
  have hc := h.2.1.1
  have he := h.1.2.1
  have hg := h.1.1
  have oi := fun v lo hi => s9_in (N := N) (σ := σ) v lo hi
  have tr := fun v => s9_truth (N := N) (σ := σ) v
  have hk := s0_hasKey (N := N) (σ := σ) (i := 1) k
  have ks := he.2.2.1
  have k6 := hg.2.1
  have k0 := hg.1
  have ew : w32 (σ 30 0 5 - 1) = σ 30 0 5 - 1 := w32i (by rw [ks]; omega) (by rw [ks]; omega)
  by_cases q : 0 ≤ k ∧ k < σ 2 1 0
  · have c := s2_isRevoked (N := N) (i := 0) hc.2.2.2.1 hg.2.2.2.2.2.2.2.2.2.2.2.1 k q.1 q.2
    have m := s9_isRevoked (N := N) hm.2.2.2.1 he.1.2.2.2.2.2.2.2.2.2.2.2.1 k q.1 (by rw [ks]; exact q.2)
    have rr : revN (σ 33 0) (σ 40 0 77) 6 k = revN (σ 4 1) (σ 7 0 77) 6 k := by
      rw [e77]
      exact revN_congr (σ 2 1 0) hg.2.2.2.2.2.2.2.2.2.2.2.1 he.2.2.2.2.2.2.2.2 6 k q.2
    rw [rr] at m
    refine ⟨if revN (σ 4 1) (σ 7 0 77) 6 k = 0 then 0 else 1, ?_, ?_⟩
    · rw [iX8_revoked, eX8_revoked_0, hk, if_pos q, bnd_s, push_s, eX8_revoked_4, if_neg (by decide), c, bnd_s, push_s, eX8_revoked_11]
      split <;> rfl
    · rw [iX9_revoked, eX9_revoked_0, ew, oi, if_pos ⟨q.1, by rw [ks]; exact Int.le_sub_one_of_lt q.2⟩, bnd_s, push_s, eX9_revoked_9, if_neg (by decide), m, bnd_s, push_s, eX9_revoked_13, tr, bnd_s, push_s, eX9_revoked_14]
  · refine ⟨-1, ?_, ?_⟩
    · rw [iX8_revoked, eX8_revoked_0, hk, if_neg q, bnd_s, push_s, eX8_revoked_4, if_pos rfl]
    · rw [iX9_revoked, eX9_revoked_0, ew, oi, if_neg (fun z => q ⟨z.1, by rw [← ks]; exact Int.lt_of_le_sub_one z.2⟩), bnd_s, push_s, eX9_revoked_9, if_pos rfl])
end ASK
end
section
/-! QUESTIONS: started, image, least; end, draws -/
section ASK
variable {N : Nat} {σ : Sto} {L : Int}
theorem ring_k {c82 : Int} {k : Nat} (h0 : 0 ≤ c82) (hk : k < 12) (hk2 : (k : Int) < c82) (h2 : c82 < 2147483000) : w32 (w32 (c82 - 1) - (k : Int)) = c82 - 1 - k ∧ Int.tmod (c82 - 1 - k) 12 = (c82 - 1 - k) % 12 := by
  refine ⟨?_, tmod12 (by omega)⟩
  rw [w32i (x := c82 - 1) (by omega) (by omega), w32i (by omega) (by omega)]
theorem ring_i {m : Int} {w : Nat} (h0 : 0 ≤ m ∧ m < 12) (hw : w ≤ 1) : w32 (w32 (83 + w32 (2 * m)) + (w : Int)) = ((83 + 2 * m.toNat + w : Nat) : Int) ∧ 83 + 2 * m.toNat + w < 107 := by
  refine ⟨?_, by omega⟩
  rw [w32i (x := 2 * m) (by omega) (by omega), w32i (x := 83 + 2 * m) (by omega) (by omega), w32i (by omega) (by omega)]
  omega
theorem st_facts {k w : Nat} {c : Int} (r0 : 0 ≤ c) (cm : c < 2147483000) (hk : (k : Int) < 12) (hk2 : (k : Int) < c) (hw : (w : Int) ≤ 1) : (¬ (k : Int) < 0) ∧ (¬ (w : Int) < 0) ∧ (¬ 1 < (w : Int)) ∧ (0 ≤ (k : Int) ∧ (k : Int) ≤ min 12 c - 1) ∧ w32 (w32 (c - 1) - (k : Int)) = c - 1 - k ∧ Int.tmod (c - 1 - k) 12 = (c - 1 - k) % 12 ∧ w32 (w32 (83 + w32 (2 * ((c - 1 - (k : Int)) % 12))) + (w : Int)) = ((83 + 2 * ((c - 1 - (k : Int)) % 12).toNat + w : Nat) : Int) ∧ 83 + 2 * ((c - 1 - (k : Int)) % 12).toNat + w < 107 ∧ w32 (w32 (83 + w32 (2 * (k : Int))) + (w : Int)) = ((83 + 2 * k + w : Nat) : Int) ∧ 83 + 2 * k + w < 107 ∧ k < 12 ∧ (w = 0 ∨ w = 1) := by
  have rk := ring_k r0 (by omega) hk2 cm
  have m0 : 0 ≤ (c - 1 - (k : Int)) % 12 ∧ (c - 1 - (k : Int)) % 12 < 12 := by omega
  have ri := ring_i (w := w) m0 (by omega)
  have ri2 := ring_i (m := (k : Int)) (w := w) (by omega) (by omega)
  rw [Int.toNat_natCast] at ri2
  refine ⟨by omega, by omega, by omega, by omega, rk.1, rk.2, ri.1, ri.2, ri2.1, ri2.2, by omega, by omega⟩
theorem st_off {k c : Int} (h : ¬ (0 ≤ k ∧ k < 12 ∧ k < c)) : ¬ (0 ≤ k ∧ k ≤ min 12 c - 1) := by omega
theorem pair_started (k w : Int) : PAIR N mX8_started mX9_started [vI k, vI w] := by
  intro L σ h hL
  obtain ⟨r0, r1, r2⟩ := h.2.1.2.1.1.2.2.2.2
  have cm : σ 7 0 82 < 2147483000 := Int.lt_of_le_of_lt h.2.1.2.2 (by omega)
  have ci := fun j h0 h1 => s2_cell (N := N) (σ := σ) (i := 0) j h0 h1
  have oi := fun v lo hi => s9_in (N := N) (σ := σ) v lo hi
  have ew : w32 (min 12 (σ 7 0 82) - 1) = min 12 (σ 7 0 82) - 1 := w32i (by omega) (by omega)
  refine (fun z : ∃ ans, inv N mX8_started [vR 0 0, vI k, vI w] (P σ) = some (some (vI ans), P σ) ∧ inv N mX9_started [vR 30 0, vI k, vI w] (P σ) = some (some (vI ans), P σ) => ?_) ?_
  · obtain ⟨ans, z1, z2⟩ := z
    exact ⟨ans, σ, σ, z1, z2, up300 h (by omega)⟩
  clear h hL
  have e82 : (82 : Int).toNat = 82 := rfl
  by_cases q : (0 ≤ k ∧ k < 12 ∧ k < σ 7 0 82) ∧ 0 ≤ w ∧ w ≤ 1
  · obtain ⟨⟨q1, q2, q3⟩, q4, q5⟩ := q
    obtain ⟨k, rfl⟩ := Int.eq_ofNat_of_zero_le q1
    obtain ⟨w, rfl⟩ := Int.eq_ofNat_of_zero_le q4
    obtain ⟨g1, g2, g3, g4, rk1, rk2, ri1, ri2, rj1, rj2, k12, w01⟩ := st_facts (w := w) r0 cm q2 q3 q5
    have rr := r2 k k12 q3
    have same : σ 40 0 (83 + 2 * k + w) = σ 7 0 (83 + 2 * ((σ 7 0 82 - 1 - (k : Int)) % 12).toNat + w) := by
      rcases w01 with rfl | rfl
      · exact rr.1
      · rw [show 83 + 2 * k + 1 = 84 + 2 * k from by rw [Nat.add_right_comm], show 83 + 2 * ((σ 7 0 82 - 1 - (k : Int)) % 12).toNat + 1 = 84 + 2 * ((σ 7 0 82 - 1 - (k : Int)) % 12).toNat from by rw [Nat.add_right_comm]]
        exact rr.2
    have nn : ∀ z : Nat, 0 ≤ (z : Int) := fun z => Int.natCast_nonneg z
    have lt : ∀ z : Nat, z < 107 → (z : Int) < 107 := fun z hz => by omega
    refine ⟨σ 40 0 (83 + 2 * k + w), ?_, ?_⟩
    · rw [iX8_started, eX8_started_0, ci _ (by decide) (by decide), bnd_s, push_s, e82, eX8_started_4, if_neg g1, if_pos q2, if_pos q3, if_neg g2, if_neg g3, rk1, rk2, ri1, ci _ (nn _) (lt _ ri2), bnd_s, push_s, eX8_started_36, Int.toNat_natCast, same]
    · rw [iX9_started, eX9_started_0, e82, r1, ew, oi, if_pos g4, bnd_s, push_s, eX9_started_11, if_neg (by decide), oi, if_pos ⟨q4, q5⟩, bnd_s, push_s, eX9_started_17, if_neg (by decide), rj1, if_neg (Int.not_lt.mpr (nn _)), if_pos (lt _ rj2), Int.toNat_natCast]
  · refine ⟨-1, ?_, ?_⟩
    · rw [iX8_started, eX8_started_0, ci _ (by decide) (by decide), bnd_s, push_s, e82, eX8_started_4]
      by_cases z1 : k < 0
      · rw [if_pos z1]
      rw [if_neg z1]
      by_cases z2 : k < 12
      · rw [if_pos z2]
        by_cases z3 : k < σ 7 0 82
        · rw [if_pos z3]
          by_cases z4 : w < 0
          · rw [if_pos z4]
          · rw [if_neg z4, if_pos (by omega)]
        · rw [if_neg z3]
      · rw [if_neg z2]
    · clear r2 ci
      rw [iX9_started, eX9_started_0, e82, r1, ew, oi, bnd_s, push_s, eX9_started_11]
      by_cases q1 : 0 ≤ k ∧ k ≤ min 12 (σ 7 0 82) - 1
      · rw [if_pos q1, if_neg (by decide), oi, bnd_s, push_s, eX9_started_17, if_neg (show ¬ (0 ≤ w ∧ w ≤ 1) by omega), if_pos rfl]
      · rw [if_neg q1, if_pos rfl]
end ASK
end
section
/-! QUESTIONS: image -/
section ASK
variable {N : Nat} {σ : Sto} {L : Int}
theorem pair_image (s w : Int) : PAIR N mX8_image mX9_image [vI s, vI w] := pair_of (fun L σ h => by
  have he := h.1.2.1
  have hg := h.1.1
  have im := he.2.2.2.1
  have i0 := hg.2.2.1
  have i6 := hg.2.2.2.1
  have wd := he.2.2.2.2.2.2.2.1
  have hi := s0_hasImage (N := N) (σ := σ) (i := 1) s
  have mi := s9_isImage (N := N) (σ := σ) (by rw [im]; exact i0) (by rw [im]; exact i6) s
  have oi := fun v lo hi => s9_in (N := N) (σ := σ) v lo hi
  have at5 := fun k h0 h1 => s6_at5 (N := N) (σ := σ) (i := 1) k h0 h1
  rw [im] at mi
  clear h he hg
  by_cases q : (0 ≤ s ∧ s < σ 2 1 1) ∧ (0 ≤ w ∧ w < 14)
  · have e1 : w32 (w32 (s * 14) + w) = 14 * s + w := by rw [w32i (x := s * 14) (by omega) (by omega), w32i (by omega) (by omega)]; omega
    have e2 : w32 (w32 (14 * s) + w) = 14 * s + w := by rw [w32i (x := 14 * s) (by omega) (by omega), w32i (by omega) (by omega)]
    have same := wd (14 * s + w).toNat (by omega)
    refine ⟨σ 5 1 (14 * s + w).toNat, ?_, ?_⟩
    · rw [iX8_image, eX8_image_0, hi, if_pos q.1, bnd_s, push_s, eX8_image_4, if_neg (by decide), if_neg (by omega), if_pos (by omega), e1, at5 _ (by omega) (by omega), bnd_s, push_s, eX8_image_21]
    · rw [iX9_image, eX9_image_0, mi, if_pos q.1, bnd_s, push_s, eX9_image_3, if_neg (by decide), oi, if_pos (by omega), bnd_s, push_s, eX9_image_9, if_neg (by decide), e2, if_neg (by omega), if_pos (by omega), same]
  · refine ⟨-1, ?_, ?_⟩
    · rw [iX8_image, eX8_image_0, hi, bnd_s, push_s, eX8_image_4]
      by_cases q1 : 0 ≤ s ∧ s < σ 2 1 1
      · rw [if_pos q1, if_neg (by decide)]
        by_cases z1 : w < 0
        · rw [if_pos z1]
        · rw [if_neg z1, if_neg (by omega)]
      · rw [if_neg q1, if_pos rfl]
    · rw [iX9_image, eX9_image_0, mi, bnd_s, push_s, eX9_image_3]
      by_cases q1 : 0 ≤ s ∧ s < σ 2 1 1
      · rw [if_pos q1, if_neg (by decide), oi, bnd_s, push_s, eX9_image_9, if_neg (show ¬ (0 ≤ w ∧ w ≤ 13) by omega), if_pos rfl]
      · rw [if_neg q1, if_pos rfl])
end ASK
end
section
/-! END, DRAWS; LEAST -/
section ASK
variable {N : Nat} {σ : Sto} {L : Int}
theorem INV_new (h : INV L σ) {τ : Sto} (o : ∀ k k', k ≠ 0 → k ≠ 30 → τ k k' = σ k k') (e5 : τ 30 0 5 = σ 30 0 5) (e6 : τ 30 0 6 = σ 30 0 6) (e21 : τ 30 0 21 = σ 30 0 21) (ht : TAPE τ) (hd : DRAWN τ) : INV L τ := by
  obtain ⟨⟨b1, b2, b3, b4, b5⟩, c, p⟩ := h
  refine ⟨⟨?_, ?_, ht, hd, ?_⟩, ?_, ?_⟩
  · unfold OKG at b1 ⊢
    rw [o 2 1 (by decide) (by decide), o 3 1 (by decide) (by decide), o 4 1 (by decide) (by decide), o 5 1 (by decide) (by decide)]
    exact b1
  · unfold EnvM OKM whyM whyS at b2 ⊢
    rw [o 32 0 (by decide) (by decide), o 33 0 (by decide) (by decide), o 36 0 (by decide) (by decide), o 38 0 (by decide) (by decide), e5, e6, o 2 1 (by decide) (by decide), o 3 1 (by decide) (by decide), o 4 1 (by decide) (by decide), o 5 1 (by decide) (by decide)]
    exact b2
  · unfold DRAFT at b5 ⊢
    rw [o 3 0 (by decide) (by decide), o 5 0 (by decide) (by decide)]
    exact b5
  · rw [o 7 0 (by decide) (by decide), o 40 0 (by decide) (by decide)]
    exact c
  · rw [o 10 0 (by decide) (by decide), o 9 0 (by decide) (by decide), o 41 0 (by decide) (by decide), e21]
    exact p
/-- both set one field -/
def two (σ : Sto) (i j : Nat) (v : Int) : Sto := row (row σ 0 0 (set (σ 0 0) i v)) 30 0 (set (σ 30 0) j v)
theorem two_o (σ : Sto) (i j : Nat) (v : Int) : ∀ k k', k ≠ 0 → k ≠ 30 → two σ i j v k k' = σ k k' := by
  intro k k' h1 h2
  unfold two
  rw [row_at, if_neg (fun z => h2 z.1), row_at, if_neg (fun z => h1 z.1)]
theorem two_0 (σ : Sto) (i j : Nat) (v : Int) : two σ i j v 0 0 = set (σ 0 0) i v := by
  unfold two
  rw [row_at, if_neg (by decide), row_same]
theorem two_30 (σ : Sto) (i j : Nat) (v : Int) : two σ i j v 30 0 = set (σ 30 0) j v := by
  unfold two
  rw [row_same]
theorem pair_end (v : Int) : PAIR N mX8_end mX9_end [vI v] := by
  intro L σ h hL
  obtain ⟨t1, t2, t3, t4⟩ := h.1.2.2.1
  have hd := h.1.2.2.2.1
  by_cases q : 0 ≤ v ∧ v ≤ σ 0 0 1
  · refine ⟨v, row σ 0 0 (set (σ 0 0) 1 v), two σ 1 1 v, ?_, ?_, up300 (INV_new h (two_o σ 1 1 v) ?_ ?_ ?_ ?_ ?_) (by omega)⟩
    · rw [iX8_end, eX8_end_0, if_neg (Int.not_lt.mpr q.1), if_neg (Int.not_lt.mpr q.2), sup_row]
    · have r30 : row σ 0 0 (set (σ 0 0) 1 v) 30 0 = σ 30 0 := by rw [row_at, if_neg (by decide)]
      rw [iX9_end, eX9_end_0, if_neg (Int.not_lt.mpr q.1), r30, t3, if_neg (Int.not_lt.mpr q.2), sup_row, r30]
      rfl
    · rw [two_30, set_ne _ _ (by decide)]
    · rw [two_30, set_ne _ _ (by decide)]
    · rw [two_30, set_ne _ _ (by decide)]
    · unfold TAPE
      rw [two_30, two_0, set_same, set_same, two_o σ 1 1 v 1 0 (by decide) (by decide), two_o σ 1 1 v 31 0 (by decide) (by decide)]
      exact ⟨q.1, Int.le_trans q.2 t2, rfl, t4⟩
    · unfold DRAWN at hd ⊢
      rw [two_30, two_0, set_ne _ _ (by decide), set_ne _ _ (by decide)]
      exact hd
  · refine ⟨-1, σ, σ, ?_, ?_, up300 h (by omega)⟩
    · rw [iX8_end, eX8_end_0]
      by_cases z : v < 0
      · rw [if_pos z]
      · rw [if_neg z, if_pos (by omega)]
    · rw [iX9_end, eX9_end_0, t3]
      by_cases z : v < 0
      · rw [if_pos z]
      · rw [if_neg z, if_pos (by omega)]
theorem pair_draws (v : Int) (hv : v < 2147483648) : PAIR N mX8_draws mX9_draws [vI v] := by
  intro L σ h hL
  have ht := h.1.2.2.1
  obtain ⟨d1, d2, d3⟩ := h.1.2.2.2.1
  by_cases q : v < 0
  · refine ⟨-1, σ, σ, ?_, ?_, up300 h (by omega)⟩
    · rw [iX8_draws, eX8_draws_0, if_pos q]
    · rw [iX9_draws, eX9_draws_0, if_pos q]
  · refine ⟨σ 0 0 10, row σ 0 0 (set (σ 0 0) 10 v), two σ 10 35 v, ?_, ?_, up300 (INV_new h (two_o σ 10 35 v) ?_ ?_ ?_ ?_ ?_) (by omega)⟩
    · rw [iX8_draws, eX8_draws_0, if_neg q, sup_row]
    · have r30 : row σ 0 0 (set (σ 0 0) 10 v) 30 0 = σ 30 0 := by rw [row_at, if_neg (by decide)]
      rw [iX9_draws, eX9_draws_0, if_neg q, sup_row, r30, d1]
      rfl
    · rw [two_30, set_ne _ _ (by decide)]
    · rw [two_30, set_ne _ _ (by decide)]
    · rw [two_30, set_ne _ _ (by decide)]
    · unfold TAPE at ht ⊢
      rw [two_30, two_0, set_ne _ _ (by decide), set_ne _ _ (by decide), two_o σ 10 35 v 1 0 (by decide) (by decide), two_o σ 10 35 v 31 0 (by decide) (by decide)]
      exact ht
    · unfold DRAWN
      rw [two_30, two_0, set_same, set_same]
      exact ⟨rfl, Int.not_lt.mp q, hv⟩
theorem pair_least (w : Int) : PAIR N mX8_least mX9_least [vI w] := pair_of (fun L σ h => by
  have eq := INV_eq h
  have hm := INV_okm h
  have hc := h.2.1.1
  have he := h.1.2.1
  have hg := h.1.1
  have oi := fun v lo hi => s9_in (N := N) (σ := σ) v lo hi
  have ma := s9_why (N := N) 0 (by decide) he.1 hm
  have mb := s9_why (N := N) 1 (by decide) he.1 hm
  have ca := s2_reason (N := N) (i := 0) 0 (by decide) hg hc
  have cb := s2_reason (N := N) (i := 0) 1 (by decide) hg hc
  have va := s2_version (N := N) (σ := σ) (i := 0) 0 (by decide) hc.1
  have vb := s2_version (N := N) (σ := σ) (i := 0) 1 (by decide) hc.1
  have na := s9_versionOf (N := N) (σ := σ) 0 (by decide) hm.1
  have nb := s9_versionOf (N := N) (σ := σ) 1 (by decide) hm.1
  rw [show whyM σ (σ 40 0) 0 = whyF (σ 2 1 0) (σ 3 1) (σ 4 1) (σ 7 0) 0 from (he.2.1 _ _).trans (whyF_cells eq _ _ _ 0 (by decide)).symm] at ma
  rw [show whyM σ (σ 40 0) 1 = whyF (σ 2 1 0) (σ 3 1) (σ 4 1) (σ 7 0) 1 from (he.2.1 _ _).trans (whyF_cells eq _ _ _ 1 (by decide)).symm] at mb
  rw [← eq _ (by decide)] at na nb
  have p0 : whyF (σ 2 1 0) (σ 3 1) (σ 4 1) (σ 7 0) 0 = 0 → 0 ≤ σ 7 0 0 - 1 := by
    intro z
    unfold whyF at z
    split at z
    · cases z
    · rename_i g
      exact Int.not_lt.mp (fun y => g (Or.inl y))
  have p1 : whyF (σ 2 1 0) (σ 3 1) (σ 4 1) (σ 7 0) 1 = 0 → 0 ≤ σ 7 0 14 - 1 := by
    intro z
    unfold whyF at z
    split at z
    · cases z
    · rename_i g
      exact Int.not_lt.mp (fun y => g (Or.inl y))
  simp only [Int.cast_ofNat_Int, Nat.mul_zero, Nat.mul_one] at ma mb ca cb va vb na nb
  generalize whyF (σ 2 1 0) (σ 3 1) (σ 4 1) (σ 7 0) 0 = ya at ma ca p0
  generalize whyF (σ 2 1 0) (σ 3 1) (σ 4 1) (σ 7 0) 1 = yb at mb cb p1
  generalize σ 7 0 0 - 1 = v0 at va na p0
  generalize σ 7 0 14 - 1 = v1 at vb nb p1
  clear eq hm hc he hg h
  have w1 : w32 (0 + 1) = 1 := rfl
  have w2 : w32 (1 + 1) = 2 := rfl
  by_cases q : w = 0 ∨ w = 1
  · have qi : 0 ≤ w ∧ w ≤ 1 := by omega
    have ent : inv N mX8_least [vR 0 0, vI w] (P σ) = bnd (inv N mX2_reasonAgainst [vR 6 0, vI 0] (P σ)) (fun r S2 => ev N mX8_least 11 [vR 0 0, vI w, vX, vX, vX, vX] (push r []) S2) := by
      rw [iX8_least, eX8_least_0]
      rcases q with rfl | rfl
      · rw [if_pos rfl]
      · rw [if_neg (by decide), if_pos rfl]
    refine ⟨if ya = 0 then (if yb = 0 then (if w = 0 then min v0 v1 else max v0 v1) else v0) else if yb = 0 then v1 else -2, ?_, ?_⟩
    · rw [ent, ca, bnd_s, push_s, eX8_least_11]
      by_cases a : ya = 0 <;> by_cases b : yb = 0 <;> simp only [a, b, ↓reduceIte, cb, va, vb, bnd_s, push_s, eX8_least_20, eX8_least_39, eX8_least_48, Int.reduceEq, Int.min_self, Int.max_self, ite_self]
      split <;> rfl
    · rw [iX9_least, eX9_least_0, oi, if_pos qi, bnd_s, push_s, eX9_least_5, if_neg (by decide), eX9_least_12, if_pos (by decide), ma, bnd_s, push_s, eX9_least_18]
      have fin : ∀ (b : Int) (x4 : MV), ev N mX9_least 12 [vR 30 0, vI w, vI b, vI 2, x4] [] (P σ) = some (some (vI b), P σ) := by
        intro b x4
        rw [eX9_least_12, if_neg (by decide)]
      have one : ∀ (b : Int) (x4 : MV), ev N mX9_least 12 [vR 30 0, vI w, vI b, vI 1, x4] [] (P σ) = some (some (vI (if yb = 0 then (if b = -2 then v1 else if w = 0 then (if v1 < b then v1 else b) else if b < v1 then v1 else b) else b)), P σ) := by
        intro b x4
        rw [eX9_least_12, if_pos (by decide), mb, bnd_s, push_s, eX9_least_18, w2]
        by_cases b1 : yb = 0
        · rw [if_pos b1, if_pos b1, nb, bnd_s, push_s, eX9_least_22, w2, fin, fin]
          by_cases b2 : b = -2
          · rw [if_pos b2, if_pos b2]
          · rw [if_neg b2, if_neg b2]
            by_cases b3 : w = 0
            · rw [if_pos b3, if_pos b3]
              split <;> rfl
            · rw [if_neg b3, if_neg b3]
              split <;> rfl
        · rw [if_neg b1, if_neg b1, fin]
      rw [w1, one, na, bnd_s, push_s, eX9_least_22, if_pos rfl, w1, one]
      by_cases a : ya = 0
      · rw [if_pos a, if_pos a]
        refine congrArg (fun v => some (some (vI v), P σ)) ?_
        have := p0 a
        by_cases b : yb = 0
        · rw [if_pos b, if_pos b, if_neg (by omega)]
          by_cases b3 : w = 0
          · rw [if_pos b3, if_pos b3]
            split <;> omega
          · rw [if_neg b3, if_neg b3]
            split <;> omega
        · rw [if_neg b, if_neg b]
      · rw [if_neg a, if_neg a]
        refine congrArg (fun v => some (some (vI v), P σ)) ?_
        by_cases b : yb = 0
        · rw [if_pos b, if_pos b, if_pos rfl]
        · rw [if_neg b, if_neg b]
  · refine ⟨-1, ?_, ?_⟩
    · rw [iX8_least, eX8_least_0, if_neg (fun z => q (Or.inl z)), if_neg (fun z => q (Or.inr z))]
    · rw [iX9_least, eX9_least_0, oi, if_neg (show ¬ (0 ≤ w ∧ w ≤ 1) by omega), bnd_s, push_s, eX9_least_5, if_pos rfl])
end ASK
end
