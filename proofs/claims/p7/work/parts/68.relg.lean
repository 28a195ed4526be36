/-! THE TWO MACHINES: a deed does alike -/
section MOD
variable {N : Nat} {σ σ0 : Sto} {x : XP}
theorem m_close {τ υ : Sto} {y : XP} {ans : Int} {F : Int × XP} (hF : F = endC ans y) (hr : R y τ) (km : KM σ υ) (km2 : KM υ τ) : KM σ (row τ 40 0 (set (τ 40 0) 81 (τ 30 0 23))) ∧ RZ F.2.1 (row τ 40 0 (set (τ 40 0) 81 (τ 30 0 23)) 40 0) ∧ row τ 40 0 (set (τ 40 0) 81 (τ 30 0 23)) 30 0 23 = F.2.1 81 ∧ F.1 = (if τ 30 0 24 = 0 then ans else -2) := by
  obtain ⟨e1, e2, e3⟩ := m_end hr ans
  rw [hF, row_same, row_at, if_neg (by decide)]
  exact ⟨KM_trans km (KM_trans km2 (KM_row _ _ _ (Or.inl rfl))), e2, e3.symm, e1⟩
theorem bootC_end (a cut : Int) (B : Int × XP) (hB : B = if (startSlotC (whyS σ) (σ 2 1 2) (if a = 1 then 1 else 0) (beginC cut x)).1 = -1 then startRecoveryC (copyF (σ 2 1 0) (σ 3 1) (σ 4 1) (startSlotC (whyS σ) (σ 2 1 2) (if a = 1 then 1 else 0) (beginC cut x)).2.1) (startSlotC (whyS σ) (σ 2 1 2) (if a = 1 then 1 else 0) (beginC cut x)).2 else startSlotC (whyS σ) (σ 2 1 2) (if a = 1 then 1 else 0) (beginC cut x)) : bootC σ a cut x = endC B.1 B.2 := by
  subst hB
  unfold bootC
  generalize (if a = 1 then (1 : Int) else 0) = bt
  by_cases h : (startSlotC (whyS σ) (σ 2 1 2) bt (beginC cut x)).1 = -1
  · rw [if_pos h, if_pos h]
  · rw [if_neg h, if_neg h]
theorem m_does (hg : OKG σ0 1) (hz : RZ x.1 (σ 40 0)) (hx : OKC x.1) (he : EnvM σ0 σ) (hb : x.1 82 < 2147483000) (d a b cut : Int) (hd : ableF (σ0 2 1 1) (σ0 5 1) x.1 d a b = 1) (c0 : -1 ≤ cut) (c1 : cut < 2147483648) :
    ∃ τ, inv N mX9_does [vR 30 0, vI d, vI a, vI b, vI cut] (P σ) = some (some (vI (performC σ0 d a b cut x).1), P τ) ∧ KM σ τ ∧ RZ (performC σ0 d a b cut x).2.1 (τ 40 0) ∧ τ 30 0 23 = (performC σ0 d a b cut x).2.1 81 := by
  obtain ⟨υ, b1, b2, b3, b4⟩ := m_begin (N := N) hz hx cut c0 c1
  have he2 := EnvM_KM he b2
  have e82 : (beginC cut x).1 82 = x.1 82 := rfl
  have e81 : (81 : Int).toNat = 81 := rfl
  rw [iX9_does, eX9_does_0, b1, bnd_s, push_n, eX9_does_3]
  unfold ableF at hd
  unfold performC
  by_cases d0 : d = 0
  · obtain ⟨τ, t1, t2, t3⟩ := m_boots (N := N) hg (if a = 1 then 1 else 0) b3 he2 (by rw [e82]; exact hb)
    have hB := bootC_end (σ := σ0) (x := x) a cut _ rfl
    obtain ⟨k1, k2, k3, k4⟩ := m_close hB t3 b2 t2
    rw [if_pos d0, if_pos d0]
    refine ⟨_, ?_, k1, k2, k3⟩
    rw [k4]
    by_cases ha : a = 1
    · rw [if_pos ha] at t1 ⊢
      rw [if_pos ha, t1, bnd_s, push_s, eX9_does_13, sup_row, e81]
    · rw [if_neg ha] at t1 ⊢
      rw [if_neg ha, t1, bnd_s, push_s, eX9_does_13, sup_row, e81]
  rw [if_neg d0] at hd ⊢
  rw [if_neg d0]
  by_cases hr : x.1 78 = -1
  · rw [if_pos hr] at hd
    cases hd
  rw [if_neg hr] at hd
  by_cases d1 : d = 1
  · obtain ⟨τ, t1, t2, t3⟩ := m_heals (N := N) hg b3 he2 hr
    obtain ⟨k1, k2, k3, k4⟩ := m_close (F := perfHealthC σ0 cut x) rfl t3 b2 t2
    rw [if_pos d1, if_pos d1]
    exact ⟨_, by rw [k4, t1, bnd_s, push_s, eX9_does_17, sup_row, e81], k1, k2, k3⟩
  rw [if_neg d1] at hd ⊢
  rw [if_neg d1]
  by_cases d2 : d = 2
  · rw [if_pos d2] at hd ⊢
    rw [if_pos d2]
    by_cases q : (a = 0 ∨ a = 1) ∧ ¬ a = x.1 78 ∧ 0 ≤ b ∧ b < σ0 2 1 1
    · obtain ⟨s, hs, es⟩ := slot_s q.1
      have g4 := hg.2.2.2.1
      have bi : b.toNat < 6 ∧ ((b.toNat : Nat) : Int) = b := by omega
      obtain ⟨τ, t1, t2, t3⟩ := m_installs (N := N) hg s b.toNat hs bi.1 (by rw [bi.2]; exact q.2.2.2) b3 he2
      rw [bi.2] at t1 t3
      obtain ⟨k1, k2, k3, k4⟩ := m_close (F := perfInstallC σ0 s b.toNat cut x) (by unfold perfInstallC; rw [bi.2]) t3 b2 t2
      rw [es, Int.toNat_natCast]
      exact ⟨_, by rw [k4, t1, bnd_s, push_s, eX9_does_23, sup_row, e81], k1, k2, k3⟩
    · rw [if_neg q] at hd
      cases hd
  rw [if_neg d2] at hd ⊢
  rw [if_neg d2]
  by_cases d3 : d = 3
  · rw [if_pos d3] at hd ⊢
    rw [if_pos d3]
    by_cases q : a = 0 ∧ 0 ≤ b ∧ b < σ0 2 1 1 ∧ σ0 5 1 (14 * b.toNat + 1) = 0
    · have g4 := hg.2.2.2.1
      have bi : b.toNat < 6 ∧ ((b.toNat : Nat) : Int) = b := by
        obtain ⟨-, q1, q2, -⟩ := q
        clear hd b1 b4 e82 e81
        omega
      obtain ⟨τ, t1, t2, t3⟩ := m_refreshes (N := N) hg b.toNat bi.1 (by rw [bi.2]; exact q.2.2.1) b3.1 b3.2.2.2 he2
      rw [bi.2] at t1
      obtain ⟨k1, k2, k3, k4⟩ := m_close (F := perfRefreshC σ0 b.toNat cut x) rfl t3 b2 t2
      exact ⟨_, by rw [k4, t1, bnd_s, push_s, eX9_does_28, sup_row, e81]; rfl, k1, k2, k3⟩
    · rw [if_neg q] at hd
      cases hd
  rw [if_neg d3] at hd ⊢
  rw [if_neg d3]
  by_cases d4 : d = 4
  · rw [if_pos d4] at hd ⊢
    rw [if_pos d4]
    by_cases q : (a = 0 ∨ a = 1) ∧ b = 0
    · obtain ⟨s, hs, es⟩ := slot_s q.1
      obtain ⟨τ, t1, t2, t3⟩ := m_prefersNow (N := N) s hs b3
      obtain ⟨k1, k2, k3, k4⟩ := m_close (F := perfPreferC s cut x) rfl t3 b2 t2
      rw [es, Int.toNat_natCast]
      exact ⟨_, by rw [k4, t1, bnd_s, push_s, eX9_does_33, sup_row, e81], k1, k2, k3⟩
    · rw [if_neg q] at hd
      cases hd
  rw [if_neg d4] at hd ⊢
  rw [if_neg d4]
  by_cases d5 : d = 5
  · obtain ⟨τ, t1, t2, t3⟩ := m_mends (N := N) b3 he2
    obtain ⟨k1, k2, k3, k4⟩ := m_close (F := perfMendC σ0 cut x) rfl t3 b2 t2
    rw [if_pos d5, if_pos d5]
    exact ⟨_, by rw [k4, t1, bnd_s, push_s, eX9_does_37, sup_row, e81], k1, k2, k3⟩
  rw [if_neg d5] at hd ⊢
  rw [if_neg d5]
  by_cases d6 : d = 6
  · rw [if_pos d6] at hd
    by_cases q : a = 0 ∧ b = 0 ∧ openF (σ0 2 1 1) x.1 = 1 ∧ ¬ x.1 72 = x.1 78
    · obtain ⟨o1, o2⟩ := able_open q.2.2.1
      obtain ⟨s, hs, es⟩ := slot_s o1
      have g4 := hg.2.2.2.1
      have b73 := hx.2.1 73 (by decide) (by decide)
      have bi : (x.1 73).toNat < 6 ∧ (((x.1 73).toNat : Nat) : Int) = x.1 73 := by
        generalize x.1 73 = v at o2 b73 ⊢
        clear hd b1 b4 e82 e81 q es
        omega
      obtain ⟨τ, t1, t2, t3⟩ := m_resumes (N := N) hg s (x.1 73).toNat hs bi.1 (by rw [bi.2]; exact o2) b3 he2 (by rw [b4, ← hz.1.1 72 (by decide), es]) (by rw [b4, ← hz.1.1 73 (by decide), bi.2])
      obtain ⟨k1, k2, k3, k4⟩ := m_close (F := perfResumeC σ0 cut x) (by unfold perfResumeC; rw [es, Int.toNat_natCast]) t3 b2 t2
      refine ⟨_, ?_, k1, k2, k3⟩
      rw [k4, t1, bnd_s, push_n, eX9_does_41, sup_row, e81, t3.2.1]
      split <;> rfl
    · rw [if_neg q] at hd
      cases hd
  · rw [if_neg d6] at hd
    cases hd
end MOD
