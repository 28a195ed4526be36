/-! THE TWO MACHINES: install, resume, refresh, prefer -/
theorem n14 {s : Nat} (hs : s < 2) : 14 * s + 14 ≤ 56 := by omega
theorem n84 {im : Nat} (h : im < 6) : 14 * im + 14 ≤ 84 := by omega
theorem n_im {im : Nat} (h : im < 6) : 0 ≤ (im : Int) ∧ (im : Int) < 6 := by omega
theorem n_s {s : Nat} (h : s < 2) : 0 ≤ (s : Int) ∧ (s : Int) < 2 := by omega
theorem n_t {s im : Nat} (hs : s < 2) (him : im < 6) : Int.tmod (w32 (w32 ((s : Int) + (im : Int)) + 90)) 256 = ((s : Int) + (im : Int) + 90) % 256 := by
  have a1 : 0 ≤ (s : Int) + (im : Int) + 90 := by omega
  rw [w32i (x := (s : Int) + (im : Int)) (by omega) (by omega), w32i (by omega) (by omega)]
  exact tmod256 a1
theorem n_1s {s : Nat} (hs : s < 2) : w32 (1 - (s : Int)) = ((1 - s : Nat) : Int) ∧ ¬ (((1 - s : Nat) : Int) < 0) ∧ ((1 - s : Nat) : Int) < 8 := by
  refine ⟨?_, by omega, by omega⟩
  rw [w32i (by omega) (by omega)]
  omega
theorem n_3s {s : Nat} (hs : s < 2) : 3 - s ≠ 6 ∧ 3 - s ≠ 8 ∧ 3 - s ≠ 9 := by omega
theorem lay_rdI {σ0 : Sto} (f b : Nat) (x : XP) : layC b (rdI σ0 f) x = layK b (fun j => σ0 5 1 (f + j)) 14 (wrC b 1 0 x) :=
  lay_const b (rdI σ0 f) (fun j => σ0 5 1 (f + j)) (fun _ => True) (fun _ _ _ _ _ => trivial) (fun _ _ _ _ => rfl) 14 _ (by omega) trivial
section MOD
variable {N : Nat} {σ σ0 : Sto} {x : XP}
theorem env_words (he : EnvM σ0 σ) {im : Nat} (hi : (im : Int) < σ0 2 1 1) : ∀ j, j < 14 → σ 36 0 (14 * im + j) = σ0 5 1 (14 * im + j) := by
  intro j hj
  exact he.2.2.2.2.2.2.2.1 _ (by omega)
theorem m_lay (he : EnvM σ0 σ) (s im : Nat) (hs : s < 4) (him : im < 6) (hi : (im : Int) < σ0 2 1 1) (h : R x σ) : ∃ τ, inv N mX9_laysWords [vR 30 0, vI (s : Int), vR 36 0, vI (w32 (14 * (im : Int)))] (P σ) = some (none, P τ) ∧ KM σ τ ∧ R (layC (14 * s) (rdI σ0 (14 * im)) x) τ ∧ τ 43 0 = σ 43 0 := by
  have e : w32 (14 * (im : Int)) = ((14 * im : Nat) : Int) := by rw [w32i (by omega) (by omega)]; omega
  have w := env_words he hi
  rw [e, s9_lay36 s (14 * im) hs (by omega) (fun j => σ0 5 1 (14 * im + j)) w, lay_rdI]
  exact ⟨_, rfl, KM_trans (KM_wr _ _ _ _) (KM_lay _ _ _ _), R_lay (14 * s) (by omega) _ 14 _ _ (by omega) (R_wr h _ _ (by omega) _), (layM_o _ _ (Or.inl rfl) _ _).trans (wrM_o _ _ _ _ (Or.inl rfl))⟩
theorem layC_o (b f : Nat) {j : Nat} (h8 : j ≠ 8) (h9 : j ≠ 9) (y : XP) : (layC b (rdI σ0 f) y).2 j = y.2 j := by
  rw [lay_rdI, layK_o _ _ h8 h9, wrC_o _ _ _ _ h8 h9]
theorem m_resumes (hg : OKG σ0 1) (s im : Nat) (hs : s < 2) (him : im < 6) (hi : (im : Int) < σ0 2 1 1) (h : RP x σ) (he : EnvM σ0 σ) (h72 : σ 40 0 72 = (s : Int)) (h73 : σ 40 0 73 = (im : Int)) : ∃ τ, inv N mX9_resumes [vR 30 0] (P σ) = some (none, P τ) ∧ KM σ τ ∧ R (finishC σ0 s im x) τ := by
  obtain ⟨nn, p20, p28, p40, p48, k2, k4, j6, j7, j8, j9, hs4, r6, hs01⟩ := s_facts hs
  obtain ⟨r1, r2, r3⟩ := m_read (N := N) h
  have g := RF_g r3 0 (fgV s (rfM σ 43 0)) (j := 2 + s) j6 j7 j8 j9 (FR_forget r3.2.2.1 s hs) (okf_set r3.2.2.2.2.2 (fun _ => zero_b) j6)
  obtain ⟨w1, w2, w3, w4, w5, w6⟩ := m_wf (N := N) g
  have km3 : KM σ (wfM (row (rfM σ) 43 0 (fgV s (rfM σ 43 0)))) := KM_trans r2 (KM_trans (KM_row _ _ _ (Or.inr (Or.inl rfl))) w2)
  rw [row_same] at w5
  obtain ⟨τ, t1, t2, t3, t4⟩ := m_lay (N := N) (EnvM_KM he km3) s im hs4 him hi w3
  have hb : 14 * s + 14 ≤ 56 := n14 hs
  have hf84 : 14 * im + 14 ≤ 84 := n84 him
  have ok4 : OKX (layC (14 * s) (rdI σ0 (14 * im)) (writeFlagsC (x.1, set x.2 (2 + s) 0))) := layC_ok _ hb _ (fun y k _ hk => wrd_r hg (14 * im) hf84 k hk) w4
  have km4 := KM_trans km3 t2
  have e38 := (EnvM_KM he km4).2.2.2.2.2.1
  have tr1 := hg.2.2.2.2.2.2.1
  have tr2 := hg.2.2.2.2.2.2.2.1
  have f43 : τ 43 0 = fgV s (rfM σ 43 0) := t4.trans w5
  have lv : τ 30 0 24 = 0 → RF (layC (14 * s) (rdI σ0 (14 * im)) (writeFlagsC (x.1, set x.2 (2 + s) 0))) τ := by
    intro hl
    by_cases hl3 : wfM (row (rfM σ) 43 0 (fgV s (rfM σ 43 0))) 30 0 24 = 0
    · exact RF_keep (w6 hl3) t3 hl (fun j a b => layC_at _ _ _ (Or.inr (Nat.le_trans hb a))) (layC_o _ _ (by decide) (by decide) _) (layC_o _ _ (by decide) (by decide) _) (layC_o _ _ (by decide) (by decide) _) (layC_o _ _ (by decide) (by decide) _) (layC_o _ _ (by decide) (by decide) _) t4 ok4
    · have d := R_dead w3 hl3
      have d1 : Dead (layC (14 * s) (rdI σ0 (14 * im)) (writeFlagsC (x.1, set x.2 (2 + s) 0))) := by
        rw [lay_rdI]
        have d2 := DD_wr d (14 * s) 1 0
        exact DD_dead (DD_layK _ _ _ _ (DD_dead d2 d)) (DD_dead d2 d)
      have l := (R_live t3 hl).2.1
      rw [d1.1] at l
      cases l
  obtain ⟨υ, u1, u2, u3⟩ := m_fin_tail (N := N) s hs (im : Int) t3 ok4 (σ0 2 1 3) ⟨tr1, tr2⟩ e38 (by rw [f43]; exact (fgV_s s hs _).1) (by rw [f43]; exact (fgV_s s hs _).2) lv
  refine ⟨υ, ?_, KM_trans km4 u2, u3⟩
  rw [iX9_resumes, eX9_resumes_0, if_pos h.2.1, r1, bnd_s, push_n, show (72 : Int).toNat = 72 from rfl, show (73 : Int).toNat = 73 from rfl, h72, h73, eX9_resumes_16, s9_forgets s hs, bnd_s, push_n, eX9_resumes_19, w1, bnd_s, push_n, eX9_resumes_21, t1, bnd_s, push_n, u1]
theorem m_resumes_cut (hl : ¬ σ 30 0 24 = 0) : inv N mX9_resumes [vR 30 0] (P σ) = some (none, P σ) := by
  rw [iX9_resumes, eX9_resumes_0, if_neg hl]
theorem DD_finish (s im : Nat) (hs : s < 2) (d : Dead x) : DD x (finishC σ0 s im x) := by
  unfold finishC
  have d1 : DD x (setFl s 0 x) := DD_g x (2 + s) 0 (by omega) (by omega) (by omega)
  have d2 := DD_trans d1 (DD_wf (DD_dead d1 d))
  have d3 := DD_trans d2 (DD_wr (DD_dead d2 d) (14 * s) 1 0)
  have d4 : DD x (layC (14 * s) (rdI σ0 (14 * im)) (writeFlagsC (setFl s 0 x))) := by
    rw [lay_rdI]
    exact DD_trans d3 (DD_layK _ _ _ _ (DD_dead d3 d))
  have d5 := DD_trans d4 (DD_g _ (2 + s) (2 * σ0 2 1 3) (by omega) (by omega) (by omega))
  have d6 := DD_trans d5 (DD_favour s hs _)
  have d7 := DD_trans d6 (DD_wf (DD_dead d6 d))
  exact DD_trans d7 (DD_wr (DD_dead d7 d) 74 1 0)
/-- the journal is opened: live behind it, it holds slot and image -/
theorem openJ_live {s im : Int} (h : (openJC s im x).2 9 = 0) : (openJC s im x).1 72 = s ∧ (openJC s im x).1 73 = im := by
  unfold openJC at h ⊢
  obtain ⟨e5, h⟩ := wrC_live h
  obtain ⟨e4, h⟩ := wrC_live h
  obtain ⟨e3, h⟩ := wrC_live h
  obtain ⟨e2, h⟩ := wrC_live h
  rw [e5, e4, e3, e2]
  generalize (wrC 74 1 0 x).1 = c
  refine ⟨?_, ?_⟩ <;> simp (disch := decide) only [fill1_eq, fill1_ne]
theorem PF_open (h : PF x) (s im : Int) : PF (openJC s im x) := by
  unfold openJC
  exact PF_wr (PF_wr (PF_wr (PF_wr (PF_wr h 74 1 0 (by omega)) 72 1 s (by omega)) 73 1 im (by omega)) 75 1 _ (by omega)) 74 1 90 (by omega)
theorem m_installs (hg : OKG σ0 1) (s im : Nat) (hs : s < 2) (him : im < 6) (hi : (im : Int) < σ0 2 1 1) (h : RP x σ) (he : EnvM σ0 σ) : ∃ τ, inv N mX9_installs [vR 30 0, vI (s : Int), vI (im : Int)] (P σ) = some (some (vI (if τ 30 0 24 = 0 then (finishC σ0 s im (openJC s im x)).2 8 else -2)), P τ) ∧ KM σ τ ∧ R (finishC σ0 s im (openJC s im x)) τ := by
  have q := fun (a : Nat) (ha : a < 107) (v : Int) (τ : Sto) => s9_writes (N := N) (σ := τ) a ha v
  have q72 := q 72 (by decide)
  have q73 := q 73 (by decide)
  have q74 := q 74 (by decide)
  have q75 := q 75 (by decide)
  simp only [Int.cast_ofNat_Int] at q72 q73 q74 q75
  have t := n_t hs him
  have r5 : R (openJC s im x) (wrM 74 1 90 (wrM 75 1 (((s : Int) + (im : Int) + 90) % 256) (wrM 73 1 im (wrM 72 1 s (wrM 74 1 0 σ))))) := by
    unfold openJC
    exact R_wr (R_wr (R_wr (R_wr (R_wr h.1 74 1 (by decide) 0) 72 1 (by decide) s) 73 1 (by decide) im) 75 1 (by decide) _) 74 1 (by decide) 90
  have km : KM σ (wrM 74 1 90 (wrM 75 1 (((s : Int) + (im : Int) + 90) % 256) (wrM 73 1 im (wrM 72 1 s (wrM 74 1 0 σ))))) := KM_trans (KM_wr _ _ _ _) (KM_trans (KM_wr _ _ _ _) (KM_trans (KM_wr _ _ _ _) (KM_trans (KM_wr _ _ _ _) (KM_wr _ _ _ _))))
  have ok5 : OKX (openJC (s : Int) (im : Int) x) := openJC_ok (n_s hs) (n_im him) h.2.2.2
  rw [iX9_installs, eX9_installs_0, q74, bnd_s, push_n, eX9_installs_4, q72, bnd_s, push_n, eX9_installs_8, q73, bnd_s, push_n, eX9_installs_12, t, q75, bnd_s, push_n, eX9_installs_22, q74, bnd_s, push_n, eX9_installs_26]
  generalize wrM 74 1 90 (wrM 75 1 (((s : Int) + (im : Int) + 90) % 256) (wrM 73 1 im (wrM 72 1 s (wrM 74 1 0 σ)))) = τ at r5 km
  by_cases hl : τ 30 0 24 = 0
  · have oj := openJ_live (R_live r5 hl).2.1
    have rp : RP (openJC s im x) τ := ⟨r5, hl, PF_open h.2.2.1 s im, ok5⟩
    obtain ⟨υ, u1, u2, u3⟩ := m_resumes (N := N) hg s im hs him hi rp (EnvM_KM he km) ((r5.1.1 72 (by decide)).symm.trans oj.1) ((r5.1.1 73 (by decide)).symm.trans oj.2)
    refine ⟨υ, ?_, KM_trans km u2, u3⟩
    rw [u1, bnd_s, push_n, eX9_installs_28, u3.2.1]
    split <;> rfl
  · have d := R_dead r5 hl
    refine ⟨τ, ?_, km, R_dd r5 (DD_finish s im hs d) d⟩
    rw [m_resumes_cut hl, bnd_s, push_n, eX9_installs_28, if_neg hl, if_neg hl]
theorem m_refreshes (hg : OKG σ0 1) (im : Nat) (him : im < 6) (hi : (im : Int) < σ0 2 1 1) (h : R x σ) (hx : OKX x) (he : EnvM σ0 σ) : ∃ τ, inv N mX9_refreshes [vR 30 0, vI (im : Int)] (P σ) = some (some (vI (if τ 30 0 24 = 0 then (otherF (copyF (σ0 2 1 0) (σ0 3 1) (σ0 4 1) x.1) : Int) else -2)), P τ) ∧ KM σ τ ∧ R (layC (14 * otherF (copyF (σ0 2 1 0) (σ0 3 1) (σ0 4 1) x.1)) (rdI σ0 (14 * im)) x) τ := by
  have hm := okx_R h hx
  have ec : copyF (σ 30 0 5) (σ 32 0) (σ 33 0) (σ 40 0) = copyF (σ0 2 1 0) (σ0 3 1) (σ0 4 1) x.1 := by rw [EnvM_copy he, copyF_cells h.1.1]
  rw [iX9_refreshes, eX9_refreshes_0, s9_copyNow he.1 hm, bnd_s, push_s, eX9_refreshes_2, ec]
  generalize copyF (σ0 2 1 0) (σ0 3 1) (σ0 4 1) x.1 = cp
  obtain ⟨τ3, a1, a2, a3, -⟩ := m_lay (N := N) he 3 im (by decide) him hi h
  obtain ⟨τ2, b1, b2, b3, -⟩ := m_lay (N := N) he 2 im (by decide) him hi h
  simp only [Int.cast_ofNat_Int] at a1 b1
  unfold otherF
  by_cases hc : cp = 2
  · rw [if_pos hc, if_pos hc, a1, bnd_s, push_n, eX9_refreshes_16]
    refine ⟨τ3, ?_, a2, a3⟩
    split <;> rfl
  · rw [if_neg hc, if_neg hc, b1, bnd_s, push_n, eX9_refreshes_16]
    refine ⟨τ2, ?_, b2, b3⟩
    split <;> rfl
theorem m_prefersNow (s : Nat) (hs : s < 2) (h : RP x σ) : ∃ τ, inv N mX9_prefersNow [vR 30 0, vI (s : Int)] (P σ) = some (some (vI (if τ 30 0 24 = 0 then (writeFlagsC (favourC s x)).2 (3 - s) / 16 else -2)), P τ) ∧ KM σ τ ∧ R (writeFlagsC (favourC s x)) τ := by
  obtain ⟨r1, r2, r3⟩ := m_read (N := N) h
  have e30 : ∀ g : Vec, row (rfM σ) 43 0 g 30 0 = rfM σ 30 0 := fun g => by rw [row_at, if_neg (by decide)]
  have fr := FR_favour (c := x.1) r3.2.2.1 s hs
  have g : RF (favourC s x) (row (rfM σ) 43 0 (pfV s (rfM σ 43 0))) := by
    refine ⟨R_44 ?_ 43 _ (Or.inl rfl), by rw [e30]; exact r3.2.1, by rw [row_same]; exact fr, ?_, favourC_ok hs r3.2.2.2.2⟩
    · have hr := r3.1
      obtain ⟨d1, d2, d3, d4⟩ := DD_favour s hs x
      unfold R RL RD at hr ⊢
      rw [d1, d2, d3, d4]
      exact hr
    · unfold NR
      rw [favour_6 s hs]
      exact r3.2.2.2.1
  obtain ⟨w1, w2, w3, w4, w5, w6⟩ := m_wf (N := N) g
  obtain ⟨e1, p1⟩ := n_1s hs
  have oth : (writeFlagsC (favourC s x)).2 (3 - s) / 16 = pfV s (rfM σ 43 0) (1 - s) := by
    have n6 := n_3s hs
    rw [writeFlagsC_o _ n6.1 n6.2.1 n6.2.2]
    clear w1 w2 w3 w4 w5 w6 g e30 r1 r2
    obtain ⟨c2, c3, c4, c5, f0, f1, f2, f3, f4, f5, f6, f7⟩ := fr
    have c2 : (favourC s x).2 2 = _ := c2
    have c3 : (favourC s x).2 3 = _ := c3
    generalize pfV s (rfM σ 43 0) = f at c2 c3 f0 f1 f2 f3 f4 f5 ⊢
    generalize (favourC s x).2 = g2 at c2 c3 ⊢
    clear h r3
    rcases (show s = 0 ∨ s = 1 by omega) with rfl | rfl
    · show g2 3 / 16 = f 1
      omega
    · show g2 2 / 16 = f 0
      omega
  refine ⟨_, ?_, KM_trans r2 (KM_trans (KM_row _ _ _ (Or.inr (Or.inl rfl))) w2), w3⟩
  rw [iX9_prefersNow, eX9_prefersNow_0, r1, bnd_s, push_n, eX9_prefersNow_2, s9_prefers s hs, bnd_s, push_n, eX9_prefersNow_5, e1, if_neg p1.1, if_pos p1.2, w1, bnd_s, push_n, eX9_prefersNow_14, Int.toNat_natCast, row_same, oth]
  split <;> rfl
end MOD
