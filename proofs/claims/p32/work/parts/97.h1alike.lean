/-! STANDS THAT ARE ALIKE: without a cut they do alike -/
/-- alive, without a cut -/
def LV (x : XP) : Prop := x.2 7 = -1 ∧ x.2 9 = 0
theorem LV_set {x : XP} (h : LV x) (c : Vec) {k : Nat} (v : Int) (h7 : k ≠ 7) (h9 : k ≠ 9) : LV (c, set x.2 k v) := ⟨(set_ne _ _ (Ne.symm h7)).trans h.1, (set_ne _ _ (Ne.symm h9)).trans h.2⟩
theorem LV_wr {x : XP} (h : LV x) (a n : Nat) (v : Int) : LV (wrC a n v x) ∧ (wrC a n v x).1 = fill x.1 a n v := by
  unfold wrC
  rw [if_neg (fun z => z.1 h.1)]
  exact ⟨LV_set h _ _ (by decide) (by decide), rfl⟩
theorem LV_wfC {x : XP} (h : LV x) (b : Nat) (nx : Int) : LV (wfC b nx x) := by
  unfold wfC
  exact (LV_wr (LV_wr (LV_wr (LV_wr (LV_wr (LV_wr (LV_wr (LV_wr (LV_wr h _ _ _).1 _ _ _).1 _ _ _).1 _ _ _).1 _ _ _).1 _ _ _).1 _ _ _).1 _ _ _).1 _ _ _).1
theorem LV_wf {x : XP} (h : LV x) : LV (writeFlagsC x) := by
  unfold writeFlagsC
  split
  · exact LV_set (LV_wfC h 64 (nxC x.1 0)) _ _ (by decide) (by decide)
  · exact LV_set (LV_wfC h 56 (nxC x.1 (x.2 6))) _ _ (by decide) (by decide)
/-- flags are those of the pages behind a writing -/
theorem PF_wf {x : XP} (hb : OKB x.1) (hn : NR x) (h : LV x) : PF (writeFlagsC x) := by
  have n : (writeFlagsC x).2 6 = newestF (writeFlagsC x).1 := NR_wf hb hn (LV_wf h).2
  have o : ∀ j, 2 ≤ j → j < 6 → (writeFlagsC x).2 j = x.2 j := fun j a b => writeFlagsC_o x (by omega) (by omega) (by omega)
  unfold PF
  rw [o 2 (by decide) (by decide), o 3 (by decide) (by decide), o 4 (by decide) (by decide), o 5 (by decide) (by decide)]
  refine ⟨n, ?_⟩
  unfold flagF
  rw [← n]
  by_cases h6 : x.2 6 = 0
  · have e6 : (writeFlagsC x).2 6 = 1 := by
      unfold writeFlagsC
      rw [if_pos h6]
      show set (wfC 64 (nxC x.1 0) x).2 6 1 6 = 1
      exact set_same _ _ _
    have e1 : (writeFlagsC x).1 = (wfC 64 (nxC x.1 0) x).1 := by
      unfold writeFlagsC
      rw [if_pos h6]
    obtain ⟨-, -, w2, w3, w4, w5, -, -⟩ := wfC_live (LV_wfC h 64 (nxC x.1 0)).2
    rw [e6, e1]
    exact ⟨w2.symm, w3.symm, w4.symm, w5.symm⟩
  · have e6 : (writeFlagsC x).2 6 = 0 := by
      unfold writeFlagsC
      rw [if_neg h6]
      show set (wfC 56 (nxC x.1 (x.2 6)) x).2 6 0 6 = 0
      exact set_same _ _ _
    have e1 : (writeFlagsC x).1 = (wfC 56 (nxC x.1 (x.2 6)) x).1 := by
      unfold writeFlagsC
      rw [if_neg h6]
    obtain ⟨-, -, w2, w3, w4, w5, -, -⟩ := wfC_live (LV_wfC h 56 (nxC x.1 (x.2 6))).2
    rw [e6, e1]
    exact ⟨w2.symm, w3.symm, w4.symm, w5.symm⟩
theorem NR_g {x : XP} (h : NR x) {k : Nat} (v : Int) (h6 : k ≠ 6) : NR (x.1, set x.2 k v) := (set_ne _ _ (Ne.symm h6)).trans h
theorem NR_wr {x : XP} (h : NR x) (a n : Nat) (v : Int) (ha : 72 ≤ a ∨ a + n ≤ 56) : NR (wrC a n v x) := by
  have e : ∀ j, 56 ≤ j → j < 72 → (wrC a n v x).1 j = x.1 j := fun j h1 h2 => wrC_at _ _ _ _ (by omega)
  unfold NR
  rw [newestF_congr e, wrC_o _ _ _ _ (by decide) (by decide)]
  exact h
theorem PF_c {c d g : Vec} (h : PF (c, g)) (e : ∀ j, 56 ≤ j → j < 72 → d j = c j) : PF (d, g) := by
  obtain ⟨h6, h2, h3, h4, h5⟩ := h
  unfold PF
  rw [newestF_congr e, flagF_congr e (by omega : 0 < 4), flagF_congr e (by omega : 1 < 4), flagF_congr e (by omega : 2 < 4), flagF_congr e (by omega : 3 < 4)]
  exact ⟨h6, h2, h3, h4, h5⟩
theorem PF_begin (x : XP) (cut : Int) : PF (beginC cut x) := ⟨rfl, rfl, rfl, rfl, rfl⟩
theorem LV_begin (x : XP) : LV (beginC (-1) x) := ⟨rfl, rfl⟩
theorem PF_note {x : XP} (h : PF x) (w v : Int) : PF (noteStartC w v x) := by
  unfold noteStartC
  split
  · refine PF_c (c := x.1) h (fun j j1 j2 => ?_)
    rw [set_ne _ _ (by omega), set_ne _ _ (by omega), set_ne _ _ (by omega), set_ne _ _ (by omega), set_ne _ _ (by omega), set_ne _ _ (by omega)]
  · exact h
theorem LV_note {x : XP} (h : LV x) (w v : Int) : LV (noteStartC w v x) := by
  unfold noteStartC
  split
  · exact h
  · exact h
theorem PF_end {x : XP} (h : PF x) (l : LV x) (a : Int) : PF (endC a x).2 ∧ LV (endC a x).2 := by
  unfold endC
  rw [if_pos l.2]
  exact ⟨PF_c (c := x.1) h (fun j j1 j2 => set_ne _ _ (by omega)), l⟩
theorem count_g {x : XP} {s : Nat} (hs : s < 2) : NR x → LV x → NR (countTryC s x) ∧ LV (countTryC s x) := by
  intro n l
  unfold countTryC
  have h0 : NR (x.1, if x.2 (2 + s) % 2 = 0 then set x.2 (2 + s) (x.2 (2 + s) - 2) else x.2) ∧ LV (x.1, if x.2 (2 + s) % 2 = 0 then set x.2 (2 + s) (x.2 (2 + s) - 2) else x.2) := by
    split
    · exact ⟨NR_g n _ (by omega), LV_set l _ _ (by omega) (by omega)⟩
    · exact ⟨n, l⟩
  exact ⟨NR_g (NR_g h0.1 _ (by decide)) _ (by decide), LV_set (LV_set h0.2 x.1 _ (by decide) (by decide)) _ _ (by decide) (by decide)⟩
theorem PF_startL (W : Vec → Nat → Int) : ∀ (m : Nat) (x : XP), OKX x → PF x → LV x → PF (startL W m x).2 ∧ LV (startL W m x).2
  | 0, x, _, hp, hl => ⟨hp, hl⟩
  | m + 1, x, hx, hp, hl => by
    unfold startL
    by_cases h1 : chosenC x.2 = -1
    · rw [if_pos h1]
      exact ⟨hp, hl⟩
    rw [if_neg h1]
    obtain ⟨s, hs, hcs⟩ := chosen_s h1
    rw [hcs, Int.toNat_natCast]
    by_cases h2 : W x.1 s = 0
    · obtain ⟨n, l⟩ := count_g hs hp.1 hl
      rw [if_pos h2]
      exact ⟨PF_note (PF_wf (x := countTryC s x) hx.1.2.1 n l) _ _, LV_note (LV_wf l) _ _⟩
    · have l : LV (x.1, set x.2 (2 + s) 0) := LV_set hl _ _ (by omega) (by omega)
      rw [if_neg h2]
      exact PF_startL W m _ (writeFlagsC_ok (setFl_ok hx (by omega) hs)) (PF_wf (x := (x.1, set x.2 (2 + s) 0)) hx.1.2.1 (NR_g hp.1 _ (by omega)) l) (LV_wf l)
theorem PF_rec {x : XP} (hx : OKX x) (hp : PF x) (hl : LV x) (cp : Int) : PF (startRecoveryC cp x).2 ∧ LV (startRecoveryC cp x).2 := by
  have l : LV (x.1, set x.2 5 2) := LV_set hl _ _ (by decide) (by decide)
  unfold startRecoveryC
  split
  · exact ⟨hp, hl⟩
  · exact ⟨PF_note (PF_wf (x := (x.1, set x.2 5 2)) hx.1.2.1 (NR_g hp.1 _ (by decide)) l) _ _, LV_note (LV_wf l) _ _⟩
theorem PF_boot (σ : Sto) {x : XP} (hc : OKC x.1) (a : Int) : PF (bootC σ a (-1) x).2 ∧ LV (bootC σ a (-1) x).2 := by
  have hx := beginC_ok (-1) hc
  have hp := PF_begin x (-1)
  have hl := LV_begin x
  have ok := fun bt => startSlotC_ok (whyS σ) (σ 2 1 2) bt hx
  have hs : ∀ bt, PF (startSlotC (whyS σ) (σ 2 1 2) bt (beginC (-1) x)).2 ∧ LV (startSlotC (whyS σ) (σ 2 1 2) bt (beginC (-1) x)).2 := by
    intro bt
    unfold startSlotC
    split
    · exact PF_startL _ 2 _ hx hp hl
    · exact ⟨hp, hl⟩
  unfold bootC
  generalize (if a = 1 then (1 : Int) else 0) = bt
  have ok := ok bt
  have hs := hs bt
  generalize startSlotC (whyS σ) (σ 2 1 2) bt (beginC (-1) x) = p at ok hs
  split
  · have r := PF_rec ok.1 hs.1 hs.2 (copyF (σ 2 1 0) (σ 3 1) (σ 4 1) p.2.1)
    exact PF_end r.1 r.2 _
  · exact PF_end hs.1 hs.2 _
theorem PF_blowV : ∀ (m : Nat) (b : Int) (x : XP), PF x → LV x → PF (blowVC m b x) ∧ LV (blowVC m b x)
  | 0, _, _, h, l => ⟨h, l⟩
  | m + 1, b, x, h, l => PF_blowV m (b + 1) _ (PF_wr h 76 1 _ (Or.inl (by decide))) (LV_wr l _ _ _).1
theorem PF_blowK (rv : Int) : ∀ (m k : Nat) (x : XP), PF x → LV x → PF (blowKC rv m k x) ∧ LV (blowKC rv m k x)
  | 0, _, _, h, l => ⟨h, l⟩
  | m + 1, k, x, h, l => by
    have t : PF (blowKC1 rv k x) ∧ LV (blowKC1 rv k x) := by
      unfold blowKC1
      split
      · exact ⟨PF_wr h 77 1 _ (Or.inl (by decide)), (LV_wr l _ _ _).1⟩
      · exact ⟨h, l⟩
    exact PF_blowK rv m (k + 1) _ t.1 t.2
theorem healthFl_g {tr : Int} {x : XP} (n : NR x) (l : LV x) : NR (healthFlC tr x) ∧ LV (healthFlC tr x) := by
  unfold healthFlC
  split
  · rename_i h
    have h2 : 2 + (x.1 78).toNat ≠ 6 ∧ 2 + (x.1 78).toNat ≠ 7 ∧ 2 + (x.1 78).toNat ≠ 9 := by omega
    exact ⟨NR_g (NR_g n 0 (by decide)) _ h2.1, LV_set (LV_set l x.1 0 (by decide) (by decide)) _ _ h2.2.1 h2.2.2⟩
  · exact ⟨NR_g n 0 (by decide), LV_set l _ 0 (by decide) (by decide)⟩
theorem PF_health (σ : Sto) {x : XP} (hc : OKC x.1) : PF (perfHealthC σ (-1) x).2 ∧ LV (perfHealthC σ (-1) x).2 := by
  have hp := PF_begin x (-1)
  obtain ⟨n, l⟩ := healthFl_g (tr := σ 2 1 3) hp.1 (LV_begin x)
  have c1 : (healthFlC (σ 2 1 3) (beginC (-1) x)).1 = x.1 := rfl
  have p := PF_wf (by rw [c1]; exact hc.2.1) n l
  have l2 := LV_wf l
  have q : PF (healthFuC ((beginC (-1) x).1 78) (writeFlagsC (healthFlC (σ 2 1 3) (beginC (-1) x)))) ∧ LV (healthFuC ((beginC (-1) x).1 78) (writeFlagsC (healthFlC (σ 2 1 3) (beginC (-1) x)))) := by
    unfold healthFuC
    split
    · have b := PF_blowV (min ((writeFlagsC (healthFlC (σ 2 1 3) (beginC (-1) x))).1 (14 * ((beginC (-1) x).1 78).toNat) - 1) 31 - (writeFlagsC (healthFlC (σ 2 1 3) (beginC (-1) x))).1 76).toNat ((writeFlagsC (healthFlC (σ 2 1 3) (beginC (-1) x))).1 76) _ p l2
      exact PF_blowK _ 6 0 _ b.1 b.2
    · exact ⟨p, l2⟩
  have t : PF (healthC (σ 2 1 3) (beginC (-1) x)) ∧ LV (healthC (σ 2 1 3) (beginC (-1) x)) := by
    unfold healthC toldC
    rw [if_pos q.2.2]
    exact ⟨PF_c q.1 (fun j j1 j2 => set_ne _ _ (by omega)), q.2⟩
  exact PF_end t.1 t.2 _
theorem lay_g (b : Nat) (hb : b + 14 ≤ 56) (rd : XP → Nat → Int) : ∀ (m : Nat) (x : XP), m ≤ 14 → NR x → LV x → NR (layL b rd m x) ∧ LV (layL b rd m x)
  | 0, x, _, n, l => ⟨n, l⟩
  | k + 1, x, hk, n, l => lay_g b hb rd k _ (by omega) (NR_wr n _ _ _ (Or.inr (by omega))) (LV_wr l _ _ _).1
theorem favour_g {s : Nat} (hs : s < 2) {x : XP} (n : NR x) (l : LV x) : NR (favourC s x) ∧ LV (favourC s x) := by
  have n1 : NR (x.1, set x.2 (2 + s) (240 + x.2 (2 + s) % 16)) := NR_g n _ (by omega)
  have l1 : LV (x.1, set x.2 (2 + s) (240 + x.2 (2 + s) % 16)) := LV_set l _ _ (by omega) (by omega)
  unfold favourC
  split
  · exact ⟨n1, l1⟩
  · exact ⟨NR_g n1 _ (by omega), LV_set l1 _ _ (by omega) (by omega)⟩
theorem LV_open {x : XP} (l : LV x) (s im : Int) : LV (openJC s im x) := by
  unfold openJC
  exact (LV_wr (LV_wr (LV_wr (LV_wr (LV_wr l _ _ _).1 _ _ _).1 _ _ _).1 _ _ _).1 _ _ _).1
theorem PF_install {σ : Sto} (hg : OKG σ 1) {x : XP} (hc : OKC x.1) (s im : Nat) (hs : s < 2) (him : im < 6) : PF (perfInstallC σ s im (-1) x).2 ∧ LV (perfInstallC σ s im (-1) x).2 := by
  have hx := beginC_ok (-1) hc
  have hx2 : OKX (openJC (s : Int) (im : Int) (beginC (-1) x)) := openJC_ok (by omega) (by omega) hx
  have hp := PF_open (PF_begin x (-1)) (s : Int) (im : Int)
  have hl := LV_open (LV_begin x) (s : Int) (im : Int)
  unfold perfInstallC
  generalize openJC (s : Int) (im : Int) (beginC (-1) x) = y at hx2 hp hl ⊢
  obtain ⟨o1, o2, o3, o4, o5⟩ := finish_st hg s im hs him hx2
  have n1 : NR (setFl s 0 y) := NR_g hp.1 _ (by omega)
  have l1 : LV (setFl s 0 y) := LV_set hl _ _ (by omega) (by omega)
  have n2 : NR (writeFlagsC (setFl s 0 y)) := NR_wf o1.1.2.1 n1 (LV_wf l1).2
  have n3 : NR (layC (14 * s) (rdI σ (14 * im)) (writeFlagsC (setFl s 0 y))) ∧ LV (layC (14 * s) (rdI σ (14 * im)) (writeFlagsC (setFl s 0 y))) := lay_g (14 * s) (by omega) _ 14 _ (by omega) (NR_wr n2 _ _ _ (Or.inr (by omega))) (LV_wr (LV_wf l1) _ _ _).1
  have n4 : NR (setFl s (2 * σ 2 1 3) (layC (14 * s) (rdI σ (14 * im)) (writeFlagsC (setFl s 0 y)))) := NR_g n3.1 _ (by omega)
  have l4 : LV (setFl s (2 * σ 2 1 3) (layC (14 * s) (rdI σ (14 * im)) (writeFlagsC (setFl s 0 y)))) := LV_set n3.2 _ _ (by omega) (by omega)
  obtain ⟨n5, l5⟩ := favour_g hs n4 l4
  have p6 := PF_wf o5.1.2.1 n5 l5
  have f : PF (finishC σ s im y) ∧ LV (finishC σ s im y) := ⟨PF_wr p6 74 1 0 (Or.inl (by decide)), (LV_wr (LV_wf l5) _ _ _).1⟩
  exact PF_end f.1 f.2 _
