section
/-! THE CLASS: install, refresh, prefer, mend, resume -/
/-- words laid into a store, the last first -/
def layL (b : Nat) (rd : XP → Nat → Int) : Nat → XP → XP
  | 0, x => x
  | k + 1, x => layL b rd k (wrC (b + k) 1 (rd x k) x)
def layC (b : Nat) (rd : XP → Nat → Int) (x : XP) : XP := layL b rd 14 (wrC b 1 0 x)
theorem layL_ok (b : Nat) (hb : b + 14 ≤ 56) (rd : XP → Nat → Int) (hr : ∀ (y : XP) (k : Nat), OKX y → k < 14 → 0 ≤ rd y k ∧ rd y k < 2147483648) : ∀ (m : Nat) (x : XP), m ≤ 14 → OKX x → OKX (layL b rd m x)
  | 0, x, _, h => h
  | k + 1, x, hk, h => layL_ok b hb rd hr k _ (by omega) ⟨wrC_word h.1 (by omega) (hr x k h (by omega)), wrC_F h.2⟩
theorem layC_ok (b : Nat) (hb : b + 14 ≤ 56) (rd : XP → Nat → Int) (hr : ∀ (y : XP) (k : Nat), OKX y → k < 14 → 0 ≤ rd y k ∧ rd y k < 2147483648) {x : XP} (h : OKX x) : OKX (layC b rd x) :=
  layL_ok b hb rd hr 14 _ (by omega) ⟨wrC_word h.1 (by omega) (by omega), wrC_F h.2⟩
theorem layL_at (b : Nat) (rd : XP → Nat → Int) {j : Nat} : ∀ (m : Nat) (x : XP), m ≤ 14 → (j < b ∨ b + 14 ≤ j) → (layL b rd m x).1 j = x.1 j
  | 0, x, _, _ => rfl
  | k + 1, x, hk, h => (layL_at b rd k _ (by omega) h).trans (wrC_at _ _ _ _ (by omega))
theorem layC_at (b : Nat) (rd : XP → Nat → Int) {j : Nat} (x : XP) (h : j < b ∨ b + 14 ≤ j) : (layC b rd x).1 j = x.1 j := (layL_at b rd 14 _ (by omega) h).trans (wrC_at _ _ _ _ (by omega))
def favourC (s : Nat) (x : XP) : XP := (x.1, if (set x.2 (2 + s) (240 + x.2 (2 + s) % 16)) (3 - s) < 240 then set x.2 (2 + s) (240 + x.2 (2 + s) % 16) else set (set x.2 (2 + s) (240 + x.2 (2 + s) % 16)) (3 - s) ((set x.2 (2 + s) (240 + x.2 (2 + s) % 16)) (3 - s) - 16))
theorem favourC_ok {s : Nat} (hs : s < 2) {x : XP} (h : OKX x) : OKX (favourC s x) := by
  have hf := h.2
  obtain ⟨f2, f3, f4, f5, f6⟩ := hf
  have h1 : OKF (set x.2 (2 + s) (240 + x.2 (2 + s) % 16)) := okf_set h.2 (fun _ => by omega) (by omega)
  unfold favourC
  refine ⟨h.1, ?_⟩
  split
  · exact h1
  · refine okf_set h1 (fun _ => ?_) (by omega)
    obtain ⟨q2, q3, -⟩ := h1
    rcases (show s = 0 ∨ s = 1 by omega) with rfl | rfl
    · simp only [Nat.reduceSub, Nat.add_zero] at *
      omega
    · simp only [Nat.reduceSub, Nat.reduceAdd] at *
      omega
section CLS
variable {N i j : Nat} {σ : Sto} {x : XP}
theorem wrd_r (hg : OKG σ 1) (f : Nat) (hf : f + 14 ≤ 84) (k : Nat) (hk : k < 14) : 0 ≤ σ 5 1 (f + k) ∧ σ 5 1 (f + k) < 2147483648 := by
  have := hg.2.2.2.2.2.2.2.2.2.2.2.2 (f + k) (by omega)
  omega
/-- words of an image -/
def rdI (σ : Sto) (f : Nat) : XP → Nat → Int := fun _ k => σ 5 1 (f + k)
/-- words of a store of its own -/
def rdS (f : Nat) : XP → Nat → Int := fun y k => y.1 (f + k)
theorem rdS_r (f : Nat) (hf : f + 14 ≤ 56) : ∀ (y : XP) (k : Nat), OKX y → k < 14 → 0 ≤ rdS f y k ∧ rdS f y k < 2147483648 := fun y k h hk => h.1.1 (f + k) (by omega)
theorem s2_lay5_loop (s f : Nat) (hs : s < 4) (hf : f + 14 ≤ 84) : ∀ (m : Nat) (x : XP), m ≤ 14 → ev N mX2_lay 11 [vR 6 i, vI (s : Int), vR 5 1, vI (f : Int), vI ((14 * s : Nat) : Int), vI ((m : Int) - 1)] [] (P (putC σ i x)) = some (none, P (putC σ i (layL (14 * s) (rdI σ f) m x))) := by
  intro m
  induction m with
  | zero =>
    intro x hm
    rw [eX2_lay_11_k5, if_pos (by omega)]
    rfl
  | succ m ih =>
    intro x hm
    have e : ((m + 1 : Nat) : Int) - 1 = (m : Int) := by omega
    have e1 : w32 ((f : Int) + (m : Int)) = ((f + m : Nat) : Int) := by rw [w32i (by omega) (by omega)]; omega
    have e2 : w32 (((14 * s : Nat) : Int) + (m : Int)) = ((14 * s + m : Nat) : Int) := by rw [w32i (by omega) (by omega)]; omega
    have e3 : w32 ((m : Int) + (-1)) = (m : Int) - 1 := by rw [w32i (by omega) (by omega)]; omega
    rw [e, eX2_lay_11_k5, if_neg (by omega), e1, s6_at5 _ (by omega) (by omega), bnd_s, push_s, eX2_lay_23_k5, e2, s2_write1 _ (by omega), bnd_s, push_n, eX2_lay_24_k5, e3, put5, Int.toNat_natCast]
    exact ih _ (by omega)
theorem p2_lay5 (s f : Nat) (hs : s < 4) (hf : f + 14 ≤ 84) : inv N mX2_lay [vR 6 i, vI (s : Int), vR 5 1, vI (f : Int)] (P (putC σ i x)) = some (none, P (putC σ i (layC (14 * s) (rdI σ f) x))) := by
  have e2 : w32 ((s : Int) * 14) = ((14 * s : Nat) : Int) := by rw [w32i (by omega) (by omega)]; omega
  rw [iX2_lay_k5, eX2_lay_0_k5, e2, s2_write1 _ (by omega), bnd_s, push_n, eX2_lay_9_k5]
  exact s2_lay5_loop s f hs hf 14 _ (by omega)
theorem s2_lay7_loop (s f : Nat) (hs : s < 4) (hf : f + 14 ≤ 107) : ∀ (m : Nat) (x : XP), m ≤ 14 → ev N mX2_lay 11 [vR 6 i, vI (s : Int), vR 7 i, vI (f : Int), vI ((14 * s : Nat) : Int), vI ((m : Int) - 1)] [] (P (putC σ i x)) = some (none, P (putC σ i (layL (14 * s) (rdS f) m x))) := by
  intro m
  induction m with
  | zero =>
    intro x hm
    rw [eX2_lay_11_k7, if_pos (by omega)]
    rfl
  | succ m ih =>
    intro x hm
    have e : ((m + 1 : Nat) : Int) - 1 = (m : Int) := by omega
    have e1 : w32 ((f : Int) + (m : Int)) = ((f + m : Nat) : Int) := by rw [w32i (by omega) (by omega)]; omega
    have e2 : w32 (((14 * s : Nat) : Int) + (m : Int)) = ((14 * s + m : Nat) : Int) := by rw [w32i (by omega) (by omega)]; omega
    have e3 : w32 ((m : Int) + (-1)) = (m : Int) - 1 := by rw [w32i (by omega) (by omega)]; omega
    rw [e, eX2_lay_11_k7, if_neg (by omega), e1, s6_at7 _ (by omega) (by omega), bnd_s, push_s, eX2_lay_23_k7, e2, s2_write1 _ (by omega), bnd_s, push_n, eX2_lay_24_k7, e3, putC_7, Int.toNat_natCast]
    exact ih _ (by omega)
theorem p2_lay7 (s f : Nat) (hs : s < 4) (hf : f + 14 ≤ 107) : inv N mX2_lay [vR 6 i, vI (s : Int), vR 7 i, vI (f : Int)] (P (putC σ i x)) = some (none, P (putC σ i (layC (14 * s) (rdS f) x))) := by
  have e2 : w32 ((s : Int) * 14) = ((14 * s : Nat) : Int) := by rw [w32i (by omega) (by omega)]; omega
  rw [iX2_lay_k7, eX2_lay_0_k7, e2, s2_write1 _ (by omega), bnd_s, push_n, eX2_lay_9_k7]
  exact s2_lay7_loop s f hs hf 14 _ (by omega)
theorem p2_favour (s : Nat) (hs : s < 2) (hf : OKF x.2) : inv N mX2_favour [vR 6 i, vI (s : Int)] (P (putC σ i x)) = some (none, P (putC σ i (favourC s x))) := by
  obtain ⟨f2, f3, f4, f5, f6⟩ := hf
  rw [iX2_favour, eX2_favour_0, p2_slotFlags, bnd_s, push_s, eX2_favour_6, p2_setSlotFlags, bnd_s, push_n, eX2_favour_10, bAnd_15]
  unfold favourC
  rcases (show s = 0 ∨ s = 1 by omega) with rfl | rfl
  · have e1 : w32 (1 - 0) = 1 := rfl
    have e2 : w32 (240 + x.2 2 % 16) = 240 + x.2 2 % 16 := w32i (by omega) (by omega)
    have e4 : w32 (x.2 3 - 16) = x.2 3 - 16 := w32i (by omega) (by omega)
    simp only [e1, p2_slotFlags, bnd_s, push_s, eX2_favour_15, Int.cast_ofNat_Int, ↓reduceIte, Int.reduceEq, e2, Nat.reduceSub, Nat.add_zero]
    have e3 : set x.2 2 (240 + x.2 2 % 16) 3 = x.2 3 := set_ne _ _ (by omega)
    rw [e3]
    by_cases h : x.2 3 < 240
    · rw [if_pos h, if_pos h, eX2_favour_27]
    · rw [if_neg h, if_neg h, p2_setSlotFlags, bnd_s, push_n, eX2_favour_27, e4]
      rfl
  · have e1 : w32 (1 - 1) = 0 := rfl
    have e2 : w32 (240 + x.2 3 % 16) = 240 + x.2 3 % 16 := w32i (by omega) (by omega)
    have e4 : w32 (x.2 2 - 16) = x.2 2 - 16 := w32i (by omega) (by omega)
    simp only [e1, p2_slotFlags, bnd_s, push_s, eX2_favour_15, Int.cast_ofNat_Int, ↓reduceIte, Int.reduceEq, e2, Nat.reduceSub, Nat.reduceAdd]
    have e3 : set x.2 3 (240 + x.2 3 % 16) 2 = x.2 2 := set_ne _ _ (by omega)
    rw [e3]
    by_cases h : x.2 2 < 240
    · rw [if_pos h, if_pos h, eX2_favour_27]
    · rw [if_neg h, if_neg h, p2_setSlotFlags, bnd_s, push_n, eX2_favour_27, e4]
      rfl
def setFl (s : Nat) (v : Int) (x : XP) : XP := (x.1, set x.2 (2 + s) v)
def finishC (σ : Sto) (s im : Nat) (x : XP) : XP := wrC 74 1 0 (writeFlagsC (favourC s (setFl s (2 * σ 2 1 3) (layC (14 * s) (rdI σ (14 * im)) (writeFlagsC (setFl s 0 x))))))
theorem p2_setFl (s : Nat) (hs : s < 2) (v : Int) : inv N mX2_setSlotFlags [vR 6 i, vI (s : Int), vI v] (P (putC σ i x)) = some (none, P (putC σ i (setFl s v x))) := by
  rw [p2_setSlotFlags]
  rcases (show s = 0 ∨ s = 1 by omega) with rfl | rfl <;> rfl
theorem finish_st (hg : OKG σ 1) (s im : Nat) (hs : s < 2) (him : im < 6) (hx : OKX x) : OKX (setFl s 0 x) ∧ OKX (writeFlagsC (setFl s 0 x)) ∧ OKX (layC (14 * s) (rdI σ (14 * im)) (writeFlagsC (setFl s 0 x))) ∧ OKX (setFl s (2 * σ 2 1 3) (layC (14 * s) (rdI σ (14 * im)) (writeFlagsC (setFl s 0 x)))) ∧ OKX (favourC s (setFl s (2 * σ 2 1 3) (layC (14 * s) (rdI σ (14 * im)) (writeFlagsC (setFl s 0 x))))) := by
  have g7 := hg.2.2.2.2.2.2.1
  have g8 := hg.2.2.2.2.2.2.2.1
  have h1 : OKX (setFl s 0 x) := setFl_ok hx (by omega) hs
  have h2 := writeFlagsC_ok h1
  have h3 := layC_ok (14 * s) (by omega) (rdI σ (14 * im)) (fun y k _ hk => wrd_r hg (14 * im) (by omega) k hk) h2
  have h4 : OKX (setFl s (2 * σ 2 1 3) (layC (14 * s) (rdI σ (14 * im)) (writeFlagsC (setFl s 0 x)))) := setFl_ok h3 (by omega) hs
  exact ⟨h1, h2, h3, h4, favourC_ok hs h4⟩
theorem finishC_ok (hg : OKG σ 1) (s im : Nat) (hs : s < 2) (him : im < 6) (hx : OKX x) : OKX (finishC σ s im x) := by
  have h := writeFlagsC_ok (finish_st hg s im hs him hx).2.2.2.2
  exact ⟨wrC_page h.1 (by omega) (by omega) (by omega), wrC_F h.2⟩
theorem finishC_at (s im : Nat) (hs : s < 2) {k : Nat} (hk : 76 ≤ k) : (finishC σ s im x).1 k = x.1 k := by
  unfold finishC
  rw [wrC_at _ _ _ _ (by omega), writeFlagsC_at _ (by omega)]
  show (layC (14 * s) (rdI σ (14 * im)) (writeFlagsC (setFl s 0 x))).1 k = _
  rw [layC_at _ _ _ (by omega), writeFlagsC_at _ (by omega)]
  rfl
theorem p2_finish (hg : OKG σ 1) (s im : Nat) (hs : s < 2) (him : im < 6) (hx : OKX x) : inv N mX2_finishInstall [vR 6 i, vI (s : Int), vI (im : Int)] (P (putC σ i x)) = some (some (vI ((finishC σ s im x).2 8)), P (putC σ i (finishC σ s im x))) := by
  have g7 := hg.2.2.2.2.2.2.1
  have g8 := hg.2.2.2.2.2.2.2.1
  obtain ⟨h1, h2, h3, h4, h5⟩ := finish_st hg s im hs him hx
  have e1 : w32 ((im : Int) * 14) = ((14 * im : Nat) : Int) := by rw [w32i (by omega) (by omega)]; omega
  have e2 : w32 (2 * σ 2 1 3) = 2 * σ 2 1 3 := w32i (by omega) (by omega)
  rw [iX2_finishInstall, eX2_finishInstall_0, p2_setFl s hs, bnd_s, push_n, eX2_finishInstall_4, p2_writeFlags h1, bnd_s, push_n, eX2_finishInstall_6, e1, p2_lay5 s (14 * im) (by omega) (by omega), bnd_s, push_n, eX2_finishInstall_15, put2, e2, p2_setFl s hs, bnd_s, push_n,
    eX2_finishInstall_23, p2_favour s hs h4.2, bnd_s, push_n, eX2_finishInstall_26, p2_writeFlags h5, bnd_s, push_n, eX2_finishInstall_28, show (74 : Int) = ((74 : Nat) : Int) from rfl, s2_write1 74 (by omega), bnd_s, push_n, eX2_finishInstall_33, putC_6]
  rfl
def openJC (s im : Int) (x : XP) : XP := wrC 74 1 90 (wrC 75 1 ((s + im + 90) % 256) (wrC 73 1 im (wrC 72 1 s (wrC 74 1 0 x))))
theorem openJC_ok {s im : Int} (hs : 0 ≤ s ∧ s < 2) (hi : 0 ≤ im ∧ im < 6) (h : OKX x) : OKX (openJC s im x) :=
  ⟨wrC_page (wrC_page (wrC_page (wrC_page (wrC_page h.1 (by omega) (by omega) (by omega)) (by omega) (by omega) (by omega)) (by omega) (by omega) (by omega)) (by omega) (by omega) (by omega)) (by omega) (by omega) (by omega), wrC_F (wrC_F (wrC_F (wrC_F (wrC_F h.2))))⟩
theorem openJC_at {s im : Int} {k : Nat} (h : k < 72 ∨ 76 ≤ k) : (openJC s im x).1 k = x.1 k := by
  unfold openJC
  simp (disch := omega) only [wrC_at]
theorem p2_openJ (s im : Int) (hs : 0 ≤ s ∧ s < 2) (hi : 0 ≤ im ∧ im < 6) : inv N mX2_openJournal [vR 6 i, vI s, vI im] (P (putC σ i x)) = some (none, P (putC σ i (openJC s im x))) := by
  have q72 := fun (y : XP) (v : Int) => s2_write1 (N := N) (i := i) (σ := σ) (x := y) 72 (by decide) v
  have q73 := fun (y : XP) (v : Int) => s2_write1 (N := N) (i := i) (σ := σ) (x := y) 73 (by decide) v
  have q74 := fun (y : XP) (v : Int) => s2_write1 (N := N) (i := i) (σ := σ) (x := y) 74 (by decide) v
  have q75 := fun (y : XP) (v : Int) => s2_write1 (N := N) (i := i) (σ := σ) (x := y) 75 (by decide) v
  simp only [Int.cast_ofNat_Int] at q72 q73 q74 q75
  rw [iX2_openJournal, eX2_openJournal_0, q74, bnd_s, push_n, eX2_openJournal_5, q72, bnd_s, push_n, eX2_openJournal_10, q73, bnd_s, push_n, eX2_openJournal_15, w32i (x := s + im) (by omega) (by omega), w32i (x := s + im + 90) (by omega) (by omega), bAnd_255, q75, bnd_s, push_n, eX2_openJournal_26, q74, bnd_s, push_n, eX2_openJournal_31]
  rfl
def perfInstallC (σ : Sto) (s im : Nat) (cut : Int) (x : XP) : Int × XP := endC ((finishC σ s im (openJC s im (beginC cut x))).2 8) (finishC σ s im (openJC s im (beginC cut x)))
theorem p2_install (hg : OKG σ 1) (hc : OKC x.1) (s im : Nat) (hs : s < 2) (him : im < 6) (cut : Int) : inv N mX2_perform [vR 6 i, vI 2, vI (s : Int), vI (im : Int), vI cut] (P (putC σ i x)) = some (some (vI (perfInstallC σ s im cut x).1), P (putC σ i (perfInstallC σ s im cut x).2)) := by
  have hx := beginC_ok cut hc
  have hx2 : OKX (openJC (s : Int) (im : Int) (beginC cut x)) := openJC_ok (by omega) (by omega) hx
  rw [p2_begin _ _ _ _ hc, eX2_perform_11, if_neg (by omega), if_neg (by omega), if_pos rfl, p2_openJ _ _ (by omega) (by omega), bnd_s, push_n, eX2_perform_41, p2_finish hg s im hs him hx2, bnd_s, push_s, eX2_perform_45, putC_6, p2_setCell _ _ (by omega) (by omega), bnd_s, push_n]
  exact s2_end _ _ _ _ _
/-- the copy that REFRESH takes -/
def otherF (cp : Int) : Nat := if cp = 2 then 3 else 2
def perfRefreshC (σ : Sto) (im : Nat) (cut : Int) (x : XP) : Int × XP := endC (otherF (copyF (σ 2 1 0) (σ 3 1) (σ 4 1) x.1) : Int) (layC (14 * otherF (copyF (σ 2 1 0) (σ 3 1) (σ 4 1) x.1)) (rdI σ (14 * im)) (beginC cut x))
theorem p2_refresh (hg : OKG σ 1) (hc : OKC x.1) (im : Nat) (him : im < 6) (a cut : Int) : inv N mX2_perform [vR 6 i, vI 3, vI a, vI (im : Int), vI cut] (P (putC σ i x)) = some (some (vI (perfRefreshC σ im cut x).1), P (putC σ i (perfRefreshC σ im cut x).2)) := by
  have hx := beginC_ok cut hc
  have e1 : w32 ((im : Int) * 14) = ((14 * im : Nat) : Int) := by rw [w32i (by omega) (by omega)]; omega
  have l3 := p2_lay5 (N := N) (i := i) (σ := σ) (x := beginC cut x) 3 (14 * im) (by omega) (by omega)
  have l2 := p2_lay5 (N := N) (i := i) (σ := σ) (x := beginC cut x) 2 (14 * im) (by omega) (by omega)
  rw [p2_begin _ _ _ _ hc, eX2_perform_11, if_neg (by omega), if_neg (by omega), if_neg (by omega), if_pos rfl, p2_recoveryCopy hg hx.1, bnd_s, push_s, eX2_perform_50, iX2_refreshOther, eX2_refreshOther_0, e1]
  show _ = some (some (vI (endC (otherF (copyF (σ 2 1 0) (σ 3 1) (σ 4 1) (beginC cut x).1) : Int) (layC (14 * otherF (copyF (σ 2 1 0) (σ 3 1) (σ 4 1) (beginC cut x).1)) (rdI σ (14 * im)) (beginC cut x))).1), P (putC σ i (endC (otherF (copyF (σ 2 1 0) (σ 3 1) (σ 4 1) (beginC cut x).1) : Int) (layC (14 * otherF (copyF (σ 2 1 0) (σ 3 1) (σ 4 1) (beginC cut x).1)) (rdI σ (14 * im)) (beginC cut x))).2))
  generalize copyF (σ 2 1 0) (σ 3 1) (σ 4 1) (beginC cut x).1 = cp
  unfold otherF
  by_cases h : cp = 2
  · rw [if_pos h, if_pos h]
    rw [show (3 : Int) = ((3 : Nat) : Int) from rfl, l3, bnd_s, push_n, eX2_refreshOther_16, bnd_s, push_s, eX2_perform_52, putC_6, p2_setCell _ _ (by omega) (by omega), bnd_s, push_n]
    exact s2_end _ _ _ _ _
  · rw [if_neg h, if_neg h]
    rw [show (2 : Int) = ((2 : Nat) : Int) from rfl, l2, bnd_s, push_n, eX2_refreshOther_16, bnd_s, push_s, eX2_perform_52, putC_6, p2_setCell _ _ (by omega) (by omega), bnd_s, push_n]
    exact s2_end _ _ _ _ _
def perfPreferC (s : Nat) (cut : Int) (x : XP) : Int × XP := endC ((writeFlagsC (favourC s (beginC cut x))).2 (3 - s) / 16) (writeFlagsC (favourC s (beginC cut x)))
theorem p2_prefer (hc : OKC x.1) (s : Nat) (hs : s < 2) (b cut : Int) : inv N mX2_perform [vR 6 i, vI 4, vI (s : Int), vI b, vI cut] (P (putC σ i x)) = some (some (vI (perfPreferC s cut x).1), P (putC σ i (perfPreferC s cut x).2)) := by
  have hx := beginC_ok cut hc
  have h1 := favourC_ok hs hx
  have h2 := writeFlagsC_ok h1
  have hf := h2.2
  obtain ⟨f2, f3, -⟩ := hf
  rw [p2_begin _ _ _ _ hc, eX2_perform_11, if_neg (by omega), if_neg (by omega), if_neg (by omega), if_neg (by omega), if_pos rfl, p2_favour s hs hx.2, bnd_s, push_n, eX2_perform_57, p2_writeFlags h1, bnd_s, push_n, eX2_perform_59, p2_slotFlags, bnd_s, push_s, eX2_perform_64, putC_6, p2_setCell _ _ (by omega) (by omega), bnd_s, push_n]
  have e : shr32 (if w32 (1 - (s : Int)) = 0 then (writeFlagsC (favourC s (beginC cut x))).2 2 else (writeFlagsC (favourC s (beginC cut x))).2 3) 4 = (writeFlagsC (favourC s (beginC cut x))).2 (3 - s) / 16 := by
    rcases (show s = 0 ∨ s = 1 by omega) with rfl | rfl
    · have := shr32_div f3.1 (by omega) 4 (by omega)
      exact this
    · have := shr32_div f2.1 (by omega) 4 (by omega)
      exact this
  rw [e]
  exact s2_end _ _ _ _ _
end CLS
end
section
/-! THE CLASS: mend, resume; all deeds; what can be done -/
section CLS
variable {N i j : Nat} {σ : Sto} {x : XP}
theorem p2_isWhole0 (hc : OKC x.1) : inv N mX2_isWhole [vR 6 i, vI 0] (P (putC σ i x)) = some (some (vI (whole1 x.1 56)), P (putC σ i x)) := by
  rw [s2_isWhole0 (by rw [putC_7]; exact hc.2.1), putC_7]
theorem p2_isWhole1 (hc : OKC x.1) : inv N mX2_isWhole [vR 6 i, vI 1] (P (putC σ i x)) = some (some (vI (whole1 x.1 64)), P (putC σ i x)) := by
  rw [s2_isWhole1 (by rw [putC_7]; exact hc.2.1), putC_7]
def mendF (x : XP) : XP := if whole1 x.1 64 = whole1 x.1 56 then x else writeFlagsC x
def mendD (x : XP) : Int := if whole1 x.1 64 = whole1 x.1 56 then 0 else 1
def mendL (σ : Sto) (d : Int) (y : XP) : Int × XP := if whyS σ y.1 2 = 0 then (if whyS σ y.1 3 = 0 then (d, y) else (d + 2, layC 42 (rdS 28) y)) else if whyS σ y.1 3 = 0 then (d + 2, layC 28 (rdS 42) y) else (d, y)
def mendC (σ : Sto) (x : XP) : Int × XP := mendL σ (mendD x) (mendF x)
theorem mendF_ok (hx : OKX x) : OKX (mendF x) := by
  unfold mendF
  split
  · exact hx
  · exact writeFlagsC_ok hx
theorem mendF_at {k : Nat} (hk : 76 ≤ k) : (mendF x).1 k = x.1 k := by
  unfold mendF
  split
  · rfl
  · exact writeFlagsC_at _ (by omega)
theorem mendC_ok (hx : OKX x) : OKX (mendC σ x).2 ∧ ∀ k, 76 ≤ k → (mendC σ x).2.1 k = x.1 k := by
  have h1 := mendF_ok hx
  unfold mendC mendL
  refine ⟨?_, fun k hk => ?_⟩
  · split
    · split
      · exact h1
      · exact layC_ok 42 (by omega) (rdS 28) (rdS_r 28 (by omega)) h1
    · split
      · exact layC_ok 28 (by omega) (rdS 42) (rdS_r 42 (by omega)) h1
      · exact h1
  · split
    · split
      · exact mendF_at hk
      · exact (layC_at _ _ _ (by omega)).trans (mendF_at hk)
    · split
      · exact (layC_at _ _ _ (by omega)).trans (mendF_at hk)
      · exact mendF_at hk
theorem s2_mend_tail (hg : OKG σ 1) (d : Int) (hd : d = 0 ∨ d = 1) (hx : OKX x) : bnd (inv N mX2_reasonAgainst [vR 6 i, vI 2] (P (putC σ i x))) (fun r S2 => ev N mX2_mendBoth 16 [vR 6 i, vI d, vX, vX, vX, vX] (push r []) S2) = some (some (vI (mendL σ d x).1), P (putC σ i (mendL σ d x).2)) := by
  have r2 := p2_reason (N := N) (i := i) (σ := σ) (x := x) 2 (by omega) hg hx.1
  have r3 := p2_reason (N := N) (i := i) (σ := σ) (x := x) 3 (by omega) hg hx.1
  have l3 := p2_lay7 (N := N) (i := i) (σ := σ) (x := x) 3 28 (by omega) (by omega)
  have l2 := p2_lay7 (N := N) (i := i) (σ := σ) (x := x) 2 42 (by omega) (by omega)
  simp only [Int.cast_ofNat_Int, Nat.reduceMul] at r2 r3 l2 l3
  have ed : w32 (d + 2) = d + 2 := w32i (by omega) (by omega)
  have e2 : w32 (2 * 14) = 28 := rfl
  have e3 : w32 (3 * 14) = 42 := rfl
  rw [r2, bnd_s, push_s]
  unfold mendL
  by_cases h2 : whyS σ x.1 2 = 0 <;> by_cases h3 : whyS σ x.1 3 = 0 <;> simp only [h2, h3, ↓reduceIte, Int.reduceEq, eX2_mendBoth_16, r3, bnd_s, push_s, push_n, eX2_mendBoth_24, eX2_mendBoth_52, e2, e3, l2, l3, ed]
theorem p2_mendBoth (hg : OKG σ 1) (hx : OKX x) : inv N mX2_mendBoth [vR 6 i] (P (putC σ i x)) = some (some (vI (mendC σ x).1), P (putC σ i (mendC σ x).2)) := by
  rw [iX2_mendBoth, eX2_mendBoth_0, p2_isWhole0 hx.1, bnd_s, push_s, eX2_mendBoth_5, p2_isWhole1 hx.1, bnd_s, push_s, eX2_mendBoth_8]
  unfold mendC mendD mendF
  by_cases h : whole1 x.1 64 = whole1 x.1 56
  · rw [if_pos h.symm, if_pos h, if_pos h]
    exact s2_mend_tail hg 0 (Or.inl rfl) hx
  · rw [if_neg (fun z => h z.symm), if_neg h, if_neg h, p2_writeFlags hx, bnd_s, push_n, eX2_mendBoth_11]
    exact s2_mend_tail hg 1 (Or.inr rfl) (writeFlagsC_ok hx)
def perfMendC (σ : Sto) (cut : Int) (x : XP) : Int × XP := endC (mendC σ (beginC cut x)).1 (mendC σ (beginC cut x)).2
theorem p2_mend (hg : OKG σ 1) (hc : OKC x.1) (a b cut : Int) : inv N mX2_perform [vR 6 i, vI 5, vI a, vI b, vI cut] (P (putC σ i x)) = some (some (vI (perfMendC σ cut x).1), P (putC σ i (perfMendC σ cut x).2)) := by
  have hx := beginC_ok cut hc
  rw [p2_begin _ _ _ _ hc, eX2_perform_11, if_neg (by omega), if_neg (by omega), if_neg (by omega), if_neg (by omega), if_neg (by omega), if_pos rfl, p2_mendBoth hg hx, bnd_s, push_s, eX2_perform_70, putC_6, p2_setCell _ _ (by omega) (by omega), bnd_s, push_n]
  exact s2_end _ _ _ _ _
def perfResumeC (σ : Sto) (cut : Int) (x : XP) : Int × XP := endC ((finishC σ (x.1 72).toNat (x.1 73).toNat (beginC cut x)).2 8) (finishC σ (x.1 72).toNat (x.1 73).toNat (beginC cut x))
theorem p2_resume (hg : OKG σ 1) (hc : OKC x.1) (h72 : x.1 72 = 0 ∨ x.1 72 = 1) (h73 : x.1 73 < 6) (a b cut : Int) : inv N mX2_perform [vR 6 i, vI 6, vI a, vI b, vI cut] (P (putC σ i x)) = some (some (vI (perfResumeC σ cut x).1), P (putC σ i (perfResumeC σ cut x).2)) := by
  have hx := beginC_ok cut hc
  have b73 := hc.2.1 73 (by omega) (by omega)
  have e72 : ((x.1 72).toNat : Int) = x.1 72 := by omega
  have e73 : ((x.1 73).toNat : Int) = x.1 73 := by omega
  have hf := p2_finish (N := N) (i := i) (σ := σ) (x := beginC cut x) hg (x.1 72).toNat (x.1 73).toNat (by omega) (by omega) hx
  rw [e72, e73] at hf
  rw [p2_begin _ _ _ _ hc, eX2_perform_11, if_neg (by omega), if_neg (by omega), if_neg (by omega), if_neg (by omega), if_neg (by omega), if_neg (by omega), if_pos rfl, p2_cell _ (by omega) (by omega), bnd_s, push_s, eX2_perform_76, p2_cell _ (by omega) (by omega), bnd_s, push_s, eX2_perform_79]
  show bnd (inv N mX2_finishInstall [vR 6 i, vI (x.1 72), vI (x.1 73)] _) _ = _
  rw [hf, bnd_s, push_s, eX2_perform_80, putC_6, p2_setCell _ _ (by omega) (by omega), bnd_s, push_n]
  exact s2_end _ _ _ _ _
/-- whether a deed can be done -/
def ableF (im : Int) (wd c : Vec) (d a b : Int) : Int :=
  if d = 0 then (if c 78 = -1 ∧ (a = 0 ∨ a = 1) ∧ b = 0 then 1 else 0)
  else if c 78 = -1 then 0
  else if d = 1 then (if a = 0 ∧ b = 0 then 1 else 0)
  else if d = 2 then (if (a = 0 ∨ a = 1) ∧ ¬ a = c 78 ∧ 0 ≤ b ∧ b < im then 1 else 0)
  else if d = 3 then (if a = 0 ∧ 0 ≤ b ∧ b < im ∧ wd (14 * b.toNat + 1) = 0 then 1 else 0)
  else if d = 4 then (if (a = 0 ∨ a = 1) ∧ b = 0 then 1 else 0)
  else if d = 5 then (if a = 0 ∧ b = 0 then 1 else 0)
  else if d = 6 then (if a = 0 ∧ b = 0 ∧ openF im c = 1 ∧ ¬ c 72 = c 78 then 1 else 0)
  else 0
theorem openF_b (im : Int) (c : Vec) : openF im c = 0 ∨ openF im c = 1 := by unfold openF; split <;> simp
theorem s0_hasRec (hg : OKG σ j) (b : Int) : inv N mX0_hasRecoveryImage [vR 2 j, vI b] (P σ) = some (some (vI (if 0 ≤ b ∧ b < σ 2 j 1 ∧ σ 5 j (14 * b.toNat + 1) = 0 then 1 else 0)), P σ) := by
  have g3 := hg.2.2.1
  have g4 := hg.2.2.2.1
  rw [iX0_hasRecoveryImage, eX0_hasRecoveryImage_0, s0_hasImage, bnd_s, push_s, eX0_hasRecoveryImage_3]
  by_cases h : 0 ≤ b ∧ b < σ 2 j 1
  · have e : (b * 14 + 1).toNat = 14 * b.toNat + 1 := by omega
    rw [if_pos h, if_neg (show ¬ (1 : Int) = 0 by omega), w32i (x := b * 14) (by omega) (by omega), w32i (by omega) (by omega), s6_at5 _ (by omega) (by omega), bnd_s, push_s, eX0_hasRecoveryImage_12, e]
    by_cases h2 : σ 5 j (14 * b.toNat + 1) = 0
    · rw [if_pos h2, if_pos ⟨h.1, h.2, h2⟩]
    · rw [if_neg h2, if_neg (fun z => h2 z.2.2)]
  · rw [if_neg h, if_pos rfl, if_neg (fun z => h ⟨z.1, z.2.1⟩)]
theorem p2_isAble (hg : OKG σ 1) (hc : OKC x.1) (d a b : Int) : inv N mX2_isAble [vR 6 i, vI d, vI a, vI b] (P (putC σ i x)) = some (some (vI (ableF (σ 2 1 1) (σ 5 1) x.1 d a b)), P (putC σ i x)) := by
  have hrec := s0_hasRec (N := N) (σ := putC σ i x) (j := 1) (OKG_put hg) b
  have himg := s0_hasImage (N := N) (σ := putC σ i x) (i := 1) b
  have hopn := s2_isOpen (N := N) (σ := putC σ i x) (i := i) (by rw [putC_7]; exact hc)
  rw [put2, put5] at hrec
  rw [put2] at himg
  rw [put2, putC_7] at hopn
  rw [iX2_isAble, eX2_isAble_0, p2_cell _ (by omega) (by omega), bnd_s, push_s, eX2_isAble_3, show (78 : Int).toNat = 78 from rfl]
  unfold ableF
  by_cases d0 : d = 0
  · simp only [d0, ↓reduceIte]
    by_cases h1 : x.1 78 = -1
    · simp only [h1, ↓reduceIte, true_and]
      by_cases h2 : a = 0
      · simp only [h2, ↓reduceIte, true_or, true_and]
        split <;> rfl
      · by_cases h3 : a = 1
        · simp only [h3, ↓reduceIte, or_true, true_and, Int.reduceEq]
          split <;> rfl
        · simp only [h2, h3, ↓reduceIte, or_false, false_and]
    · simp only [h1, ↓reduceIte, false_and]
  · simp only [d0, ↓reduceIte]
    by_cases h1 : x.1 78 = -1
    · simp only [h1, ↓reduceIte]
    · simp only [h1, ↓reduceIte]
      by_cases d1 : d = 1
      · simp only [d1, ↓reduceIte]
        by_cases h2 : a = 0
        · simp only [h2, ↓reduceIte, true_and]
          split <;> rfl
        · simp only [h2, ↓reduceIte, false_and]
      · simp only [d1, ↓reduceIte]
        by_cases d2 : d = 2
        · simp only [d2, ↓reduceIte, s8_isSlot, bnd_s, push_s, eX2_isAble_37, himg, eX2_isAble_45]
          by_cases h2 : a = 0 ∨ a = 1
          · simp only [h2, ↓reduceIte, Int.reduceEq, true_and]
            by_cases h3 : a = x.1 78
            · simp only [h3, ↓reduceIte, not_true_eq_false, false_and]
            · simp only [h3, ↓reduceIte, not_false_eq_true, true_and]
              by_cases h4 : 0 ≤ b ∧ b < σ 2 1 1
              · simp only [h4, and_self, ↓reduceIte, Int.reduceEq]
              · simp only [h4, ↓reduceIte]
          · simp only [h2, ↓reduceIte, false_and]
        · simp only [d2, ↓reduceIte]
          by_cases d3 : d = 3
          · simp only [d3, ↓reduceIte]
            by_cases h2 : a = 0
            · simp only [h2, ↓reduceIte, hrec, bnd_s, push_s, eX2_isAble_56, true_and]
              by_cases h3 : 0 ≤ b ∧ b < σ 2 1 1 ∧ σ 5 1 (14 * b.toNat + 1) = 0
              · rw [if_pos h3, if_neg (show ¬ (1 : Int) = 0 by omega)]
              · rw [if_neg h3, if_pos rfl]
            · simp only [h2, ↓reduceIte, false_and]
          · simp only [d3, ↓reduceIte]
            by_cases d4 : d = 4
            · simp only [d4, ↓reduceIte, s8_isSlot, bnd_s, push_s, eX2_isAble_63]
              by_cases h2 : a = 0 ∨ a = 1
              · simp only [h2, ↓reduceIte, Int.reduceEq, true_and]
                split <;> rfl
              · simp only [h2, ↓reduceIte, false_and]
            · simp only [d4, ↓reduceIte]
              by_cases d5 : d = 5
              · simp only [d5, ↓reduceIte]
                by_cases h2 : a = 0
                · simp only [h2, ↓reduceIte, true_and]
                  split <;> rfl
                · simp only [h2, ↓reduceIte, false_and]
              · simp only [d5, ↓reduceIte]
                by_cases d6 : d = 6
                · simp only [d6, ↓reduceIte]
                  by_cases h2 : a = 0
                  · simp only [h2, ↓reduceIte, true_and]
                    by_cases h3 : b = 0
                    · simp only [h3, ↓reduceIte, true_and, hopn, bnd_s, push_s, eX2_isAble_76]
                      rcases openF_b (σ 2 1 1) x.1 with h4 | h4
                      · simp only [h4, ↓reduceIte, Int.reduceEq, false_and]
                      · simp only [h4, ↓reduceIte, Int.reduceEq, true_and, p2_cell 72 (by omega) (by omega), bnd_s, push_s, eX2_isAble_80, Int.reduceToNat]
                        by_cases h5 : x.1 72 = x.1 78
                        · simp only [h5, ↓reduceIte, not_true_eq_false]
                        · simp only [h5, ↓reduceIte, not_false_eq_true]
                    · simp only [h3, ↓reduceIte, false_and]
                  · simp only [h2, ↓reduceIte, false_and]
                · simp only [d6, ↓reduceIte]
/-- a deed -/
def performC (σ : Sto) (d a b cut : Int) (x : XP) : Int × XP :=
  if d = 0 then bootC σ a cut x else if d = 1 then perfHealthC σ cut x else if d = 2 then perfInstallC σ a.toNat b.toNat cut x else if d = 3 then perfRefreshC σ b.toNat cut x else if d = 4 then perfPreferC a.toNat cut x else if d = 5 then perfMendC σ cut x else perfResumeC σ cut x
theorem able_open {im : Int} {c : Vec} (h : openF im c = 1) : (c 72 = 0 ∨ c 72 = 1) ∧ c 73 < im := by
  unfold openF at h
  split at h
  · rename_i h2
    exact h2.2.2
  · cases h
theorem p2_perform (hg : OKG σ 1) (hc : OKC x.1) (s0 : 0 ≤ x.1 82) (s1 : x.1 82 < 2147483647) (d a b cut : Int) (hd : ableF (σ 2 1 1) (σ 5 1) x.1 d a b = 1) : inv N mX2_perform [vR 6 i, vI d, vI a, vI b, vI cut] (P (putC σ i x)) = some (some (vI (performC σ d a b cut x).1), P (putC σ i (performC σ d a b cut x).2)) := by
  have g3 := hg.2.2.1
  have g4 := hg.2.2.2.1
  unfold ableF at hd
  unfold performC
  by_cases d0 : d = 0
  · rw [if_pos d0]; subst d0
    exact p2_boot hg hc s0 s1 a b cut
  rw [if_neg d0] at hd ⊢
  by_cases hr : x.1 78 = -1
  · rw [if_pos hr] at hd; cases hd
  rw [if_neg hr] at hd
  by_cases d1 : d = 1
  · rw [if_pos d1]; subst d1
    exact p2_health hg hc a b cut
  rw [if_neg d1] at hd ⊢
  by_cases d2 : d = 2
  · rw [if_pos d2] at hd ⊢
    subst d2
    split at hd
    · rename_i h
      have h2 := p2_install (N := N) (i := i) hg hc a.toNat b.toNat (by omega) (by omega) cut
      rw [show ((a.toNat : Nat) : Int) = a by omega, show ((b.toNat : Nat) : Int) = b by omega] at h2
      exact h2
    · cases hd
  rw [if_neg d2] at hd ⊢
  by_cases d3 : d = 3
  · rw [if_pos d3] at hd ⊢
    subst d3
    split at hd
    · rename_i h
      have h2 := p2_refresh (N := N) (i := i) hg hc b.toNat (by omega) a cut
      rw [show ((b.toNat : Nat) : Int) = b by omega] at h2
      exact h2
    · cases hd
  rw [if_neg d3] at hd ⊢
  by_cases d4 : d = 4
  · rw [if_pos d4] at hd ⊢
    subst d4
    split at hd
    · rename_i h
      have h2 := p2_prefer (N := N) (i := i) (σ := σ) hc a.toNat (by omega) b cut
      rw [show ((a.toNat : Nat) : Int) = a by omega] at h2
      exact h2
    · cases hd
  rw [if_neg d4] at hd ⊢
  by_cases d5 : d = 5
  · rw [if_pos d5]
    subst d5
    exact p2_mend hg hc a b cut
  rw [if_neg d5] at hd ⊢
  by_cases d6 : d = 6
  · subst d6
    rw [if_pos rfl] at hd
    split at hd
    · rename_i h
      have h2 := able_open h.2.2.1
      exact p2_resume hg hc h2.1 (by omega) a b cut
    · cases hd
  · rw [if_neg d6] at hd; cases hd
/-- what a deed keeps -/
theorem bootC_ok (hc : OKC x.1) (a cut : Int) : OKX (bootC σ a cut x).2 ∧ x.1 82 ≤ (bootC σ a cut x).2.1 82 ∧ (bootC σ a cut x).2.1 82 ≤ x.1 82 + 1 := by
  have hx := beginC_ok cut hc
  have hok := startSlotC_ok (whyS σ) (σ 2 1 2) (if a = 1 then 1 else 0) hx
  have e82 : (beginC cut x).1 82 = x.1 82 := rfl
  unfold bootC
  generalize startSlotC (whyS σ) (σ 2 1 2) (if a = 1 then 1 else 0) (beginC cut x) = r at hok
  generalize beginC cut x = x0 at hok e82
  obtain ⟨h1, h2, h3, h4, h5⟩ := hok
  by_cases h : r.1 = -1
  · rw [if_pos h]
    have hr := startRecoveryC_ok (copyF (σ 2 1 0) (σ 3 1) (σ 4 1) r.2.1) h1
    generalize startRecoveryC (copyF (σ 2 1 0) (σ 3 1) (σ 4 1) r.2.1) r.2 = q at hr
    have he := endC_ok q.1 hr.1
    have := h4 h
    exact ⟨he.1, by omega, by omega⟩
  · rw [if_neg h]
    have he := endC_ok r.1 h1
    exact ⟨he.1, by omega, by omega⟩
theorem performC_ok (hg : OKG σ 1) (hc : OKC x.1) (d a b cut : Int) (hd : ableF (σ 2 1 1) (σ 5 1) x.1 d a b = 1) : OKX (performC σ d a b cut x).2 ∧ x.1 82 ≤ (performC σ d a b cut x).2.1 82 ∧ (performC σ d a b cut x).2.1 82 ≤ x.1 82 + 1 := by
  have g3 := hg.2.2.1
  have g4 := hg.2.2.2.1
  have g7 := hg.2.2.2.2.2.2.1
  have g8 := hg.2.2.2.2.2.2.2.1
  have hx := beginC_ok cut hc
  have e82 : (beginC cut x).1 82 = x.1 82 := rfl
  unfold ableF at hd
  unfold performC
  by_cases d0 : d = 0
  · rw [if_pos d0]
    exact bootC_ok hc a cut
  rw [if_neg d0] at hd ⊢
  by_cases hr : x.1 78 = -1
  · rw [if_pos hr] at hd; cases hd
  rw [if_neg hr] at hd
  by_cases d1 : d = 1
  · rw [if_pos d1]
    have h1 := healthC_ok g7 g8 hx
    have he := endC_ok ((healthC (σ 2 1 3) (beginC cut x)).1 76) h1.1
    refine ⟨he.1, ?_, ?_⟩ <;> (show _ ≤ _; unfold perfHealthC; rw [he.2, h1.2, e82]; omega)
  rw [if_neg d1] at hd ⊢
  by_cases d2 : d = 2
  · rw [if_pos d2] at hd ⊢
    split at hd
    · rename_i h
      have hx2 : OKX (openJC (a.toNat : Int) (b.toNat : Int) (beginC cut x)) := openJC_ok (by omega) (by omega) hx
      have h1 := finishC_ok hg a.toNat b.toNat (by omega) (by omega) hx2
      have h2 : (finishC σ a.toNat b.toNat (openJC (a.toNat : Int) (b.toNat : Int) (beginC cut x))).1 82 = x.1 82 := by
        rw [finishC_at _ _ (by omega) (by omega), openJC_at (by omega), e82]
      have he := endC_ok ((finishC σ a.toNat b.toNat (openJC (a.toNat : Int) (b.toNat : Int) (beginC cut x))).2 8) h1
      refine ⟨he.1, ?_, ?_⟩ <;> (show _ ≤ _; unfold perfInstallC; rw [he.2, h2]; omega)
    · cases hd
  rw [if_neg d2] at hd ⊢
  by_cases d3 : d = 3
  · rw [if_pos d3] at hd ⊢
    split at hd
    · rename_i h
      have hb : 14 * otherF (copyF (σ 2 1 0) (σ 3 1) (σ 4 1) x.1) + 14 ≤ 56 := by unfold otherF; split <;> omega
      have h1 := layC_ok _ hb (rdI σ (14 * b.toNat)) (fun y k _ hk => wrd_r hg (14 * b.toNat) (by omega) k hk) hx
      have h2 : (layC (14 * otherF (copyF (σ 2 1 0) (σ 3 1) (σ 4 1) x.1)) (rdI σ (14 * b.toNat)) (beginC cut x)).1 82 = x.1 82 := by
        rw [layC_at _ _ _ (by omega), e82]
      have he := endC_ok (otherF (copyF (σ 2 1 0) (σ 3 1) (σ 4 1) x.1) : Int) h1
      refine ⟨he.1, ?_, ?_⟩ <;> (show _ ≤ _; unfold perfRefreshC; rw [he.2, h2]; omega)
    · cases hd
  rw [if_neg d3] at hd ⊢
  by_cases d4 : d = 4
  · rw [if_pos d4] at hd ⊢
    split at hd
    · rename_i h
      have h1 := writeFlagsC_ok (favourC_ok (s := a.toNat) (by omega) hx)
      have h2 : (writeFlagsC (favourC a.toNat (beginC cut x))).1 82 = x.1 82 := by
        rw [writeFlagsC_at _ (by omega)]
        rfl
      have he := endC_ok ((writeFlagsC (favourC a.toNat (beginC cut x))).2 (3 - a.toNat) / 16) h1
      refine ⟨he.1, ?_, ?_⟩ <;> (show _ ≤ _; unfold perfPreferC; rw [he.2, h2]; omega)
    · cases hd
  rw [if_neg d4] at hd ⊢
  by_cases d5 : d = 5
  · rw [if_pos d5]
    have h1 := mendC_ok (σ := σ) hx
    have he := endC_ok (mendC σ (beginC cut x)).1 h1.1
    refine ⟨he.1, ?_, ?_⟩ <;> (show _ ≤ _; unfold perfMendC; rw [he.2, h1.2 82 (by omega), e82]; omega)
  rw [if_neg d5] at hd ⊢
  by_cases d6 : d = 6
  · rw [if_pos d6] at hd
    split at hd
    · rename_i h
      have h2 := able_open h.2.2.1
      have h1 := finishC_ok hg (x.1 72).toNat (x.1 73).toNat (by omega) (by omega) hx
      have h3 : (finishC σ (x.1 72).toNat (x.1 73).toNat (beginC cut x)).1 82 = x.1 82 := by
        rw [finishC_at _ _ (by omega) (by omega), e82]
      have he := endC_ok ((finishC σ (x.1 72).toNat (x.1 73).toNat (beginC cut x)).2 8) h1
      refine ⟨he.1, ?_, ?_⟩ <;> (show _ ≤ _; unfold perfResumeC; rw [he.2, h3]; omega)
    · cases hd
  · rw [if_neg d6] at hd; cases hd
end CLS
end
section
/-! THE MODEL: what it reads -/
section MOD
variable {N : Nat} {σ : Sto}
theorem s9_in (v lo hi : Int) : inv N mX9_in [vJ v, vJ lo, vJ hi] (P σ) = some (some (vI (if lo ≤ v ∧ v ≤ hi then 1 else 0)), P σ) := by
  rw [iX9_in, eX9_in_0]
  by_cases h1 : v < lo
  · rw [if_pos h1, if_neg (show ¬ (lo ≤ v ∧ v ≤ hi) by omega)]
  · rw [if_neg h1]
    have e : (if v < hi then some (some (vI 1), P σ) else if v = hi then some (some (vI 1), P σ) else some (some (vI 0), P σ)) = some (some (vI (if lo ≤ v ∧ v ≤ hi then 1 else 0)), P σ) := by
      by_cases h2 : v < hi
      · rw [if_pos h2, if_pos (show lo ≤ v ∧ v ≤ hi by omega)]
      · rw [if_neg h2]
        by_cases h3 : v = hi
        · rw [if_pos h3, if_pos (show lo ≤ v ∧ v ≤ hi by omega)]
        · rw [if_neg h3, if_neg (show ¬ (lo ≤ v ∧ v ≤ hi) by omega)]
    rw [e]
    split <;> rfl
theorem s9_truth (v : Int) : inv N mX9_truth [vI v] (P σ) = some (some (vI (if v = 0 then 0 else 1)), P σ) := by
  rw [iX9_truth, eX9_truth_0]
  split <;> rfl
theorem s9_pageAt (p : Int) (h0 : 0 ≤ p) (h1 : p < 2) : inv N mX9_pageAt [vI p] (P σ) = some (some (vI (56 + 8 * p)), P σ) := by
  simp (disch := omega) only [iX9_pageAt, eX9_pageAt_0, w32i]
theorem s9_isWhole0 (hb : OKB (σ 40 0)) : inv N mX9_isWhole [vR 30 0, vI 0] (P σ) = some (some (vI (whole1 (σ 40 0) 56)), P σ) := by
  have b0 := hb 56 (by omega) (by omega)
  have b1 := hb 57 (by omega) (by omega)
  have b2 := hb 58 (by omega) (by omega)
  have b3 := hb 59 (by omega) (by omega)
  have b4 := hb 60 (by omega) (by omega)
  have b5 := hb 61 (by omega) (by omega)
  have b6 := hb 62 (by omega) (by omega)
  have b7 := hb 63 (by omega) (by omega)
  simp (disch := omega) only [iX9_isWhole, eX9_isWhole_0, eX9_isWhole_2, eX9_isWhole_27, iX9_checkOf, eX9_checkOf_0, eX9_checkOf_4, eX9_checkOf_15, s9_pageAt, bnd_s, bnd_n, push_s, push_n, w32i, ↓if_pos, ↓if_neg, Int.reduceAdd, Int.reduceMul, Int.reduceSub, Int.reduceToNat, Int.reduceNeg, Nat.reduceAdd, Nat.reduceMul, sup_row, row_same, row_row]
  simp only [whole1, Nat.reduceAdd]
  by_cases h1 : σ 40 0 56 = 165
  · simp only [h1, ↓reduceIte, true_and]
    split <;> split <;> first | rfl | omega
  · simp only [h1, ↓reduceIte, false_and]
theorem s9_isWhole1 (hb : OKB (σ 40 0)) : inv N mX9_isWhole [vR 30 0, vI 1] (P σ) = some (some (vI (whole1 (σ 40 0) 64)), P σ) := by
  have b0 := hb 64 (by omega) (by omega)
  have b1 := hb 65 (by omega) (by omega)
  have b2 := hb 66 (by omega) (by omega)
  have b3 := hb 67 (by omega) (by omega)
  have b4 := hb 68 (by omega) (by omega)
  have b5 := hb 69 (by omega) (by omega)
  have b6 := hb 70 (by omega) (by omega)
  have b7 := hb 71 (by omega) (by omega)
  simp (disch := omega) only [iX9_isWhole, eX9_isWhole_0, eX9_isWhole_2, eX9_isWhole_27, iX9_checkOf, eX9_checkOf_0, eX9_checkOf_4, eX9_checkOf_15, s9_pageAt, bnd_s, bnd_n, push_s, push_n, w32i, ↓if_pos, ↓if_neg, Int.reduceAdd, Int.reduceMul, Int.reduceSub, Int.reduceToNat, Int.reduceNeg, Nat.reduceAdd, Nat.reduceMul, sup_row, row_same, row_row]
  simp only [whole1, Nat.reduceAdd]
  by_cases h1 : σ 40 0 64 = 165
  · simp only [h1, ↓reduceIte, true_and]
    split <;> split <;> first | rfl | omega
  · simp only [h1, ↓reduceIte, false_and]
theorem tmod256 {x : Int} (h0 : 0 ≤ x) : Int.tmod x 256 = x % 256 := Int.tmod_eq_emod_of_nonneg h0
theorem s9_newest (hb : OKB (σ 40 0)) : inv N mX9_newest [vR 30 0] (P σ) = some (some (vI (newestF (σ 40 0))), P σ) := by
  have b1 := hb 57 (by omega) (by omega)
  have b2 := hb 65 (by omega) (by omega)
  unfold newestF
  rw [iX9_newest, eX9_newest_0, s9_isWhole0 hb, bnd_s, push_s, eX9_newest_3, s9_isWhole1 hb, bnd_s, push_s, eX9_newest_7]
  rcases whole1_b (σ 40 0) 56 with h0 | h0 <;> rcases whole1_b (σ 40 0) 64 with h1 | h1 <;> simp only [h0, h1, ↓reduceIte, Int.reduceEq, and_self, and_true, and_false, false_and]
  simp (disch := omega) only [eX9_newest_16, eX9_newest_23, s9_pageAt, tmod256, bnd_s, bnd_n, push_s, push_n, w32i, ↓if_pos, ↓if_neg, Int.reduceAdd, Int.reduceMul, Int.reduceSub, Int.reduceToNat, Int.reduceNeg, Nat.reduceAdd, Nat.reduceMul, sup_row, row_same, row_row]
  split <;> rfl
theorem s9_digestOf (p b : Int) (h0 : 0 ≤ p) (h1 : p < 2147483648) (h2 : 0 ≤ b) (h3 : b < 2147483648) : inv N mX9_digestOf [vJ p, vJ b] (P σ) = some (some (vI (dig p b)), P σ) := by
  have t : Int.tmod ((p + 527) * 31 + b) 65536 = ((p + 527) * 31 + b) % 65536 := Int.tmod_eq_emod_of_nonneg (by omega)
  rw [iX9_digestOf, eX9_digestOf_0]
  unfold dig
  rw [w64i (x := p + 527) (by omega) (by omega), w64i (x := (p + 527) * 31) (by omega) (by omega), w64i (by omega) (by omega), t, w32i (by omega) (by omega)]
theorem tmod65536 {x : Int} (h0 : 0 ≤ x) : Int.tmod x 65536 = x % 65536 := Int.tmod_eq_emod_of_nonneg h0
theorem s9_sg_step (x0 : Int) (b k : Nat) (h : Int) (hk : k < 5) (hb : b + 4 < 107) (h0 : 0 ≤ h) (h1 : h < 100000) (w0 : 0 ≤ σ 40 0 (b + k)) (w1 : σ 40 0 (b + k) < 2147483648) : ev N mX9_signOf 7 [vI x0, vR 40 0, vI (b : Int), vJ h, vX, vI (k : Int)] [] (P σ) = ev N mX9_signOf 7 [vI x0, vR 40 0, vI (b : Int), vJ ((h * 31 + σ 40 0 (b + k)) % 65536), vX, vI ((k + 1 : Nat) : Int)] [] (P σ) := by
  have e1 : w32 ((b : Int) + (k : Int)) = ((b + k : Nat) : Int) := by rw [w32i (by omega) (by omega)]; omega
  have e2 : w32 ((k : Int) + 1) = ((k + 1 : Nat) : Int) := by rw [w32i (by omega) (by omega)]; omega
  have t : Int.tmod (h * 31 + σ 40 0 (b + k)) 65536 = (h * 31 + σ 40 0 (b + k)) % 65536 := Int.tmod_eq_emod_of_nonneg (by omega)
  have e3 : w64 (h * 31) = h * 31 := w64i (by omega) (by omega)
  have e4 : w64 (h * 31 + σ 40 0 (b + k)) = h * 31 + σ 40 0 (b + k) := w64i (by omega) (by omega)
  rw [eX9_signOf_7_k40, e1, if_pos (by omega), if_neg (by omega), if_pos (by omega), Int.toNat_natCast, e3, e4, t, e2]
theorem s9_signOf40 (s : Int) (b : Nat) (hb : b + 4 < 107) (hs : 0 ≤ s ∧ s < 10000) (hw : ∀ k, k < 5 → 0 ≤ σ 40 0 (b + k) ∧ σ 40 0 (b + k) < 2147483648) : inv N mX9_signOf [vI s, vR 40 0, vI (b : Int)] (P σ) = some (some (vI (sgn s (σ 40 0 b) (σ 40 0 (b + 1)) (σ 40 0 (b + 2)) (σ 40 0 (b + 3)) (σ 40 0 (b + 4)))), P σ) := by
  have st := fun (k : Nat) (h : Int) (hk : k < 5) (h0 : 0 ≤ h) (h1 : h < 100000) => s9_sg_step (N := N) (σ := σ) s b k h hk hb h0 h1 (hw k hk).1 (hw k hk).2
  have r : ∀ x : Int, 0 ≤ x % 65536 ∧ x % 65536 < 100000 := fun x => by omega
  rw [iX9_signOf_k40, eX9_signOf_0_k40, w32i (x := s + 7) (by omega) (by omega)]
  have st0 := st 0 (s + 7) (by omega) (by omega) (by omega)
  rw [Int.cast_ofNat_Int, Nat.add_zero] at st0
  rw [st0, st 1 _ (by omega) (r _).1 (r _).2, st 2 _ (by omega) (r _).1 (r _).2, st 3 _ (by omega) (r _).1 (r _).2, st 4 _ (by omega) (r _).1 (r _).2, eX9_signOf_7_k40, if_neg (by omega), w32i (Int.le_trans (by omega) (r _).1) (Int.lt_of_lt_of_le (r _).2 (by omega))]
  rfl
/-- the model's way to look at the parts -/
def toldM (c : Vec) (b k : Nat) : Int := if k = 0 then c (b + 4) else c (b + 5 + 2 * k)
def areL (c : Vec) (b : Nat) : Nat → Nat → Int → Int
  | 0, _, a => a
  | m + 1, k, a => areL c b m (k + 1) (if a = 0 then 0 else if toldM c b k = dig (c (b + 6 + 2 * k)) (c (b + 7 + 2 * k)) then 1 else 0)
theorem areL_0 (c : Vec) (b : Nat) : ∀ (m k : Nat), areL c b m k 0 = 0
  | 0, k => rfl
  | m + 1, k => by
    unfold areL
    rw [if_pos rfl]
    exact areL_0 c b m (k + 1)
theorem areL_sound (c : Vec) (b : Nat) : ∀ (m k : Nat) (z : Int), z = (if c (b + 7 + 2 * (k + m)) = 0 then 1 else 0) → areL c b (m + 1) k z = soundL c b (m + 1) k (toldM c b k)
  | 0, k, z, hz => by
    have hz : z = (if c (b + 7 + 2 * k) = 0 then 1 else 0) := hz
    unfold areL soundL
    show (if z = 0 then 0 else if toldM c b k = dig (c (b + 6 + 2 * k)) (c (b + 7 + 2 * k)) then 1 else 0) = if dig (c (b + 6 + 2 * k)) (c (b + 7 + 2 * k)) = toldM c b k then (if c (b + 7 + 2 * k) = 0 then 1 else 0) else 0
    by_cases h1 : c (b + 7 + 2 * k) = 0
    · rw [if_pos h1] at hz
      rw [hz, if_neg (show ¬ (1 : Int) = 0 by omega), if_pos h1]
      by_cases h2 : toldM c b k = dig (c (b + 6 + 2 * k)) (c (b + 7 + 2 * k))
      · rw [if_pos h2, if_pos h2.symm]
      · rw [if_neg h2, if_neg (fun q => h2 q.symm)]
    · rw [if_neg h1] at hz
      rw [hz, if_pos rfl, if_neg h1]
      split <;> rfl
  | m + 1, k, z, hz => by
    have ih := areL_sound c b m (k + 1)
    rw [show k + 1 + m = k + (m + 1) by omega] at ih
    have et : toldM c b (k + 1) = c (b + 7 + 2 * k) := by
      unfold toldM
      rw [if_neg (by omega), show b + 5 + 2 * (k + 1) = b + 7 + 2 * k by omega]
    rw [et] at ih
    show areL c b (m + 1) (k + 1) (if z = 0 then 0 else if toldM c b k = dig (c (b + 6 + 2 * k)) (c (b + 7 + 2 * k)) then 1 else 0) = if dig (c (b + 6 + 2 * k)) (c (b + 7 + 2 * k)) = toldM c b k then soundL c b (m + 1) (k + 1) (c (b + 7 + 2 * k)) else 0
    by_cases h1 : c (b + 7 + 2 * (k + (m + 1))) = 0
    · rw [if_pos h1] at hz
      rw [hz, if_neg (show ¬ (1 : Int) = 0 by omega)]
      by_cases h2 : toldM c b k = dig (c (b + 6 + 2 * k)) (c (b + 7 + 2 * k))
      · rw [if_pos h2, if_pos h2.symm, ih 1 (by rw [if_pos h1])]
      · rw [if_neg h2, if_neg (fun q => h2 q.symm)]
        exact areL_0 c b (m + 1) (k + 1)
    · rw [if_neg h1] at hz
      have e1 : soundL c b (m + 1) (k + 1) (c (b + 7 + 2 * k)) = 0 := (ih 0 (by rw [if_neg h1])).symm.trans (areL_0 c b (m + 1) (k + 1))
      rw [hz, if_pos rfl, areL_0, e1]
      split <;> rfl
theorem s9_are_loop (b : Nat) (n : Int) (hb : b + 13 < 107) (h4 : n ≤ 4) (hw : ∀ k, k < 14 → 0 ≤ σ 40 0 (b + k) ∧ σ 40 0 (b + k) < 2147483648) : ∀ (m k : Nat) (a : Int) (x5 : MV), (k : Int) + (m : Int) = n → (a = 0 ∨ a = 1) → ev N mX9_areDigests 26 [vR 30 0, vI (b : Int), vI n, vI a, vI (k : Int), x5] [] (P σ) = some (some (vI (areL (σ 40 0) b m k a)), P σ) := by
  intro m
  induction m with
  | zero =>
    intro k a x5 hk ha
    rw [eX9_areDigests_26, if_neg (by omega)]
    unfold areL
    rcases ha with rfl | rfl
    · rw [if_pos rfl]
    · rw [if_neg (by omega), if_pos rfl]
  | succ m ih =>
    intro k a x5 hk ha
    have hk4 : k < 4 := by omega
    have hkn : (k : Int) < n := by omega
    have ih0 := fun x5 => ih (k + 1) 0 x5 (by omega) (Or.inl rfl)
    have ih1 := fun x5 => ih (k + 1) 1 x5 (by omega) (Or.inr rfl)
    clear ih hk h4
    have w6 := hw (6 + 2 * k) (by omega)
    have w7 := hw (7 + 2 * k) (by omega)
    have hd := s9_digestOf (N := N) (σ := σ) (σ 40 0 (b + (6 + 2 * k))) (σ 40 0 (b + (7 + 2 * k))) w6.1 w6.2 w7.1 w7.2
    clear w6 w7 hw
    have ek : w32 ((k : Int) + 1) = ((k + 1 : Nat) : Int) := by rw [w32i (by omega) (by omega)]; omega
    have v4 : w32 ((b : Int) + 4) = ((b + 4 : Nat) : Int) := by rw [w32i (by omega) (by omega)]; omega
    have v5 : w32 (w32 ((b : Int) + 5) + w32 (2 * (k : Int))) = ((b + 5 + 2 * k : Nat) : Int) := by rw [w32i (x := (b : Int) + 5) (by omega) (by omega), w32i (x := 2 * (k : Int)) (by omega) (by omega), w32i (by omega) (by omega)]; omega
    have v6 : w32 (w32 ((b : Int) + 6) + w32 (2 * (k : Int))) = ((b + (6 + 2 * k) : Nat) : Int) := by rw [w32i (x := (b : Int) + 6) (by omega) (by omega), w32i (x := 2 * (k : Int)) (by omega) (by omega), w32i (by omega) (by omega)]; omega
    have v7 : w32 (w32 ((b : Int) + 7) + w32 (2 * (k : Int))) = ((b + (7 + 2 * k) : Nat) : Int) := by rw [w32i (x := (b : Int) + 7) (by omega) (by omega), w32i (x := 2 * (k : Int)) (by omega) (by omega), w32i (by omega) (by omega)]; omega
    have p4 : ¬ (((b + 4 : Nat) : Int) < 0) ∧ ((b + 4 : Nat) : Int) < 107 := by omega
    have p5 : ¬ (((b + 5 + 2 * k : Nat) : Int) < 0) ∧ ((b + 5 + 2 * k : Nat) : Int) < 107 := by omega
    have p6 : ¬ (((b + (6 + 2 * k) : Nat) : Int) < 0) ∧ ((b + (6 + 2 * k) : Nat) : Int) < 107 := by omega
    have p7 : ¬ (((b + (7 + 2 * k) : Nat) : Int) < 0) ∧ ((b + (7 + 2 * k) : Nat) : Int) < 107 := by omega
    unfold areL toldM
    rw [show b + 6 + 2 * k = b + (6 + 2 * k) by omega, show b + 7 + 2 * k = b + (7 + 2 * k) by omega, eX9_areDigests_26, if_pos hkn, v4, v5, v6, v7, ek]
    by_cases hk0 : k = 0
    · rw [if_pos (show (k : Int) = 0 by omega), if_neg p4.1, if_pos p4.2, if_pos hk0, Int.toNat_natCast]
      rcases ha with rfl | rfl
      · rw [if_pos rfl, if_pos rfl]
        exact ih0 _
      · rw [if_neg (show ¬ (1 : Int) = 0 by omega), if_neg (show ¬ (1 : Int) = 0 by omega), if_neg p6.1, if_pos p6.2, if_neg p7.1, if_pos p7.2, Int.toNat_natCast, Int.toNat_natCast, hd, bnd_s, push_s, eX9_areDigests_75, ek]
        by_cases h2 : σ 40 0 (b + 4) = dig (σ 40 0 (b + (6 + 2 * k))) (σ 40 0 (b + (7 + 2 * k)))
        · rw [if_pos h2, if_pos h2]
          exact ih1 _
        · rw [if_neg h2, if_neg h2]
          exact ih0 _
    · rw [if_neg (show ¬ (k : Int) = 0 by omega), if_neg p5.1, if_pos p5.2, if_neg hk0, Int.toNat_natCast]
      rcases ha with rfl | rfl
      · rw [if_pos rfl, if_pos rfl]
        exact ih0 _
      · rw [if_neg (show ¬ (1 : Int) = 0 by omega), if_neg (show ¬ (1 : Int) = 0 by omega), if_neg p6.1, if_pos p6.2, if_neg p7.1, if_pos p7.2, Int.toNat_natCast, Int.toNat_natCast, hd, bnd_s, push_s, eX9_areDigests_75, ek]
        by_cases h2 : σ 40 0 (b + 5 + 2 * k) = dig (σ 40 0 (b + (6 + 2 * k))) (σ 40 0 (b + (7 + 2 * k)))
        · rw [if_pos h2, if_pos h2]
          exact ih1 _
        · rw [if_neg h2, if_neg h2]
          exact ih0 _
end MOD
end
section
/-! THE MODEL: why, what can be done -/
section MOD
variable {N : Nat} {σ : Sto}
theorem s9_areDigests (b : Nat) (hb : b + 13 < 107) (h1 : 1 ≤ σ 40 0 (b + 3)) (h4 : σ 40 0 (b + 3) ≤ 4) (hw : ∀ k, k < 14 → 0 ≤ σ 40 0 (b + k) ∧ σ 40 0 (b + k) < 2147483648) : inv N mX9_areDigests [vR 30 0, vI (b : Int)] (P σ) = some (some (vI (soundF (σ 40 0) b (σ 40 0 (b + 3)))), P σ) := by
  have lp := fun (n : Int) (hn : n ≤ 4) => s9_are_loop (N := N) (σ := σ) b n hb hn hw
  obtain ⟨m, hm, em⟩ : ∃ m : Nat, m < 4 ∧ σ 40 0 (b + 3) = ((m + 1 : Nat) : Int) := ⟨(σ 40 0 (b + 3) - 1).toNat, by omega, by omega⟩
  clear hw
  have v3 : w32 ((b : Int) + 3) = ((b + 3 : Nat) : Int) := by rw [w32i (by omega) (by omega)]; omega
  have v7 : w32 (w32 ((b : Int) + 7) + w32 (2 * w32 (((m + 1 : Nat) : Int) - 1))) = ((b + 7 + 2 * (0 + m) : Nat) : Int) := by rw [w32i (x := ((m + 1 : Nat) : Int) - 1) (by omega) (by omega), w32i (x := (b : Int) + 7) (by omega) (by omega), w32i (x := 2 * (((m + 1 : Nat) : Int) - 1)) (by omega) (by omega), w32i (by omega) (by omega)]; omega
  have p3 : ¬ (((b + 3 : Nat) : Int) < 0) ∧ ((b + 3 : Nat) : Int) < 107 := by omega
  have p7 : ¬ (((b + 7 + 2 * (0 + m) : Nat) : Int) < 0) ∧ ((b + 7 + 2 * (0 + m) : Nat) : Int) < 107 := by omega
  have l1 := lp ((m + 1 : Nat) : Int) (by omega) (m + 1) 0 1 vX (by omega) (Or.inr rfl)
  have l0 := lp ((m + 1 : Nat) : Int) (by omega) (m + 1) 0 0 vX (by omega) (Or.inl rfl)
  clear lp h1 h4
  unfold soundF
  rw [iX9_areDigests, eX9_areDigests_0, v3, if_neg p3.1, if_pos p3.2, Int.toNat_natCast, em, v7, if_neg p7.1, if_pos p7.2, Int.toNat_natCast, Int.toNat_natCast]
  by_cases h : σ 40 0 (b + 7 + 2 * (0 + m)) = 0
  · have z := areL_sound (σ 40 0) b m 0 1 (by rw [if_pos h])
    rw [if_pos h]
    exact l1.trans (by rw [z]; rfl)
  · have z := areL_sound (σ 40 0) b m 0 0 (by rw [if_neg h])
    rw [if_neg h]
    exact l0.trans (by rw [z]; rfl)
theorem s9_rev_loop {ks : Int} (hf : 0 ≤ σ 40 0 77 ∧ σ 40 0 77 < 64) (hu : OKU ks (σ 33 0)) (x1 : Int) : ∀ (n : Nat) (k : Int), -1 ≤ k → k < n → n ≤ 6 → k < ks → ev N mX9_isRevoked 2 [vR 30 0, vI x1, vI k] [] (P σ) = some (some (vI (revN (σ 33 0) (σ 40 0 77) n k)), P σ) := by
  intro n
  induction n with
  | zero =>
    intro k k0 k1 hn hks
    rw [eX9_isRevoked_2, if_pos (by omega)]
    rfl
  | succ n ih =>
    intro k k0 k1 hn hks
    have h6 := hu.1
    rw [eX9_isRevoked_2]
    unfold revN
    by_cases hk : k < 0
    · rw [if_pos (show k = -1 by omega), if_pos hk]
    · rw [if_neg hk, if_neg hk, if_neg (show ¬ k = -1 by omega), show (77 : Int).toNat = 77 from rfl, fuse_bit hf.1 (by omega) (by omega) (by omega)]
      split
      · rfl
      · have hu1 := hu.2 k.toNat (by omega)
        rw [if_pos (show k < 6 by omega)]
        exact ih _ (by omega) (by omega) (by omega) (by omega)
theorem s9_isRevoked {ks : Int} (hf : 0 ≤ σ 40 0 77 ∧ σ 40 0 77 < 64) (hu : OKU ks (σ 33 0)) (k : Int) (k0 : 0 ≤ k) (k1 : k < ks) : inv N mX9_isRevoked [vR 30 0, vI k] (P σ) = some (some (vI (revN (σ 33 0) (σ 40 0 77) 6 k)), P σ) := by
  rw [iX9_isRevoked, eX9_isRevoked_0]
  have h6 := hu.1
  exact s9_rev_loop hf hu k 6 k (by omega) (by omega) (by omega) (by omega)
/-- what the model's bundle is like -/
def OKM (σ : Sto) : Prop := 0 ≤ σ 30 0 5 ∧ σ 30 0 5 ≤ 6 ∧ 0 ≤ σ 30 0 6 ∧ σ 30 0 6 ≤ 6 ∧ 1 ≤ σ 38 0 2 ∧ σ 38 0 2 ≤ 9 ∧ 1 ≤ σ 38 0 3 ∧ σ 38 0 3 ≤ 7 ∧ 1 ≤ σ 38 0 4 ∧ σ 38 0 4 ≤ 99 ∧ (∀ k, k < 6 → 0 ≤ σ 32 0 k ∧ σ 32 0 k < 10000) ∧ OKU (σ 30 0 5) (σ 33 0) ∧ (∀ k, k < 84 → 0 ≤ σ 36 0 k ∧ σ 36 0 k < 100000)
abbrev whyM (σ : Sto) (c : Vec) (s : Nat) : Int := whyF (σ 30 0 5) (σ 32 0) (σ 33 0) c s
theorem s9_versionOf (s : Nat) (hs : s < 4) (hw : OKW (σ 40 0)) : inv N mX9_versionOf [vR 30 0, vI (s : Int)] (P σ) = some (some (vI (σ 40 0 (14 * s) - 1)), P σ) := by
  have h1 := hw (14 * s) (by omega)
  have e : w32 (14 * (s : Int)) = ((14 * s : Nat) : Int) := by rw [w32i (by omega) (by omega)]; omega
  rw [iX9_versionOf, eX9_versionOf_0, e, if_neg (by omega), if_pos (by omega), Int.toNat_natCast, w32i (by omega) (by omega)]
theorem s9_why (s : Nat) (hs : s < 4) (hg : OKM σ) (hc : OKC (σ 40 0)) : inv N mX9_whyOf [vR 30 0, vI (s : Int)] (P σ) = some (some (vI (whyM σ (σ 40 0) s)), P σ) := by
  obtain ⟨g1, g2, -, -, -, -, -, -, -, -, g11, g12, -⟩ := hg
  obtain ⟨c1, c2, c3, c4, c5⟩ := hc
  have w0 := c1 (14 * s) (by omega)
  have w1 := c1 (14 * s + 1) (by omega)
  have w3 := c1 (14 * s + 3) (by omega)
  have e : w32 (14 * (s : Int)) = ((14 * s : Nat) : Int) := by rw [w32i (by omega) (by omega)]; omega
  have e1 : w32 (((14 * s : Nat) : Int) + 1) = ((14 * s + 1 : Nat) : Int) := by rw [w32i (by omega) (by omega)]; omega
  have e3 : w32 (((14 * s : Nat) : Int) + 3) = ((14 * s + 3 : Nat) : Int) := by rw [w32i (by omega) (by omega)]; omega
  have e5 : w32 (((14 * s : Nat) : Int) + 5) = ((14 * s + 5 : Nat) : Int) := by rw [w32i (by omega) (by omega)]; omega
  have ek : w32 (σ 30 0 5 - 1) = σ 30 0 5 - 1 := w32i (by omega) (by omega)
  have ev1 : w32 (σ 40 0 (14 * s) - 1) = σ 40 0 (14 * s) - 1 := w32i (by omega) (by omega)
  have p0 : ¬ (((14 * s : Nat) : Int) < 0) ∧ ((14 * s : Nat) : Int) < 107 := by omega
  have p1 : ¬ (((14 * s + 1 : Nat) : Int) < 0) ∧ ((14 * s + 1 : Nat) : Int) < 107 := by omega
  have p3 : ¬ (((14 * s + 3 : Nat) : Int) < 0) ∧ ((14 * s + 3 : Nat) : Int) < 107 := by omega
  have p5 : ¬ (((14 * s + 5 : Nat) : Int) < 0) ∧ ((14 * s + 5 : Nat) : Int) < 107 := by omega
  rw [iX9_whyOf, eX9_whyOf_0, e, if_neg p0.1, if_pos p0.2, Int.toNat_natCast, s9_in, bnd_s, push_s, eX9_whyOf_12]
  show _ = some (some (vI (whyF (σ 30 0 5) (σ 32 0) (σ 33 0) (σ 40 0) s)), P σ)
  unfold whyF
  by_cases h1 : 1 ≤ σ 40 0 (14 * s) ∧ σ 40 0 (14 * s) ≤ 31
  case neg => rw [if_neg h1, if_pos rfl, if_pos (by omega)]
  rw [if_pos h1, if_neg (show ¬ (1 : Int) = 0 by omega), e1, if_neg p1.1, if_pos p1.2, Int.toNat_natCast, ek, s9_in, bnd_s, push_s, eX9_whyOf_27]
  by_cases h2 : 0 ≤ σ 40 0 (14 * s + 1) ∧ σ 40 0 (14 * s + 1) ≤ σ 30 0 5 - 1
  case neg => rw [if_neg h2, if_pos rfl, if_pos (by omega)]
  rw [if_pos h2, if_neg (show ¬ (1 : Int) = 0 by omega), e3, if_neg p3.1, if_pos p3.2, Int.toNat_natCast, s9_in, bnd_s, push_s, eX9_whyOf_38]
  by_cases h3 : 1 ≤ σ 40 0 (14 * s + 3) ∧ σ 40 0 (14 * s + 3) ≤ 4
  case neg => rw [if_neg h3, if_pos rfl, if_pos (by omega)]
  have q1 : ¬ σ 40 0 (14 * s + 1) < 0 := by omega
  have q2 : σ 40 0 (14 * s + 1) < 6 := by omega
  have hsec := g11 (σ 40 0 (14 * s + 1)).toNat (by omega)
  have hsg := s9_signOf40 (N := N) (σ := σ) (σ 32 0 (σ 40 0 (14 * s + 1)).toNat) (14 * s) (by omega) hsec (fun k hk => c1 (14 * s + k) (by omega))
  rw [if_pos h3, if_neg (show ¬ (1 : Int) = 0 by omega), e5, e1, if_neg p5.1, if_pos p5.2, if_neg p1.1, if_pos p1.2, Int.toNat_natCast, Int.toNat_natCast, if_neg q1, if_pos q2, hsg, bnd_s, push_s, eX9_whyOf_60, e1]
  rw [if_neg (show ¬ (σ 40 0 (14 * s) - 1 < 0 ∨ 30 < σ 40 0 (14 * s) - 1 ∨ ¬ (0 ≤ σ 40 0 (14 * s + 1) ∧ σ 40 0 (14 * s + 1) < σ 30 0 5) ∨ σ 40 0 (14 * s + 3) < 1 ∨ 4 < σ 40 0 (14 * s + 3)) by omega)]
  show (if σ 40 0 (14 * s + 5) = signF (σ 32 0) (σ 40 0) (14 * s) then _ else _) = _
  by_cases h6 : σ 40 0 (14 * s + 5) = signF (σ 32 0) (σ 40 0) (14 * s)
  case neg => rw [if_neg h6, if_pos h6]
  rw [if_pos h6, if_neg (show ¬ ¬ σ 40 0 (14 * s + 5) = signF (σ 32 0) (σ 40 0) (14 * s) from fun z => z h6)]
  have hsnd := soundF_b (σ 40 0) (14 * s) (σ 40 0 (14 * s + 3))
  have tail : bnd (inv N mX9_areDigests [vR 30 0, vI ((14 * s : Nat) : Int)] (P σ)) (fun r S2 => ev N mX9_whyOf 102 [vR 30 0, vI (s : Int), vI ((14 * s : Nat) : Int)] (push r []) S2) = some (some (vI (if soundF (σ 40 0) (14 * s) (σ 40 0 (14 * s + 3)) = 1 then 0 else 5)), P σ) := by
    rw [s9_areDigests (14 * s) (by omega) h3.1 h3.2 (fun k hk => c1 (14 * s + k) (by omega)), bnd_s, push_s, eX9_whyOf_102]
    rcases hsnd with h | h
    · rw [h, if_pos rfl, if_neg (show ¬ (0 : Int) = 1 by omega)]
    · rw [h, if_neg (show ¬ (1 : Int) = 0 by omega), if_pos rfl]
  by_cases h7 : s < 2
  · rw [if_pos h7, if_pos (show (s : Int) < 2 by omega), if_neg p1.1, if_pos p1.2, Int.toNat_natCast, s9_isRevoked c4 g12 _ (by omega) (by omega), bnd_s, push_s, eX9_whyOf_74]
    rcases revN_b (σ 33 0) (σ 40 0 77) 6 (σ 40 0 (14 * s + 1)) with h8 | h8
    · rw [h8, if_pos rfl, if_neg (show ¬ (0 : Int) = 1 by omega), if_neg p0.1, if_pos p0.2, Int.toNat_natCast, ev1, show (76 : Int).toNat = 76 from rfl]
      by_cases h9 : σ 40 0 (14 * s) - 1 < σ 40 0 76
      · rw [if_pos h9, if_pos h9]
      · rw [if_neg h9, if_neg h9, tail]
    · rw [h8, if_neg (show ¬ (1 : Int) = 0 by omega), if_pos rfl]
  · rw [if_neg h7, if_neg (show ¬ (s : Int) < 2 by omega), if_neg p1.1, if_pos p1.2, Int.toNat_natCast]
    by_cases h8 : σ 40 0 (14 * s + 1) = 0
    · rw [if_pos h8, if_neg (show ¬ ¬ σ 40 0 (14 * s + 1) = 0 from fun z => z h8), tail]
    · rw [if_neg h8, if_pos h8]
theorem s9_copyNow (hg : OKM σ) (hc : OKC (σ 40 0)) : inv N mX9_copyNow [vR 30 0] (P σ) = some (some (vI (copyF (σ 30 0 5) (σ 32 0) (σ 33 0) (σ 40 0))), P σ) := by
  have r2 := s9_why (N := N) 2 (by omega) hg hc
  have r3 := s9_why (N := N) 3 (by omega) hg hc
  have v2 := s9_versionOf (N := N) 2 (by omega) hc.1
  have v3 := s9_versionOf (N := N) 3 (by omega) hc.1
  simp only [Int.cast_ofNat_Int, Nat.reduceMul] at r2 r3 v2 v3
  unfold copyF
  rw [iX9_copyNow, eX9_copyNow_0, r2, bnd_s, push_s, eX9_copyNow_3]
  by_cases h2 : whyF (σ 30 0 5) (σ 32 0) (σ 33 0) (σ 40 0) 2 = 0 <;> by_cases h3 : whyF (σ 30 0 5) (σ 32 0) (σ 33 0) (σ 40 0) 3 = 0 <;> simp only [h2, h3, ↓reduceIte, r3, v2, v3, bnd_s, push_s, eX9_copyNow_11, eX9_copyNow_23, eX9_copyNow_26, Int.reduceEq]
  split <;> rfl
theorem s9_isOff : inv N mX9_isOff [vR 30 0] (P σ) = some (some (vI (if σ 40 0 78 = -1 then 1 else 0)), P σ) := by
  rw [iX9_isOff, eX9_isOff_0, show (78 : Int).toNat = 78 from rfl]
  split <;> rfl
theorem s9_isImage (h0 : 0 ≤ σ 30 0 6) (h1 : σ 30 0 6 ≤ 6) (x : Int) : inv N mX9_isImage [vR 30 0, vI x] (P σ) = some (some (vI (if 0 ≤ x ∧ x < σ 30 0 6 then 1 else 0)), P σ) := by
  rw [iX9_isImage, eX9_isImage_0, w32i (by omega) (by omega), s9_in, bnd_s, push_s, eX9_isImage_9]
  by_cases h : 0 ≤ x ∧ x < σ 30 0 6
  · rw [if_pos h, if_pos (show 0 ≤ x ∧ x ≤ σ 30 0 6 - 1 by omega), if_neg (show ¬ (1 : Int) = 0 by omega), if_pos rfl]
  · rw [if_neg h, if_neg (show ¬ (0 ≤ x ∧ x ≤ σ 30 0 6 - 1) by omega), if_pos rfl]
theorem s9_isOpen (hg : OKM σ) (hc : OKC (σ 40 0)) : inv N mX9_isOpen [vR 30 0] (P σ) = some (some (vI (openF (σ 30 0 6) (σ 40 0))), P σ) := by
  have b72 := hc.2.1 72 (by omega) (by omega)
  have b73 := hc.2.1 73 (by omega) (by omega)
  have b74 := hc.2.1 74 (by omega) (by omega)
  have t : w32 (w32 (σ 40 0 72 + σ 40 0 73) + σ 40 0 74) = σ 40 0 72 + σ 40 0 73 + σ 40 0 74 := by rw [w32i (x := σ 40 0 72 + σ 40 0 73) (by omega) (by omega), w32i (by omega) (by omega)]
  have im := s9_isImage (N := N) hg.2.2.1 hg.2.2.2.1 (σ 40 0 73)
  have t2 : Int.tmod (σ 40 0 72 + σ 40 0 73 + σ 40 0 74) 256 = (σ 40 0 72 + σ 40 0 73 + σ 40 0 74) % 256 := tmod256 (by omega)
  unfold openF
  rw [iX9_isOpen, eX9_isOpen_0]
  simp only [Int.reduceToNat, t, t2]
  clear t t2
  by_cases h1 : σ 40 0 74 = 90
  case neg => rw [if_neg h1, if_neg (fun z => h1 z.1)]
  rw [if_pos h1]
  by_cases h2 : σ 40 0 75 = (σ 40 0 72 + σ 40 0 73 + σ 40 0 74) % 256
  case neg => rw [if_neg h2, if_neg (fun z => h2 z.2.1)]
  rw [if_pos h2, s9_in, bnd_s, push_s, eX9_isOpen_37]
  by_cases h3 : σ 40 0 72 = 0 ∨ σ 40 0 72 = 1
  case neg => rw [if_neg (show ¬ (0 ≤ σ 40 0 72 ∧ σ 40 0 72 ≤ 1) from fun z => h3 (by omega)), if_pos rfl, if_neg (fun z => h3 z.2.2.1)]
  rw [if_pos (show 0 ≤ σ 40 0 72 ∧ σ 40 0 72 ≤ 1 from ⟨by rcases h3 with h | h <;> rw [h] <;> decide, by rcases h3 with h | h <;> rw [h] <;> decide⟩), if_neg (show ¬ (1 : Int) = 0 by omega), show (73 : Int).toNat = 73 from rfl, im, bnd_s, push_s, eX9_isOpen_44]
  by_cases h4 : σ 40 0 73 < σ 30 0 6
  · rw [if_pos (show 0 ≤ σ 40 0 73 ∧ σ 40 0 73 < σ 30 0 6 from ⟨b73.1, h4⟩), if_neg (show ¬ (1 : Int) = 0 by omega), if_pos (show σ 40 0 74 = 90 ∧ _ ∧ _ ∧ _ from ⟨h1, h2, h3, h4⟩)]
  · rw [if_neg (show ¬ (0 ≤ σ 40 0 73 ∧ σ 40 0 73 < σ 30 0 6) from fun z => h4 z.2), if_pos rfl, if_neg (fun z => h4 z.2.2.2)]
theorem in01 (a : Int) : (0 ≤ a ∧ a ≤ 1) ↔ (a = 0 ∨ a = 1) := by omega
theorem s9_canDo (hg : OKM σ) (hc : OKC (σ 40 0)) (d a b : Int) : inv N mX9_canDo [vR 30 0, vI d, vI a, vI b] (P σ) = some (some (vI (ableF (σ 30 0 6) (σ 36 0) (σ 40 0) d a b)), P σ) := by
  have img := s9_isImage (N := N) hg.2.2.1 hg.2.2.2.1 b
  have opn := s9_isOpen (N := N) hg hc
  have g4 := hg.2.2.2.1
  have e78 : (78 : Int).toNat = 78 := rfl
  have e72 : (72 : Int).toNat = 72 := rfl
  rw [iX9_canDo, eX9_canDo_0]
  unfold ableF
  by_cases d0 : d = 0
  · simp only [d0, ↓reduceIte, s9_in, bnd_s, push_s, eX9_canDo_7, in01, s9_isOff, eX9_canDo_12]
    by_cases h2 : a = 0 ∨ a = 1
    · simp only [h2, ↓reduceIte, Int.reduceEq, true_and]
      by_cases h3 : b = 0
      · simp only [h3, ↓reduceIte, and_true]
        by_cases h1 : σ 40 0 78 = -1
        · simp only [h1, ↓reduceIte, Int.reduceEq]
        · simp only [h1, ↓reduceIte]
      · simp only [h3, ↓reduceIte, and_false]
    · simp only [h2, ↓reduceIte, false_and, and_false]
  · simp only [d0, ↓reduceIte]
    by_cases d1 : d = 1
    · simp only [d1, ↓reduceIte, s9_in, bnd_s, push_s, eX9_canDo_105, Int.reduceLE, and_self, Int.reduceEq, s9_isOff, eX9_canDo_112]
      by_cases h1 : σ 40 0 78 = -1
      · simp only [h1, ↓reduceIte, Int.reduceEq]
        split
        · split <;> rfl
        · rfl
      · simp only [h1, ↓reduceIte]
        by_cases h2 : a = 0
        · simp only [h2, ↓reduceIte, true_and]
          split <;> rfl
        · simp only [h2, ↓reduceIte, false_and]
    · simp only [d1, ↓reduceIte]
      by_cases d2 : d = 2
      · simp only [d2, ↓reduceIte, s9_in, bnd_s, push_s, eX9_canDo_22, in01, img, eX9_canDo_26, s9_isOff, eX9_canDo_29, e78]
        by_cases h2 : a = 0 ∨ a = 1
        · simp only [h2, ↓reduceIte, Int.reduceEq, true_and]
          by_cases h4 : 0 ≤ b ∧ b < σ 30 0 6
          · simp only [h4, and_self, ↓reduceIte, Int.reduceEq, and_true]
            by_cases h1 : σ 40 0 78 = -1
            · simp only [h1, ↓reduceIte, Int.reduceEq]
            · simp only [h1, ↓reduceIte]
              by_cases h3 : σ 40 0 78 = a
              · rw [if_pos h3, if_neg (fun z => z h3.symm)]
              · rw [if_neg h3, if_pos (fun z => h3 z.symm)]
          · simp only [h4, ↓reduceIte, and_false, ite_self]
        · simp only [h2, ↓reduceIte, false_and, ite_self]
      · simp only [d2, ↓reduceIte]
        by_cases d3 : d = 3
        · simp only [d3, ↓reduceIte]
          by_cases h2 : a = 0
          · simp only [h2, ↓reduceIte, img, bnd_s, push_s, eX9_canDo_45, s9_isOff, eX9_canDo_48, true_and]
            by_cases h4 : 0 ≤ b ∧ b < σ 30 0 6
            · rw [if_pos h4, if_neg (show ¬ (1 : Int) = 0 by omega)]
              have e : w32 (w32 (14 * b) + 1) = ((14 * b.toNat + 1 : Nat) : Int) := by rw [w32i (x := 14 * b) (by omega) (by omega), w32i (by omega) (by omega)]; omega
              have p : ¬ (((14 * b.toNat + 1 : Nat) : Int) < 0) ∧ ((14 * b.toNat + 1 : Nat) : Int) < 84 := by omega
              rw [e, if_neg p.1, if_pos p.2, Int.toNat_natCast]
              clear e p
              by_cases h1 : σ 40 0 78 = -1
              · simp only [h1, ↓reduceIte, Int.reduceEq]
              · simp only [h1, ↓reduceIte]
                by_cases h5 : σ 36 0 (14 * b.toNat + 1) = 0
                · rw [if_pos h5, if_pos ⟨h4.1, h4.2, h5⟩]
                · rw [if_neg h5, if_neg (fun z => h5 z.2.2)]
            · rw [if_neg h4, if_pos rfl, if_neg (show ¬ (0 ≤ b ∧ b < σ 30 0 6 ∧ σ 36 0 (14 * b.toNat + 1) = 0) from fun z => h4 ⟨z.1, z.2.1⟩)]
              split <;> rfl
          · simp only [h2, ↓reduceIte, false_and, ite_self]
        · simp only [d3, ↓reduceIte]
          by_cases d4 : d = 4
          · simp only [d4, ↓reduceIte, s9_in, bnd_s, push_s, eX9_canDo_67, in01, s9_isOff, eX9_canDo_72]
            by_cases h2 : a = 0 ∨ a = 1
            · simp only [h2, ↓reduceIte, Int.reduceEq, true_and]
              by_cases h3 : b = 0
              · simp only [h3, ↓reduceIte]
                by_cases h1 : σ 40 0 78 = -1
                · simp only [h1, ↓reduceIte, Int.reduceEq]
                · simp only [h1, ↓reduceIte]
              · simp only [h3, ↓reduceIte, ite_self]
            · simp only [h2, ↓reduceIte, false_and, ite_self]
          · simp only [d4, ↓reduceIte]
            by_cases d5 : d = 5
            · simp only [d5, ↓reduceIte, s9_in, bnd_s, push_s, eX9_canDo_105, Int.reduceLE, and_self, Int.reduceEq, s9_isOff, eX9_canDo_112]
              by_cases h1 : σ 40 0 78 = -1
              · simp only [h1, ↓reduceIte, Int.reduceEq]
                split
                · split <;> rfl
                · rfl
              · simp only [h1, ↓reduceIte]
                by_cases h2 : a = 0
                · simp only [h2, ↓reduceIte, true_and]
                  split <;> rfl
                · simp only [h2, ↓reduceIte, false_and]
            · simp only [d5, ↓reduceIte]
              by_cases d6 : d = 6
              · simp only [d6, ↓reduceIte]
                by_cases h2 : a = 0
                · simp only [h2, ↓reduceIte, true_and]
                  by_cases h3 : b = 0
                  · simp only [h3, ↓reduceIte, true_and, s9_isOff, bnd_s, push_s, eX9_canDo_83, opn, eX9_canDo_86, e78, e72]
                    by_cases h1 : σ 40 0 78 = -1
                    · simp only [h1, ↓reduceIte, Int.reduceEq]
                    · simp only [h1, ↓reduceIte]
                      rcases openF_b (σ 30 0 6) (σ 40 0) with h4 | h4
                      · simp only [h4, ↓reduceIte, Int.reduceEq, false_and]
                      · simp only [h4, ↓reduceIte, Int.reduceEq, true_and]
                        by_cases h5 : σ 40 0 78 = σ 40 0 72
                        · rw [if_pos h5, if_neg (fun z => z h5.symm)]
                        · rw [if_neg h5, if_pos (fun z => h5 z.symm)]
                  · simp only [h3, ↓reduceIte, false_and, ite_self]
                · simp only [h2, ↓reduceIte, false_and, ite_self]
              · simp only [d6, ↓reduceIte, s9_in, bnd_s, push_s, eX9_canDo_105, ite_self]
                rw [if_neg (show ¬ (1 ≤ d ∧ d ≤ 5) by omega), if_pos rfl]
end MOD
end
section
/-! THE MODEL: writes, flags -/
def canM (σ : Sto) : Int × Sto :=
  if σ 30 0 24 = 0 then
    (if σ 30 0 22 = 0 then (0, row (row σ 30 0 (set (σ 30 0) 24 1)) 40 0 (set (σ 40 0) 78 (-1)))
     else (1, row σ 30 0 (set (set (σ 30 0) 22 (w32 (σ 30 0 22 - (if 0 < σ 30 0 22 then 1 else 0)))) 23 (w32 (σ 30 0 23 + 1)))))
  else (0, σ)
/-- one write -/
def wrM (a n : Nat) (v : Int) (σ : Sto) : Sto := if (canM σ).1 = 0 then (canM σ).2 else row (canM σ).2 40 0 (fill ((canM σ).2 40 0) a n v)
/-- what the model's deeds may change -/
def KM (σ τ : Sto) : Prop := (∀ k k', ¬ (k' = 0 ∧ (k = 30 ∨ k = 40 ∨ k = 43 ∨ k = 44 ∨ k = 45)) → τ k k' = σ k k') ∧ (∀ j, j ≠ 22 → j ≠ 23 → j ≠ 24 → τ 30 0 j = σ 30 0 j)
theorem KM_refl (σ : Sto) : KM σ σ := ⟨fun _ _ _ => rfl, fun _ _ _ _ => rfl⟩
theorem KM_trans {σ τ υ : Sto} (h1 : KM σ τ) (h2 : KM τ υ) : KM σ υ := ⟨fun k k' h => (h2.1 k k' h).trans (h1.1 k k' h), fun j a b c => (h2.2 j a b c).trans (h1.2 j a b c)⟩
theorem KM_row (σ : Sto) (k : Nat) (f : Vec) (h : k = 40 ∨ k = 43 ∨ k = 44 ∨ k = 45) : KM σ (row σ k 0 f) := by
  refine ⟨fun k1 k' h1 => ?_, fun j _ _ _ => ?_⟩
  · rw [row_at, if_neg (by omega)]
  · rw [row_at, if_neg (by omega)]
theorem KM_30 (σ : Sto) (f : Vec) (h : ∀ j, j ≠ 22 → j ≠ 23 → j ≠ 24 → f j = σ 30 0 j) : KM σ (row σ 30 0 f) := by
  refine ⟨fun k1 k' h1 => ?_, fun j a b c => ?_⟩
  · rw [row_at, if_neg (by omega)]
  · rw [row_same]
    exact h j a b c
theorem KM_can (σ : Sto) : KM σ (canM σ).2 := by
  unfold canM
  split
  · split
    · refine KM_trans (KM_30 σ (set (σ 30 0) 24 1) (fun j _ _ c => set_ne _ _ c)) (KM_row _ 40 _ (Or.inl rfl))
    · refine KM_30 σ _ (fun j a b _ => ?_)
      rw [set_ne _ _ b, set_ne _ _ a]
  · exact KM_refl σ
theorem KM_wr (a n : Nat) (v : Int) (σ : Sto) : KM σ (wrM a n v σ) := by
  unfold wrM
  split
  · exact KM_can σ
  · exact KM_trans (KM_can σ) (KM_row _ 40 _ (Or.inl rfl))
section MOD
variable {N : Nat} {σ : Sto}
theorem s9_canWrite : inv N mX9_canWrite [vR 30 0] (P σ) = some (some (vI (canM σ).1), P (canM σ).2) := by
  rw [iX9_canWrite, eX9_canWrite_0]
  by_cases h1 : σ 30 0 24 = 0
  · rw [if_pos h1]
    by_cases h2 : σ 30 0 22 = 0
    · have e : (sup (sup σ 30 0 24 1) 40 0 ((78 : Int).toNat) (-1)) = row (row σ 30 0 (set (σ 30 0) 24 1)) 40 0 (set (σ 40 0) 78 (-1)) := by
        rw [sup_row, sup_row, row_at, if_neg (by omega), show (78 : Int).toNat = 78 from rfl]
      have e2 : (row (row σ 30 0 (set (σ 30 0) 24 1)) 40 0 (set (σ 40 0) 78 (-1))) 30 0 24 = 1 := by
        rw [row_at, if_neg (by omega), row_same, set_same]
      have ec : canM σ = (0, row (row σ 30 0 (set (σ 30 0) 24 1)) 40 0 (set (σ 40 0) 78 (-1))) := by
        unfold canM
        rw [if_pos h1, if_pos h2]
      rw [if_pos h2, e, if_neg (by rw [e2]; omega), ec]
    · have ec : canM σ = (1, row σ 30 0 (set (set (σ 30 0) 22 (w32 (σ 30 0 22 - (if 0 < σ 30 0 22 then 1 else 0)))) 23 (w32 (σ 30 0 23 + 1)))) := by
        unfold canM
        rw [if_pos h1, if_neg h2]
      rw [if_neg h2, if_pos h1, ec]
      by_cases h3 : 0 < σ 30 0 22
      · rw [if_pos h3, if_pos h3, sup_row, sup_row, row_same, row_row, set_ne _ _ (by omega)]
      · rw [if_neg h3, if_neg h3, sup_row, sup_row, row_same, row_row, set_ne _ _ (by omega)]
  · have ec : canM σ = (0, σ) := by
      unfold canM
      rw [if_neg h1]
    rw [if_neg h1, if_neg h1, ec]
theorem canM_b (σ : Sto) : (canM σ).1 = 0 ∨ (canM σ).1 = 1 := by
  unfold canM
  split
  · split
    · exact Or.inl rfl
    · exact Or.inr rfl
  · exact Or.inl rfl
theorem s9_writes (a : Nat) (ha : a < 107) (v : Int) : inv N mX9_writes [vR 30 0, vI (a : Int), vI v] (P σ) = some (none, P (wrM a 1 v σ)) := by
  rw [iX9_writes, eX9_writes_0, s9_canWrite, bnd_s, push_s, eX9_writes_2]
  unfold wrM
  rw [if_neg (show ¬ (a : Int) < 0 by omega), if_pos (show (a : Int) < 107 by omega), sup_row, Int.toNat_natCast, fill_1]
  split <;> rfl
/-- a row of eight -/
def v8 (f : Vec) (a0 a1 a2 a3 a4 a5 a6 a7 : Int) : Vec := fun j => if j = 0 then a0 else if j = 1 then a1 else if j = 2 then a2 else if j = 3 then a3 else if j = 4 then a4 else if j = 5 then a5 else if j = 6 then a6 else if j = 7 then a7 else f j
theorem v8_eq {f g : Vec} {a0 a1 a2 a3 a4 a5 a6 a7 : Int} (h0 : g 0 = a0) (h1 : g 1 = a1) (h2 : g 2 = a2) (h3 : g 3 = a3) (h4 : g 4 = a4) (h5 : g 5 = a5) (h6 : g 6 = a6) (h7 : g 7 = a7) (h : ∀ j, 8 ≤ j → g j = f j) : g = v8 f a0 a1 a2 a3 a4 a5 a6 a7 := by
  funext j
  unfold v8
  by_cases c0 : j = 0
  · rw [if_pos c0, c0, h0]
  by_cases c1 : j = 1
  · rw [if_neg c0, if_pos c1, c1, h1]
  by_cases c2 : j = 2
  · rw [if_neg c0, if_neg c1, if_pos c2, c2, h2]
  by_cases c3 : j = 3
  · rw [if_neg c0, if_neg c1, if_neg c2, if_pos c3, c3, h3]
  by_cases c4 : j = 4
  · rw [if_neg c0, if_neg c1, if_neg c2, if_neg c3, if_pos c4, c4, h4]
  by_cases c5 : j = 5
  · rw [if_neg c0, if_neg c1, if_neg c2, if_neg c3, if_neg c4, if_pos c5, c5, h5]
  by_cases c6 : j = 6
  · rw [if_neg c0, if_neg c1, if_neg c2, if_neg c3, if_neg c4, if_neg c5, if_pos c6, c6, h6]
  by_cases c7 : j = 7
  · rw [if_neg c0, if_neg c1, if_neg c2, if_neg c3, if_neg c4, if_neg c5, if_neg c6, if_pos c7, c7, h7]
  rw [if_neg c0, if_neg c1, if_neg c2, if_neg c3, if_neg c4, if_neg c5, if_neg c6, if_neg c7, h j (by omega)]
/-- the flags of the newest page -/
def flV (f c : Vec) : Vec :=
  if newestF c = -1 then v8 f 0 0 0 0 0 0 0 3
  else if newestF c = 0 then v8 f (c 58 / 16) (c 59 / 16) (c 58 / 2 % 8) (c 59 / 2 % 8) (c 58 % 2) (c 59 % 2) (c 60) (c 61)
  else v8 f (c 66 / 16) (c 67 / 16) (c 66 / 2 % 8) (c 67 / 2 % 8) (c 66 % 2) (c 67 % 2) (c 68) (c 69)
def rfM (σ : Sto) : Sto := row σ 43 0 (flV (σ 43 0) (σ 40 0))
theorem s9_rf_zero (p : Int) : ev N mX9_readsFlags 5 [vR 30 0, vI p, vI 0, vX, vX] [] (P σ) = ev N mX9_readsFlags 5 [vR 30 0, vI p, vI 8, vX, vX] [] (P (row σ 43 0 (fill (σ 43 0) 0 8 0))) := by
  have st : ∀ (k : Nat) (τ : Sto), k < 8 → ev N mX9_readsFlags 5 [vR 30 0, vI p, vI (k : Int), vX, vX] [] (P τ) = ev N mX9_readsFlags 5 [vR 30 0, vI p, vI ((k + 1 : Nat) : Int), vX, vX] [] (P (row τ 43 0 (set (τ 43 0) k 0))) := by
    intro k τ hk
    have e : w32 ((k : Int) + 1) = ((k + 1 : Nat) : Int) := by rw [w32i (by omega) (by omega)]; omega
    rw [eX9_readsFlags_5, if_pos (by omega), if_neg (by omega), if_pos (by omega), sup_row, e, Int.toNat_natCast]
  have s0 := st 0 σ (by omega)
  rw [Int.cast_ofNat_Int] at s0
  rw [s0, st 1 _ (by omega), st 2 _ (by omega), st 3 _ (by omega), st 4 _ (by omega), st 5 _ (by omega), st 6 _ (by omega), st 7 _ (by omega)]
  simp only [row_same, row_row]
  rw [← fill_s, ← fill_s, ← fill_s, ← fill_s, ← fill_s, ← fill_s, ← fill_s, ← fill_s, fill_0]
  rfl
theorem shr4 {x : Int} (h0 : 0 ≤ x) (h1 : x < 256) : shr32 x 4 = x / 16 := shr32_div h0 (by omega) 4 (by omega)
theorem shr1 {x : Int} (h0 : 0 ≤ x) (h1 : x < 256) : shr32 x 1 = x / 2 := shr32_div h0 (by omega) 1 (by omega)
theorem s9_rf_page (q p : Int) (b : Nat) (f : Vec) (hb : b = 56 ∨ b = 64) (hc : OKB (σ 40 0)) (hf : ∀ j, 8 ≤ j → σ 43 0 j = f j) : ev N mX9_readsFlags 29 [vR 30 0, vI p, vI (b : Int), vI 0, vX] [] (P σ) = some (none, P (row σ 43 0 (v8 f (σ 40 0 (b + 2) / 16) (σ 40 0 (b + 3) / 16) (σ 40 0 (b + 2) / 2 % 8) (σ 40 0 (b + 3) / 2 % 8) (σ 40 0 (b + 2) % 2) (σ 40 0 (b + 3) % 2) (σ 40 0 (b + 4)) (σ 40 0 (b + 5))))) := by
  have b2 := hc (b + 2) (by omega) (by omega)
  have b3 := hc (b + 3) (by omega) (by omega)
  have e2 : w32 (w32 ((b : Int) + 2) + 0) = ((b + 2 : Nat) : Int) := by rw [w32i (x := (b : Int) + 2) (by omega) (by omega), w32i (by omega) (by omega)]; omega
  have e3 : w32 (w32 ((b : Int) + 2) + 1) = ((b + 3 : Nat) : Int) := by rw [w32i (x := (b : Int) + 2) (by omega) (by omega), w32i (by omega) (by omega)]; omega
  have e4 : w32 ((b : Int) + 4) = ((b + 4 : Nat) : Int) := by rw [w32i (by omega) (by omega)]; omega
  have e5 : w32 ((b : Int) + 5) = ((b + 5 : Nat) : Int) := by rw [w32i (by omega) (by omega)]; omega
  have p2 : ¬ (((b + 2 : Nat) : Int) < 0) ∧ ((b + 2 : Nat) : Int) < 107 := by omega
  have p3 : ¬ (((b + 3 : Nat) : Int) < 0) ∧ ((b + 3 : Nat) : Int) < 107 := by omega
  have p4 : ¬ (((b + 4 : Nat) : Int) < 0) ∧ ((b + 4 : Nat) : Int) < 107 := by omega
  have p5 : ¬ (((b + 5 : Nat) : Int) < 0) ∧ ((b + 5 : Nat) : Int) < 107 := by omega
  clear hb
  rw [eX9_readsFlags_29, e2, if_pos (by omega), if_neg p2.1, if_pos p2.2]
  simp only [Int.toNat_natCast, shr4 b2.1 b2.2, shr1 b2.1 b2.2, bAnd_1, bAnd_7, sup_row, row_same, row_row]
  have w00 : w32 (0 + 0) = 0 := rfl
  have w20 : w32 (2 + 0) = 2 := rfl
  have w40 : w32 (4 + 0) = 4 := rfl
  have w01 : w32 (0 + 1) = 1 := rfl
  have w21 : w32 (2 + 1) = 3 := rfl
  have w41 : w32 (4 + 1) = 5 := rfl
  have w11 : w32 (1 + 1) = 2 := rfl
  rw [w00, w20, w40, w01, if_neg (by omega), if_pos (by omega), if_neg (by omega), if_pos (by omega), if_neg (by omega), if_pos (by omega)]
  rw [eX9_readsFlags_29, e3, if_pos (by omega), if_neg p3.1, if_pos p3.2]
  have r40 : ∀ (g : Vec), (row σ 43 0 g) 40 0 = σ 40 0 := fun g => by rw [row_at, if_neg (by omega)]
  simp only [Int.toNat_natCast, r40, shr4 b3.1 b3.2, shr1 b3.1 b3.2, bAnd_1, bAnd_7, sup_row, row_same, row_row]
  rw [w01, w21, w41, w11, if_neg (by omega), if_pos (by omega), if_neg (by omega), if_pos (by omega), if_neg (by omega), if_pos (by omega)]
  rw [eX9_readsFlags_29, if_neg (by omega), e4, e5, if_neg p4.1, if_pos p4.2, if_neg p5.1, if_pos p5.2]
  simp only [Int.toNat_natCast, r40, sup_row, row_same, row_row]
  clear e2 e3 e4 e5 p2 p3 p4 p5 b2 b3 w00 w20 w40 w01 w21 w41 w11
  refine congrArg (fun g => some (none, P (row σ 43 0 g))) (v8_eq ?_ ?_ ?_ ?_ ?_ ?_ ?_ ?_ ?_)
  all_goals first | (simp only [set_at, Int.reduceToNat, Nat.reduceEqDiff, ↓reduceIte]; done) | skip
  intro j hj
  simp only [Int.reduceToNat]
  rw [set_ne _ _ (by omega), set_ne _ _ (by omega), set_ne _ _ (by omega), set_ne _ _ (by omega), set_ne _ _ (by omega), set_ne _ _ (by omega), set_ne _ _ (by omega), set_ne _ _ (by omega)]
  exact hf j hj
theorem newestF_b (c : Vec) : newestF c = -1 ∨ newestF c = 0 ∨ newestF c = 1 := by
  unfold newestF
  split
  · split
    · exact Or.inr (Or.inr rfl)
    · exact Or.inr (Or.inl rfl)
  · split
    · exact Or.inr (Or.inl rfl)
    · split
      · exact Or.inr (Or.inr rfl)
      · exact Or.inl rfl
theorem s9_readsFlags (hb : OKB (σ 40 0)) : inv N mX9_readsFlags [vR 30 0] (P σ) = some (none, P (rfM σ)) := by
  have r40 : ∀ (g : Vec), (row σ 43 0 g) 40 0 = σ 40 0 := fun g => by rw [row_at, if_neg (by omega)]
  have hfl : ∀ j, 8 ≤ j → set (fill (σ 43 0) 0 8 0) 7 3 j = σ 43 0 j := by
    intro j hj
    rw [set_ne _ _ (by omega)]
    unfold fill
    rw [if_neg (by omega)]
  have r7 : sup (row σ 43 0 (fill (σ 43 0) 0 8 0)) 43 0 ((7 : Int).toNat) 3 = row σ 43 0 (set (fill (σ 43 0) 0 8 0) 7 3) := by
    rw [sup_row, row_same, row_row]
    rfl
  have pg := fun (b : Nat) (hb2 : b = 56 ∨ b = 64) (p : Int) => s9_rf_page (N := N) (σ := row σ 43 0 (set (fill (σ 43 0) 0 8 0) 7 3)) 0 p b (σ 43 0) hb2 (by rw [r40]; exact hb) (by rw [row_same]; exact hfl)
  have g0 := pg 56 (Or.inl rfl) 0
  have g1 := pg 64 (Or.inr rfl) 1
  simp only [r40, row_row, Int.cast_ofNat_Int, Nat.reduceAdd] at g0 g1
  rw [iX9_readsFlags, eX9_readsFlags_0, s9_newest hb, bnd_s, push_s, eX9_readsFlags_2, s9_rf_zero, eX9_readsFlags_5, if_neg (by omega), r7]
  unfold rfM flV
  rcases newestF_b (σ 40 0) with h | h | h
  · rw [h, if_pos rfl, if_pos rfl]
    refine congrArg (fun g => some (none, P (row σ 43 0 g))) (v8_eq ?_ ?_ ?_ ?_ ?_ ?_ ?_ ?_ hfl)
    all_goals first | rfl | skip
  · rw [h, if_neg (by omega), if_neg (by omega), if_pos rfl, s9_pageAt _ (by omega) (by omega), bnd_s, push_s, eX9_readsFlags_26]
    exact g0
  · rw [h, if_neg (by omega), if_neg (by omega), if_neg (by omega), s9_pageAt _ (by omega) (by omega), bnd_s, push_s, eX9_readsFlags_26]
    exact g1
theorem KM_rf (σ : Sto) : KM σ (rfM σ) := KM_row _ _ _ (Or.inr (Or.inl rfl))
end MOD
end
section
/-! THE MODEL: flags are written -/
def OKFl (f : Vec) : Prop := (0 ≤ f 0 ∧ f 0 < 16) ∧ (0 ≤ f 1 ∧ f 1 < 16) ∧ (0 ≤ f 2 ∧ f 2 < 8) ∧ (0 ≤ f 3 ∧ f 3 < 8) ∧ (0 ≤ f 4 ∧ f 4 < 2) ∧ (0 ≤ f 5 ∧ f 5 < 2) ∧ (0 ≤ f 6 ∧ f 6 < 256) ∧ (0 ≤ f 7 ∧ f 7 < 256)
def sumV (f : Vec) (nx : Int) : Int := 165 + 2 * nx + 3 * (16 * f 0 + 2 * f 2 + f 4) + 4 * (16 * f 1 + 2 * f 3 + f 5) + 5 * f 6 + 6 * f 7
def ocV (o f : Vec) (nx : Int) : Vec := v8 o 165 nx (16 * f 0 + 2 * f 2 + f 4) (16 * f 1 + 2 * f 3 + f 5) (f 6) (f 7) (sumV f nx / 256) (sumV f nx % 256)
def toF (c : Vec) : Nat := if newestF c = 0 then 64 else 56
/-- so many writes out of a row -/
def wrL (b : Nat) (o : Vec) : Nat → Nat → Sto → Sto
  | 0, _, σ => σ
  | m + 1, k, σ => wrL b o m (k + 1) (wrM (b + k) 1 (o k) σ)
def wfM (σ : Sto) : Sto := wrL (toF (σ 40 0)) (ocV (σ 44 0) (σ 43 0) (nxC (σ 40 0) (newestF (σ 40 0)))) 8 0 (wrM (toF (σ 40 0)) 8 255 (row σ 44 0 (ocV (σ 44 0) (σ 43 0) (nxC (σ 40 0) (newestF (σ 40 0))))))
theorem KM_wrL (b : Nat) (o : Vec) : ∀ (m k : Nat) (σ : Sto), KM σ (wrL b o m k σ)
  | 0, _, σ => KM_refl σ
  | m + 1, k, σ => KM_trans (KM_wr _ _ _ _) (KM_wrL b o m (k + 1) _)
theorem KM_wf (σ : Sto) : KM σ (wfM σ) := KM_trans (KM_row _ 44 _ (by omega)) (KM_trans (KM_wr _ _ _ _) (KM_wrL _ _ _ _ _))
theorem wrM_o (a n : Nat) (v : Int) (σ : Sto) {k k' : Nat} (h : k = 43 ∨ k = 44 ∨ k = 45) : wrM a n v σ k k' = σ k k' := by
  have hc : (canM σ).2 k k' = σ k k' := by
    unfold canM
    split
    · split
      · show row (row σ 30 0 _) 40 0 _ k k' = _
        rw [row_at, if_neg (by omega), row_at, if_neg (by omega)]
      · show row σ 30 0 _ k k' = _
        rw [row_at, if_neg (by omega)]
    · rfl
  unfold wrM
  split
  · exact hc
  · rw [row_at, if_neg (by omega), hc]
section MOD
variable {N : Nat} {σ : Sto}
theorem s9_wf_loop (q to sm : Int) (b : Nat) (hb : b = 56 ∨ b = 64) (ht : 56 + 8 * to = (b : Int)) (o : Vec) : ∀ (m k : Nat) (τ : Sto), k + m = 8 → τ 44 0 = o → ev N mX9_writesFlags 141 [vR 30 0, vI q, vI to, vI sm, vI (k : Int)] [] (P τ) = some (none, P (wrL b o m k τ)) := by
  intro m
  induction m with
  | zero =>
    intro k τ hk ho
    rw [eX9_writesFlags_141, if_neg (by omega)]
    rfl
  | succ m ih =>
    intro k τ hk ho
    have e : w32 ((b : Int) + (k : Int)) = ((b + k : Nat) : Int) := by rw [w32i (by omega) (by omega)]; omega
    have e1 : w32 ((k : Int) + 1) = ((k + 1 : Nat) : Int) := by rw [w32i (by omega) (by omega)]; omega
    rw [eX9_writesFlags_141, if_pos (by omega), s9_pageAt _ (by omega) (by omega), bnd_s, push_s, eX9_writesFlags_147, if_neg (by omega), if_pos (by omega), ht, e, s9_writes _ (by omega), bnd_s, push_n, eX9_writesFlags_154, e1, Int.toNat_natCast, ih (k + 1) _ (by omega) (by rw [wrM_o _ _ _ _ (by omega), ho]), ho]
    rfl
theorem s9_wf_clear (q to sm : Int) (b : Nat) (hb : b = 56 ∨ b = 64) (ht : 56 + 8 * to = (b : Int)) : ∀ (m k : Nat) (τ : Sto), k + m = 8 → ev N mX9_writesFlags 126 [vR 30 0, vI q, vI to, vI sm, vI (k : Int)] [] (P τ) = ev N mX9_writesFlags 141 [vR 30 0, vI q, vI to, vI sm, vI 0] [] (P (row τ 40 0 (fill (τ 40 0) (b + k) m 255))) := by
  intro m
  induction m with
  | zero =>
    intro k τ hk
    rw [eX9_writesFlags_126, if_neg (by omega), fill_0, row_id]
  | succ m ih =>
    intro k τ hk
    have e : w32 ((b : Int) + (k : Int)) = ((b + k : Nat) : Int) := by rw [w32i (by omega) (by omega)]; omega
    have e1 : w32 ((k : Int) + 1) = ((k + 1 : Nat) : Int) := by rw [w32i (by omega) (by omega)]; omega
    rw [eX9_writesFlags_126, if_pos (by omega), s9_pageAt _ (by omega) (by omega), bnd_s, push_s, eX9_writesFlags_133, ht, e, if_neg (by omega), if_pos (by omega), e1, sup_row, ih (k + 1) _ (by omega), row_same, row_row, Int.toNat_natCast, show b + (k + 1) = b + k + 1 by omega, fill_s]
theorem s9_wf_sum (q to : Int) (o : Vec) (ho : σ 44 0 = o) (h : ∀ k, k < 6 → 0 ≤ o k ∧ o k < 256) : ev N mX9_writesFlags 91 [vR 30 0, vI q, vI to, vI 0, vI 0] [] (P σ) = ev N mX9_writesFlags 91 [vR 30 0, vI q, vI to, vI (o 0 + 2 * o 1 + 3 * o 2 + 4 * o 3 + 5 * o 4 + 6 * o 5), vI 6] [] (P σ) := by
  have st : ∀ (k : Nat) (s s' : Int), k < 6 → 0 ≤ s → s < 10000 → s' = s + ((k + 1 : Nat) : Int) * o k → ev N mX9_writesFlags 91 [vR 30 0, vI q, vI to, vI s, vI (k : Int)] [] (P σ) = ev N mX9_writesFlags 91 [vR 30 0, vI q, vI to, vI s', vI ((k + 1 : Nat) : Int)] [] (P σ) := by
    intro k s s' hk s0 s1 hs
    have hk2 := h k hk
    have e1 : w32 ((k : Int) + 1) = ((k + 1 : Nat) : Int) := by rw [w32i (by omega) (by omega)]; omega
    have hm : 0 ≤ ((k + 1 : Nat) : Int) * o k ∧ ((k + 1 : Nat) : Int) * o k < 2000 := by
      have : k = 0 ∨ k = 1 ∨ k = 2 ∨ k = 3 ∨ k = 4 ∨ k = 5 := by omega
      rcases this with rfl | rfl | rfl | rfl | rfl | rfl <;> omega
    rw [eX9_writesFlags_91, if_pos (by omega), if_neg (by omega), if_pos (by omega), e1, ho, Int.toNat_natCast, w32i (x := ((k + 1 : Nat) : Int) * o k) (by omega) (by omega), ← hs, w32i (x := s') (by omega) (by omega)]
  have h0 := h 0 (by omega)
  have h1 := h 1 (by omega)
  have h2 := h 2 (by omega)
  have h3 := h 3 (by omega)
  have h4 := h 4 (by omega)
  have h5 := h 5 (by omega)
  clear h ho
  have z := st 0 0 (o 0) (by omega) (by omega) (by omega) (by omega)
  simp only [Int.cast_ofNat_Int] at z
  rw [z, st 1 (o 0) (o 0 + 2 * o 1) (by omega) (by omega) (by omega) (by omega), st 2 _ (o 0 + 2 * o 1 + 3 * o 2) (by omega) (by omega) (by omega) (by omega), st 3 _ (o 0 + 2 * o 1 + 3 * o 2 + 4 * o 3) (by omega) (by omega) (by omega) (by omega), st 4 _ (o 0 + 2 * o 1 + 3 * o 2 + 4 * o 3 + 5 * o 4) (by omega) (by omega) (by omega) (by omega), st 5 _ (o 0 + 2 * o 1 + 3 * o 2 + 4 * o 3 + 5 * o 4 + 6 * o 5) (by omega) (by omega) (by omega) (by omega)]
  rfl
/-- behind the first two octets -/
theorem s9_wf_36 (q to nx : Int) (b : Nat) (hb : b = 56 ∨ b = 64) (ht : 56 + 8 * to = (b : Int)) (o : Vec) (hf : OKFl (σ 43 0)) (hn : 0 ≤ nx ∧ nx < 256) (h0 : σ 44 0 0 = 165) (h1 : σ 44 0 1 = nx) (hr : ∀ j, 8 ≤ j → σ 44 0 j = o j) : ev N mX9_writesFlags 36 [vR 30 0, vI q, vI to, vI 0, vX] [] (P σ) = some (none, P (wrL b (ocV o (σ 43 0) nx) 8 0 (wrM b 8 255 (row σ 44 0 (ocV o (σ 43 0) nx))))) := by
  have r43 : ∀ (g : Vec), (row σ 44 0 g) 43 0 = σ 43 0 := fun g => by rw [row_at, if_neg (by omega)]
  obtain ⟨f0, f1, f2, f3, f4, f5, f6, f7⟩ := hf
  have x0 : w32 (w32 (w32 (16 * σ 43 0 0) + w32 (2 * σ 43 0 2)) + σ 43 0 4) = 16 * σ 43 0 0 + 2 * σ 43 0 2 + σ 43 0 4 := by simp (disch := omega) only [w32i]
  have x1 : w32 (w32 (w32 (16 * σ 43 0 1) + w32 (2 * σ 43 0 3)) + σ 43 0 5) = 16 * σ 43 0 1 + 2 * σ 43 0 3 + σ 43 0 5 := by simp (disch := omega) only [w32i]
  have w00 : w32 (0 + 0) = 0 := rfl
  have w20 : w32 (2 + 0) = 2 := rfl
  have w40 : w32 (4 + 0) = 4 := rfl
  have w01 : w32 (0 + 1) = 1 := rfl
  have w21 : w32 (2 + 1) = 3 := rfl
  have w41 : w32 (4 + 1) = 5 := rfl
  have w11 : w32 (1 + 1) = 2 := rfl
  rw [eX9_writesFlags_36, if_pos (by omega), w00, w20, w40, w01, if_neg (by omega), if_pos (by omega), if_neg (by omega), if_pos (by omega), if_neg (by omega), if_pos (by omega), if_neg (by omega), if_pos (by omega)]
  simp only [Int.reduceToNat, x0, sup_row]
  rw [eX9_writesFlags_36, if_pos (by omega), w01, w21, w41, w11, if_neg (by omega), if_pos (by omega), if_neg (by omega), if_pos (by omega), if_neg (by omega), if_pos (by omega), if_neg (by omega), if_pos (by omega)]
  simp only [Int.reduceToNat, r43, x1, sup_row, row_same, row_row]
  rw [eX9_writesFlags_36, if_neg (by omega)]
  simp only [Int.reduceToNat, r43, sup_row, row_same, row_row]
  generalize hg : set (set (set (set (σ 44 0) 2 (16 * σ 43 0 0 + 2 * σ 43 0 2 + σ 43 0 4)) 3 (16 * σ 43 0 1 + 2 * σ 43 0 3 + σ 43 0 5)) 4 (σ 43 0 6)) 5 (σ 43 0 7) = g
  have g0 : g 0 = 165 := by rw [← hg, set_ne _ _ (by omega), set_ne _ _ (by omega), set_ne _ _ (by omega), set_ne _ _ (by omega), h0]
  have g1 : g 1 = nx := by rw [← hg, set_ne _ _ (by omega), set_ne _ _ (by omega), set_ne _ _ (by omega), set_ne _ _ (by omega), h1]
  have g2 : g 2 = 16 * σ 43 0 0 + 2 * σ 43 0 2 + σ 43 0 4 := by rw [← hg, set_ne _ _ (by omega), set_ne _ _ (by omega), set_ne _ _ (by omega), set_same]
  have g3 : g 3 = 16 * σ 43 0 1 + 2 * σ 43 0 3 + σ 43 0 5 := by rw [← hg, set_ne _ _ (by omega), set_ne _ _ (by omega), set_same]
  have g4 : g 4 = σ 43 0 6 := by rw [← hg, set_ne _ _ (by omega), set_same]
  have g5 : g 5 = σ 43 0 7 := by rw [← hg, set_same]
  have gr : ∀ j, 8 ≤ j → g j = o j := by
    intro j hj
    rw [← hg, set_ne _ _ (by omega), set_ne _ _ (by omega), set_ne _ _ (by omega), set_ne _ _ (by omega), hr j hj]
  clear hg h0 h1 hr x0 x1 w00 w20 w40 w01 w21 w41 w11
  have es : g 0 + 2 * g 1 + 3 * g 2 + 4 * g 3 + 5 * g 4 + 6 * g 5 = sumV (σ 43 0) nx := by
    unfold sumV
    rw [g0, g1, g2, g3, g4, g5]
  have hs : 0 ≤ sumV (σ 43 0) nx ∧ sumV (σ 43 0) nx < 10000 := by
    unfold sumV
    omega
  have hk : ∀ k, k < 6 → 0 ≤ g k ∧ g k < 256 := by
    intro k hk
    have : k = 0 ∨ k = 1 ∨ k = 2 ∨ k = 3 ∨ k = 4 ∨ k = 5 := by omega
    rcases this with rfl | rfl | rfl | rfl | rfl | rfl
    · rw [g0]; omega
    · rw [g1]; exact hn
    · rw [g2]; omega
    · rw [g3]; omega
    · rw [g4]; exact f6
    · rw [g5]; exact f7
  obtain ⟨t1, t2⟩ := sm_facts hs.1 hs.2
  have hoc : set (set g 6 (sumV (σ 43 0) nx / 256)) 7 (sumV (σ 43 0) nx % 256) = ocV o (σ 43 0) nx := by
    refine v8_eq ?_ ?_ ?_ ?_ ?_ ?_ ?_ ?_ ?_
    · rw [set_ne _ _ (by omega), set_ne _ _ (by omega), g0]
    · rw [set_ne _ _ (by omega), set_ne _ _ (by omega), g1]
    · rw [set_ne _ _ (by omega), set_ne _ _ (by omega), g2]
    · rw [set_ne _ _ (by omega), set_ne _ _ (by omega), g3]
    · rw [set_ne _ _ (by omega), set_ne _ _ (by omega), g4]
    · rw [set_ne _ _ (by omega), set_ne _ _ (by omega), g5]
    · rw [set_ne _ _ (by omega), set_same]
    · rw [set_same]
    · intro j hj
      rw [set_ne _ _ (by omega), set_ne _ _ (by omega), gr j hj]
  clear f0 f1 f2 f3 f4 f5 f6 f7 hs hn
  rw [s9_wf_sum q to g (by rw [row_same]) hk, es, eX9_writesFlags_91, if_neg (by omega)]
  simp only [Int.reduceToNat, t1, t2, sup_row, row_same, row_row]
  rw [hoc, s9_canWrite, bnd_s, push_s, eX9_writesFlags_123]
  have w44 := wrM_o b 8 255 (row σ 44 0 (ocV o (σ 43 0) nx)) (k := 44) (k' := 0) (by omega)
  rw [row_same] at w44
  have lp := fun τ h => s9_wf_loop (N := N) q to (sumV (σ 43 0) nx) b hb ht (ocV o (σ 43 0) nx) 8 0 τ rfl h
  have cl := fun τ => s9_wf_clear (N := N) q to (sumV (σ 43 0) nx) b hb ht 8 0 τ rfl
  simp only [Int.cast_ofNat_Int, Nat.add_zero] at lp cl
  rw [← lp _ w44]
  unfold wrM
  split
  · rfl
  · exact cl _
theorem s9_writesFlags (hb : OKB (σ 40 0)) (hf : OKFl (σ 43 0)) : inv N mX9_writesFlags [vR 30 0] (P σ) = some (none, P (wfM σ)) := by
  have b1 := hb 57 (by omega) (by omega)
  have b2 := hb 65 (by omega) (by omega)
  have r40 : ∀ (g : Vec), (row σ 44 0 g) 40 0 = σ 40 0 := fun g => by rw [row_at, if_neg (by omega)]
  have r43 : ∀ (g : Vec), (row σ 44 0 g) 43 0 = σ 43 0 := fun g => by rw [row_at, if_neg (by omega)]
  have m1 : w32 (σ 40 0 57 + 1) = σ 40 0 57 + 1 := w32i (by omega) (by omega)
  have m2 : w32 (σ 40 0 65 + 1) = σ 40 0 65 + 1 := w32i (by omega) (by omega)
  have m3 : (σ 40 0 57 + 1).tmod 256 = (σ 40 0 57 + 1) % 256 := tmod256 (by omega)
  have m4 : (σ 40 0 65 + 1).tmod 256 = (σ 40 0 65 + 1) % 256 := tmod256 (by omega)
  have go := fun (q to nx : Int) (b : Nat) (h1 : b = 56 ∨ b = 64) (h2 : 56 + 8 * to = (b : Int)) (h3 : 0 ≤ nx ∧ nx < 256) => s9_wf_36 (N := N) (σ := row σ 44 0 (set (set (σ 44 0) 0 165) 1 nx)) q to nx b h1 h2 (σ 44 0) (by rw [r43]; exact hf) h3 (by rw [row_same, set_ne _ _ (by omega), set_same]) (by rw [row_same, set_same]) (fun j hj => by rw [row_same, set_ne _ _ (by omega), set_ne _ _ (by omega)])
  simp only [r43, row_row] at go
  have n1 : 0 ≤ (σ 40 0 57 + 1) % 256 ∧ (σ 40 0 57 + 1) % 256 < 256 := by omega
  have n2 : 0 ≤ (σ 40 0 65 + 1) % 256 ∧ (σ 40 0 65 + 1) % 256 < 256 := by omega
  clear b1 b2
  rw [iX9_writesFlags, eX9_writesFlags_0, s9_newest hb, bnd_s, push_s, eX9_writesFlags_2]
  unfold wfM toF nxC
  rcases newestF_b (σ 40 0) with h | h | h
  · rw [h, if_neg (by omega), if_pos rfl, if_neg (by omega), if_pos rfl]
    simp only [Int.reduceToNat, sup_row, row_same, row_row]
    exact go (-1) 0 0 56 (Or.inl rfl) rfl (by omega)
  · rw [h, if_pos rfl, if_neg (by omega), if_pos rfl, if_neg (by omega), if_pos rfl, s9_pageAt _ (by omega) (by omega), bnd_s, push_s, eX9_writesFlags_26]
    simp only [Int.reduceToNat, Int.reduceMul, Int.reduceAdd, sup_row, row_same, row_row, r40]
    rw [show w32 57 = 57 from rfl, if_neg (by omega), if_pos (by omega), if_neg (by omega), if_pos (by omega), show (57 : Int).toNat = 57 from rfl, m1, m3]
    exact go 0 1 _ 64 (Or.inr rfl) rfl n1
  · rw [h, if_neg (by omega), if_neg (by omega), if_neg (by omega), if_neg (by omega), if_neg (by omega), s9_pageAt _ (by omega) (by omega), bnd_s, push_s, eX9_writesFlags_26]
    simp only [Int.reduceToNat, Int.reduceMul, Int.reduceAdd, sup_row, row_same, row_row, r40]
    rw [show w32 65 = 65 from rfl, if_neg (by omega), if_pos (by omega), if_neg (by omega), if_pos (by omega), show (65 : Int).toNat = 65 from rfl, m2, m4]
    exact go 1 0 _ 56 (Or.inl rfl) rfl n2
end MOD
end
section
/-! THE TWO MACHINES: writes -/
/-- the starts: a ring against a row that is shifted -/
def RS (c n : Vec) : Prop := 0 ≤ c 82 ∧ n 82 = min 12 (c 82) ∧ ∀ k : Nat, k < 12 → (k : Int) < c 82 → n (83 + 2 * k) = c (83 + 2 * ((c 82 - 1 - k) % 12).toNat) ∧ n (84 + 2 * k) = c (84 + 2 * ((c 82 - 1 - k) % 12).toNat)
def RC (c n : Vec) : Prop := (∀ j, j < 78 → c j = n j) ∧ c 79 = n 80 ∧ c 80 = n 79 ∧ c 81 = n 81 ∧ RS c n
/-- power is there -/
def RL (x : XP) (σ : Sto) : Prop := σ 30 0 24 = 0 ∧ x.2 9 = 0 ∧ x.1 78 = σ 40 0 78 ∧ ((x.2 7 = -1 ∧ σ 30 0 22 = -1) ∨ (0 ≤ x.2 8 ∧ x.2 8 ≤ x.2 7 ∧ x.2 7 < 2147483648 ∧ σ 30 0 22 = x.2 7 - x.2 8))
/-- power has failed -/
def RD (x : XP) (σ : Sto) : Prop := ¬ σ 30 0 24 = 0 ∧ x.2 9 = 1 ∧ σ 40 0 78 = -1 ∧ ¬ x.2 7 = -1 ∧ ¬ x.2 8 < x.2 7
def R (x : XP) (σ : Sto) : Prop := RC x.1 (σ 40 0) ∧ x.2 8 = σ 30 0 23 ∧ (RL x σ ∨ RD x σ)
theorem RS_congr {c n c2 n2 : Vec} (h : RS c n) (h1 : ∀ j, 82 ≤ j → c2 j = c j) (h2 : ∀ j, 82 ≤ j → n2 j = n j) : RS c2 n2 := by
  obtain ⟨a, b, d⟩ := h
  unfold RS
  rw [h1 82 (by omega), h2 82 (by omega)]
  refine ⟨a, b, fun k hk hk2 => ?_⟩
  rw [h2 _ (by omega), h2 _ (by omega), h1 _ (by omega), h1 _ (by omega)]
  exact d k hk hk2
theorem RC_fill {c n : Vec} (h : RC c n) (a m : Nat) (ha : a + m ≤ 78) (v : Int) : RC (fill c a m v) (fill n a m v) := by
  obtain ⟨h1, h2, h3, h4, h5⟩ := h
  have e : ∀ (f : Vec) (j : Nat), 78 ≤ j → fill f a m v j = f j := by
    intro f j hj
    unfold fill
    rw [if_neg (by omega)]
  refine ⟨fun j hj => ?_, ?_, ?_, ?_, RS_congr h5 (fun j hj => e c j (by omega)) (fun j hj => e n j (by omega))⟩
  · unfold fill
    rw [h1 j hj]
  · rw [e c _ (by omega), e n _ (by omega), h2]
  · rw [e c _ (by omega), e n _ (by omega), h3]
  · rw [e c _ (by omega), e n _ (by omega), h4]
theorem RC_78 {c n : Vec} (h : RC c n) (v : Int) : RC c (set n 78 v) := by
  obtain ⟨h1, h2, h3, h4, h5⟩ := h
  refine ⟨fun j hj => ?_, ?_, ?_, ?_, RS_congr h5 (fun j hj => rfl) (fun j hj => set_ne _ _ (by omega))⟩
  · rw [set_ne _ _ (by omega), h1 j hj]
  · rw [set_ne _ _ (by omega), h2]
  · rw [set_ne _ _ (by omega), h3]
  · rw [set_ne _ _ (by omega), h4]
theorem canM_live {σ : Sto} (h1 : σ 30 0 24 = 0) (h2 : ¬ σ 30 0 22 = 0) : canM σ = (1, row σ 30 0 (set (set (σ 30 0) 22 (w32 (σ 30 0 22 - (if 0 < σ 30 0 22 then 1 else 0)))) 23 (w32 (σ 30 0 23 + 1)))) := by
  unfold canM
  rw [if_pos h1, if_neg h2]
theorem canM_cut {σ : Sto} (h1 : σ 30 0 24 = 0) (h2 : σ 30 0 22 = 0) : canM σ = (0, row (row σ 30 0 (set (σ 30 0) 24 1)) 40 0 (set (σ 40 0) 78 (-1))) := by
  unfold canM
  rw [if_pos h1, if_pos h2]
theorem canM_dead {σ : Sto} (h1 : ¬ σ 30 0 24 = 0) : canM σ = (0, σ) := by
  unfold canM
  rw [if_neg h1]
theorem R_wr {x : XP} {σ : Sto} (h : R x σ) (a n : Nat) (ha : a + n ≤ 78) (v : Int) : R (wrC a n v x) (wrM a n v σ) := by
  obtain ⟨hc, hd, hm⟩ := h
  rcases hm with ⟨l1, l2, l3, l4⟩ | ⟨d1, d2, d3, d4, d5⟩
  · by_cases hz : σ 30 0 22 = 0
    · have hf : ¬ x.2 7 = -1 ∧ ¬ x.2 8 < x.2 7 := by
        rcases l4 with ⟨q1, q2⟩ | ⟨q1, q2, q3, q4⟩
        · omega
        · omega
      unfold wrC wrM
      rw [if_pos hf, canM_cut l1 hz, if_pos rfl]
      refine ⟨?_, ?_, Or.inr ⟨?_, ?_, ?_, ?_, ?_⟩⟩
      · show RC x.1 ((row (row σ 30 0 (set (σ 30 0) 24 1)) 40 0 (set (σ 40 0) 78 (-1))) 40 0)
        rw [row_same]
        exact RC_78 hc _
      · show set x.2 9 1 8 = (row (row σ 30 0 (set (σ 30 0) 24 1)) 40 0 (set (σ 40 0) 78 (-1))) 30 0 23
        rw [set_ne _ _ (by omega), row_at, if_neg (by omega), row_same, set_ne _ _ (by omega), hd]
      · show ¬ (row (row σ 30 0 (set (σ 30 0) 24 1)) 40 0 (set (σ 40 0) 78 (-1))) 30 0 24 = 0
        rw [row_at, if_neg (by omega), row_same, set_same]
        omega
      · exact set_same x.2 9 1
      · show (row (row σ 30 0 (set (σ 30 0) 24 1)) 40 0 (set (σ 40 0) 78 (-1))) 40 0 78 = -1
        rw [row_same, set_same]
      · show ¬ set x.2 9 1 7 = -1
        rw [set_ne _ _ (by omega)]
        exact hf.1
      · show ¬ set x.2 9 1 8 < set x.2 9 1 7
        rw [set_ne _ _ (by omega), set_ne _ _ (by omega)]
        exact hf.2
    · have hf : ¬ (¬ x.2 7 = -1 ∧ ¬ x.2 8 < x.2 7) := by
        rcases l4 with ⟨q1, q2⟩ | ⟨q1, q2, q3, q4⟩
        · omega
        · omega
      unfold wrC wrM
      rw [if_neg hf, canM_live l1 hz, if_neg (show ¬ (1 : Int) = 0 by omega)]
      generalize hq : set (set (σ 30 0) 22 (w32 (σ 30 0 22 - (if 0 < σ 30 0 22 then 1 else 0)))) 23 (w32 (σ 30 0 23 + 1)) = q
      have q22 : q 22 = w32 (σ 30 0 22 - (if 0 < σ 30 0 22 then 1 else 0)) := by rw [← hq, set_ne _ _ (by omega), set_same]
      have q23 : q 23 = w32 (σ 30 0 23 + 1) := by rw [← hq, set_same]
      have q24 : q 24 = 0 := by rw [← hq, set_ne _ _ (by omega), set_ne _ _ (by omega), l1]
      clear hq
      have r40 : row σ 30 0 q 40 0 = σ 40 0 := by rw [row_at, if_neg (by omega)]
      have r30 : ∀ g, row (row σ 30 0 q) 40 0 g 30 0 = q := fun g => by rw [row_at, if_neg (by omega), row_same]
      have e78 : ∀ f : Vec, fill f a n v 78 = f 78 := fun f => by unfold fill; rw [if_neg (by omega)]
      refine ⟨?_, ?_, Or.inl ⟨?_, ?_, ?_, ?_⟩⟩
      · show RC (fill x.1 a n v) (row (row σ 30 0 q) 40 0 (fill (row σ 30 0 q 40 0) a n v) 40 0)
        rw [row_same, r40]
        exact RC_fill hc a n ha v
      · show set x.2 8 (w32 (x.2 8 + 1)) 8 = row (row σ 30 0 q) 40 0 _ 30 0 23
        rw [set_same, r30, q23, hd]
      · show row (row σ 30 0 q) 40 0 _ 30 0 24 = 0
        rw [r30, q24]
      · show set x.2 8 (w32 (x.2 8 + 1)) 9 = 0
        rw [set_ne _ _ (by omega), l2]
      · show fill x.1 a n v 78 = row (row σ 30 0 q) 40 0 (fill (row σ 30 0 q 40 0) a n v) 40 0 78
        rw [row_same, r40, e78, e78, l3]
      · show (set x.2 8 (w32 (x.2 8 + 1)) 7 = -1 ∧ row (row σ 30 0 q) 40 0 _ 30 0 22 = -1) ∨ (0 ≤ set x.2 8 (w32 (x.2 8 + 1)) 8 ∧ set x.2 8 (w32 (x.2 8 + 1)) 8 ≤ set x.2 8 (w32 (x.2 8 + 1)) 7 ∧ set x.2 8 (w32 (x.2 8 + 1)) 7 < 2147483648 ∧ row (row σ 30 0 q) 40 0 _ 30 0 22 = set x.2 8 (w32 (x.2 8 + 1)) 7 - set x.2 8 (w32 (x.2 8 + 1)) 8)
        rw [r30, q22, set_same, set_ne _ _ (show 7 ≠ 8 by omega)]
        rcases l4 with ⟨s1, s2⟩ | ⟨s1, s2, s3, s4⟩
        · left
          rw [s2]
          exact ⟨s1, rfl⟩
        · right
          rw [if_pos (by omega), w32i (x := σ 30 0 22 - 1) (by omega) (by omega), w32i (by omega) (by omega)]
          omega
  · unfold wrC wrM
    rw [if_pos ⟨d4, d5⟩, canM_dead d1, if_pos rfl]
    refine ⟨hc, ?_, Or.inr ⟨d1, ?_, d3, ?_, ?_⟩⟩
    · show set x.2 9 1 8 = _
      rw [set_ne _ _ (by omega), hd]
    · exact set_same x.2 9 1
    · show ¬ set x.2 9 1 7 = -1
      rw [set_ne _ _ (by omega)]
      exact d4
    · show ¬ set x.2 9 1 8 < set x.2 9 1 7
      rw [set_ne _ _ (by omega), set_ne _ _ (by omega)]
      exact d5
/-- a write of a machine that is alive behind it -/
theorem wrC_live {a n : Nat} {v : Int} {x : XP} (h : (wrC a n v x).2 9 = 0) : (wrC a n v x).1 = fill x.1 a n v ∧ x.2 9 = 0 := by
  unfold wrC at h ⊢
  split at h
  · rw [show (x.1, set x.2 9 1).2 9 = 1 from set_same x.2 9 1] at h
    cases h
  · rename_i hh
    rw [if_neg hh]
    refine ⟨rfl, ?_⟩
    rw [show (fill x.1 a n v, set x.2 8 (w32 (x.2 8 + 1))).2 9 = x.2 9 from set_ne x.2 (w32 (x.2 8 + 1)) (show 9 ≠ 8 by omega)] at h
    exact h
/-- flags and their bytes -/
def FR (g f : Vec) : Prop := g 2 = 16 * f 0 + 2 * f 2 + f 4 ∧ g 3 = 16 * f 1 + 2 * f 3 + f 5 ∧ g 4 = f 6 ∧ g 5 = f 7 ∧ OKFl f
theorem FR_sum {g f : Vec} (h : FR g f) (nx : Int) : sumV f nx = 165 + 2 * nx + 3 * g 2 + 4 * g 3 + 5 * g 4 + 6 * g 5 := by
  obtain ⟨h2, h3, h4, h5, -⟩ := h
  unfold sumV
  rw [h2, h3, h4, h5]
/-- the machine's own word of the newest page is right -/
def NR (x : XP) : Prop := x.2 6 = newestF x.1
theorem R_44 {x : XP} {σ : Sto} (h : R x σ) (k : Nat) (f : Vec) (hk : k = 43 ∨ k = 44 ∨ k = 45) : R x (row σ k 0 f) := by
  have r40 : row σ k 0 f 40 0 = σ 40 0 := by rw [row_at, if_neg (by omega)]
  have r30 : row σ k 0 f 30 0 = σ 30 0 := by rw [row_at, if_neg (by omega)]
  unfold R RL RD
  rw [r40, r30]
  exact h
theorem R_wfC {x : XP} {σ : Sto} (h : R x σ) (b : Nat) (hb : b = 56 ∨ b = 64) (nx : Int) (f : Vec) (hf : FR x.2 f) : R (wfC b nx x) (wrL b (ocV (σ 44 0) f nx) 8 0 (wrM b 8 255 (row σ 44 0 (ocV (σ 44 0) f nx)))) := by
  have h0 := R_44 h 44 (ocV (σ 44 0) f nx) (by omega)
  have hs := FR_sum hf nx
  obtain ⟨h2, h3, h4, h5, -⟩ := hf
  unfold wfC
  rw [← hs, h2, h3, h4, h5]
  exact R_wr (R_wr (R_wr (R_wr (R_wr (R_wr (R_wr (R_wr (R_wr h0 b 8 (by omega) 255) b 1 (by omega) 165) (b + 1) 1 (by omega) nx) (b + 2) 1 (by omega) _) (b + 3) 1 (by omega) _) (b + 4) 1 (by omega) _) (b + 5) 1 (by omega) _) (b + 6) 1 (by omega) _) (b + 7) 1 (by omega) _
end
