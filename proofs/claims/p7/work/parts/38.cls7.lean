/-! THE CLASS: install, refresh, prefer, mend, resume -/
/-- words laid into a store, the last first -/
def layL (b : Nat) (rd : XP → Nat → Int) : Nat → XP → XP
  | 0, x => x
  | k + 1, x => layL b rd k (wrC (b + k) 1 (rd x k) x)
def layC (b : Nat) (rd : XP → Nat → Int) (x : XP) : XP := layL b rd 14 (wrC b 1 0 x)
theorem layL_ok (b : Nat) (hb : b + 14 ≤ 56) (rd : XP → Nat → Int) (hr : ∀ (y : XP) (k : Nat), OKX y → k < 14 → 0 ≤ rd y k ∧ rd y k < 2147483648) : ∀ (m : Nat) (x : XP), m ≤ 14 → OKX x → OKX (layL b rd m x)
  | 0, x, _, h => h
  | k + 1, x, hk, h => layL_ok b hb rd hr k _ (by omega) ⟨wrC_word h.1 (by omega) (hr x k h (by omega)), wrC_F h.2⟩
theorem layC_ok (b : Nat) (hb : b + 14 ≤ 56) (rd : XP → Nat → Int) (hr : ∀ (y : XP) (k : Nat), OKX y → k < 14 → 0 ≤ rd y k ∧ rd y k < 2147483648) {x : XP} (h : OKX x) : OKX (layC b rd x) :=
  layL_ok b hb rd hr 14 _ (by omega) ⟨wrC_word h.1 (by omega) (by omega), wrC_F h.2⟩
theorem layL_at (b : Nat) (rd : XP → Nat → Int) {j : Nat} : ∀ (m : Nat) (x : XP), m ≤ 14 → (j < b ∨ b + 14 ≤ j) → (layL b rd m x).1 j = x.1 j
  | 0, x, _, _ => rfl
  | k + 1, x, hk, h => (layL_at b rd k _ (by omega) h).trans (wrC_at _ _ _ _ (by omega))
theorem layC_at (b : Nat) (rd : XP → Nat → Int) {j : Nat} (x : XP) (h : j < b ∨ b + 14 ≤ j) : (layC b rd x).1 j = x.1 j := (layL_at b rd 14 _ (by omega) h).trans (wrC_at _ _ _ _ (by omega))
def favourC (s : Nat) (x : XP) : XP := (x.1, if (set x.2 (2 + s) (240 + x.2 (2 + s) % 16)) (3 - s) < 240 then set x.2 (2 + s) (240 + x.2 (2 + s) % 16) else set (set x.2 (2 + s) (240 + x.2 (2 + s) % 16)) (3 - s) ((set x.2 (2 + s) (240 + x.2 (2 + s) % 16)) (3 - s) - 16))
theorem favourC_ok {s : Nat} (hs : s < 2) {x : XP} (h : OKX x) : OKX (favourC s x) := by
  have hf := h.2
  obtain ⟨f2, f3, f4, f5, f6⟩ := hf
  have h1 : OKF (set x.2 (2 + s) (240 + x.2 (2 + s) % 16)) := okf_set h.2 (fun _ => by omega) (by omega)
  unfold favourC
  refine ⟨h.1, ?_⟩
  split
  · exact h1
  · refine okf_set h1 (fun _ => ?_) (by omega)
    obtain ⟨q2, q3, -⟩ := h1
    rcases (show s = 0 ∨ s = 1 by omega) with rfl | rfl
    · simp only [Nat.reduceSub, Nat.add_zero] at *
      omega
    · simp only [Nat.reduceSub, Nat.reduceAdd] at *
      omega
section CLS
variable {N i j : Nat} {σ : Sto} {x : XP}
theorem wrd_r (hg : OKG σ 1) (f : Nat) (hf : f + 14 ≤ 84) (k : Nat) (hk : k < 14) : 0 ≤ σ 5 1 (f + k) ∧ σ 5 1 (f + k) < 2147483648 := by
  have := hg.2.2.2.2.2.2.2.2.2.2.2.2 (f + k) (by omega)
  omega
/-- words of an image -/
def rdI (σ : Sto) (f : Nat) : XP → Nat → Int := fun _ k => σ 5 1 (f + k)
/-- words of a store of its own -/
def rdS (f : Nat) : XP → Nat → Int := fun y k => y.1 (f + k)
theorem rdS_r (f : Nat) (hf : f + 14 ≤ 56) : ∀ (y : XP) (k : Nat), OKX y → k < 14 → 0 ≤ rdS f y k ∧ rdS f y k < 2147483648 := fun y k h hk => h.1.1 (f + k) (by omega)
theorem s2_lay5_loop (s f : Nat) (hs : s < 4) (hf : f + 14 ≤ 84) : ∀ (m : Nat) (x : XP), m ≤ 14 → ev N mX2_lay 11 [vR 6 i, vI (s : Int), vR 5 1, vI (f : Int), vI ((14 * s : Nat) : Int), vI ((m : Int) - 1)] [] (P (putC σ i x)) = some (none, P (putC σ i (layL (14 * s) (rdI σ f) m x))) := by
  intro m
  induction m with
  | zero =>
    intro x hm
    rw [eX2_lay_11_k5, if_pos (by omega)]
    rfl
  | succ m ih =>
    intro x hm
    have e : ((m + 1 : Nat) : Int) - 1 = (m : Int) := by omega
    have e1 : w32 ((f : Int) + (m : Int)) = ((f + m : Nat) : Int) := by rw [w32i (by omega) (by omega)]; omega
    have e2 : w32 (((14 * s : Nat) : Int) + (m : Int)) = ((14 * s + m : Nat) : Int) := by rw [w32i (by omega) (by omega)]; omega
    have e3 : w32 ((m : Int) + (-1)) = (m : Int) - 1 := by rw [w32i (by omega) (by omega)]; omega
    rw [e, eX2_lay_11_k5, if_neg (by omega), e1, s6_at5 _ (by omega) (by omega), bnd_s, push_s, eX2_lay_23_k5, e2, s2_write1 _ (by omega), bnd_s, push_n, eX2_lay_24_k5, e3, put5, Int.toNat_natCast]
    exact ih _ (by omega)
theorem p2_lay5 (s f : Nat) (hs : s < 4) (hf : f + 14 ≤ 84) : inv N mX2_lay [vR 6 i, vI (s : Int), vR 5 1, vI (f : Int)] (P (putC σ i x)) = some (none, P (putC σ i (layC (14 * s) (rdI σ f) x))) := by
  have e2 : w32 ((s : Int) * 14) = ((14 * s : Nat) : Int) := by rw [w32i (by omega) (by omega)]; omega
  rw [iX2_lay_k5, eX2_lay_0_k5, e2, s2_write1 _ (by omega), bnd_s, push_n, eX2_lay_9_k5]
  exact s2_lay5_loop s f hs hf 14 _ (by omega)
theorem s2_lay7_loop (s f : Nat) (hs : s < 4) (hf : f + 14 ≤ 107) : ∀ (m : Nat) (x : XP), m ≤ 14 → ev N mX2_lay 11 [vR 6 i, vI (s : Int), vR 7 i, vI (f : Int), vI ((14 * s : Nat) : Int), vI ((m : Int) - 1)] [] (P (putC σ i x)) = some (none, P (putC σ i (layL (14 * s) (rdS f) m x))) := by
  intro m
  induction m with
  | zero =>
    intro x hm
    rw [eX2_lay_11_k7, if_pos (by omega)]
    rfl
  | succ m ih =>
    intro x hm
    have e : ((m + 1 : Nat) : Int) - 1 = (m : Int) := by omega
    have e1 : w32 ((f : Int) + (m : Int)) = ((f + m : Nat) : Int) := by rw [w32i (by omega) (by omega)]; omega
    have e2 : w32 (((14 * s : Nat) : Int) + (m : Int)) = ((14 * s + m : Nat) : Int) := by rw [w32i (by omega) (by omega)]; omega
    have e3 : w32 ((m : Int) + (-1)) = (m : Int) - 1 := by rw [w32i (by omega) (by omega)]; omega
    rw [e, eX2_lay_11_k7, if_neg (by omega), e1, s6_at7 _ (by omega) (by omega), bnd_s, push_s, eX2_lay_23_k7, e2, s2_write1 _ (by omega), bnd_s, push_n, eX2_lay_24_k7, e3, putC_7, Int.toNat_natCast]
    exact ih _ (by omega)
theorem p2_lay7 (s f : Nat) (hs : s < 4) (hf : f + 14 ≤ 107) : inv N mX2_lay [vR 6 i, vI (s : Int), vR 7 i, vI (f : Int)] (P (putC σ i x)) = some (none, P (putC σ i (layC (14 * s) (rdS f) x))) := by
  have e2 : w32 ((s : Int) * 14) = ((14 * s : Nat) : Int) := by rw [w32i (by omega) (by omega)]; omega
  rw [iX2_lay_k7, eX2_lay_0_k7, e2, s2_write1 _ (by omega), bnd_s, push_n, eX2_lay_9_k7]
  exact s2_lay7_loop s f hs hf 14 _ (by omega)
theorem p2_favour (s : Nat) (hs : s < 2) (hf : OKF x.2) : inv N mX2_favour [vR 6 i, vI (s : Int)] (P (putC σ i x)) = some (none, P (putC σ i (favourC s x))) := by
  obtain ⟨f2, f3, f4, f5, f6⟩ := hf
  rw [iX2_favour, eX2_favour_0, p2_slotFlags, bnd_s, push_s, eX2_favour_6, p2_setSlotFlags, bnd_s, push_n, eX2_favour_10, bAnd_15]
  unfold favourC
  rcases (show s = 0 ∨ s = 1 by omega) with rfl | rfl
  · have e1 : w32 (1 - 0) = 1 := rfl
    have e2 : w32 (240 + x.2 2 % 16) = 240 + x.2 2 % 16 := w32i (by omega) (by omega)
    have e4 : w32 (x.2 3 - 16) = x.2 3 - 16 := w32i (by omega) (by omega)
    simp only [e1, p2_slotFlags, bnd_s, push_s, eX2_favour_15, Int.cast_ofNat_Int, ↓reduceIte, Int.reduceEq, e2, Nat.reduceSub, Nat.add_zero]
    have e3 : set x.2 2 (240 + x.2 2 % 16) 3 = x.2 3 := set_ne _ _ (by omega)
    rw [e3]
    by_cases h : x.2 3 < 240
    · rw [if_pos h, if_pos h, eX2_favour_27]
    · rw [if_neg h, if_neg h, p2_setSlotFlags, bnd_s, push_n, eX2_favour_27, e4]
      rfl
  · have e1 : w32 (1 - 1) = 0 := rfl
    have e2 : w32 (240 + x.2 3 % 16) = 240 + x.2 3 % 16 := w32i (by omega) (by omega)
    have e4 : w32 (x.2 2 - 16) = x.2 2 - 16 := w32i (by omega) (by omega)
    simp only [e1, p2_slotFlags, bnd_s, push_s, eX2_favour_15, Int.cast_ofNat_Int, ↓reduceIte, Int.reduceEq, e2, Nat.reduceSub, Nat.reduceAdd]
    have e3 : set x.2 3 (240 + x.2 3 % 16) 2 = x.2 2 := set_ne _ _ (by omega)
    rw [e3]
    by_cases h : x.2 2 < 240
    · rw [if_pos h, if_pos h, eX2_favour_27]
    · rw [if_neg h, if_neg h, p2_setSlotFlags, bnd_s, push_n, eX2_favour_27, e4]
      rfl
def setFl (s : Nat) (v : Int) (x : XP) : XP := (x.1, set x.2 (2 + s) v)
def finishC (σ : Sto) (s im : Nat) (x : XP) : XP := wrC 74 1 0 (writeFlagsC (favourC s (setFl s (2 * σ 2 1 3) (layC (14 * s) (rdI σ (14 * im)) (writeFlagsC (setFl s 0 x))))))
theorem p2_setFl (s : Nat) (hs : s < 2) (v : Int) : inv N mX2_setSlotFlags [vR 6 i, vI (s : Int), vI v] (P (putC σ i x)) = some (none, P (putC σ i (setFl s v x))) := by
  rw [p2_setSlotFlags]
  rcases (show s = 0 ∨ s = 1 by omega) with rfl | rfl <;> rfl
theorem finish_st (hg : OKG σ 1) (s im : Nat) (hs : s < 2) (him : im < 6) (hx : OKX x) : OKX (setFl s 0 x) ∧ OKX (writeFlagsC (setFl s 0 x)) ∧ OKX (layC (14 * s) (rdI σ (14 * im)) (writeFlagsC (setFl s 0 x))) ∧ OKX (setFl s (2 * σ 2 1 3) (layC (14 * s) (rdI σ (14 * im)) (writeFlagsC (setFl s 0 x)))) ∧ OKX (favourC s (setFl s (2 * σ 2 1 3) (layC (14 * s) (rdI σ (14 * im)) (writeFlagsC (setFl s 0 x))))) := by
  have g7 := hg.2.2.2.2.2.2.1
  have g8 := hg.2.2.2.2.2.2.2.1
  have h1 : OKX (setFl s 0 x) := setFl_ok hx (by omega) hs
  have h2 := writeFlagsC_ok h1
  have h3 := layC_ok (14 * s) (by omega) (rdI σ (14 * im)) (fun y k _ hk => wrd_r hg (14 * im) (by omega) k hk) h2
  have h4 : OKX (setFl s (2 * σ 2 1 3) (layC (14 * s) (rdI σ (14 * im)) (writeFlagsC (setFl s 0 x)))) := setFl_ok h3 (by omega) hs
  exact ⟨h1, h2, h3, h4, favourC_ok hs h4⟩
theorem finishC_ok (hg : OKG σ 1) (s im : Nat) (hs : s < 2) (him : im < 6) (hx : OKX x) : OKX (finishC σ s im x) := by
  have h := writeFlagsC_ok (finish_st hg s im hs him hx).2.2.2.2
  exact ⟨wrC_page h.1 (by omega) (by omega) (by omega), wrC_F h.2⟩
theorem finishC_at (s im : Nat) (hs : s < 2) {k : Nat} (hk : 76 ≤ k) : (finishC σ s im x).1 k = x.1 k := by
  unfold finishC
  rw [wrC_at _ _ _ _ (by omega), writeFlagsC_at _ (by omega)]
  show (layC (14 * s) (rdI σ (14 * im)) (writeFlagsC (setFl s 0 x))).1 k = _
  rw [layC_at _ _ _ (by omega), writeFlagsC_at _ (by omega)]
  rfl
theorem p2_finish (hg : OKG σ 1) (s im : Nat) (hs : s < 2) (him : im < 6) (hx : OKX x) : inv N mX2_finishInstall [vR 6 i, vI (s : Int), vI (im : Int)] (P (putC σ i x)) = some (some (vI ((finishC σ s im x).2 8)), P (putC σ i (finishC σ s im x))) := by
  have g7 := hg.2.2.2.2.2.2.1
  have g8 := hg.2.2.2.2.2.2.2.1
  obtain ⟨h1, h2, h3, h4, h5⟩ := finish_st hg s im hs him hx
  have e1 : w32 ((im : Int) * 14) = ((14 * im : Nat) : Int) := by rw [w32i (by omega) (by omega)]; omega
  have e2 : w32 (2 * σ 2 1 3) = 2 * σ 2 1 3 := w32i (by omega) (by omega)
  rw [iX2_finishInstall, eX2_finishInstall_0, p2_setFl s hs, bnd_s, push_n, eX2_finishInstall_4, p2_writeFlags h1, bnd_s, push_n, eX2_finishInstall_6, e1, p2_lay5 s (14 * im) (by omega) (by omega), bnd_s, push_n, eX2_finishInstall_15, put2, e2, p2_setFl s hs, bnd_s, push_n,
    eX2_finishInstall_23, p2_favour s hs h4.2, bnd_s, push_n, eX2_finishInstall_26, p2_writeFlags h5, bnd_s, push_n, eX2_finishInstall_28, show (74 : Int) = ((74 : Nat) : Int) from rfl, s2_write1 74 (by omega), bnd_s, push_n, eX2_finishInstall_33, putC_6]
  rfl
def openJC (s im : Int) (x : XP) : XP := wrC 74 1 90 (wrC 75 1 ((s + im + 90) % 256) (wrC 73 1 im (wrC 72 1 s (wrC 74 1 0 x))))
theorem openJC_ok {s im : Int} (hs : 0 ≤ s ∧ s < 2) (hi : 0 ≤ im ∧ im < 6) (h : OKX x) : OKX (openJC s im x) :=
  ⟨wrC_page (wrC_page (wrC_page (wrC_page (wrC_page h.1 (by omega) (by omega) (by omega)) (by omega) (by omega) (by omega)) (by omega) (by omega) (by omega)) (by omega) (by omega) (by omega)) (by omega) (by omega) (by omega), wrC_F (wrC_F (wrC_F (wrC_F (wrC_F h.2))))⟩
theorem openJC_at {s im : Int} {k : Nat} (h : k < 72 ∨ 76 ≤ k) : (openJC s im x).1 k = x.1 k := by
  unfold openJC
  simp (disch := omega) only [wrC_at]
theorem p2_openJ (s im : Int) (hs : 0 ≤ s ∧ s < 2) (hi : 0 ≤ im ∧ im < 6) : inv N mX2_openJournal [vR 6 i, vI s, vI im] (P (putC σ i x)) = some (none, P (putC σ i (openJC s im x))) := by
  have q72 := fun (y : XP) (v : Int) => s2_write1 (N := N) (i := i) (σ := σ) (x := y) 72 (by decide) v
  have q73 := fun (y : XP) (v : Int) => s2_write1 (N := N) (i := i) (σ := σ) (x := y) 73 (by decide) v
  have q74 := fun (y : XP) (v : Int) => s2_write1 (N := N) (i := i) (σ := σ) (x := y) 74 (by decide) v
  have q75 := fun (y : XP) (v : Int) => s2_write1 (N := N) (i := i) (σ := σ) (x := y) 75 (by decide) v
  simp only [Int.cast_ofNat_Int] at q72 q73 q74 q75
  rw [iX2_openJournal, eX2_openJournal_0, q74, bnd_s, push_n, eX2_openJournal_5, q72, bnd_s, push_n, eX2_openJournal_10, q73, bnd_s, push_n, eX2_openJournal_15, w32i (x := s + im) (by omega) (by omega), w32i (x := s + im + 90) (by omega) (by omega), bAnd_255, q75, bnd_s, push_n, eX2_openJournal_26, q74, bnd_s, push_n, eX2_openJournal_31]
  rfl
def perfInstallC (σ : Sto) (s im : Nat) (cut : Int) (x : XP) : Int × XP := endC ((finishC σ s im (openJC s im (beginC cut x))).2 8) (finishC σ s im (openJC s im (beginC cut x)))
theorem p2_install (hg : OKG σ 1) (hc : OKC x.1) (s im : Nat) (hs : s < 2) (him : im < 6) (cut : Int) : inv N mX2_perform [vR 6 i, vI 2, vI (s : Int), vI (im : Int), vI cut] (P (putC σ i x)) = some (some (vI (perfInstallC σ s im cut x).1), P (putC σ i (perfInstallC σ s im cut x).2)) := by
  have hx := beginC_ok cut hc
  have hx2 : OKX (openJC (s : Int) (im : Int) (beginC cut x)) := openJC_ok (by omega) (by omega) hx
  rw [p2_begin _ _ _ _ hc, eX2_perform_11, if_neg (by omega), if_neg (by omega), if_pos rfl, p2_openJ _ _ (by omega) (by omega), bnd_s, push_n, eX2_perform_41, p2_finish hg s im hs him hx2, bnd_s, push_s, eX2_perform_45, putC_6, p2_setCell _ _ (by omega) (by omega), bnd_s, push_n]
  exact s2_end _ _ _ _ _
/-- the copy that REFRESH takes -/
def otherF (cp : Int) : Nat := if cp = 2 then 3 else 2
def perfRefreshC (σ : Sto) (im : Nat) (cut : Int) (x : XP) : Int × XP := endC (otherF (copyF (σ 2 1 0) (σ 3 1) (σ 4 1) x.1) : Int) (layC (14 * otherF (copyF (σ 2 1 0) (σ 3 1) (σ 4 1) x.1)) (rdI σ (14 * im)) (beginC cut x))
theorem p2_refresh (hg : OKG σ 1) (hc : OKC x.1) (im : Nat) (him : im < 6) (a cut : Int) : inv N mX2_perform [vR 6 i, vI 3, vI a, vI (im : Int), vI cut] (P (putC σ i x)) = some (some (vI (perfRefreshC σ im cut x).1), P (putC σ i (perfRefreshC σ im cut x).2)) := by
  have hx := beginC_ok cut hc
  have e1 : w32 ((im : Int) * 14) = ((14 * im : Nat) : Int) := by rw [w32i (by omega) (by omega)]; omega
  have l3 := p2_lay5 (N := N) (i := i) (σ := σ) (x := beginC cut x) 3 (14 * im) (by omega) (by omega)
  have l2 := p2_lay5 (N := N) (i := i) (σ := σ) (x := beginC cut x) 2 (14 * im) (by omega) (by omega)
  rw [p2_begin _ _ _ _ hc, eX2_perform_11, if_neg (by omega), if_neg (by omega), if_neg (by omega), if_pos rfl, p2_recoveryCopy hg hx.1, bnd_s, push_s, eX2_perform_50, iX2_refreshOther, eX2_refreshOther_0, e1]
  show _ = some (some (vI (endC (otherF (copyF (σ 2 1 0) (σ 3 1) (σ 4 1) (beginC cut x).1) : Int) (layC (14 * otherF (copyF (σ 2 1 0) (σ 3 1) (σ 4 1) (beginC cut x).1)) (rdI σ (14 * im)) (beginC cut x))).1), P (putC σ i (endC (otherF (copyF (σ 2 1 0) (σ 3 1) (σ 4 1) (beginC cut x).1) : Int) (layC (14 * otherF (copyF (σ 2 1 0) (σ 3 1) (σ 4 1) (beginC cut x).1)) (rdI σ (14 * im)) (beginC cut x))).2))
  generalize copyF (σ 2 1 0) (σ 3 1) (σ 4 1) (beginC cut x).1 = cp
  unfold otherF
  by_cases h : cp = 2
  · rw [if_pos h, if_pos h]
    rw [show (3 : Int) = ((3 : Nat) : Int) from rfl, l3, bnd_s, push_n, eX2_refreshOther_16, bnd_s, push_s, eX2_perform_52, putC_6, p2_setCell _ _ (by omega) (by omega), bnd_s, push_n]
    exact s2_end _ _ _ _ _
  · rw [if_neg h, if_neg h]
    rw [show (2 : Int) = ((2 : Nat) : Int) from rfl, l2, bnd_s, push_n, eX2_refreshOther_16, bnd_s, push_s, eX2_perform_52, putC_6, p2_setCell _ _ (by omega) (by omega), bnd_s, push_n]
    exact s2_end _ _ _ _ _
def perfPreferC (s : Nat) (cut : Int) (x : XP) : Int × XP := endC ((writeFlagsC (favourC s (beginC cut x))).2 (3 - s) / 16) (writeFlagsC (favourC s (beginC cut x)))
theorem p2_prefer (hc : OKC x.1) (s : Nat) (hs : s < 2) (b cut : Int) : inv N mX2_perform [vR 6 i, vI 4, vI (s : Int), vI b, vI cut] (P (putC σ i x)) = some (some (vI (perfPreferC s cut x).1), P (putC σ i (perfPreferC s cut x).2)) := by
  have hx := beginC_ok cut hc
  have h1 := favourC_ok hs hx
  have h2 := writeFlagsC_ok h1
  have hf := h2.2
  obtain ⟨f2, f3, -⟩ := hf
  rw [p2_begin _ _ _ _ hc, eX2_perform_11, if_neg (by omega), if_neg (by omega), if_neg (by omega), if_neg (by omega), if_pos rfl, p2_favour s hs hx.2, bnd_s, push_n, eX2_perform_57, p2_writeFlags h1, bnd_s, push_n, eX2_perform_59, p2_slotFlags, bnd_s, push_s, eX2_perform_64, putC_6, p2_setCell _ _ (by omega) (by omega), bnd_s, push_n]
  have e : shr32 (if w32 (1 - (s : Int)) = 0 then (writeFlagsC (favourC s (beginC cut x))).2 2 else (writeFlagsC (favourC s (beginC cut x))).2 3) 4 = (writeFlagsC (favourC s (beginC cut x))).2 (3 - s) / 16 := by
    rcases (show s = 0 ∨ s = 1 by omega) with rfl | rfl
    · have := shr32_div f3.1 (by omega) 4 (by omega)
      exact this
    · have := shr32_div f2.1 (by omega) 4 (by omega)
      exact this
  rw [e]
  exact s2_end _ _ _ _ _
end CLS
