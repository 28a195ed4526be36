/-! STANDS THAT ARE ALIKE, deed by deed -/
/-- cells that tell of the same stand -/
def EA (c d : Vec) : Prop := (∀ j, j < 56 ∨ j = 76 ∨ j = 77 → c j = d j) ∧ c 78 = d 78 ∧ (c 78 = -1 ∨ c 80 = d 80) ∧ ∀ k, k < 4 → flagF c k = flagF d k
/-- within a deed -/
def VV (x y : XP) : Prop := (∀ j, j < 56 ∨ j = 76 ∨ j = 77 → x.1 j = y.1 j) ∧ x.1 78 = y.1 78 ∧ (x.1 78 = -1 ∨ x.1 80 = y.1 80) ∧ (∀ j, 2 ≤ j → j < 6 → x.2 j = y.2 j) ∧ LV x ∧ LV y
theorem VV_wr {x y : XP} (h : VV x y) (a n : Nat) (v : Int) (ha : a + n ≤ 78) : VV (wrC a n v x) (wrC a n v y) := by
  obtain ⟨h1, h2, h3, h4, h5, h6⟩ := h
  obtain ⟨p1, p2⟩ := LV_wr h5 a n v
  obtain ⟨q1, q2⟩ := LV_wr h6 a n v
  refine ⟨fun j hj => ?_, ?_, ?_, fun j j1 j2 => ?_, p1, q1⟩
  · rw [p2, q2]
    unfold fill
    rw [h1 j hj]
  · rw [p2, q2, fill_ne _ _ (by omega), fill_ne _ _ (by omega)]
    exact h2
  · rw [p2, q2, fill_ne _ _ (by omega), fill_ne _ _ (by omega), fill_ne _ _ (by omega)]
    exact h3
  · rw [wrC_o _ _ _ _ (by omega) (by omega), wrC_o _ _ _ _ (by omega) (by omega)]
    exact h4 j j1 j2
theorem VV_wf {x y : XP} (h : VV x y) : VV (writeFlagsC x) (writeFlagsC y) := by
  obtain ⟨h1, h2, h3, h4, h5, h6⟩ := h
  refine ⟨fun j hj => ?_, ?_, ?_, fun j j1 j2 => ?_, LV_wf h5, LV_wf h6⟩
  · rw [writeFlagsC_at _ (by omega), writeFlagsC_at _ (by omega)]
    exact h1 j hj
  · rw [writeFlagsC_at _ (by omega), writeFlagsC_at _ (by omega)]
    exact h2
  · rw [writeFlagsC_at _ (by omega), writeFlagsC_at _ (by omega), writeFlagsC_at _ (by omega)]
    exact h3
  · rw [writeFlagsC_o _ (by omega) (by omega) (by omega), writeFlagsC_o _ (by omega) (by omega) (by omega)]
    exact h4 j j1 j2
theorem VV_set {x y : XP} (h : VV x y) {k : Nat} {v w : Int} (e : v = w) (h7 : k ≠ 7) (h9 : k ≠ 9) : VV (x.1, set x.2 k v) (y.1, set y.2 k w) := by
  obtain ⟨h1, h2, h3, h4, h5, h6⟩ := h
  refine ⟨h1, h2, h3, fun j j1 j2 => ?_, LV_set h5 _ _ h7 h9, LV_set h6 _ _ h7 h9⟩
  show set x.2 k v j = set y.2 k w j
  unfold set
  rw [e, h4 j j1 j2]
theorem VV_note {x y : XP} (h : VV x y) (w v v2 : Int) : VV (noteStartC w v x) (noteStartC w v2 y) := by
  obtain ⟨h1, h2, h3, h4, h5, h6⟩ := h
  unfold noteStartC
  rw [if_pos h5.2, if_pos h6.2]
  refine ⟨fun j hj => ?_, ?_, Or.inr ?_, h4, h5, h6⟩
  · dsimp only
    rw [set_ne _ _ (by omega), set_ne _ _ (by omega), set_ne _ _ (by omega), set_ne _ _ (by omega), set_ne _ _ (by omega), set_ne _ _ (by omega), set_ne _ _ (by omega), set_ne _ _ (by omega), set_ne _ _ (by omega), set_ne _ _ (by omega), set_ne _ _ (by omega), set_ne _ _ (by omega)]
    exact h1 j hj
  · dsimp only
    rw [set_ne _ _ (by decide), set_ne _ _ (by decide), set_same, set_ne _ _ (by decide), set_ne _ _ (by decide), set_same]
  · rfl
theorem whyF_w {c n : Vec} (h : ∀ j, j < 56 ∨ j = 76 ∨ j = 77 → c j = n j) (ks : Int) (sec u : Vec) (s : Nat) (hs : s < 4) : whyF ks sec u c s = whyF ks sec u n s := by
  unfold whyF signF soundF
  rw [h (14 * s) (by omega), h (14 * s + 1) (by omega), h (14 * s + 2) (by omega), h (14 * s + 3) (by omega), h (14 * s + 4) (by omega), h (14 * s + 5) (by omega), h 76 (by omega), h 77 (by omega)]
  by_cases g : n (14 * s) - 1 < 0 ∨ 30 < n (14 * s) - 1 ∨ ¬ (0 ≤ n (14 * s + 1) ∧ n (14 * s + 1) < ks) ∨ n (14 * s + 3) < 1 ∨ 4 < n (14 * s + 3)
  · rw [if_pos g, if_pos g]
  · rw [if_neg g, if_neg g, soundL_congr (14 * s) (fun j a b => h j (by omega)) _ 0 _ (by omega)]
theorem copyF_w {c n : Vec} (h : ∀ j, j < 56 ∨ j = 76 ∨ j = 77 → c j = n j) (ks : Int) (sec u : Vec) : copyF ks sec u c = copyF ks sec u n := by
  unfold copyF
  rw [whyF_w h ks sec u 2 (by omega), whyF_w h ks sec u 3 (by omega), h 28 (by omega), h 42 (by omega)]
theorem chosen_w {g f : Vec} (h2 : g 2 = f 2) (h3 : g 3 = f 3) : chosenC g = chosenC f := by
  unfold chosenC
  rw [h2, h3]
theorem VV_count {x y : XP} (h : VV x y) {s : Nat} (hs : s < 2) : VV (countTryC s x) (countTryC s y) := by
  have e : x.2 (2 + s) = y.2 (2 + s) := h.2.2.2.1 _ (by omega) (by omega)
  have e4 : x.2 4 = y.2 4 := h.2.2.2.1 _ (by omega) (by omega)
  have h0 : VV (x.1, if x.2 (2 + s) % 2 = 0 then set x.2 (2 + s) (x.2 (2 + s) - 2) else x.2) (y.1, if y.2 (2 + s) % 2 = 0 then set y.2 (2 + s) (y.2 (2 + s) - 2) else y.2) := by
    rw [e]
    split
    · exact VV_set h rfl (by omega) (by omega)
    · exact h
  exact VV_set (VV_set h0 (by rw [e4]) (by decide) (by decide)) rfl (by decide) (by decide)
theorem VV_startL (σ : Sto) : ∀ (m : Nat) (x y : XP), VV x y → (startL (whyS σ) m x).1 = (startL (whyS σ) m y).1 ∧ VV (startL (whyS σ) m x).2 (startL (whyS σ) m y).2
  | 0, _, _, h => ⟨rfl, h⟩
  | m + 1, x, y, h => by
    have ec : chosenC x.2 = chosenC y.2 := chosen_w (h.2.2.2.1 2 (by decide) (by decide)) (h.2.2.2.1 3 (by decide) (by decide))
    unfold startL
    rw [ec]
    by_cases c : chosenC y.2 = -1
    · rw [if_pos c, if_pos c]
      exact ⟨rfl, h⟩
    · obtain ⟨s, hs, e⟩ := chosen_s c
      have ew : whyS σ x.1 s = whyS σ y.1 s := whyF_w h.1 _ _ _ s (by omega)
      rw [if_neg c, if_neg c, e, Int.toNat_natCast, ew]
      split
      · exact ⟨rfl, VV_note (VV_wf (VV_count h hs)) _ _ _⟩
      · exact VV_startL σ m _ _ (VV_wf (VV_set h rfl (by omega) (by omega)))
theorem VV_rec {x y : XP} (h : VV x y) (cp : Int) : VV (startRecoveryC cp x).2 (startRecoveryC cp y).2 := by
  unfold startRecoveryC
  split
  · exact h
  · exact VV_note (VV_wf (VV_set h rfl (by decide) (by decide))) _ _ _
theorem VV_81 {x y : XP} (h : VV x y) (v w : Int) : VV (set x.1 81 v, x.2) (set y.1 81 w, y.2) := by
  obtain ⟨h1, h2, h3, h4, h5, h6⟩ := h
  refine ⟨fun j hj => ?_, ?_, ?_, h4, h5, h6⟩
  · show set x.1 81 v j = set y.1 81 w j
    rw [set_ne _ _ (by omega), set_ne _ _ (by omega)]
    exact h1 j hj
  · show set x.1 81 v 78 = set y.1 81 w 78
    rw [set_ne _ _ (by omega), set_ne _ _ (by omega)]
    exact h2
  · show set x.1 81 v 78 = -1 ∨ set x.1 81 v 80 = set y.1 81 w 80
    rw [set_ne _ _ (by omega), set_ne _ _ (by omega), set_ne _ _ (by omega)]
    exact h3
theorem VV_end {x y : XP} (h : VV x y) (a b : Int) : VV (endC a x).2 (endC b y).2 := by
  unfold endC
  rw [if_pos h.2.2.2.2.1.2, if_pos h.2.2.2.2.2.2]
  exact VV_81 h _ _
theorem VV_begin {x y : XP} (h : EA x.1 y.1) : VV (beginC (-1) x) (beginC (-1) y) := by
  refine ⟨h.1, h.2.1, h.2.2.1, fun j j1 j2 => ?_, LV_begin x, LV_begin y⟩
  rcases (show j = 2 ∨ j = 3 ∨ j = 4 ∨ j = 5 by omega) with rfl | rfl | rfl | rfl
  · exact h.2.2.2 0 (by decide)
  · exact h.2.2.2 1 (by decide)
  · exact h.2.2.2 2 (by decide)
  · exact h.2.2.2 3 (by decide)
theorem EA_of {x y : XP} (h : VV x y) (p : PF x) (q : PF y) : EA x.1 y.1 := by
  refine ⟨h.1, h.2.1, h.2.2.1, fun k hk => ?_⟩
  have f := h.2.2.2.1
  obtain ⟨-, p2, p3, p4, p5⟩ := p
  obtain ⟨-, q2, q3, q4, q5⟩ := q
  rcases (show k = 0 ∨ k = 1 ∨ k = 2 ∨ k = 3 by omega) with rfl | rfl | rfl | rfl
  · rw [← p2, ← q2]; exact f 2 (by decide) (by decide)
  · rw [← p3, ← q3]; exact f 3 (by decide) (by decide)
  · rw [← p4, ← q4]; exact f 4 (by decide) (by decide)
  · rw [← p5, ← q5]; exact f 5 (by decide) (by decide)
theorem EA_boot (σ : Sto) {x y : XP} (hc : OKC x.1) (hd : OKC y.1) (h : EA x.1 y.1) : EA (bootC σ 0 (-1) x).2.1 (bootC σ 0 (-1) y).2.1 := by
  refine EA_of ?_ (PF_boot σ hc 0).1 (PF_boot σ hd 0).1
  have hb := VV_begin h
  have hs : ∀ bt lim, (startSlotC (whyS σ) lim bt (beginC (-1) x)).1 = (startSlotC (whyS σ) lim bt (beginC (-1) y)).1 ∧ VV (startSlotC (whyS σ) lim bt (beginC (-1) x)).2 (startSlotC (whyS σ) lim bt (beginC (-1) y)).2 := by
    intro bt lim
    unfold startSlotC
    rw [hb.2.2.2.1 4 (by decide) (by decide)]
    split
    · exact VV_startL σ 2 _ _ hb
    · exact ⟨rfl, hb⟩
  unfold bootC
  generalize (if (0 : Int) = 1 then (1 : Int) else 0) = bt
  obtain ⟨e1, e2⟩ := hs bt (σ 2 1 2)
  generalize startSlotC (whyS σ) (σ 2 1 2) bt (beginC (-1) x) = p at e1 e2
  generalize startSlotC (whyS σ) (σ 2 1 2) bt (beginC (-1) y) = q at e1 e2
  have ec : copyF (σ 2 1 0) (σ 3 1) (σ 4 1) p.2.1 = copyF (σ 2 1 0) (σ 3 1) (σ 4 1) q.2.1 := copyF_w e2.1 _ _ _
  rw [e1, ec]
  split
  · exact VV_end (VV_rec e2 _) _ _
  · exact VV_end e2 _ _
theorem VV_blowV : ∀ (m : Nat) (b : Int) (x y : XP), VV x y → VV (blowVC m b x) (blowVC m b y)
  | 0, _, _, _, h => h
  | m + 1, b, _, _, h => VV_blowV m (b + 1) _ _ (VV_wr h 76 1 _ (by decide))
theorem VV_blowK (rv : Int) : ∀ (m k : Nat) (x y : XP), VV x y → VV (blowKC rv m k x) (blowKC rv m k y)
  | 0, _, _, _, h => h
  | m + 1, k, x, y, h => by
    have t : VV (blowKC1 rv k x) (blowKC1 rv k y) := by
      unfold blowKC1
      rw [h.1 77 (Or.inr (Or.inr rfl))]
      split
      · exact VV_wr h 77 1 _ (by decide)
      · exact h
    exact VV_blowK rv m (k + 1) _ _ t
theorem EA_health (σ : Sto) {x y : XP} (hc : OKC x.1) (hd : OKC y.1) (h : EA x.1 y.1) : EA (perfHealthC σ (-1) x).2.1 (perfHealthC σ (-1) y).2.1 := by
  refine EA_of ?_ (PF_health σ hc).1 (PF_health σ hd).1
  have hb := VV_begin h
  have e78 : (beginC (-1) x).1 78 = (beginC (-1) y).1 78 := h.2.1
  have f : VV (healthFlC (σ 2 1 3) (beginC (-1) x)) (healthFlC (σ 2 1 3) (beginC (-1) y)) := by
    unfold healthFlC
    rw [e78]
    split
    · rename_i z
      have k2 : 2 ≤ 2 + ((beginC (-1) y).1 78).toNat ∧ 2 + ((beginC (-1) y).1 78).toNat < 6 := by omega
      have e := hb.2.2.2.1 _ k2.1 k2.2
      exact VV_set (VV_set hb rfl (by decide) (by decide)) (by rw [e]) (by omega) (by omega)
    · exact VV_set hb rfl (by decide) (by decide)
  have w := VV_wf f
  have u : VV (healthFuC ((beginC (-1) x).1 78) (writeFlagsC (healthFlC (σ 2 1 3) (beginC (-1) x)))) (healthFuC ((beginC (-1) y).1 78) (writeFlagsC (healthFlC (σ 2 1 3) (beginC (-1) y)))) := by
    unfold healthFuC
    rw [e78]
    split
    · rename_i z
      rw [w.1 (14 * ((beginC (-1) y).1 78).toNat + 2) (by omega), w.1 (14 * ((beginC (-1) y).1 78).toNat) (by omega), w.1 76 (by omega)]
      exact VV_blowK _ 6 0 _ _ (VV_blowV _ _ _ _ w)
    · exact w
  have t : VV (healthC (σ 2 1 3) (beginC (-1) x)) (healthC (σ 2 1 3) (beginC (-1) y)) := by
    unfold healthC toldC
    rw [if_pos u.2.2.2.2.1.2, if_pos u.2.2.2.2.2.2]
    obtain ⟨h1, h2, h3, h4, h5, h6⟩ := u
    refine ⟨fun j hj => ?_, ?_, Or.inr ?_, h4, h5, h6⟩
    · dsimp only
      rw [set_ne _ _ (by omega), set_ne _ _ (by omega)]
      exact h1 j hj
    · dsimp only
      rw [set_ne _ _ (by omega), set_ne _ _ (by omega)]
      exact h2
    · rfl
  exact VV_end t _ _
theorem VV_lay (b : Nat) (hb : b + 14 ≤ 56) (σ : Sto) (f : Nat) : ∀ (m : Nat) (x y : XP), m ≤ 14 → VV x y → VV (layL b (rdI σ f) m x) (layL b (rdI σ f) m y)
  | 0, _, _, _, h => h
  | k + 1, x, y, hk, h => VV_lay b hb σ f k _ _ (by omega) (VV_wr h (b + k) 1 _ (by omega))
theorem VV_favour {x y : XP} (h : VV x y) {s : Nat} (hs : s < 2) : VV (favourC s x) (favourC s y) := by
  have e : x.2 (2 + s) = y.2 (2 + s) := h.2.2.2.1 _ (by omega) (by omega)
  have h1 : VV (x.1, set x.2 (2 + s) (240 + x.2 (2 + s) % 16)) (y.1, set y.2 (2 + s) (240 + y.2 (2 + s) % 16)) := VV_set h (by rw [e]) (by omega) (by omega)
  have e3 := h1.2.2.2.1 (3 - s) (by omega) (by omega)
  unfold favourC
  dsimp only at e3
  rw [e3]
  split
  · exact h1
  · exact VV_set h1 rfl (by omega) (by omega)
theorem EA_install {σ : Sto} (hg : OKG σ 1) {x y : XP} (hc : OKC x.1) (hd : OKC y.1) (h : EA x.1 y.1) (s im : Nat) (hs : s < 2) (him : im < 6) : EA (perfInstallC σ s im (-1) x).2.1 (perfInstallC σ s im (-1) y).2.1 := by
  refine EA_of ?_ (PF_install hg hc s im hs him).1 (PF_install hg hd s im hs him).1
  have hb := VV_begin h
  have ho : VV (openJC (s : Int) (im : Int) (beginC (-1) x)) (openJC (s : Int) (im : Int) (beginC (-1) y)) := by
    unfold openJC
    exact VV_wr (VV_wr (VV_wr (VV_wr (VV_wr hb _ _ _ (by decide)) _ _ _ (by decide)) _ _ _ (by decide)) _ _ _ (by decide)) _ _ _ (by decide)
  have h1 : VV (setFl s 0 (openJC (s : Int) (im : Int) (beginC (-1) x))) (setFl s 0 (openJC (s : Int) (im : Int) (beginC (-1) y))) := VV_set ho rfl (by omega) (by omega)
  have h2 := VV_lay (14 * s) (by omega) σ (14 * im) 14 _ _ (by omega) (VV_wr (VV_wf h1) (14 * s) 1 0 (by omega))
  have h3 := VV_wf (VV_favour (s := s) (VV_set (k := 2 + s) (v := 2 * σ 2 1 3) h2 rfl (by omega) (by omega)) hs)
  exact VV_end (VV_wr h3 74 1 0 (by decide)) _ _
/-! WORDS behind a deed -/
theorem wds_note {x : XP} (w v : Int) {j : Nat} (hj : j < 56) : (noteStartC w v x).1 j = x.1 j := by
  unfold noteStartC
  split
  · dsimp only
    rw [set_ne _ _ (by omega), set_ne _ _ (by omega), set_ne _ _ (by omega), set_ne _ _ (by omega), set_ne _ _ (by omega), set_ne _ _ (by omega)]
  · rfl
theorem wds_startL (W : Vec → Nat → Int) {j : Nat} (hj : j < 56) : ∀ (m : Nat) (x : XP), (startL W m x).2.1 j = x.1 j
  | 0, _ => rfl
  | m + 1, x => by
    unfold startL
    split
    · rfl
    · split
      · rw [wds_note _ _ hj, writeFlagsC_at _ (by omega)]
        rfl
      · rw [wds_startL W hj m _, writeFlagsC_at _ (by omega)]
theorem wds_end {x : XP} (a : Int) {j : Nat} (hj : j < 56) : (endC a x).2.1 j = x.1 j := by
  unfold endC
  split
  · exact set_ne _ _ (by omega)
  · exact (set_ne _ _ (by omega)).trans (set_ne _ _ (by omega))
theorem wds_boot (σ : Sto) (x : XP) {j : Nat} (hj : j < 56) : (bootC σ 0 (-1) x).2.1 j = x.1 j := by
  have hs : ∀ bt lim, (startSlotC (whyS σ) lim bt (beginC (-1) x)).2.1 j = x.1 j := by
    intro bt lim
    unfold startSlotC
    split
    · exact wds_startL _ hj 2 _
    · rfl
  unfold bootC
  generalize (if (0 : Int) = 1 then (1 : Int) else 0) = bt
  have e := hs bt (σ 2 1 2)
  generalize startSlotC (whyS σ) (σ 2 1 2) bt (beginC (-1) x) = p at e
  split
  · rw [wds_end _ hj]
    unfold startRecoveryC
    split
    · exact e
    · rw [wds_note _ _ hj, writeFlagsC_at _ (by omega)]
      exact e
  · rw [wds_end _ hj]
    exact e
theorem wds_health (σ : Sto) (x : XP) {j : Nat} (hj : j < 56) : (perfHealthC σ (-1) x).2.1 j = x.1 j := by
  unfold perfHealthC
  rw [wds_end _ hj]
  unfold healthC
  rw [toldC_at (by omega), healthFuC_at (by omega) (by omega), writeFlagsC_at _ (by omega)]
  rfl
theorem wds_layL (b : Nat) (σ : Sto) (f : Nat) : ∀ (m : Nat) (x : XP), m ≤ 14 → LV x → ∀ k, (layL b (rdI σ f) m x).1 (b + k) = if k < m then σ 5 1 (f + k) else x.1 (b + k)
  | 0, _, _, _, k => by rw [if_neg (by omega)]; rfl
  | m + 1, x, hm, l, k => by
    obtain ⟨l2, e⟩ := LV_wr l (b + m) 1 (rdI σ f x m)
    have t := wds_layL b σ f m (wrC (b + m) 1 (rdI σ f x m) x) (by omega) l2 k
    show (layL b (rdI σ f) m (wrC (b + m) 1 (rdI σ f x m) x)).1 (b + k) = _
    rw [t, e]
    by_cases q : k < m
    · rw [if_pos q, if_pos (by omega)]
    · rw [if_neg q]
      by_cases z : k = m
      · subst z
        rw [if_pos (by omega), fill1_eq]
        rfl
      · rw [if_neg (by omega), fill1_ne _ _ (by omega)]
theorem wds_install {σ : Sto} (x : XP) (s im : Nat) (hs : s < 2) (him : im < 6) {j : Nat} (hj : j < 56) : (perfInstallC σ s im (-1) x).2.1 j = if 14 * s ≤ j ∧ j < 14 * s + 14 then σ 5 1 (14 * im + (j - 14 * s)) else x.1 j := by
  have l0 := LV_open (LV_begin x) (s : Int) (im : Int)
  have l1 : LV (writeFlagsC (setFl s 0 (openJC (s : Int) (im : Int) (beginC (-1) x)))) := LV_wf (LV_set l0 _ _ (by omega) (by omega))
  have c1 : (writeFlagsC (setFl s 0 (openJC (s : Int) (im : Int) (beginC (-1) x)))).1 j = x.1 j := by
    rw [writeFlagsC_at _ (by omega)]
    show (openJC (s : Int) (im : Int) (beginC (-1) x)).1 j = _
    rw [openJC_at (by omega)]
    rfl
  unfold perfInstallC
  rw [wds_end _ hj]
  unfold finishC
  rw [wrC_at _ _ _ _ (by omega), writeFlagsC_at _ (by omega)]
  show (layC (14 * s) (rdI σ (14 * im)) (writeFlagsC (setFl s 0 (openJC (s : Int) (im : Int) (beginC (-1) x))))).1 j = _
  by_cases q : 14 * s ≤ j ∧ j < 14 * s + 14
  · have t := wds_layL (14 * s) σ (14 * im) 14 _ (by omega) (LV_wr l1 (14 * s) 1 0).1 (j - 14 * s)
    rw [show 14 * s + (j - 14 * s) = j by omega, if_pos (by omega)] at t
    rw [if_pos q]
    exact t
  · rw [if_neg q, layC_at _ _ _ (by omega), c1]
