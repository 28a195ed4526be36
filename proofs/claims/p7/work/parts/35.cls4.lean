/-! THE CLASS: what writes keep; starts -/
theorem okc_page {c : Vec} {a n : Nat} {v : Int} (h : OKC c) (h1 : 56 ≤ a) (h2 : a + n ≤ 76) (h3 : 0 ≤ v ∧ v < 256) : OKC (fill c a n v) := by
  obtain ⟨c1, c2, c3, c4, c5⟩ := h
  refine ⟨fun j hj => ?_, fun j hj hj2 => ?_, ?_, ?_, ?_⟩
  · unfold fill
    rw [if_neg (by omega)]
    exact c1 j hj
  · unfold fill
    split
    · exact h3
    · exact c2 j hj hj2
  · unfold fill
    rw [if_neg (by omega)]
    exact c3
  · unfold fill
    rw [if_neg (by omega)]
    exact c4
  · unfold fill
    rw [if_neg (by omega)]
    exact c5
theorem okc_word {c : Vec} {a n : Nat} {v : Int} (h : OKC c) (h2 : a + n ≤ 56) (h3 : 0 ≤ v ∧ v < 2147483648) : OKC (fill c a n v) := by
  obtain ⟨c1, c2, c3, c4, c5⟩ := h
  refine ⟨fun j hj => ?_, fun j hj hj2 => ?_, ?_, ?_, ?_⟩
  · unfold fill
    split
    · exact h3
    · exact c1 j hj
  · unfold fill
    rw [if_neg (by omega)]
    exact c2 j hj hj2
  · unfold fill
    rw [if_neg (by omega)]
    exact c3
  · unfold fill
    rw [if_neg (by omega)]
    exact c4
  · unfold fill
    rw [if_neg (by omega)]
    exact c5
theorem okc_set {c : Vec} {a : Nat} {v : Int} (h : OKC c) (ha : 76 ≤ a) (h76 : a = 76 → 0 ≤ v ∧ v ≤ 31) (h77 : a = 77 → 0 ≤ v ∧ v < 64) (h78 : a = 78 → -1 ≤ v ∧ v ≤ 2) : OKC (set c a v) := by
  obtain ⟨c1, c2, c3, c4, c5⟩ := h
  refine ⟨fun j hj => ?_, fun j hj hj2 => ?_, ?_, ?_, ?_⟩
  · unfold set
    rw [if_neg (by omega)]
    exact c1 j hj
  · unfold set
    rw [if_neg (by omega)]
    exact c2 j hj hj2
  · unfold set
    split
    · exact h76 (by omega)
    · exact c3
  · unfold set
    split
    · exact h77 (by omega)
    · exact c4
  · unfold set
    split
    · exact h78 (by omega)
    · exact c5
theorem okc_hi {c : Vec} {a : Nat} {v : Int} (h : OKC c) (ha : 79 ≤ a) : OKC (set c a v) := okc_set h (by omega) (fun z => by omega) (fun z => by omega) (fun z => by omega)
theorem wrC_c {a n : Nat} {v : Int} {x : XP} (P : Vec → Prop) (h : P x.1) (h2 : P (fill x.1 a n v)) : P (wrC a n v x).1 := by
  unfold wrC
  split
  · exact h
  · exact h2
theorem wrC_at (a n : Nat) (v : Int) (x : XP) {j : Nat} (h : j < a ∨ a + n ≤ j) : (wrC a n v x).1 j = x.1 j := by
  unfold wrC
  split
  · rfl
  · show fill x.1 a n v j = x.1 j
    unfold fill
    rw [if_neg (by omega)]
theorem wrC_page {a n : Nat} {v : Int} {x : XP} (h : OKC x.1) (h1 : 56 ≤ a) (h2 : a + n ≤ 76) (h3 : 0 ≤ v ∧ v < 256) : OKC (wrC a n v x).1 := wrC_c OKC h (okc_page h h1 h2 h3)
theorem wrC_word {a n : Nat} {v : Int} {x : XP} (h : OKC x.1) (h2 : a + n ≤ 56) (h3 : 0 ≤ v ∧ v < 2147483648) : OKC (wrC a n v x).1 := wrC_c OKC h (okc_word h h2 h3)
theorem wrC_76 {v : Int} {x : XP} (h : OKC x.1) (h3 : 0 ≤ v ∧ v ≤ 31) : OKC (wrC 76 1 v x).1 := by
  refine wrC_c OKC h ?_
  rw [fill_1]
  exact okc_set h (by omega) (fun _ => h3) (fun z => by omega) (fun z => by omega)
theorem wrC_77 {v : Int} {x : XP} (h : OKC x.1) (h3 : 0 ≤ v ∧ v < 64) : OKC (wrC 77 1 v x).1 := by
  refine wrC_c OKC h ?_
  rw [fill_1]
  exact okc_set h (by omega) (fun z => by omega) (fun _ => h3) (fun z => by omega)
theorem okf_o {g g' : Vec} (h : OKF g) (h2 : ∀ j, j < 7 → g' j = g j) : OKF g' := by
  obtain ⟨f2, f3, f4, f5, f6⟩ := h
  unfold OKF
  rw [h2 2 (by omega), h2 3 (by omega), h2 4 (by omega), h2 5 (by omega), h2 6 (by omega)]
  exact ⟨f2, f3, f4, f5, f6⟩
theorem wrC_F {a n : Nat} {v : Int} {x : XP} (h : OKF x.2) : OKF (wrC a n v x).2 := okf_o h (fun j hj => wrC_o a n v x (by omega) (by omega))
/-- what a deed starts with and keeps -/
def OKX (x : XP) : Prop := OKC x.1 ∧ OKF x.2
theorem wfC_ok {b : Nat} (hb : b = 56 ∨ b = 64) {nx : Int} (hn : 0 ≤ nx ∧ nx < 256) {x : XP} (h : OKX x) : OKX (wfC b nx x) := by
  obtain ⟨hc, hf⟩ := h
  obtain ⟨r1, r2⟩ := sm_range hf hn
  have hf0 := hf
  obtain ⟨f2, f3, f4, f5, f6⟩ := hf0
  unfold wfC
  generalize 165 + 2 * nx + 3 * x.2 2 + 4 * x.2 3 + 5 * x.2 4 + 6 * x.2 5 = sm at r1 r2
  refine ⟨wrC_page (wrC_page (wrC_page (wrC_page (wrC_page (wrC_page (wrC_page (wrC_page (wrC_page hc ?_ ?_ ?_) ?_ ?_ ?_) ?_ ?_ ?_) ?_ ?_ ?_) ?_ ?_ ?_) ?_ ?_ ?_) ?_ ?_ ?_) ?_ ?_ ?_) ?_ ?_ ?_, wrC_F (wrC_F (wrC_F (wrC_F (wrC_F (wrC_F (wrC_F (wrC_F (wrC_F hf))))))))⟩ <;> omega
theorem wfC_at {b : Nat} (nx : Int) (x : XP) {j : Nat} (h : j < b ∨ b + 8 ≤ j) : (wfC b nx x).1 j = x.1 j := by
  unfold wfC
  simp (disch := omega) only [wrC_at]
theorem wfC_o {b : Nat} (nx : Int) (x : XP) {j : Nat} (h8 : j ≠ 8) (h9 : j ≠ 9) : (wfC b nx x).2 j = x.2 j := by
  unfold wfC
  simp only [wrC_o _ _ _ _ h8 h9]
theorem nxC_r {c : Vec} (hb : OKB c) (nw : Int) : 0 ≤ nxC c nw ∧ nxC c nw < 256 := by
  unfold nxC
  split
  · omega
  · split <;> omega
theorem writeFlagsC_ok {x : XP} (h : OKX x) : OKX (writeFlagsC x) := by
  unfold writeFlagsC
  split
  · obtain ⟨h1, h2⟩ := wfC_ok (Or.inr rfl) (nxC_r h.1.2.1 0) h
    refine ⟨h1, ?_⟩
    obtain ⟨f2, f3, f4, f5, f6⟩ := h2
    exact ⟨f2, f3, f4, f5, Or.inr (Or.inr rfl)⟩
  · obtain ⟨h1, h2⟩ := wfC_ok (Or.inl rfl) (nxC_r h.1.2.1 (x.2 6)) h
    refine ⟨h1, ?_⟩
    obtain ⟨f2, f3, f4, f5, f6⟩ := h2
    exact ⟨f2, f3, f4, f5, Or.inr (Or.inl rfl)⟩
/-- the pages alone are written -/
theorem writeFlagsC_at (x : XP) {j : Nat} (h : j < 56 ∨ 72 ≤ j) : (writeFlagsC x).1 j = x.1 j := by
  unfold writeFlagsC
  split
  · exact wfC_at _ _ (by omega)
  · exact wfC_at _ _ (by omega)
theorem writeFlagsC_o (x : XP) {j : Nat} (h6 : j ≠ 6) (h8 : j ≠ 8) (h9 : j ≠ 9) : (writeFlagsC x).2 j = x.2 j := by
  unfold writeFlagsC
  split
  · show set _ 6 1 j = _
    rw [set_ne _ _ h6, wfC_o _ _ h8 h9]
  · show set _ 6 0 j = _
    rw [set_ne _ _ h6, wfC_o _ _ h8 h9]
section CLS
variable {N i j : Nat} {σ : Sto} {x : XP}
theorem OKG_put (h : OKG σ j) : OKG (putC σ i x) j := by
  unfold OKG at h ⊢
  simp only [putC_o σ i x j (show 2 ≠ 6 by decide) (show 2 ≠ 7 by decide), putC_o σ i x j (show 3 ≠ 6 by decide) (show 3 ≠ 7 by decide), putC_o σ i x j (show 4 ≠ 6 by decide) (show 4 ≠ 7 by decide), putC_o σ i x j (show 5 ≠ 6 by decide) (show 5 ≠ 7 by decide)]
  exact h
/-- WHY by the bundle that machines know -/
abbrev whyS (σ : Sto) (c : Vec) (s : Nat) : Int := whyF (σ 2 1 0) (σ 3 1) (σ 4 1) c s
theorem put2 : putC σ i x 2 1 = σ 2 1 := putC_o σ i x 1 (by decide) (by decide)
theorem put3 : putC σ i x 3 1 = σ 3 1 := putC_o σ i x 1 (by decide) (by decide)
theorem put4 : putC σ i x 4 1 = σ 4 1 := putC_o σ i x 1 (by decide) (by decide)
theorem put5 : putC σ i x 5 1 = σ 5 1 := putC_o σ i x 1 (by decide) (by decide)
theorem p2_reason (s : Nat) (hs : s < 4) (hg : OKG σ 1) (hc : OKC x.1) : inv N mX2_reasonAgainst [vR 6 i, vI (s : Int)] (P (putC σ i x)) = some (some (vI (whyS σ x.1 s)), P (putC σ i x)) := by
  have h := s2_reason (N := N) (i := i) (σ := putC σ i x) s hs (OKG_put hg) (by rw [putC_7]; exact hc)
  rw [putC_7, put2, put3, put4] at h
  exact h
theorem p2_version (s : Nat) (hs : s < 4) (hc : OKC x.1) : inv N mX2_version [vR 6 i, vI (s : Int)] (P (putC σ i x)) = some (some (vI (x.1 (14 * s) - 1)), P (putC σ i x)) := by
  have h := s2_version (N := N) (i := i) (σ := putC σ i x) s hs (by rw [putC_7]; exact hc.1)
  rw [putC_7] at h
  exact h
theorem p2_cell (k : Int) (h0 : 0 ≤ k) (h1 : k < 107) : inv N mX2_cell [vR 6 i, vI k] (P (putC σ i x)) = some (some (vI (x.1 k.toNat)), P (putC σ i x)) := by
  rw [s2_cell k h0 h1, putC_7]
theorem p2_setCell (k v : Int) (h0 : 0 ≤ k) (h1 : k < 107) : inv N mX2_setCell [vR 6 i, vI k, vI v] (P (putC σ i x)) = some (none, P (putC σ i (set x.1 k.toNat v, x.2))) := by
  rw [s2_setCell k v h0 h1, putC_7, row_putC7]
theorem p2_slotFlags (k : Int) : inv N mX2_slotFlags [vR 6 i, vI k] (P (putC σ i x)) = some (some (vI (if k = 0 then x.2 2 else x.2 3)), P (putC σ i x)) := by
  rw [s2_slotFlags, putC_6]
theorem p2_setSlotFlags (k v : Int) : inv N mX2_setSlotFlags [vR 6 i, vI k, vI v] (P (putC σ i x)) = some (none, P (putC σ i (x.1, set x.2 (if k = 0 then 2 else 3) v))) := by
  rw [s2_setSlotFlags, putC_6, row_putC6]
theorem p2_writeFlags (h : OKX x) : inv N mX2_writeFlags [vR 6 i] (P (putC σ i x)) = some (none, P (putC σ i (writeFlagsC x))) := s2_writeFlags h.1.2.1 h.2
def standF (v : Int) : Int := if v % 16 = 0 then 0 else v / 16
def chosenC (g : Vec) : Int := if standF (g 2) = 0 ∧ standF (g 3) = 0 then -1 else if standF (g 2) < standF (g 3) then 1 else 0
theorem s2_standing (v : Int) (h0 : 0 ≤ v) (h1 : v < 256) : inv N mX2_standing [vI v] (P σ) = some (some (vI (standF v)), P σ) := by
  have e := shr32_div h0 (by omega) 4 (by omega)
  rw [iX2_standing, eX2_standing_0, bAnd_15]
  unfold standF
  split
  · rfl
  · rw [show ((4 : Nat) : Int) = 4 from rfl] at e
    rw [e]
    rfl
theorem p2_chosen (hf : OKF x.2) : inv N mX2_chosenSlot [vR 6 i] (P (putC σ i x)) = some (some (vI (chosenC x.2)), P (putC σ i x)) := by
  obtain ⟨f2, f3, -⟩ := hf
  rw [iX2_chosenSlot, eX2_chosenSlot_0, putC_6, s2_standing _ f2.1 f2.2, bnd_s, push_s, eX2_chosenSlot_3, putC_6, s2_standing _ f3.1 f3.2, bnd_s, push_s, eX2_chosenSlot_7]
  unfold chosenC
  generalize standF (x.2 2) = p
  generalize standF (x.2 3) = q
  by_cases h1 : p = 0
  · rw [if_pos h1]
    by_cases h2 : q = 0
    · rw [if_pos h2, if_pos (show p = 0 ∧ q = 0 from ⟨h1, h2⟩)]
    · rw [if_neg h2, if_neg (show ¬ (p = 0 ∧ q = 0) from fun z => h2 z.2)]
      by_cases h3 : p < q
      · rw [if_pos h3, if_pos h3]
      · rw [if_neg h3, if_neg h3]
  · rw [if_neg h1, if_neg (show ¬ (p = 0 ∧ q = 0) from fun z => h1 z.1)]
    by_cases h3 : p < q
    · rw [if_pos h3, if_pos h3]
    · rw [if_neg h3, if_neg h3]
theorem standF_0 {v : Int} (h : 0 ≤ v) : 0 ≤ standF v ∧ (v % 16 = 0 → standF v = 0) := by
  unfold standF
  split
  · exact ⟨by omega, fun _ => rfl⟩
  · exact ⟨by omega, fun z => by omega⟩
theorem chosenC_c {g : Vec} (h : OKF g) : chosenC g = -1 ∨ (chosenC g = 0 ∧ ¬ g 2 % 16 = 0) ∨ (chosenC g = 1 ∧ ¬ g 3 % 16 = 0) := by
  obtain ⟨f2, f3, -⟩ := h
  obtain ⟨a1, a2⟩ := standF_0 f2.1
  obtain ⟨b1, b2⟩ := standF_0 f3.1
  unfold chosenC
  generalize standF (g 2) = p at a1 a2
  generalize standF (g 3) = q at b1 b2
  by_cases h1 : p = 0 ∧ q = 0
  · rw [if_pos h1]
    exact Or.inl rfl
  · rw [if_neg h1]
    by_cases h2 : p < q
    · rw [if_pos h2]
      exact Or.inr (Or.inr ⟨rfl, fun z => by have := b2 z; omega⟩)
    · rw [if_neg h2]
      exact Or.inr (Or.inl ⟨rfl, fun z => by have := a2 z; omega⟩)
def countTryC (s : Nat) (x : XP) : XP := (x.1, set (set (if x.2 (2 + s) % 2 = 0 then set x.2 (2 + s) (x.2 (2 + s) - 2) else x.2) 4 (min (x.2 4 + 1) 255)) 5 (s : Int))
theorem p2_countTry (s : Nat) (hs : s < 2) (hf : OKF x.2) : inv N mX2_countTry [vR 6 i, vI (s : Int)] (P (putC σ i x)) = some (none, P (putC σ i (countTryC s x))) := by
  obtain ⟨f2, f3, f4, f5, f6⟩ := hf
  have w4 : w32 (x.2 4 + 1) = x.2 4 + 1 := w32i (by omega) (by omega)
  rw [iX2_countTry, eX2_countTry_0, p2_slotFlags, bnd_s, push_s, eX2_countTry_3]
  unfold countTryC
  rcases (show s = 0 ∨ s = 1 by omega) with rfl | rfl
  · simp only [Int.cast_ofNat_Int, ↓reduceIte, bAnd_1, Nat.add_zero]
    by_cases h : x.2 2 % 2 = 0
    · simp only [h, ↓reduceIte, p2_setSlotFlags, bnd_s, push_n, eX2_countTry_14, w32i (x := x.2 2 - 2) (by omega) (by omega), sup_row, row_putC6, putC_6, set_at, Nat.reduceEqDiff, w4]
    · simp only [h, ↓reduceIte, eX2_countTry_14, sup_row, row_putC6, putC_6, w4]
  · simp only [Int.cast_ofNat_Int, Int.reduceEq, ↓reduceIte, bAnd_1, Nat.reduceAdd]
    by_cases h : x.2 3 % 2 = 0
    · simp only [h, ↓reduceIte, Int.reduceEq, p2_setSlotFlags, bnd_s, push_n, eX2_countTry_14, w32i (x := x.2 3 - 2) (by omega) (by omega), sup_row, row_putC6, putC_6, set_at, Nat.reduceEqDiff, w4]
    · simp only [h, ↓reduceIte, eX2_countTry_14, sup_row, row_putC6, putC_6, w4]
theorem okf_set {g : Vec} (h : OKF g) {k : Nat} {v : Int} (h2 : k < 6 → 0 ≤ v ∧ v < 256) (h6 : k ≠ 6) : OKF (set g k v) := by
  obtain ⟨f2, f3, f4, f5, f6⟩ := h
  unfold OKF set
  refine ⟨?_, ?_, ?_, ?_, ?_⟩
  · split
    · exact h2 (by omega)
    · exact f2
  · split
    · exact h2 (by omega)
    · exact f3
  · split
    · exact h2 (by omega)
    · exact f4
  · split
    · exact h2 (by omega)
    · exact f5
  · rw [if_neg (by omega)]
    exact f6
theorem countTryC_ok (s : Nat) (hs : s < 2) (h : OKX x) (hr : ¬ x.2 (2 + s) % 16 = 0) : OKX (countTryC s x) := by
  obtain ⟨hc, hf⟩ := h
  have hf0 := hf
  obtain ⟨f2, f3, f4, f5, f6⟩ := hf0
  refine ⟨hc, ?_⟩
  have h9 : 0 ≤ x.2 (2 + s) ∧ x.2 (2 + s) < 256 := by
    rcases (show s = 0 ∨ s = 1 by omega) with rfl | rfl
    · exact f2
    · exact f3
  refine okf_set (okf_set ?_ (fun _ => ?_) (by omega)) (fun _ => by omega) (by omega)
  · split
    · exact okf_set hf (fun _ => by omega) (by omega)
    · exact hf
  · omega
/-- a start is noted: what, and its version -/
def noteStartC (what ver : Int) (x : XP) : XP := if x.2 9 = 0 then (set (set (set (set (set (set x.1 (83 + 2 * (x.1 82 % 12).toNat) what) (83 + 2 * (x.1 82 % 12).toNat + 1) ver) 82 (x.1 82 + 1)) 78 what) 79 0) 80 0, x.2) else x
theorem p2_noteStart (what ver : Int) (h0 : 0 ≤ x.1 82) (h1 : x.1 82 < 2147483647) : inv N mX2_noteStart [vR 6 i, vI what, vI ver] (P (putC σ i x)) = some (none, P (putC σ i (noteStartC what ver x))) := by
  have t : (x.1 82).tmod 12 = x.1 82 % 12 := Int.tmod_eq_emod_of_nonneg h0
  rw [iX2_noteStart, eX2_noteStart_0, putC_6]
  unfold noteStartC
  by_cases h : x.2 9 = 0
  case neg => rw [if_neg h, if_neg h]
  rw [if_pos h, if_pos h, p2_cell _ (by omega) (by omega), bnd_s, push_s, eX2_noteStart_7, show (82 : Int).toNat = 82 from rfl, t]
  have e1 : (83 + 2 * (x.1 82 % 12)).toNat = 83 + 2 * (x.1 82 % 12).toNat := by omega
  have e2 : (83 + 2 * (x.1 82 % 12) + 1).toNat = 83 + 2 * (x.1 82 % 12).toNat + 1 := by omega
  simp (disch := omega) only [w32i, p2_setCell, bnd_s, push_n, eX2_noteStart_20, eX2_noteStart_26, eX2_noteStart_32, eX2_noteStart_36, eX2_noteStart_40, eX2_noteStart_44, e1, e2, Int.reduceToNat]
theorem noteStartC_ok {what ver : Int} (h : OKX x) (hw : -1 ≤ what ∧ what ≤ 2) : OKX (noteStartC what ver x) := by
  unfold noteStartC
  split
  · exact ⟨okc_hi (okc_hi (okc_set (okc_hi (okc_hi (okc_hi h.1 (by omega)) (by omega)) (by omega)) (by omega) (fun z => by omega) (fun z => by omega) (fun _ => hw)) (by omega)) (by omega), h.2⟩
  · exact h
/-- the slot that starts: its turns -/
def startL (W : Vec → Nat → Int) : Nat → XP → Int × XP
  | 0, x => (-1, x)
  | m + 1, x => if chosenC x.2 = -1 then (-1, x) else if W x.1 (chosenC x.2).toNat = 0 then (chosenC x.2, noteStartC (chosenC x.2) ((writeFlagsC (countTryC (chosenC x.2).toNat x)).1 (14 * (chosenC x.2).toNat) - 1) (writeFlagsC (countTryC (chosenC x.2).toNat x))) else startL W m (writeFlagsC (x.1, set x.2 (2 + (chosenC x.2).toNat) 0))
theorem s2_start_loop (hg : OKG σ 1) (x1 : Int) : ∀ (m : Nat) (x : XP) (t : Int) (x3 : MV), t = 2 - (m : Int) → m ≤ 2 → OKX x → 0 ≤ x.1 82 → x.1 82 < 2147483647 → ev N mX2_startSlot 12 [vR 6 i, vI x1, vI t, x3] [] (P (putC σ i x)) = some (some (vI (startL (whyS σ) m x).1), P (putC σ i (startL (whyS σ) m x).2)) := by
  intro m
  induction m with
  | zero =>
    intro x t x3 ht hm hx s0 s1
    rw [eX2_startSlot_12, if_neg (by omega)]
    rfl
  | succ m ih =>
    intro x t x3 ht hm hx s0 s1
    rw [eX2_startSlot_12, if_pos (by omega), p2_chosen hx.2, bnd_s, push_s, eX2_startSlot_17]
    unfold startL
    by_cases h1 : chosenC x.2 = -1
    · rw [if_pos h1, if_pos h1]
    rw [if_neg h1, if_neg h1]
    obtain ⟨s, hs, hcs, hr⟩ : ∃ s : Nat, s < 2 ∧ chosenC x.2 = (s : Int) ∧ ¬ x.2 (2 + s) % 16 = 0 := by
      rcases chosenC_c hx.2 with h | ⟨h, h2⟩ | ⟨h, h2⟩
      · exact absurd h h1
      · exact ⟨0, by omega, h, h2⟩
      · exact ⟨1, by omega, h, h2⟩
    rw [hcs, Int.toNat_natCast, p2_reason s (by omega) hg hx.1, bnd_s, push_s, eX2_startSlot_26]
    by_cases h2 : whyS σ x.1 s = 0
    · have hx1 := countTryC_ok s hs hx hr
      have hx2 := writeFlagsC_ok hx1
      have e82 : (writeFlagsC (countTryC s x)).1 82 = x.1 82 := writeFlagsC_at _ (Or.inr (by omega))
      rw [if_pos h2, if_pos h2, p2_countTry s hs hx.2, bnd_s, push_n, eX2_startSlot_30, p2_writeFlags hx1, bnd_s, push_n, eX2_startSlot_32, p2_version s (by omega) hx2.1, bnd_s, push_s, eX2_startSlot_37, p2_noteStart _ _ (by rw [e82]; exact s0) (by rw [e82]; exact s1), bnd_s, push_n, eX2_startSlot_38]
    · have hx1 : OKX (x.1, set x.2 (2 + s) 0) := ⟨hx.1, okf_set hx.2 (fun _ => by omega) (by omega)⟩
      have e82 : (writeFlagsC (x.1, set x.2 (2 + s) 0)).1 82 = x.1 82 := writeFlagsC_at _ (Or.inr (by omega))
      have e2 : (if (s : Int) = 0 then 2 else 3) = 2 + s := by
        rcases (show s = 0 ∨ s = 1 by omega) with rfl | rfl <;> rfl
      rw [if_neg h2, if_neg h2, p2_setSlotFlags, e2, bnd_s, push_n, eX2_startSlot_44, p2_writeFlags hx1, bnd_s, push_n, eX2_startSlot_46, w32i (by omega) (by omega)]
      exact ih _ _ _ (by omega) (by omega) (writeFlagsC_ok hx1) (by rw [e82]; exact s0) (by rw [e82]; exact s1)
def startSlotC (W : Vec → Nat → Int) (lim button : Int) (x : XP) : Int × XP := if button = 0 ∧ x.2 4 < lim then startL W 2 x else (-1, x)
theorem p2_startSlot (hg : OKG σ 1) (button : Int) (hx : OKX x) (s0 : 0 ≤ x.1 82) (s1 : x.1 82 < 2147483647) : inv N mX2_startSlot [vR 6 i, vI button] (P (putC σ i x)) = some (some (vI (startSlotC (whyS σ) (σ 2 1 2) button x).1), P (putC σ i (startSlotC (whyS σ) (σ 2 1 2) button x).2)) := by
  rw [iX2_startSlot, eX2_startSlot_0, putC_6, put2]
  unfold startSlotC
  by_cases h1 : button = 0
  · rw [if_pos h1]
    by_cases h2 : x.2 4 < σ 2 1 2
    · rw [if_pos h2, if_pos ⟨h1, h2⟩]
      exact s2_start_loop hg button 2 x 0 vX rfl (by omega) hx s0 s1
    · rw [if_neg h2, if_neg (fun z => h2 z.2)]
  · rw [if_neg h1, if_neg (fun z => h1 z.1)]
def startRecoveryC (cp : Int) (x : XP) : Int × XP := if cp = -1 then (3, x) else (2, noteStartC 2 ((writeFlagsC (x.1, set x.2 5 2)).1 (14 * cp.toNat) - 1) (writeFlagsC (x.1, set x.2 5 2)))
theorem p2_startRecovery (cp : Int) (hcp : cp = -1 ∨ cp = 2 ∨ cp = 3) (hx : OKX x) (s0 : 0 ≤ x.1 82) (s1 : x.1 82 < 2147483647) : inv N mX2_startRecovery [vR 6 i, vI cp] (P (putC σ i x)) = some (some (vI (startRecoveryC cp x).1), P (putC σ i (startRecoveryC cp x).2)) := by
  have hx1 : OKX (x.1, set x.2 5 2) := ⟨hx.1, okf_set hx.2 (fun _ => by omega) (by omega)⟩
  have hx2 := writeFlagsC_ok hx1
  have e82 : (writeFlagsC (x.1, set x.2 5 2)).1 82 = x.1 82 := writeFlagsC_at _ (Or.inr (by omega))
  unfold startRecoveryC
  by_cases h1 : cp = -1
  · rw [if_pos h1, h1]
    simp (disch := omega) only [iX2_startRecovery, eX2_startRecovery_0, eX2_startRecovery_10, eX2_startRecovery_15, eX2_startRecovery_16, bnd_s, bnd_n, push_s, push_n, w32i, ↓if_pos, ↓if_neg, Int.reduceAdd, Int.reduceMul, Int.reduceSub, Int.reduceToNat, Int.reduceNeg, Nat.reduceAdd, Nat.reduceMul, sup_row, row_same, row_row]
  · obtain ⟨s, hs, rfl⟩ : ∃ s : Nat, s < 4 ∧ cp = (s : Int) := by
      rcases hcp with h | h | h
      · exact absurd h h1
      · exact ⟨2, by omega, h⟩
      · exact ⟨3, by omega, h⟩
    have v := p2_version (N := N) (i := i) (σ := σ) s hs hx2.1
    have n := p2_noteStart (N := N) (i := i) (σ := σ) (x := writeFlagsC (x.1, set x.2 5 2)) 2 ((writeFlagsC (x.1, set x.2 5 2)).1 (14 * s) - 1) (by rw [e82]; exact s0) (by rw [e82]; exact s1)
    rw [if_neg h1, Int.toNat_natCast]
    simp only [iX2_startRecovery, eX2_startRecovery_0, eX2_startRecovery_10, eX2_startRecovery_15, eX2_startRecovery_16, h1, ↓reduceIte, sup_row, row_putC6, putC_6, p2_writeFlags hx1, v, n, bnd_s, push_s, push_n]
end CLS
