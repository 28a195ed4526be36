/-! THE CLASS: writes -/
abbrev XP : Type := Vec × Vec
/-- the machine i holds these cells and these fields -/
def putC (σ : Sto) (i : Nat) (x : XP) : Sto := row (row σ 7 i x.1) 6 i x.2
theorem putC_7 (σ : Sto) (i : Nat) (x : XP) : putC σ i x 7 i = x.1 := by simp [putC, row]
theorem putC_6 (σ : Sto) (i : Nat) (x : XP) : putC σ i x 6 i = x.2 := by simp [putC, row]
theorem putC_o (σ : Sto) (i : Nat) (x : XP) {k : Nat} (k' : Nat) (h6 : k ≠ 6) (h7 : k ≠ 7) : putC σ i x k k' = σ k k' := by simp [putC, row, h6, h7]
theorem putC_i (σ : Sto) (i : Nat) (x : XP) {k k' : Nat} (h : k' ≠ i) : putC σ i x k k' = σ k k' := by simp [putC, row, h]
theorem putC_put (σ : Sto) (i : Nat) (x y : XP) : putC (putC σ i x) i y = putC σ i y := by
  funext k k'
  unfold putC row
  by_cases h : k' = i
  · by_cases h6 : k = 6
    · simp [h, h6]
    · by_cases h7 : k = 7
      · simp [h, h7]
      · simp [h6, h7]
  · simp [h]
theorem putC_id (σ : Sto) (i : Nat) : putC σ i (σ 7 i, σ 6 i) = σ := by
  funext k k'
  unfold putC row
  by_cases h6 : k = 6 ∧ k' = i
  · simp [h6]
  · by_cases h7 : k = 7 ∧ k' = i
    · simp [h7]
    · simp [h6, h7]
theorem row_putC7 (σ : Sto) (i : Nat) (x : XP) (c : Vec) : row (putC σ i x) 7 i c = putC σ i (c, x.2) := by
  funext k k'
  unfold putC row
  by_cases h6 : k = 6 ∧ k' = i
  · simp [h6]
  · by_cases h7 : k = 7 ∧ k' = i
    · simp [h7]
    · simp [h6, h7]
theorem row_putC6 (σ : Sto) (i : Nat) (x : XP) (g : Vec) : row (putC σ i x) 6 i g = putC σ i (x.1, g) := by
  funext k k'
  unfold putC row
  by_cases h6 : k = 6 ∧ k' = i
  · simp [h6]
  · simp [h6]
/-- so many entries from a place on -/
def fill (c : Vec) (a n : Nat) (v : Int) : Vec := fun j => if a ≤ j ∧ j < a + n then v else c j
theorem fill_0 (c : Vec) (a : Nat) (v : Int) : fill c a 0 v = c := by
  funext j
  unfold fill
  rw [if_neg (by omega)]
theorem fill_s (c : Vec) (a n : Nat) (v : Int) : fill (set c a v) (a + 1) n v = fill c a (n + 1) v := by
  funext j
  unfold fill set
  by_cases h : j = a
  · subst h
    rw [if_neg (by omega), if_pos rfl, if_pos (by omega)]
  · by_cases h2 : a + 1 ≤ j ∧ j < a + 1 + n
    · rw [if_pos h2, if_pos (by omega)]
    · rw [if_neg h2, if_neg h, if_neg (by omega)]
theorem fill_1 (c : Vec) (a : Nat) (v : Int) : fill c a 1 v = set c a v := by
  funext j
  unfold fill set
  by_cases h : j = a
  · rw [if_pos (by omega), if_pos h]
  · rw [if_neg (by omega), if_neg h]
/-- one WRITE -/
def wrC (a n : Nat) (v : Int) (x : XP) : XP := if ¬ x.2 7 = -1 ∧ ¬ x.2 8 < x.2 7 then (x.1, set x.2 9 1) else (fill x.1 a n v, set x.2 8 (w32 (x.2 8 + 1)))
theorem wrC_o (a n : Nat) (v : Int) (x : XP) {j : Nat} (h8 : j ≠ 8) (h9 : j ≠ 9) : (wrC a n v x).2 j = x.2 j := by
  unfold wrC
  split
  · exact set_ne _ _ h9
  · exact set_ne _ _ h8
section CLS
variable {N i j : Nat} {σ : Sto} {x : XP}
theorem s2_wr_loop (a n : Nat) (ha : a + n ≤ 107) (v : Int) : ∀ (m k : Nat) (y : XP), k + m = a + n → ev N mX2_write 21 [vR 6 i, vI (a : Int), vI (n : Int), vI v, vI (k : Int)] [] (P (putC σ i y)) = some (none, P (putC σ i (fill y.1 k m v, y.2))) := by
  intro m
  induction m with
  | zero =>
    intro k y hk
    rw [eX2_write_21, w32i (x := (a : Int) + (n : Int)) (by omega) (by omega), if_neg (by omega), fill_0]
  | succ m ih =>
    intro k y hk
    rw [eX2_write_21, w32i (x := (a : Int) + (n : Int)) (by omega) (by omega), if_pos (by omega), if_neg (by omega), if_pos (show (k : Int) < 107 by omega), if_neg (by omega), if_pos (show (k : Int) < 107 by omega), w32i (by omega) (by omega), sup_row, row_putC7, putC_7, Int.toNat_natCast]
    have := ih (k + 1) (set y.1 k v, y.2) (by omega)
    rw [Int.natCast_add, Int.cast_ofNat_Int] at this
    rw [this, fill_s]
theorem s2_write (a n : Nat) (ha : a + n ≤ 107) (v : Int) : inv N mX2_write [vR 6 i, vI (a : Int), vI (n : Int), vI v] (P (putC σ i x)) = some (none, P (putC σ i (wrC a n v x))) := by
  rw [iX2_write, eX2_write_0, putC_6]
  unfold wrC
  by_cases h1 : x.2 7 = -1
  · rw [if_pos h1, if_neg (by omega), sup_row, row_putC6, putC_6, s2_wr_loop a n ha v n a _ rfl]
  · rw [if_neg h1]
    by_cases h2 : x.2 8 < x.2 7
    · rw [if_pos h2, if_neg (by omega), sup_row, row_putC6, putC_6, s2_wr_loop a n ha v n a _ rfl]
    · rw [if_neg h2, if_pos ⟨h1, h2⟩, sup_row, row_putC6, putC_6]
/-- FLAGS are written to a page, with a sequence -/
def wfC (b : Nat) (nx : Int) (x : XP) : XP :=
  wrC (b + 7) 1 ((165 + 2 * nx + 3 * x.2 2 + 4 * x.2 3 + 5 * x.2 4 + 6 * x.2 5) % 256) (wrC (b + 6) 1 ((165 + 2 * nx + 3 * x.2 2 + 4 * x.2 3 + 5 * x.2 4 + 6 * x.2 5) / 256)
    (wrC (b + 5) 1 (x.2 5) (wrC (b + 4) 1 (x.2 4) (wrC (b + 3) 1 (x.2 3) (wrC (b + 2) 1 (x.2 2) (wrC (b + 1) 1 nx (wrC b 1 165 (wrC b 8 255 x))))))))
def nxC (c : Vec) (nw : Int) : Int := if nw = -1 then 0 else if nw = 0 then (c 57 + 1) % 256 else (c 65 + 1) % 256
def writeFlagsC (x : XP) : XP :=
  if x.2 6 = 0 then ((wfC 64 (nxC x.1 0) x).1, set (wfC 64 (nxC x.1 0) x).2 6 1) else ((wfC 56 (nxC x.1 (x.2 6)) x).1, set (wfC 56 (nxC x.1 (x.2 6)) x).2 6 0)
/-- the fields of a machine that holds flags -/
def OKF (g : Vec) : Prop := (0 ≤ g 2 ∧ g 2 < 256) ∧ (0 ≤ g 3 ∧ g 3 < 256) ∧ (0 ≤ g 4 ∧ g 4 < 256) ∧ (0 ≤ g 5 ∧ g 5 < 256) ∧ (g 6 = -1 ∨ g 6 = 0 ∨ g 6 = 1)
theorem s2_write1 (a : Nat) (ha : a < 107) (v : Int) : inv N mX2_write [vR 6 i, vI (a : Int), vI 1, vI v] (P (putC σ i x)) = some (none, P (putC σ i (wrC a 1 v x))) := s2_write a 1 (by omega) v
theorem sm_facts {sm : Int} (h0 : 0 ≤ sm) (h1 : sm < 10000) : w32 (sm.tdiv 256) = sm / 256 ∧ sm.tmod 256 = sm % 256 := by
  have t1 : sm.tdiv 256 = sm / 256 := Int.tdiv_eq_ediv_of_nonneg h0
  have t2 : sm.tmod 256 = sm % 256 := Int.tmod_eq_emod_of_nonneg h0
  refine ⟨?_, t2⟩
  rw [t1]
  exact w32i (by omega) (by omega)
theorem sm_range {g : Vec} {nx : Int} (hx : OKF g) (h0 : 0 ≤ nx ∧ nx < 256) : 0 ≤ 165 + 2 * nx + 3 * g 2 + 4 * g 3 + 5 * g 4 + 6 * g 5 ∧ 165 + 2 * nx + 3 * g 2 + 4 * g 3 + 5 * g 4 + 6 * g 5 < 10000 := by
  obtain ⟨f2, f3, f4, f5, f6⟩ := hx
  omega
theorem s2_wf_tail56 (x1 nx : Int) (hx : OKF x.2) (h0 : 0 ≤ nx ∧ nx < 256) : ev N mX2_writeFlags 59 [vR 6 i, vI x1, vI nx, vI 56, vI (165 + 2 * nx + 3 * x.2 2 + 4 * x.2 3 + 5 * x.2 4 + 6 * x.2 5)] [] (P (putC σ i (wrC 56 8 255 x))) = some (none, P (putC σ i ((wfC 56 nx x).1, set (wfC 56 nx x).2 6 x1))) := by
  have q0 := fun (y : XP) (v : Int) => s2_write1 (N := N) (i := i) (σ := σ) (x := y) 56 (by decide) v
  have q1 := fun (y : XP) (v : Int) => s2_write1 (N := N) (i := i) (σ := σ) (x := y) 57 (by decide) v
  have q2 := fun (y : XP) (v : Int) => s2_write1 (N := N) (i := i) (σ := σ) (x := y) 58 (by decide) v
  have q3 := fun (y : XP) (v : Int) => s2_write1 (N := N) (i := i) (σ := σ) (x := y) 59 (by decide) v
  have q4 := fun (y : XP) (v : Int) => s2_write1 (N := N) (i := i) (σ := σ) (x := y) 60 (by decide) v
  have q5 := fun (y : XP) (v : Int) => s2_write1 (N := N) (i := i) (σ := σ) (x := y) 61 (by decide) v
  have q6 := fun (y : XP) (v : Int) => s2_write1 (N := N) (i := i) (σ := σ) (x := y) 62 (by decide) v
  have q7 := fun (y : XP) (v : Int) => s2_write1 (N := N) (i := i) (σ := σ) (x := y) 63 (by decide) v
  simp only [Int.cast_ofNat_Int] at q0 q1 q2 q3 q4 q5 q6 q7
  obtain ⟨hs, hs2⟩ := sm_range hx h0
  unfold wfC
  generalize 165 + 2 * nx + 3 * x.2 2 + 4 * x.2 3 + 5 * x.2 4 + 6 * x.2 5 = sm at hs hs2 ⊢
  obtain ⟨t1, t2⟩ := sm_facts hs hs2
  clear hx h0 hs hs2
  have w1 : w32 (56 + 1) = 57 := rfl
  have w2 : w32 (56 + 2) = 58 := rfl
  have w3 : w32 (56 + 3) = 59 := rfl
  have w4 : w32 (56 + 4) = 60 := rfl
  have w5 : w32 (56 + 5) = 61 := rfl
  have w6 : w32 (56 + 6) = 62 := rfl
  have w7 : w32 (56 + 7) = 63 := rfl
  rw [eX2_writeFlags_59, q0, bnd_s, push_n, eX2_writeFlags_64, w1, q1, bnd_s, push_n, eX2_writeFlags_71, w2, q2, bnd_s, push_n, eX2_writeFlags_79, w3, q3, bnd_s, push_n, eX2_writeFlags_87, w4, q4, bnd_s, push_n, eX2_writeFlags_95, w5, q5, bnd_s, push_n,
    eX2_writeFlags_103, w6, t1, q6, bnd_s, push_n, eX2_writeFlags_112, w7, t2, q7, bnd_s, push_n, eX2_writeFlags_121, sup_row, row_putC6]
  simp only [putC_6, wrC_o, ne_eq, Nat.reduceEqDiff, not_false_eq_true, Nat.reduceAdd]
theorem s2_wf_tail64 (x1 nx : Int) (hx : OKF x.2) (h0 : 0 ≤ nx ∧ nx < 256) : ev N mX2_writeFlags 59 [vR 6 i, vI x1, vI nx, vI 64, vI (165 + 2 * nx + 3 * x.2 2 + 4 * x.2 3 + 5 * x.2 4 + 6 * x.2 5)] [] (P (putC σ i (wrC 64 8 255 x))) = some (none, P (putC σ i ((wfC 64 nx x).1, set (wfC 64 nx x).2 6 x1))) := by
  have q0 := fun (y : XP) (v : Int) => s2_write1 (N := N) (i := i) (σ := σ) (x := y) 64 (by decide) v
  have q1 := fun (y : XP) (v : Int) => s2_write1 (N := N) (i := i) (σ := σ) (x := y) 65 (by decide) v
  have q2 := fun (y : XP) (v : Int) => s2_write1 (N := N) (i := i) (σ := σ) (x := y) 66 (by decide) v
  have q3 := fun (y : XP) (v : Int) => s2_write1 (N := N) (i := i) (σ := σ) (x := y) 67 (by decide) v
  have q4 := fun (y : XP) (v : Int) => s2_write1 (N := N) (i := i) (σ := σ) (x := y) 68 (by decide) v
  have q5 := fun (y : XP) (v : Int) => s2_write1 (N := N) (i := i) (σ := σ) (x := y) 69 (by decide) v
  have q6 := fun (y : XP) (v : Int) => s2_write1 (N := N) (i := i) (σ := σ) (x := y) 70 (by decide) v
  have q7 := fun (y : XP) (v : Int) => s2_write1 (N := N) (i := i) (σ := σ) (x := y) 71 (by decide) v
  simp only [Int.cast_ofNat_Int] at q0 q1 q2 q3 q4 q5 q6 q7
  obtain ⟨hs, hs2⟩ := sm_range hx h0
  unfold wfC
  generalize 165 + 2 * nx + 3 * x.2 2 + 4 * x.2 3 + 5 * x.2 4 + 6 * x.2 5 = sm at hs hs2 ⊢
  obtain ⟨t1, t2⟩ := sm_facts hs hs2
  clear hx h0 hs hs2
  have w1 : w32 (64 + 1) = 65 := rfl
  have w2 : w32 (64 + 2) = 66 := rfl
  have w3 : w32 (64 + 3) = 67 := rfl
  have w4 : w32 (64 + 4) = 68 := rfl
  have w5 : w32 (64 + 5) = 69 := rfl
  have w6 : w32 (64 + 6) = 70 := rfl
  have w7 : w32 (64 + 7) = 71 := rfl
  rw [eX2_writeFlags_59, q0, bnd_s, push_n, eX2_writeFlags_64, w1, q1, bnd_s, push_n, eX2_writeFlags_71, w2, q2, bnd_s, push_n, eX2_writeFlags_79, w3, q3, bnd_s, push_n, eX2_writeFlags_87, w4, q4, bnd_s, push_n, eX2_writeFlags_95, w5, q5, bnd_s, push_n,
    eX2_writeFlags_103, w6, t1, q6, bnd_s, push_n, eX2_writeFlags_112, w7, t2, q7, bnd_s, push_n, eX2_writeFlags_121, sup_row, row_putC6]
  simp only [putC_6, wrC_o, ne_eq, Nat.reduceEqDiff, not_false_eq_true, Nat.reduceAdd]
theorem s2_writeFlags (hc : OKB x.1) (hx : OKF x.2) : inv N mX2_writeFlags [vR 6 i] (P (putC σ i x)) = some (none, P (putC σ i (writeFlagsC x))) := by
  have b57 := hc 57 (by omega) (by omega)
  have b65 := hc 65 (by omega) (by omega)
  have hx0 := hx
  obtain ⟨f2, f3, f4, f5, f6⟩ := hx
  have p56 := s2_write (N := N) (i := i) (σ := σ) (x := x) 56 8 (by omega) 255
  have p64 := s2_write (N := N) (i := i) (σ := σ) (x := x) 64 8 (by omega) 255
  simp only [Int.cast_ofNat_Int] at p56 p64
  have sq0 : inv N mX2_sequence [vR 6 i, vI 0] (P (putC σ i x)) = some (some (vI (x.1 57)), P (putC σ i x)) := by rw [s2_seq0, putC_7]
  have sq1 : inv N mX2_sequence [vR 6 i, vI 1] (P (putC σ i x)) = some (some (vI (x.1 65)), P (putC σ i x)) := by rw [s2_seq1, putC_7]
  have sm : ∀ nx : Int, 0 ≤ nx → nx < 256 → w32 (w32 (w32 (w32 (w32 (165 + w32 (2 * nx)) + w32 (3 * x.2 2)) + w32 (4 * x.2 3)) + w32 (5 * x.2 4)) + w32 (6 * x.2 5)) = 165 + 2 * nx + 3 * x.2 2 + 4 * x.2 3 + 5 * x.2 4 + 6 * x.2 5 := by
    intro nx n0 n1
    simp (disch := omega) only [w32i]
  have a1 : w32 (56 + w32 (1 * 8)) = 64 := rfl
  have a0 : w32 (56 + w32 (0 * 8)) = 56 := rfl
  unfold writeFlagsC
  rw [iX2_writeFlags, eX2_writeFlags_0, putC_6]
  rcases f6 with h | h | h
  · simp only [h, ↓reduceIte, Int.reduceEq, a0, sm 0 (by omega) (by omega), p56, bnd_s, push_n]
    exact s2_wf_tail56 0 0 hx0 (by omega)
  · simp only [h, ↓reduceIte, Int.reduceEq, Int.reduceNeg, sq0, bnd_s, push_s, eX2_writeFlags_17, putC_6, a1, p64, push_n]
    rw [w32i (x := x.1 57 + 1) (by omega) (by omega), bAnd_255, sm _ (by omega) (by omega)]
    exact s2_wf_tail64 1 _ hx0 (by omega)
  · simp only [h, ↓reduceIte, Int.reduceEq, Int.reduceNeg, sq1, bnd_s, push_s, eX2_writeFlags_17, putC_6, a0, p56, push_n]
    rw [w32i (x := x.1 65 + 1) (by omega) (by omega), bAnd_255, sm _ (by omega) (by omega)]
    exact s2_wf_tail56 0 _ hx0 (by omega)
end CLS
