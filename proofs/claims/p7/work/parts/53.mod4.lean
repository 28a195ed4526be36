/-! THE MODEL: flags are written -/
def OKFl (f : Vec) : Prop := (0 ≤ f 0 ∧ f 0 < 16) ∧ (0 ≤ f 1 ∧ f 1 < 16) ∧ (0 ≤ f 2 ∧ f 2 < 8) ∧ (0 ≤ f 3 ∧ f 3 < 8) ∧ (0 ≤ f 4 ∧ f 4 < 2) ∧ (0 ≤ f 5 ∧ f 5 < 2) ∧ (0 ≤ f 6 ∧ f 6 < 256) ∧ (0 ≤ f 7 ∧ f 7 < 256)
def sumV (f : Vec) (nx : Int) : Int := 165 + 2 * nx + 3 * (16 * f 0 + 2 * f 2 + f 4) + 4 * (16 * f 1 + 2 * f 3 + f 5) + 5 * f 6 + 6 * f 7
def ocV (o f : Vec) (nx : Int) : Vec := v8 o 165 nx (16 * f 0 + 2 * f 2 + f 4) (16 * f 1 + 2 * f 3 + f 5) (f 6) (f 7) (sumV f nx / 256) (sumV f nx % 256)
def toF (c : Vec) : Nat := if newestF c = 0 then 64 else 56
/-- so many writes out of a row -/
def wrL (b : Nat) (o : Vec) : Nat → Nat → Sto → Sto
  | 0, _, σ => σ
  | m + 1, k, σ => wrL b o m (k + 1) (wrM (b + k) 1 (o k) σ)
def wfM (σ : Sto) : Sto := wrL (toF (σ 40 0)) (ocV (σ 44 0) (σ 43 0) (nxC (σ 40 0) (newestF (σ 40 0)))) 8 0 (wrM (toF (σ 40 0)) 8 255 (row σ 44 0 (ocV (σ 44 0) (σ 43 0) (nxC (σ 40 0) (newestF (σ 40 0))))))
theorem KM_wrL (b : Nat) (o : Vec) : ∀ (m k : Nat) (σ : Sto), KM σ (wrL b o m k σ)
  | 0, _, σ => KM_refl σ
  | m + 1, k, σ => KM_trans (KM_wr _ _ _ _) (KM_wrL b o m (k + 1) _)
theorem KM_wf (σ : Sto) : KM σ (wfM σ) := KM_trans (KM_row _ 44 _ (by omega)) (KM_trans (KM_wr _ _ _ _) (KM_wrL _ _ _ _ _))
theorem wrM_o (a n : Nat) (v : Int) (σ : Sto) {k k' : Nat} (h : k = 43 ∨ k = 44 ∨ k = 45) : wrM a n v σ k k' = σ k k' := by
  have hc : (canM σ).2 k k' = σ k k' := by
    unfold canM
    split
    · split
      · show row (row σ 30 0 _) 40 0 _ k k' = _
        rw [row_at, if_neg (by omega), row_at, if_neg (by omega)]
      · show row σ 30 0 _ k k' = _
        rw [row_at, if_neg (by omega)]
    · rfl
  unfold wrM
  split
  · exact hc
  · rw [row_at, if_neg (by omega), hc]
section MOD
variable {N : Nat} {σ : Sto}
theorem s9_wf_loop (q to sm : Int) (b : Nat) (hb : b = 56 ∨ b = 64) (ht : 56 + 8 * to = (b : Int)) (o : Vec) : ∀ (m k : Nat) (τ : Sto), k + m = 8 → τ 44 0 = o → ev N mX9_writesFlags 141 [vR 30 0, vI q, vI to, vI sm, vI (k : Int)] [] (P τ) = some (none, P (wrL b o m k τ)) := by
  intro m
  induction m with
  | zero =>
    intro k τ hk ho
    rw [eX9_writesFlags_141, if_neg (by omega)]
    rfl
  | succ m ih =>
    intro k τ hk ho
    have e : w32 ((b : Int) + (k : Int)) = ((b + k : Nat) : Int) := by rw [w32i (by omega) (by omega)]; omega
    have e1 : w32 ((k : Int) + 1) = ((k + 1 : Nat) : Int) := by rw [w32i (by omega) (by omega)]; omega
    rw [eX9_writesFlags_141, if_pos (by omega), s9_pageAt _ (by omega) (by omega), bnd_s, push_s, eX9_writesFlags_147, if_neg (by omega), if_pos (by omega), ht, e, s9_writes _ (by omega), bnd_s, push_n, eX9_writesFlags_154, e1, Int.toNat_natCast, ih (k + 1) _ (by omega) (by rw [wrM_o _ _ _ _ (by omega), ho]), ho]
    rfl
theorem s9_wf_clear (q to sm : Int) (b : Nat) (hb : b = 56 ∨ b = 64) (ht : 56 + 8 * to = (b : Int)) : ∀ (m k : Nat) (τ : Sto), k + m = 8 → ev N mX9_writesFlags 126 [vR 30 0, vI q, vI to, vI sm, vI (k : Int)] [] (P τ) = ev N mX9_writesFlags 141 [vR 30 0, vI q, vI to, vI sm, vI 0] [] (P (row τ 40 0 (fill (τ 40 0) (b + k) m 255))) := by
  intro m
  induction m with
  | zero =>
    intro k τ hk
    rw [eX9_writesFlags_126, if_neg (by omega), fill_0, row_id]
  | succ m ih =>
    intro k τ hk
    have e : w32 ((b : Int) + (k : Int)) = ((b + k : Nat) : Int) := by rw [w32i (by omega) (by omega)]; omega
    have e1 : w32 ((k : Int) + 1) = ((k + 1 : Nat) : Int) := by rw [w32i (by omega) (by omega)]; omega
    rw [eX9_writesFlags_126, if_pos (by omega), s9_pageAt _ (by omega) (by omega), bnd_s, push_s, eX9_writesFlags_133, ht, e, if_neg (by omega), if_pos (by omega), e1, sup_row, ih (k + 1) _ (by omega), row_same, row_row, Int.toNat_natCast, show b + (k + 1) = b + k + 1 by omega, fill_s]
theorem s9_wf_sum (q to : Int) (o : Vec) (ho : σ 44 0 = o) (h : ∀ k, k < 6 → 0 ≤ o k ∧ o k < 256) : ev N mX9_writesFlags 91 [vR 30 0, vI q, vI to, vI 0, vI 0] [] (P σ) = ev N mX9_writesFlags 91 [vR 30 0, vI q, vI to, vI (o 0 + 2 * o 1 + 3 * o 2 + 4 * o 3 + 5 * o 4 + 6 * o 5), vI 6] [] (P σ) := by
  have st : ∀ (k : Nat) (s s' : Int), k < 6 → 0 ≤ s → s < 10000 → s' = s + ((k + 1 : Nat) : Int) * o k → ev N mX9_writesFlags 91 [vR 30 0, vI q, vI to, vI s, vI (k : Int)] [] (P σ) = ev N mX9_writesFlags 91 [vR 30 0, vI q, vI to, vI s', vI ((k + 1 : Nat) : Int)] [] (P σ) := by
    intro k s s' hk s0 s1 hs
    have hk2 := h k hk
    have e1 : w32 ((k : Int) + 1) = ((k + 1 : Nat) : Int) := by rw [w32i (by omega) (by omega)]; omega
    have hm : 0 ≤ ((k + 1 : Nat) : Int) * o k ∧ ((k + 1 : Nat) : Int) * o k < 2000 := by
      have : k = 0 ∨ k = 1 ∨ k = 2 ∨ k = 3 ∨ k = 4 ∨ k = 5 := by omega
      rcases this with rfl | rfl | rfl | rfl | rfl | rfl <;> omega
    rw [eX9_writesFlags_91, if_pos (by omega), if_neg (by omega), if_pos (by omega), e1, ho, Int.toNat_natCast, w32i (x := ((k + 1 : Nat) : Int) * o k) (by omega) (by omega), ← hs, w32i (x := s') (by omega) (by omega)]
  have h0 := h 0 (by omega)
  have h1 := h 1 (by omega)
  have h2 := h 2 (by omega)
  have h3 := h 3 (by omega)
  have h4 := h 4 (by omega)
  have h5 := h 5 (by omega)
  clear h ho
  have z := st 0 0 (o 0) (by omega) (by omega) (by omega) (by omega)
  simp only [Int.cast_ofNat_Int] at z
  rw [z, st 1 (o 0) (o 0 + 2 * o 1) (by omega) (by omega) (by omega) (by omega), st 2 _ (o 0 + 2 * o 1 + 3 * o 2) (by omega) (by omega) (by omega) (by omega), st 3 _ (o 0 + 2 * o 1 + 3 * o 2 + 4 * o 3) (by omega) (by omega) (by omega) (by omega), st 4 _ (o 0 + 2 * o 1 + 3 * o 2 + 4 * o 3 + 5 * o 4) (by omega) (by omega) (by omega) (by omega), st 5 _ (o 0 + 2 * o 1 + 3 * o 2 + 4 * o 3 + 5 * o 4 + 6 * o 5) (by omega) (by omega) (by omega) (by omega)]
  rfl
/-- behind the first two octets -/
theorem s9_wf_36 (q to nx : Int) (b : Nat) (hb : b = 56 ∨ b = 64) (ht : 56 + 8 * to = (b : Int)) (o : Vec) (hf : OKFl (σ 43 0)) (hn : 0 ≤ nx ∧ nx < 256) (h0 : σ 44 0 0 = 165) (h1 : σ 44 0 1 = nx) (hr : ∀ j, 8 ≤ j → σ 44 0 j = o j) : ev N mX9_writesFlags 36 [vR 30 0, vI q, vI to, vI 0, vX] [] (P σ) = some (none, P (wrL b (ocV o (σ 43 0) nx) 8 0 (wrM b 8 255 (row σ 44 0 (ocV o (σ 43 0) nx))))) := by
  have r43 : ∀ (g : Vec), (row σ 44 0 g) 43 0 = σ 43 0 := fun g => by rw [row_at, if_neg (by omega)]
  obtain ⟨f0, f1, f2, f3, f4, f5, f6, f7⟩ := hf
  have x0 : w32 (w32 (w32 (16 * σ 43 0 0) + w32 (2 * σ 43 0 2)) + σ 43 0 4) = 16 * σ 43 0 0 + 2 * σ 43 0 2 + σ 43 0 4 := by simp (disch := omega) only [w32i]
  have x1 : w32 (w32 (w32 (16 * σ 43 0 1) + w32 (2 * σ 43 0 3)) + σ 43 0 5) = 16 * σ 43 0 1 + 2 * σ 43 0 3 + σ 43 0 5 := by simp (disch := omega) only [w32i]
  have w00 : w32 (0 + 0) = 0 := rfl
  have w20 : w32 (2 + 0) = 2 := rfl
  have w40 : w32 (4 + 0) = 4 := rfl
  have w01 : w32 (0 + 1) = 1 := rfl
  have w21 : w32 (2 + 1) = 3 := rfl
  have w41 : w32 (4 + 1) = 5 := rfl
  have w11 : w32 (1 + 1) = 2 := rfl
  rw [eX9_writesFlags_36, if_pos (by omega), w00, w20, w40, w01, if_neg (by omega), if_pos (by omega), if_neg (by omega), if_pos (by omega), if_neg (by omega), if_pos (by omega), if_neg (by omega), if_pos (by omega)]
  simp only [Int.reduceToNat, x0, sup_row]
  rw [eX9_writesFlags_36, if_pos (by omega), w01, w21, w41, w11, if_neg (by omega), if_pos (by omega), if_neg (by omega), if_pos (by omega), if_neg (by omega), if_pos (by omega), if_neg (by omega), if_pos (by omega)]
  simp only [Int.reduceToNat, r43, x1, sup_row, row_same, row_row]
  rw [eX9_writesFlags_36, if_neg (by omega)]
  simp only [Int.reduceToNat, r43, sup_row, row_same, row_row]
  generalize hg : set (set (set (set (σ 44 0) 2 (16 * σ 43 0 0 + 2 * σ 43 0 2 + σ 43 0 4)) 3 (16 * σ 43 0 1 + 2 * σ 43 0 3 + σ 43 0 5)) 4 (σ 43 0 6)) 5 (σ 43 0 7) = g
  have g0 : g 0 = 165 := by rw [← hg, set_ne _ _ (by omega), set_ne _ _ (by omega), set_ne _ _ (by omega), set_ne _ _ (by omega), h0]
  have g1 : g 1 = nx := by rw [← hg, set_ne _ _ (by omega), set_ne _ _ (by omega), set_ne _ _ (by omega), set_ne _ _ (by omega), h1]
  have g2 : g 2 = 16 * σ 43 0 0 + 2 * σ 43 0 2 + σ 43 0 4 := by rw [← hg, set_ne _ _ (by omega), set_ne _ _ (by omega), set_ne _ _ (by omega), set_same]
  have g3 : g 3 = 16 * σ 43 0 1 + 2 * σ 43 0 3 + σ 43 0 5 := by rw [← hg, set_ne _ _ (by omega), set_ne _ _ (by omega), set_same]
  have g4 : g 4 = σ 43 0 6 := by rw [← hg, set_ne _ _ (by omega), set_same]
  have g5 : g 5 = σ 43 0 7 := by rw [← hg, set_same]
  have gr : ∀ j, 8 ≤ j → g j = o j := by
    intro j hj
    rw [← hg, set_ne _ _ (by omega), set_ne _ _ (by omega), set_ne _ _ (by omega), set_ne _ _ (by omega), hr j hj]
  clear hg h0 h1 hr x0 x1 w00 w20 w40 w01 w21 w41 w11
  have es : g 0 + 2 * g 1 + 3 * g 2 + 4 * g 3 + 5 * g 4 + 6 * g 5 = sumV (σ 43 0) nx := by
    unfold sumV
    rw [g0, g1, g2, g3, g4, g5]
  have hs : 0 ≤ sumV (σ 43 0) nx ∧ sumV (σ 43 0) nx < 10000 := by
    unfold sumV
    omega
  have hk : ∀ k, k < 6 → 0 ≤ g k ∧ g k < 256 := by
    intro k hk
    have : k = 0 ∨ k = 1 ∨ k = 2 ∨ k = 3 ∨ k = 4 ∨ k = 5 := by omega
    rcases this with rfl | rfl | rfl | rfl | rfl | rfl
    · rw [g0]; omega
    · rw [g1]; exact hn
    · rw [g2]; omega
    · rw [g3]; omega
    · rw [g4]; exact f6
    · rw [g5]; exact f7
  obtain ⟨t1, t2⟩ := sm_facts hs.1 hs.2
  have hoc : set (set g 6 (sumV (σ 43 0) nx / 256)) 7 (sumV (σ 43 0) nx % 256) = ocV o (σ 43 0) nx := by
    refine v8_eq ?_ ?_ ?_ ?_ ?_ ?_ ?_ ?_ ?_
    · rw [set_ne _ _ (by omega), set_ne _ _ (by omega), g0]
    · rw [set_ne _ _ (by omega), set_ne _ _ (by omega), g1]
    · rw [set_ne _ _ (by omega), set_ne _ _ (by omega), g2]
    · rw [set_ne _ _ (by omega), set_ne _ _ (by omega), g3]
    · rw [set_ne _ _ (by omega), set_ne _ _ (by omega), g4]
    · rw [set_ne _ _ (by omega), set_ne _ _ (by omega), g5]
    · rw [set_ne _ _ (by omega), set_same]
    · rw [set_same]
    · intro j hj
      rw [set_ne _ _ (by omega), set_ne _ _ (by omega), gr j hj]
  clear f0 f1 f2 f3 f4 f5 f6 f7 hs hn
  rw [s9_wf_sum q to g (by rw [row_same]) hk, es, eX9_writesFlags_91, if_neg (by omega)]
  simp only [Int.reduceToNat, t1, t2, sup_row, row_same, row_row]
  rw [hoc, s9_canWrite, bnd_s, push_s, eX9_writesFlags_123]
  have w44 := wrM_o b 8 255 (row σ 44 0 (ocV o (σ 43 0) nx)) (k := 44) (k' := 0) (by omega)
  rw [row_same] at w44
  have lp := fun τ h => s9_wf_loop (N := N) q to (sumV (σ 43 0) nx) b hb ht (ocV o (σ 43 0) nx) 8 0 τ rfl h
  have cl := fun τ => s9_wf_clear (N := N) q to (sumV (σ 43 0) nx) b hb ht 8 0 τ rfl
  simp only [Int.cast_ofNat_Int, Nat.add_zero] at lp cl
  rw [← lp _ w44]
  unfold wrM
  split
  · rfl
  · exact cl _
theorem s9_writesFlags (hb : OKB (σ 40 0)) (hf : OKFl (σ 43 0)) : inv N mX9_writesFlags [vR 30 0] (P σ) = some (none, P (wfM σ)) := by
  have b1 := hb 57 (by omega) (by omega)
  have b2 := hb 65 (by omega) (by omega)
  have r40 : ∀ (g : Vec), (row σ 44 0 g) 40 0 = σ 40 0 := fun g => by rw [row_at, if_neg (by omega)]
  have r43 : ∀ (g : Vec), (row σ 44 0 g) 43 0 = σ 43 0 := fun g => by rw [row_at, if_neg (by omega)]
  have m1 : w32 (σ 40 0 57 + 1) = σ 40 0 57 + 1 := w32i (by omega) (by omega)
  have m2 : w32 (σ 40 0 65 + 1) = σ 40 0 65 + 1 := w32i (by omega) (by omega)
  have m3 : (σ 40 0 57 + 1).tmod 256 = (σ 40 0 57 + 1) % 256 := tmod256 (by omega)
  have m4 : (σ 40 0 65 + 1).tmod 256 = (σ 40 0 65 + 1) % 256 := tmod256 (by omega)
  have go := fun (q to nx : Int) (b : Nat) (h1 : b = 56 ∨ b = 64) (h2 : 56 + 8 * to = (b : Int)) (h3 : 0 ≤ nx ∧ nx < 256) => s9_wf_36 (N := N) (σ := row σ 44 0 (set (set (σ 44 0) 0 165) 1 nx)) q to nx b h1 h2 (σ 44 0) (by rw [r43]; exact hf) h3 (by rw [row_same, set_ne _ _ (by omega), set_same]) (by rw [row_same, set_same]) (fun j hj => by rw [row_same, set_ne _ _ (by omega), set_ne _ _ (by omega)])
  simp only [r43, row_row] at go
  have n1 : 0 ≤ (σ 40 0 57 + 1) % 256 ∧ (σ 40 0 57 + 1) % 256 < 256 := by omega
  have n2 : 0 ≤ (σ 40 0 65 + 1) % 256 ∧ (σ 40 0 65 + 1) % 256 < 256 := by omega
  clear b1 b2
  rw [iX9_writesFlags, eX9_writesFlags_0, s9_newest hb, bnd_s, push_s, eX9_writesFlags_2]
  unfold wfM toF nxC
  rcases newestF_b (σ 40 0) with h | h | h
  · rw [h, if_neg (by omega), if_pos rfl, if_neg (by omega), if_pos rfl]
    simp only [Int.reduceToNat, sup_row, row_same, row_row]
    exact go (-1) 0 0 56 (Or.inl rfl) rfl (by omega)
  · rw [h, if_pos rfl, if_neg (by omega), if_pos rfl, if_neg (by omega), if_pos rfl, s9_pageAt _ (by omega) (by omega), bnd_s, push_s, eX9_writesFlags_26]
    simp only [Int.reduceToNat, Int.reduceMul, Int.reduceAdd, sup_row, row_same, row_row, r40]
    rw [show w32 57 = 57 from rfl, if_neg (by omega), if_pos (by omega), if_neg (by omega), if_pos (by omega), show (57 : Int).toNat = 57 from rfl, m1, m3]
    exact go 0 1 _ 64 (Or.inr rfl) rfl n1
  · rw [h, if_neg (by omega), if_neg (by omega), if_neg (by omega), if_neg (by omega), if_neg (by omega), s9_pageAt _ (by omega) (by omega), bnd_s, push_s, eX9_writesFlags_26]
    simp only [Int.reduceToNat, Int.reduceMul, Int.reduceAdd, sup_row, row_same, row_row, r40]
    rw [show w32 65 = 65 from rfl, if_neg (by omega), if_pos (by omega), if_neg (by omega), if_pos (by omega), show (65 : Int).toNat = 65 from rfl, m2, m4]
    exact go 1 0 _ 56 (Or.inl rfl) rfl n2
end MOD
