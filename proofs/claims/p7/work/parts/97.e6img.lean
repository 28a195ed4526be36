/-! IMAGES: a stretch of fourteen words, digests from the last part on -/
def img (w b : Vec) (a : Nat) : Vec := fun j => if a ≤ j ∧ j < a + 14 then w (j - a) else b j
theorem img_at (w b : Vec) (a : Nat) {i : Nat} (h : i < 14) : img w b a (a + i) = w i := by
  unfold img
  rw [if_pos ⟨Nat.le_add_right a i, by omega⟩, Nat.add_sub_cancel_left]
theorem img_out (w b : Vec) (a : Nat) {j : Nat} (h : j < a ∨ a + 14 ≤ j) : img w b a j = b j := by
  unfold img
  rw [if_neg (by omega)]
theorem img_set (w b : Vec) (a : Nat) {i : Nat} (h : i < 14) (v : Int) : set (img w b a) (a + i) v = img (set w i v) b a := by
  funext j
  show (if j = a + i then v else if a ≤ j ∧ j < a + 14 then w (j - a) else b j) = if a ≤ j ∧ j < a + 14 then (if j - a = i then v else w (j - a)) else b j
  by_cases q : j = a + i
  · rw [if_pos q, if_pos ⟨by omega, by omega⟩, if_pos (by omega)]
  · rw [if_neg q]
    by_cases z : a ≤ j ∧ j < a + 14
    · rw [if_pos z, if_pos z, if_neg (by omega)]
    · rw [if_neg z, if_neg z]
theorem img_of {w b : Vec} {a : Nat} (h : ∀ j, j < 14 → b (a + j) = w j) : b = img w b a := by
  funext j
  unfold img
  split
  · rename_i z
    rw [← h (j - a) (by omega), show a + (j - a) = j by omega]
  · rfl
theorem img_id (b : Vec) (a : Nat) : img (fun i => b (a + i)) b a = b := by
  funext j
  unfold img
  split
  · rename_i h
    show b (a + (j - a)) = b j
    rw [show a + (j - a) = j by omega]
  · rfl
def digL : Nat → Vec → Int → Vec × Int
  | 0, w, d => (w, d)
  | m + 1, w, d => digL m (set w (7 + 2 * m) d) (dig (w (6 + 2 * m)) d)
theorem dig_r (p b : Int) : 0 ≤ dig p b ∧ dig p b < 65536 := by unfold dig; omega
theorem digL_lo : ∀ (m : Nat) (w : Vec) (d : Int) {j : Nat}, j < 6 → (digL m w d).1 j = w j
  | 0, _, _, _, _ => rfl
  | m + 1, w, d, j, h => by
    rw [digL, digL_lo m _ _ h, set_ne _ _ (by omega)]
theorem digL_eq : ∀ (m : Nat) (w w2 : Vec) (d : Int), (∀ j, 6 ≤ j → w j = w2 j) → (digL m w d).2 = (digL m w2 d).2 ∧ ∀ j, 6 ≤ j → (digL m w d).1 j = (digL m w2 d).1 j
  | 0, _, _, _, h => ⟨rfl, h⟩
  | m + 1, w, w2, d, h => by
    rw [digL, digL, h (6 + 2 * m) (by omega)]
    refine digL_eq m _ _ _ (fun j hj => ?_)
    unfold set
    rw [h j hj]
theorem digL_r : ∀ (m : Nat) (w : Vec) (d : Int), 0 ≤ d ∧ d < 65536 → (∀ j, 0 ≤ w j ∧ w j < 100000) → (0 ≤ (digL m w d).2 ∧ (digL m w d).2 < 65536) ∧ ∀ j, 0 ≤ (digL m w d).1 j ∧ (digL m w d).1 j < 100000
  | 0, _, _, h, g => ⟨h, g⟩
  | m + 1, w, d, h, g => by
    rw [digL]
    refine digL_r m _ _ (dig_r _ _) (fun j => ?_)
    unfold set
    split
    · omega
    · exact g j
section IMG
variable {N n : Nat} {T : Vec} {σ : Sto} {p : Nat}
theorem i_n {a i : Nat} (ha : a ≤ 84) (hi : i < 14) : w32 ((a : Int) + (i : Int)) = ((a + i : Nat) : Int) ∧ ¬ (((a + i : Nat) : Int) < 0) ∧ ((a + i : Nat) : Int) < 98 ∧ 0 ≤ ((a + i : Nat) : Int) := by
  refine ⟨?_, by omega, by omega, by omega⟩
  rw [w32i (by omega) (by omega)]; omega
theorem i_n84 {a i : Nat} (ha : a ≤ 70) (hi : i < 14) : ((a + i : Nat) : Int) < 84 := by omega
theorem i_k {a k c : Nat} (ha : a ≤ 84) (hk : k < 4) (hc : c = 6 ∨ c = 7) : w32 (w32 ((a : Int) + (c : Int)) + w32 (2 * (k : Int))) = ((a + (c + 2 * k) : Nat) : Int) := by
  rw [w32i (x := (a : Int) + (c : Int)) (by omega) (by omega), w32i (x := 2 * (k : Int)) (by omega) (by omega), w32i (by omega) (by omega)]
  omega
theorem c_put (a i : Nat) (ha : a ≤ 70) (hi : i < 14) (w b : Vec) (v : Int) (h : σ 5 0 = img w b a) : inv N mX6_put [vR 5 0, vI ((a + i : Nat) : Int), vI v] (P σ) = some (none, P (row σ 5 0 (img (set w i v) b a))) := by
  have z := s6_put5 (N := N) (i := 0) (σ := σ) ((a + i : Nat) : Int) v (i_n (by omega) hi).2.2.2 (i_n84 ha hi)
  rw [Int.toNat_natCast, h, img_set w b a hi] at z
  exact z
theorem c_digs (a : Nat) (ha : a ≤ 70) (b : Vec) (x1 x2 x3 x4 : Int) : ∀ (m : Nat) (w : Vec) (d : Int) (τ : Sto), m ≤ 4 → τ 5 0 = img w b a → ev N mX0_addImage 11 [vR 2 0, vI x1, vI x2, vI x3, vI x4, vI (a : Int), vI d, vI ((m : Int) - 1)] [] (P τ) = ev N mX0_addImage 11 [vR 2 0, vI x1, vI x2, vI x3, vI x4, vI (a : Int), vI (digL m w d).2, vI (-1)] [] (P (row τ 5 0 (img (digL m w d).1 b a))) := by
  intro m
  induction m with
  | zero =>
    intro w d τ _ h
    rw [digL, ← h, row_id]
    rfl
  | succ m ih =>
    intro w d τ hm h
    have e0 : ((m + 1 : Nat) : Int) - 1 = (m : Int) := by omega
    have e1 : w32 ((m : Int) + -1) = (m : Int) - 1 := by rw [w32i (by omega) (by omega)]; omega
    have k7 := i_k (a := a) (k := m) (c := 7) (by omega) (by omega) (Or.inr rfl)
    have k6 := i_k (a := a) (k := m) (c := 6) (by omega) (by omega) (Or.inl rfl)
    have nn : ¬ (m : Int) < 0 := by omega
    have i7 : 7 + 2 * m < 14 := by omega
    have i6 : 6 + 2 * m < 14 := by omega
    have n6 := i_n (a := a) (i := 6 + 2 * m) (by omega) i6
    have n84 := i_n84 ha i6
    simp only [Int.cast_ofNat_Int] at k7 k6
    have at5 := s6_at5 (N := N) (i := 0) (σ := row τ 5 0 (img (set w (7 + 2 * m) d) b a)) ((a + (6 + 2 * m) : Nat) : Int) n6.2.2.2 n84
    rw [Int.toNat_natCast, row_same, img_at _ _ _ i6, set_ne _ _ (show 6 + 2 * m ≠ 7 + 2 * m by omega)] at at5
    rw [e0, eX0_addImage_11, if_neg nn, k7, c_put a _ ha i7 w b d h, bnd_s, push_n, eX0_addImage_24, k6, at5, bnd_s, push_s, eX0_addImage_34, s0_digest, bnd_s, push_s, eX0_addImage_36, e1, ih (set w (7 + 2 * m) d) (dig (w (6 + 2 * m)) d) _ (by omega) (row_same _ _ _ _), row_row]
    rfl
/-- the words of an image that is added -/
def addW (w : Vec) (m : Nat) (ver key rev sg : Int) : Vec := set (set (set (set (set (set (digL m w 0).1 0 (ver + 1)) 1 key) 2 rev) 3 (m : Int)) 4 (digL m w 0).2) 5 sg
def sgW (sec : Vec) (w : Vec) (m : Nat) (ver key rev : Int) : Int := sgn (sec key.toNat) (ver + 1) key rev (m : Int) (digL m w 0).2
theorem c_addImage (I : Nat) (hI : I < 6) (hi : σ 2 0 1 = (I : Int)) (w : Vec) (h : ∀ j, j < 14 → σ 5 0 (14 * I + j) = w j) (m : Nat) (hm : m ≤ 4) (ver key rev : Int) (hv : 0 ≤ ver ∧ ver ≤ 30) (hk : 0 ≤ key ∧ key < 6) (hs : ∀ k, k < 6 → 0 ≤ σ 3 0 k ∧ σ 3 0 k < 10000) : inv N mX0_addImage [vR 2 0, vI ver, vI key, vI rev, vI (m : Int)] (P σ) = some (none, P (row (row σ 5 0 (img (addW w m ver key rev (sgW (σ 3 0) w m ver key rev)) (σ 5 0) (14 * I))) 2 0 (set (σ 2 0) 1 ((I + 1 : Nat) : Int)))) := by
  have ha : 14 * I ≤ 70 := by omega
  have ha4 : 14 * I + 4 < 84 := by omega
  have h2 : σ 5 0 = img w (σ 5 0) (14 * I) := img_of h
  have e14 : w32 ((I : Int) * 14) = ((14 * I : Nat) : Int) := by rw [w32i (by omega) (by omega)]; omega
  have em : w32 ((m : Int) - 1) = (m : Int) - 1 := w32i (by omega) (by omega)
  have ev1 : w32 (ver + 1) = ver + 1 := w32i (by omega) (by omega)
  have eI : w32 ((I : Int) + 1) = ((I + 1 : Nat) : Int) := by rw [w32i (by omega) (by omega)]; omega
  generalize hb : σ 5 0 = b at h2
  have a84 : 14 * I ≤ 84 := Nat.le_trans ha (by decide)
  clear h hI
  generalize 14 * I = a at ha ha4 e14 h2 a84 ⊢
  have q1 := (i_n (a := a) (i := 1) a84 (by decide)).1
  have q2 := (i_n (a := a) (i := 2) a84 (by decide)).1
  have q3 := (i_n (a := a) (i := 3) a84 (by decide)).1
  have q4 := (i_n (a := a) (i := 4) a84 (by decide)).1
  have q5 := (i_n (a := a) (i := 5) a84 (by decide)).1
  simp only [Int.cast_ofNat_Int] at q1 q2 q3 q4 q5
  have cd := c_digs (N := N) a ha b ver key rev (m : Int) m w 0 σ hm (hb.trans h2)
  rw [iX0_addImage, eX0_addImage_0, hi, e14, em, cd, eX0_addImage_11, if_pos (by decide), ev1]
  generalize hD : digL m w 0 = D
  have p0 := fun τ x y z => c_put (N := N) (σ := τ) a 0 ha (by decide) x y z
  rw [Nat.add_zero] at p0
  rw [p0 _ D.1 b (ver + 1) (row_same _ _ _ _), bnd_s, push_n, row_row, eX0_addImage_46, q1, c_put a 1 ha (by decide) _ b key (row_same _ _ _ _), bnd_s, push_n, row_row, eX0_addImage_53, q2, c_put a 2 ha (by decide) _ b rev (row_same _ _ _ _), bnd_s, push_n, row_row, eX0_addImage_60, q3, c_put a 3 ha (by decide) _ b (m : Int) (row_same _ _ _ _), bnd_s, push_n, row_row, eX0_addImage_67, q4, c_put a 4 ha (by decide) _ b D.2 (row_same _ _ _ _), bnd_s, push_n, row_row, eX0_addImage_74]
  generalize hE : set (set (set (set (set D.1 0 (ver + 1)) 1 key) 2 rev) 3 (m : Int)) 4 D.2 = E
  have E0 : E 0 = ver + 1 := by rw [← hE]; rfl
  have E1 : E 1 = key := by rw [← hE]; rfl
  have E2 : E 2 = rev := by rw [← hE]; rfl
  have E3 : E 3 = (m : Int) := by rw [← hE]; rfl
  have E4 : E 4 = D.2 := by rw [← hE]; rfl
  have i0 := img_at E b a (i := 0) (by decide)
  rw [Nat.add_zero] at i0
  have sg := s0_sign5 (N := N) (i := 0) (j := 0) (σ := row σ 5 0 (img E b a)) a ha4 (by rw [row_same, img_at _ _ _ (by decide), E1]; exact hk) (fun k hk => hs k hk)
  unfold signF at sg
  rw [row_same, i0, img_at _ _ _ (show 1 < 14 by decide), img_at _ _ _ (show 2 < 14 by decide), img_at _ _ _ (show 3 < 14 by decide), img_at _ _ _ (show 4 < 14 by decide), E0, E1, E2, E3, E4] at sg
  have r3 : row σ 5 0 (img E b a) 3 0 = σ 3 0 := rfl
  have es : sgn (σ 3 0 key.toNat) (ver + 1) key rev (m : Int) D.2 = sgW (σ 3 0) w m ver key rev := by
    unfold sgW
    rw [hD]
  rw [r3, es] at sg
  rw [sg, bnd_s, push_s, q5, eX0_addImage_84, c_put a 5 ha (by decide) _ b _ (row_same _ _ _ _), bnd_s, push_n, row_row, eX0_addImage_85, sup_row]
  have r2 : ∀ f, row σ 5 0 f 2 0 = σ 2 0 := fun _ => rfl
  have eA : set E 5 (sgW (σ 3 0) w m ver key rev) = addW w m ver key rev (sgW (σ 3 0) w m ver key rev) := by
    unfold addW
    rw [hD, hE]
  rw [r2, hi, eI, eA]
end IMG
