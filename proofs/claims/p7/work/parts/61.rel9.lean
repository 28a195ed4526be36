/-! THE TWO MACHINES: the other deeds -/
/-- the machine's flags are those of its pages -/
def PF (x : XP) : Prop := x.2 6 = newestF x.1 ∧ x.2 2 = flagF x.1 0 ∧ x.2 3 = flagF x.1 1 ∧ x.2 4 = flagF x.1 2 ∧ x.2 5 = flagF x.1 3
/-- live, with flags of its pages -/
def RP (x : XP) (σ : Sto) : Prop := R x σ ∧ σ 30 0 24 = 0 ∧ PF x ∧ OKX x
theorem flagF_congr {c n : Vec} (h : ∀ j, 56 ≤ j → j < 72 → c j = n j) {k : Nat} (hk : k < 4) : flagF c k = flagF n k := by
  unfold flagF
  rw [newestF_congr h, h (58 + k) (by omega) (by omega), h (66 + k) (by omega) (by omega)]
theorem flV_congr {c n : Vec} (h : ∀ j, 56 ≤ j → j < 72 → c j = n j) (f : Vec) : flV f c = flV f n := by
  unfold flV
  rw [newestF_congr h, h 58 (by omega) (by omega), h 59 (by omega) (by omega), h 60 (by omega) (by omega), h 61 (by omega) (by omega), h 66 (by omega) (by omega), h 67 (by omega) (by omega), h 68 (by omega) (by omega), h 69 (by omega) (by omega)]
theorem PF_wr {x : XP} (h : PF x) (a n : Nat) (v : Int) (ha : 72 ≤ a ∨ a + n ≤ 56) : PF (wrC a n v x) := by
  have e : ∀ j, 56 ≤ j → j < 72 → (wrC a n v x).1 j = x.1 j := fun j h1 h2 => wrC_at _ _ _ _ (by omega)
  obtain ⟨h6, h2, h3, h4, h5⟩ := h
  unfold PF
  rw [newestF_congr e, flagF_congr e (by omega : 0 < 4), flagF_congr e (by omega : 1 < 4), flagF_congr e (by omega : 2 < 4), flagF_congr e (by omega : 3 < 4)]
  rw [wrC_o _ _ _ _ (by omega) (by omega), wrC_o _ _ _ _ (by omega) (by omega), wrC_o _ _ _ _ (by omega) (by omega), wrC_o _ _ _ _ (by omega) (by omega), wrC_o _ _ _ _ (by omega) (by omega)]
  exact ⟨h6, h2, h3, h4, h5⟩
theorem okx_R {x : XP} {σ : Sto} (h : R x σ) (hx : OKX x) : OKC (σ 40 0) := R_okc h hx.1
section MOD
variable {N : Nat} {σ σ0 : Sto} {x : XP}
theorem m_read (h : RP x σ) : inv N mX9_readsFlags [vR 30 0] (P σ) = some (none, P (rfM σ)) ∧ KM σ (rfM σ) ∧ RF x (rfM σ) := by
  obtain ⟨a, b, c, d⟩ := h
  have hm := okx_R a d
  have r30 : rfM σ 30 0 = σ 30 0 := by
    unfold rfM
    rw [row_at, if_neg (by decide)]
  have cg : ∀ j, 56 ≤ j → j < 72 → σ 40 0 j = x.1 j := fun j h1 h2 => (a.1.1 j (by omega)).symm
  refine ⟨s9_readsFlags hm.2.1, KM_rf σ, R_44 a 43 _ (Or.inl rfl), by rw [r30]; exact b, ?_, c.1, d⟩
  have f := FR_read d.1.2.1 x.2 (σ 43 0) c.2.1 c.2.2.1 c.2.2.2.1 c.2.2.2.2
  show FR x.2 (row σ 43 0 (flV (σ 43 0) (σ 40 0)) 43 0)
  rw [row_same, flV_congr cg]
  exact f
/-- words are laid down: the class -/
def layK (b : Nat) (v : Nat → Int) : Nat → XP → XP
  | 0, x => x
  | k + 1, x => layK b v k (wrC (b + k) 1 (v k) x)
theorem lay_const (b : Nat) (rd : XP → Nat → Int) (v : Nat → Int) (I : XP → Prop) (hI : ∀ y k w, k < 14 → I y → I (wrC (b + k) 1 w y)) (hv : ∀ y k, k < 14 → I y → rd y k = v k) : ∀ (k : Nat) (x : XP), k ≤ 14 → I x → layL b rd k x = layK b v k x
  | 0, _, _, _ => rfl
  | k + 1, x, hk, h => by
    unfold layL layK
    rw [hv x k (by omega) h]
    exact lay_const b rd v I hI hv k _ (by omega) (hI x k _ (by omega) h)
/-- the model -/
def layM (b : Nat) (v : Nat → Int) : Nat → Sto → Sto
  | 0, σ => σ
  | k + 1, σ => layM b v k (wrM (b + k) 1 (v k) σ)
theorem R_lay (b : Nat) (hb : b + 14 ≤ 56) (v : Nat → Int) : ∀ (k : Nat) (x : XP) (σ : Sto), k ≤ 14 → R x σ → R (layK b v k x) (layM b v k σ)
  | 0, _, _, _, h => h
  | k + 1, x, σ, hk, h => R_lay b hb v k _ _ (by omega) (R_wr h (b + k) 1 (by omega) (v k))
theorem KM_lay (b : Nat) (v : Nat → Int) : ∀ (k : Nat) (σ : Sto), KM σ (layM b v k σ)
  | 0, σ => KM_refl σ
  | k + 1, σ => KM_trans (KM_wr _ _ _ _) (KM_lay b v k _)
theorem layM_o (b : Nat) (v : Nat → Int) {k0 k' : Nat} (h : k0 = 43 ∨ k0 = 44 ∨ k0 = 45) : ∀ (k : Nat) (σ : Sto), layM b v k σ k0 k' = σ k0 k'
  | 0, _ => rfl
  | k + 1, σ => (layM_o b v h k _).trans (wrM_o _ _ _ _ h)
theorem KM_36 {σ τ : Sto} (h : KM σ τ) : τ 36 0 = σ 36 0 := KM_r h 36 (by omega) 0
theorem s9_lay36_loop (s f : Nat) (hs : s < 4) (hf : f + 14 ≤ 84) (v : Nat → Int) : ∀ (k : Nat) (τ : Sto), k ≤ 13 → (∀ j, j < 14 → τ 36 0 (f + j) = v j) → ev N mX9_laysWords 10 [vR 30 0, vI (s : Int), vR 36 0, vI (f : Int), vI ((14 * s : Nat) : Int), vI (k : Int)] [] (P τ) = some (none, P (layM (14 * s) v (k + 1) τ)) := by
  intro k
  induction k with
  | zero =>
    intro τ hk hv
    have h0 := hv 0 (by omega)
    rw [Nat.add_zero] at h0
    have w := s9_writes (N := N) (σ := τ) (14 * s) (by omega) (v 0)
    rw [eX9_laysWords_10_k36, if_neg (by omega), if_neg (by omega), if_pos (by omega), Int.toNat_natCast, h0, w, bnd_s, push_n, eX9_laysWords_30_k36]
    rfl
  | succ k ih =>
    intro τ hk hv
    have h0 := hv (k + 1) (by omega)
    have w := s9_writes (N := N) (σ := τ) (14 * s + (k + 1)) (by omega) (v (k + 1))
    have e1 : w32 ((f : Int) + ((k + 1 : Nat) : Int)) = ((f + (k + 1) : Nat) : Int) := by rw [w32i (by omega) (by omega)]; omega
    have e2 : w32 (((14 * s : Nat) : Int) + ((k + 1 : Nat) : Int)) = ((14 * s + (k + 1) : Nat) : Int) := by rw [w32i (by omega) (by omega)]; omega
    have e3 : w32 (((k + 1 : Nat) : Int) + -1) = (k : Int) := by rw [w32i (by omega) (by omega)]; omega
    rw [eX9_laysWords_10_k36, if_pos (by omega), e1, e2, if_neg (by omega), if_pos (by omega), Int.toNat_natCast, h0, w, bnd_s, push_n, eX9_laysWords_22_k36, e3]
    exact ih _ (by omega) (fun j hj => by rw [KM_36 (KM_wr _ _ _ _)]; exact hv j hj)
theorem s9_lay36 (s f : Nat) (hs : s < 4) (hf : f + 14 ≤ 84) (v : Nat → Int) (hv : ∀ j, j < 14 → σ 36 0 (f + j) = v j) : inv N mX9_laysWords [vR 30 0, vI (s : Int), vR 36 0, vI (f : Int)] (P σ) = some (none, P (layM (14 * s) v 14 (wrM (14 * s) 1 0 σ))) := by
  have e : w32 (14 * (s : Int)) = ((14 * s : Nat) : Int) := by rw [w32i (by omega) (by omega)]; omega
  have lp := s9_lay36_loop (N := N) s f hs hf v 13 (wrM (14 * s) 1 0 σ) (by omega) (fun j hj => by rw [KM_36 (KM_wr _ _ _ _)]; exact hv j hj)
  rw [iX9_laysWords_k36, eX9_laysWords_0_k36, e, s9_writes _ (by omega), bnd_s, push_n, eX9_laysWords_8_k36]
  exact lp
theorem s9_lay45_loop (s : Nat) (hs : s < 4) (v : Nat → Int) : ∀ (k : Nat) (τ : Sto), k ≤ 13 → (∀ j, j < 14 → τ 45 0 j = v j) → ev N mX9_laysWords 10 [vR 30 0, vI (s : Int), vR 45 0, vI 0, vI ((14 * s : Nat) : Int), vI (k : Int)] [] (P τ) = some (none, P (layM (14 * s) v (k + 1) τ)) := by
  intro k
  induction k with
  | zero =>
    intro τ hk hv
    have h0 := hv 0 (by omega)
    have w := s9_writes (N := N) (σ := τ) (14 * s) (by omega) (v 0)
    rw [eX9_laysWords_10_k45, if_neg (by omega), if_neg (by omega), if_pos (by omega), show (0 : Int).toNat = 0 from rfl, h0, w, bnd_s, push_n, eX9_laysWords_30_k45]
    rfl
  | succ k ih =>
    intro τ hk hv
    have h0 := hv (k + 1) (by omega)
    have w := s9_writes (N := N) (σ := τ) (14 * s + (k + 1)) (by omega) (v (k + 1))
    have e1 : w32 (0 + ((k + 1 : Nat) : Int)) = ((k + 1 : Nat) : Int) := by rw [w32i (by omega) (by omega)]; omega
    have e2 : w32 (((14 * s : Nat) : Int) + ((k + 1 : Nat) : Int)) = ((14 * s + (k + 1) : Nat) : Int) := by rw [w32i (by omega) (by omega)]; omega
    have e3 : w32 (((k + 1 : Nat) : Int) + -1) = (k : Int) := by rw [w32i (by omega) (by omega)]; omega
    rw [eX9_laysWords_10_k45, if_pos (by omega), e1, e2, if_neg (by omega), if_pos (by omega), Int.toNat_natCast, h0, w, bnd_s, push_n, eX9_laysWords_22_k45, e3]
    exact ih _ (by omega) (fun j hj => by rw [wrM_o _ _ _ _ (by omega)]; exact hv j hj)
theorem s9_lay45 (s : Nat) (hs : s < 4) (v : Nat → Int) (hv : ∀ j, j < 14 → σ 45 0 j = v j) : inv N mX9_laysWords [vR 30 0, vI (s : Int), vR 45 0, vI 0] (P σ) = some (none, P (layM (14 * s) v 14 (wrM (14 * s) 1 0 σ))) := by
  have e : w32 (14 * (s : Int)) = ((14 * s : Nat) : Int) := by rw [w32i (by omega) (by omega)]; omega
  have lp := s9_lay45_loop (N := N) s hs v 13 (wrM (14 * s) 1 0 σ) (by omega) (fun j hj => by rw [wrM_o _ _ _ _ (by omega)]; exact hv j hj)
  rw [iX9_laysWords_k45, eX9_laysWords_0_k45, e, s9_writes _ (by omega), bnd_s, push_n, eX9_laysWords_8_k45]
  exact lp
/-- slot s is preferred -/
def pfV (s : Nat) (f : Vec) : Vec := set (set f s 15) (1 - s) (min 14 (f (1 - s)))
theorem s9_prefers (s : Nat) (hs : s < 2) : inv N mX9_prefers [vR 30 0, vI (s : Int)] (P σ) = some (none, P (row σ 43 0 (pfV s (σ 43 0)))) := by
  have e0 : w32 (0 + (s : Int)) = ((s : Nat) : Int) := by rw [w32i (by omega) (by omega)]; omega
  have e1 : w32 (1 - (s : Int)) = ((1 - s : Nat) : Int) := by rw [w32i (by omega) (by omega)]; omega
  rw [iX9_prefers, eX9_prefers_0, e0, e1, if_neg (by omega), if_pos (by omega), if_neg (by omega), if_pos (by omega), if_neg (by omega), if_pos (by omega)]
  simp only [Int.toNat_natCast, sup_row, row_same, row_row]
  unfold pfV
  rw [set_ne _ _ (show 1 - s ≠ s by omega)]
end MOD
