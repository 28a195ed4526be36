/-! THE TWO MACHINES: health -/
theorem DD_blowV : ∀ (m : Nat) (b : Int) (x : XP), Dead x → DD x (blowVC m b x)
  | 0, _, x, _ => DD_refl x
  | m + 1, b, x, d => by
    have h := DD_wr d 76 1 (b + 1)
    exact DD_trans h (DD_blowV m (b + 1) _ (DD_dead h d))
theorem R_blowK1 {x : XP} {σ : Sto} (h : R x σ) (rv : Int) (k : Nat) : (rv / ((2 ^ k : Nat) : Int) % 2 = 1 ∧ x.1 77 / ((2 ^ k : Nat) : Int) % 2 = 0 → R (blowKC1 rv k x) (wrM 77 1 (bOr (σ 40 0 77) (shl32 1 (k : Int))) σ)) ∧ (¬ (rv / ((2 ^ k : Nat) : Int) % 2 = 1 ∧ x.1 77 / ((2 ^ k : Nat) : Int) % 2 = 0) → R (blowKC1 rv k x) σ) := by
  unfold blowKC1
  refine ⟨fun q => ?_, fun q => ?_⟩
  · rw [if_pos q, h.1.1 77 (by omega)]
    exact R_wr h 77 1 (by omega) _
  · rw [if_neg q]
    exact h
section MOD
variable {N : Nat} {σ σ0 : Sto} {x : XP}
theorem m_blowV (s : Nat) (hs : s < 2) : ∀ (m : Nat) (b : Int) (y : XP) (τ : Sto), R y τ → OKC y.1 → (τ 30 0 24 = 0 → y.1 76 = b ∧ m = (min (y.1 (14 * s) - 1) 31 - b).toNat) → 0 ≤ b → b + m ≤ 31 → OKX y → ∃ υ, ev N mX9_heals 37 [vR 30 0, vI (s : Int), vX] [] (P τ) = ev N mX9_heals 66 [vR 30 0, vI (s : Int), vI 0] [] (P υ) ∧ KM τ υ ∧ R (blowVC m b y) υ := by
  intro m
  induction m with
  | zero =>
    intro b y τ h hc hb b0 b1 ho
    by_cases hl : τ 30 0 24 = 0
    · obtain ⟨e1, e2⟩ := hb hl
      have n76 := h.1.1 76 (by decide)
      have nv := h.1.1 (14 * s) (by omega)
      rw [eX9_heals_37, if_pos hl, s9_versionOf s (by omega) (R_okc h hc).1, bnd_s, push_s, eX9_heals_47, show (76 : Int).toNat = 76 from rfl, ← n76, ← nv]
      generalize y.1 76 = a at e1
      generalize y.1 (14 * s) = v at e2
      subst e1
      by_cases q : a < v - 1
      · rw [if_pos q, if_neg (by omega)]
        exact ⟨τ, rfl, KM_refl τ, h⟩
      · rw [if_neg q]
        exact ⟨τ, rfl, KM_refl τ, h⟩
    · rw [eX9_heals_37, if_neg hl]
      exact ⟨τ, rfl, KM_refl τ, h⟩
  | succ m ih =>
    intro b y τ h hc hb b0 b1 ho
    by_cases hl : τ 30 0 24 = 0
    · obtain ⟨e1, e2⟩ := hb hl
      have n76 := h.1.1 76 (by decide)
      have nv := h.1.1 (14 * s) (by omega)
      have r1 := R_wr h 76 1 (by decide) (b + 1)
      have ho1 : OKX (wrC 76 1 (b + 1) y) := ⟨wrC_76 ho.1 (by omega), wrC_F ho.2⟩
      have q1 : b < y.1 (14 * s) - 1 := by omega
      have q2 : b < 31 := by omega
      obtain ⟨υ, u1, u2, u3⟩ := ih (b + 1) _ _ r1 ho1.1 (fun hl2 => by
        have l := (wrC_live (R_live r1 hl2).2.1).1
        refine ⟨by rw [l, fill1_eq], ?_⟩
        rw [l, fill1_ne _ _ (by omega)]
        omega) (by omega) (by omega) ho1
      refine ⟨υ, ?_, KM_trans (KM_wr _ _ _ _) u2, u3⟩
      have w := s9_writes (N := N) (σ := τ) 76 (by decide) (b + 1)
      rw [Int.cast_ofNat_Int] at w
      have ew : w32 (b + 1) = b + 1 := w32i (by omega) (by omega)
      rw [eX9_heals_37, if_pos hl, s9_versionOf s (by omega) (R_okc h hc).1, bnd_s, push_s, eX9_heals_47, show (76 : Int).toNat = 76 from rfl, ← n76, ← nv, e1, if_pos q1, if_pos q2, ew, w, bnd_s, push_n, eX9_heals_63]
      exact u1
    · have d := R_dead h hl
      rw [eX9_heals_37, if_neg hl]
      exact ⟨τ, rfl, KM_refl τ, R_dd h (DD_blowV _ _ _ d) d⟩
theorem m_blowK (s : Nat) (hs : s < 2) (rv : Int) : ∀ (m k : Nat) (y : XP) (τ : Sto), k + m = 6 → R y τ → OKX y → y.1 (14 * s + 2) = rv → ∃ υ, ev N mX9_heals 66 [vR 30 0, vI (s : Int), vI (k : Int)] [] (P τ) = ev N mX9_heals 66 [vR 30 0, vI (s : Int), vI 6] [] (P υ) ∧ KM τ υ ∧ R (blowKC rv m k y) υ := by
  intro m
  induction m with
  | zero =>
    intro k y τ hk h ho hv
    have e : k = 6 := by omega
    subst e
    exact ⟨τ, rfl, KM_refl τ, h⟩
  | succ m ih =>
    intro k y τ hk h ho hv
    have e1 : w32 (w32 (14 * (s : Int)) + 2) = ((14 * s + 2 : Nat) : Int) := by rw [w32i (x := 14 * (s : Int)) (by omega) (by omega), w32i (by omega) (by omega)]; omega
    have e2 : w32 ((k : Int) + 1) = ((k + 1 : Nat) : Int) := by rw [w32i (by omega) (by omega)]; omega
    have p1 : ¬ (((14 * s + 2 : Nat) : Int) < 0) ∧ ((14 * s + 2 : Nat) : Int) < 107 := by omega
    have nrv := h.1.1 (14 * s + 2) (by omega)
    have n77 := h.1.1 77 (by decide)
    have rvr := ho.1.1 (14 * s + 2) (by omega)
    have f77 := ho.1.2.2.2.1
    have fb1 := fuse_bit (f := rv) (k := (k : Int)) (by omega) (by omega) (by omega) (by omega)
    have fb2 := fuse_bit (f := y.1 77) (k := (k : Int)) f77.1 (by omega) (by omega) (by omega)
    rw [Int.toNat_natCast] at fb1 fb2
    have ok1 := blowKC1_ok rv k (by omega) ho
    have hv1 : (blowKC1 rv k y).1 (14 * s + 2) = rv := by rw [blowKC1_at _ _ _ (by omega), hv]
    have w := s9_writes (N := N) (σ := τ) 77 (by decide) (bOr (τ 40 0 77) (shl32 1 (k : Int)))
    rw [Int.cast_ofNat_Int] at w
    have kl : (k : Int) < 6 := by omega
    have kn : k + 1 + m = 6 := by omega
    clear hk hs rvr f77
    rw [eX9_heals_66, if_pos kl, e1, if_neg p1.1, if_pos p1.2, Int.toNat_natCast, ← nrv, hv, fb1, show (77 : Int).toNat = 77 from rfl]
    by_cases q : rv / ((2 ^ k : Nat) : Int) % 2 = 1 ∧ y.1 77 / ((2 ^ k : Nat) : Int) % 2 = 0
    · have r := (R_blowK1 h rv k).1 q
      obtain ⟨υ, u1, u2, u3⟩ := ih (k + 1) _ _ kn r ok1 hv1
      refine ⟨υ, ?_, KM_trans (KM_wr _ _ _ _) u2, u3⟩
      rw [if_pos q.1, ← n77, fb2, if_pos q.2, n77, w, bnd_s, push_n, eX9_heals_103, e2]
      exact u1
    · have r := (R_blowK1 h rv k).2 q
      obtain ⟨υ, u1, u2, u3⟩ := ih (k + 1) _ _ kn r ok1 hv1
      refine ⟨υ, ?_, u2, u3⟩
      by_cases a : rv / ((2 ^ k : Nat) : Int) % 2 = 1
      · rw [if_pos a, ← n77, fb2, if_neg (fun z => q ⟨a, z⟩), eX9_heals_103, e2]
        exact u1
      · rw [if_neg a, eX9_heals_103, e2]
        exact u1
/-- the end of HEALTH -/
theorem m_told (h : R x σ) : ∃ τ, (if σ 30 0 24 = 0 then some (some (vI ((sup σ 40 0 ((79 : Int).toNat) 1) 40 0 ((76 : Int).toNat))), P (sup σ 40 0 ((79 : Int).toNat) 1)) else some (some (vI (-2)), P σ)) = some (some (vI (if τ 30 0 24 = 0 then (toldC x).1 76 else -2)), P τ) ∧ KM σ τ ∧ R (toldC x) τ := by
  have e30 : ∀ g : Vec, row σ 40 0 g 30 0 = σ 30 0 := fun g => by rw [row_at, if_neg (by decide)]
  rw [sup_row, row_same, show (79 : Int).toNat = 79 from rfl, show (76 : Int).toNat = 76 from rfl, set_ne _ _ (show 76 ≠ 79 by decide)]
  unfold toldC
  by_cases hl : σ 30 0 24 = 0
  · obtain ⟨l1, l2, l3, l4⟩ := R_live h hl
    rw [if_pos hl, if_pos l2]
    refine ⟨row σ 40 0 (set (σ 40 0) 79 1), ?_, KM_row _ _ _ (Or.inl rfl), ?_, ?_, Or.inl ⟨?_, l2, ?_, ?_⟩⟩
    · rw [e30, if_pos hl]
      show _ = some (some (vI (set x.1 80 1 76)), _)
      rw [set_ne _ _ (show 76 ≠ 80 by decide), h.1.1 76 (by decide)]
    · rw [row_same]
      obtain ⟨h1, h2, h3, h4, h5⟩ := h.1
      refine ⟨fun j hj => ?_, ?_, ?_, ?_, RS_congr h5 (fun j hj => set_ne _ _ (by omega)) (fun j hj => set_ne _ _ (by omega))⟩
      · show set x.1 80 1 j = _
        rw [set_ne _ _ (by omega), set_ne _ _ (by omega), h1 j hj]
      · show set x.1 80 1 79 = _
        rw [set_ne _ _ (by omega), set_ne _ _ (by omega), h2]
      · show set x.1 80 1 80 = _
        rw [set_same, set_same]
      · show set x.1 80 1 81 = _
        rw [set_ne _ _ (by omega), set_ne _ _ (by omega), h4]
    · rw [e30]
      exact h.2.1
    · rw [e30]
      exact l1
    · show set x.1 80 1 78 = _
      rw [row_same, set_ne _ _ (by omega), set_ne _ _ (by omega), l3]
    · rw [e30]
      exact l4
  · have d := R_dead h hl
    rw [if_neg hl, if_neg (by rw [d.1]; decide)]
    exact ⟨σ, by rw [if_neg hl], KM_refl σ, h⟩
end MOD
