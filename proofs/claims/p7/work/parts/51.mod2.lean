/-! THE MODEL: why, what can be done -/
section MOD
variable {N : Nat} {σ : Sto}
theorem s9_areDigests (b : Nat) (hb : b + 13 < 107) (h1 : 1 ≤ σ 40 0 (b + 3)) (h4 : σ 40 0 (b + 3) ≤ 4) (hw : ∀ k, k < 14 → 0 ≤ σ 40 0 (b + k) ∧ σ 40 0 (b + k) < 2147483648) : inv N mX9_areDigests [vR 30 0, vI (b : Int)] (P σ) = some (some (vI (soundF (σ 40 0) b (σ 40 0 (b + 3)))), P σ) := by
  have lp := fun (n : Int) (hn : n ≤ 4) => s9_are_loop (N := N) (σ := σ) b n hb hn hw
  obtain ⟨m, hm, em⟩ : ∃ m : Nat, m < 4 ∧ σ 40 0 (b + 3) = ((m + 1 : Nat) : Int) := ⟨(σ 40 0 (b + 3) - 1).toNat, by omega, by omega⟩
  clear hw
  have v3 : w32 ((b : Int) + 3) = ((b + 3 : Nat) : Int) := by rw [w32i (by omega) (by omega)]; omega
  have v7 : w32 (w32 ((b : Int) + 7) + w32 (2 * w32 (((m + 1 : Nat) : Int) - 1))) = ((b + 7 + 2 * (0 + m) : Nat) : Int) := by rw [w32i (x := ((m + 1 : Nat) : Int) - 1) (by omega) (by omega), w32i (x := (b : Int) + 7) (by omega) (by omega), w32i (x := 2 * (((m + 1 : Nat) : Int) - 1)) (by omega) (by omega), w32i (by omega) (by omega)]; omega
  have p3 : ¬ (((b + 3 : Nat) : Int) < 0) ∧ ((b + 3 : Nat) : Int) < 107 := by omega
  have p7 : ¬ (((b + 7 + 2 * (0 + m) : Nat) : Int) < 0) ∧ ((b + 7 + 2 * (0 + m) : Nat) : Int) < 107 := by omega
  have l1 := lp ((m + 1 : Nat) : Int) (by omega) (m + 1) 0 1 vX (by omega) (Or.inr rfl)
  have l0 := lp ((m + 1 : Nat) : Int) (by omega) (m + 1) 0 0 vX (by omega) (Or.inl rfl)
  clear lp h1 h4
  unfold soundF
  rw [iX9_areDigests, eX9_areDigests_0, v3, if_neg p3.1, if_pos p3.2, Int.toNat_natCast, em, v7, if_neg p7.1, if_pos p7.2, Int.toNat_natCast, Int.toNat_natCast]
  by_cases h : σ 40 0 (b + 7 + 2 * (0 + m)) = 0
  · have z := areL_sound (σ 40 0) b m 0 1 (by rw [if_pos h])
    rw [if_pos h]
    exact l1.trans (by rw [z]; rfl)
  · have z := areL_sound (σ 40 0) b m 0 0 (by rw [if_neg h])
    rw [if_neg h]
    exact l0.trans (by rw [z]; rfl)
theorem s9_rev_loop {ks : Int} (hf : 0 ≤ σ 40 0 77 ∧ σ 40 0 77 < 64) (hu : OKU ks (σ 33 0)) (x1 : Int) : ∀ (n : Nat) (k : Int), -1 ≤ k → k < n → n ≤ 6 → k < ks → ev N mX9_isRevoked 2 [vR 30 0, vI x1, vI k] [] (P σ) = some (some (vI (revN (σ 33 0) (σ 40 0 77) n k)), P σ) := by
  intro n
  induction n with
  | zero =>
    intro k k0 k1 hn hks
    rw [eX9_isRevoked_2, if_pos (by omega)]
    rfl
  | succ n ih =>
    intro k k0 k1 hn hks
    have h6 := hu.1
    rw [eX9_isRevoked_2]
    unfold revN
    by_cases hk : k < 0
    · rw [if_pos (show k = -1 by omega), if_pos hk]
    · rw [if_neg hk, if_neg hk, if_neg (show ¬ k = -1 by omega), show (77 : Int).toNat = 77 from rfl, fuse_bit hf.1 (by omega) (by omega) (by omega)]
      split
      · rfl
      · have hu1 := hu.2 k.toNat (by omega)
        rw [if_pos (show k < 6 by omega)]
        exact ih _ (by omega) (by omega) (by omega) (by omega)
theorem s9_isRevoked {ks : Int} (hf : 0 ≤ σ 40 0 77 ∧ σ 40 0 77 < 64) (hu : OKU ks (σ 33 0)) (k : Int) (k0 : 0 ≤ k) (k1 : k < ks) : inv N mX9_isRevoked [vR 30 0, vI k] (P σ) = some (some (vI (revN (σ 33 0) (σ 40 0 77) 6 k)), P σ) := by
  rw [iX9_isRevoked, eX9_isRevoked_0]
  have h6 := hu.1
  exact s9_rev_loop hf hu k 6 k (by omega) (by omega) (by omega) (by omega)
/-- what the model's bundle is like -/
def OKM (σ : Sto) : Prop := 0 ≤ σ 30 0 5 ∧ σ 30 0 5 ≤ 6 ∧ 0 ≤ σ 30 0 6 ∧ σ 30 0 6 ≤ 6 ∧ 1 ≤ σ 38 0 2 ∧ σ 38 0 2 ≤ 9 ∧ 1 ≤ σ 38 0 3 ∧ σ 38 0 3 ≤ 7 ∧ 1 ≤ σ 38 0 4 ∧ σ 38 0 4 ≤ 99 ∧ (∀ k, k < 6 → 0 ≤ σ 32 0 k ∧ σ 32 0 k < 10000) ∧ OKU (σ 30 0 5) (σ 33 0) ∧ (∀ k, k < 84 → 0 ≤ σ 36 0 k ∧ σ 36 0 k < 100000)
abbrev whyM (σ : Sto) (c : Vec) (s : Nat) : Int := whyF (σ 30 0 5) (σ 32 0) (σ 33 0) c s
theorem s9_versionOf (s : Nat) (hs : s < 4) (hw : OKW (σ 40 0)) : inv N mX9_versionOf [vR 30 0, vI (s : Int)] (P σ) = some (some (vI (σ 40 0 (14 * s) - 1)), P σ) := by
  have h1 := hw (14 * s) (by omega)
  have e : w32 (14 * (s : Int)) = ((14 * s : Nat) : Int) := by rw [w32i (by omega) (by omega)]; omega
  rw [iX9_versionOf, eX9_versionOf_0, e, if_neg (by omega), if_pos (by omega), Int.toNat_natCast, w32i (by omega) (by omega)]
theorem s9_why (s : Nat) (hs : s < 4) (hg : OKM σ) (hc : OKC (σ 40 0)) : inv N mX9_whyOf [vR 30 0, vI (s : Int)] (P σ) = some (some (vI (whyM σ (σ 40 0) s)), P σ) := by
  obtain ⟨g1, g2, -, -, -, -, -, -, -, -, g11, g12, -⟩ := hg
  obtain ⟨c1, c2, c3, c4, c5⟩ := hc
  have w0 := c1 (14 * s) (by omega)
  have w1 := c1 (14 * s + 1) (by omega)
  have w3 := c1 (14 * s + 3) (by omega)
  have e : w32 (14 * (s : Int)) = ((14 * s : Nat) : Int) := by rw [w32i (by omega) (by omega)]; omega
  have e1 : w32 (((14 * s : Nat) : Int) + 1) = ((14 * s + 1 : Nat) : Int) := by rw [w32i (by omega) (by omega)]; omega
  have e3 : w32 (((14 * s : Nat) : Int) + 3) = ((14 * s + 3 : Nat) : Int) := by rw [w32i (by omega) (by omega)]; omega
  have e5 : w32 (((14 * s : Nat) : Int) + 5) = ((14 * s + 5 : Nat) : Int) := by rw [w32i (by omega) (by omega)]; omega
  have ek : w32 (σ 30 0 5 - 1) = σ 30 0 5 - 1 := w32i (by omega) (by omega)
  have ev1 : w32 (σ 40 0 (14 * s) - 1) = σ 40 0 (14 * s) - 1 := w32i (by omega) (by omega)
  have p0 : ¬ (((14 * s : Nat) : Int) < 0) ∧ ((14 * s : Nat) : Int) < 107 := by omega
  have p1 : ¬ (((14 * s + 1 : Nat) : Int) < 0) ∧ ((14 * s + 1 : Nat) : Int) < 107 := by omega
  have p3 : ¬ (((14 * s + 3 : Nat) : Int) < 0) ∧ ((14 * s + 3 : Nat) : Int) < 107 := by omega
  have p5 : ¬ (((14 * s + 5 : Nat) : Int) < 0) ∧ ((14 * s + 5 : Nat) : Int) < 107 := by omega
  rw [iX9_whyOf, eX9_whyOf_0, e, if_neg p0.1, if_pos p0.2, Int.toNat_natCast, s9_in, bnd_s, push_s, eX9_whyOf_12]
  show _ = some (some (vI (whyF (σ 30 0 5) (σ 32 0) (σ 33 0) (σ 40 0) s)), P σ)
  unfold whyF
  by_cases h1 : 1 ≤ σ 40 0 (14 * s) ∧ σ 40 0 (14 * s) ≤ 31
  case neg => rw [if_neg h1, if_pos rfl, if_pos (by omega)]
  rw [if_pos h1, if_neg (show ¬ (1 : Int) = 0 by omega), e1, if_neg p1.1, if_pos p1.2, Int.toNat_natCast, ek, s9_in, bnd_s, push_s, eX9_whyOf_27]
  by_cases h2 : 0 ≤ σ 40 0 (14 * s + 1) ∧ σ 40 0 (14 * s + 1) ≤ σ 30 0 5 - 1
  case neg => rw [if_neg h2, if_pos rfl, if_pos (by omega)]
  rw [if_pos h2, if_neg (show ¬ (1 : Int) = 0 by omega), e3, if_neg p3.1, if_pos p3.2, Int.toNat_natCast, s9_in, bnd_s, push_s, eX9_whyOf_38]
  by_cases h3 : 1 ≤ σ 40 0 (14 * s + 3) ∧ σ 40 0 (14 * s + 3) ≤ 4
  case neg => rw [if_neg h3, if_pos rfl, if_pos (by omega)]
  have q1 : ¬ σ 40 0 (14 * s + 1) < 0 := by omega
  have q2 : σ 40 0 (14 * s + 1) < 6 := by omega
  have hsec := g11 (σ 40 0 (14 * s + 1)).toNat (by omega)
  have hsg := s9_signOf40 (N := N) (σ := σ) (σ 32 0 (σ 40 0 (14 * s + 1)).toNat) (14 * s) (by omega) hsec (fun k hk => c1 (14 * s + k) (by omega))
  rw [if_pos h3, if_neg (show ¬ (1 : Int) = 0 by omega), e5, e1, if_neg p5.1, if_pos p5.2, if_neg p1.1, if_pos p1.2, Int.toNat_natCast, Int.toNat_natCast, if_neg q1, if_pos q2, hsg, bnd_s, push_s, eX9_whyOf_60, e1]
  rw [if_neg (show ¬ (σ 40 0 (14 * s) - 1 < 0 ∨ 30 < σ 40 0 (14 * s) - 1 ∨ ¬ (0 ≤ σ 40 0 (14 * s + 1) ∧ σ 40 0 (14 * s + 1) < σ 30 0 5) ∨ σ 40 0 (14 * s + 3) < 1 ∨ 4 < σ 40 0 (14 * s + 3)) by omega)]
  show (if σ 40 0 (14 * s + 5) = signF (σ 32 0) (σ 40 0) (14 * s) then _ else _) = _
  by_cases h6 : σ 40 0 (14 * s + 5) = signF (σ 32 0) (σ 40 0) (14 * s)
  case neg => rw [if_neg h6, if_pos h6]
  rw [if_pos h6, if_neg (show ¬ ¬ σ 40 0 (14 * s + 5) = signF (σ 32 0) (σ 40 0) (14 * s) from fun z => z h6)]
  have hsnd := soundF_b (σ 40 0) (14 * s) (σ 40 0 (14 * s + 3))
  have tail : bnd (inv N mX9_areDigests [vR 30 0, vI ((14 * s : Nat) : Int)] (P σ)) (fun r S2 => ev N mX9_whyOf 102 [vR 30 0, vI (s : Int), vI ((14 * s : Nat) : Int)] (push r []) S2) = some (some (vI (if soundF (σ 40 0) (14 * s) (σ 40 0 (14 * s + 3)) = 1 then 0 else 5)), P σ) := by
    rw [s9_areDigests (14 * s) (by omega) h3.1 h3.2 (fun k hk => c1 (14 * s + k) (by omega)), bnd_s, push_s, eX9_whyOf_102]
    rcases hsnd with h | h
    · rw [h, if_pos rfl, if_neg (show ¬ (0 : Int) = 1 by omega)]
    · rw [h, if_neg (show ¬ (1 : Int) = 0 by omega), if_pos rfl]
  by_cases h7 : s < 2
  · rw [if_pos h7, if_pos (show (s : Int) < 2 by omega), if_neg p1.1, if_pos p1.2, Int.toNat_natCast, s9_isRevoked c4 g12 _ (by omega) (by omega), bnd_s, push_s, eX9_whyOf_74]
    rcases revN_b (σ 33 0) (σ 40 0 77) 6 (σ 40 0 (14 * s + 1)) with h8 | h8
    · rw [h8, if_pos rfl, if_neg (show ¬ (0 : Int) = 1 by omega), if_neg p0.1, if_pos p0.2, Int.toNat_natCast, ev1, show (76 : Int).toNat = 76 from rfl]
      by_cases h9 : σ 40 0 (14 * s) - 1 < σ 40 0 76
      · rw [if_pos h9, if_pos h9]
      · rw [if_neg h9, if_neg h9, tail]
    · rw [h8, if_neg (show ¬ (1 : Int) = 0 by omega), if_pos rfl]
  · rw [if_neg h7, if_neg (show ¬ (s : Int) < 2 by omega), if_neg p1.1, if_pos p1.2, Int.toNat_natCast]
    by_cases h8 : σ 40 0 (14 * s + 1) = 0
    · rw [if_pos h8, if_neg (show ¬ ¬ σ 40 0 (14 * s + 1) = 0 from fun z => z h8), tail]
    · rw [if_neg h8, if_pos h8]
theorem s9_copyNow (hg : OKM σ) (hc : OKC (σ 40 0)) : inv N mX9_copyNow [vR 30 0] (P σ) = some (some (vI (copyF (σ 30 0 5) (σ 32 0) (σ 33 0) (σ 40 0))), P σ) := by
  have r2 := s9_why (N := N) 2 (by omega) hg hc
  have r3 := s9_why (N := N) 3 (by omega) hg hc
  have v2 := s9_versionOf (N := N) 2 (by omega) hc.1
  have v3 := s9_versionOf (N := N) 3 (by omega) hc.1
  simp only [Int.cast_ofNat_Int, Nat.reduceMul] at r2 r3 v2 v3
  unfold copyF
  rw [iX9_copyNow, eX9_copyNow_0, r2, bnd_s, push_s, eX9_copyNow_3]
  by_cases h2 : whyF (σ 30 0 5) (σ 32 0) (σ 33 0) (σ 40 0) 2 = 0 <;> by_cases h3 : whyF (σ 30 0 5) (σ 32 0) (σ 33 0) (σ 40 0) 3 = 0 <;> simp only [h2, h3, ↓reduceIte, r3, v2, v3, bnd_s, push_s, eX9_copyNow_11, eX9_copyNow_23, eX9_copyNow_26, Int.reduceEq]
  split <;> rfl
theorem s9_isOff : inv N mX9_isOff [vR 30 0] (P σ) = some (some (vI (if σ 40 0 78 = -1 then 1 else 0)), P σ) := by
  rw [iX9_isOff, eX9_isOff_0, show (78 : Int).toNat = 78 from rfl]
  split <;> rfl
theorem s9_isImage (h0 : 0 ≤ σ 30 0 6) (h1 : σ 30 0 6 ≤ 6) (x : Int) : inv N mX9_isImage [vR 30 0, vI x] (P σ) = some (some (vI (if 0 ≤ x ∧ x < σ 30 0 6 then 1 else 0)), P σ) := by
  rw [iX9_isImage, eX9_isImage_0, w32i (by omega) (by omega), s9_in, bnd_s, push_s, eX9_isImage_9]
  by_cases h : 0 ≤ x ∧ x < σ 30 0 6
  · rw [if_pos h, if_pos (show 0 ≤ x ∧ x ≤ σ 30 0 6 - 1 by omega), if_neg (show ¬ (1 : Int) = 0 by omega), if_pos rfl]
  · rw [if_neg h, if_neg (show ¬ (0 ≤ x ∧ x ≤ σ 30 0 6 - 1) by omega), if_pos rfl]
theorem s9_isOpen (hg : OKM σ) (hc : OKC (σ 40 0)) : inv N mX9_isOpen [vR 30 0] (P σ) = some (some (vI (openF (σ 30 0 6) (σ 40 0))), P σ) := by
  have b72 := hc.2.1 72 (by omega) (by omega)
  have b73 := hc.2.1 73 (by omega) (by omega)
  have b74 := hc.2.1 74 (by omega) (by omega)
  have t : w32 (w32 (σ 40 0 72 + σ 40 0 73) + σ 40 0 74) = σ 40 0 72 + σ 40 0 73 + σ 40 0 74 := by rw [w32i (x := σ 40 0 72 + σ 40 0 73) (by omega) (by omega), w32i (by omega) (by omega)]
  have im := s9_isImage (N := N) hg.2.2.1 hg.2.2.2.1 (σ 40 0 73)
  have t2 : Int.tmod (σ 40 0 72 + σ 40 0 73 + σ 40 0 74) 256 = (σ 40 0 72 + σ 40 0 73 + σ 40 0 74) % 256 := tmod256 (by omega)
  unfold openF
  rw [iX9_isOpen, eX9_isOpen_0]
  simp only [Int.reduceToNat, t, t2]
  clear t t2
  by_cases h1 : σ 40 0 74 = 90
  case neg => rw [if_neg h1, if_neg (fun z => h1 z.1)]
  rw [if_pos h1]
  by_cases h2 : σ 40 0 75 = (σ 40 0 72 + σ 40 0 73 + σ 40 0 74) % 256
  case neg => rw [if_neg h2, if_neg (fun z => h2 z.2.1)]
  rw [if_pos h2, s9_in, bnd_s, push_s, eX9_isOpen_37]
  by_cases h3 : σ 40 0 72 = 0 ∨ σ 40 0 72 = 1
  case neg => rw [if_neg (show ¬ (0 ≤ σ 40 0 72 ∧ σ 40 0 72 ≤ 1) from fun z => h3 (by omega)), if_pos rfl, if_neg (fun z => h3 z.2.2.1)]
  rw [if_pos (show 0 ≤ σ 40 0 72 ∧ σ 40 0 72 ≤ 1 from ⟨by rcases h3 with h | h <;> rw [h] <;> decide, by rcases h3 with h | h <;> rw [h] <;> decide⟩), if_neg (show ¬ (1 : Int) = 0 by omega), show (73 : Int).toNat = 73 from rfl, im, bnd_s, push_s, eX9_isOpen_44]
  by_cases h4 : σ 40 0 73 < σ 30 0 6
  · rw [if_pos (show 0 ≤ σ 40 0 73 ∧ σ 40 0 73 < σ 30 0 6 from ⟨b73.1, h4⟩), if_neg (show ¬ (1 : Int) = 0 by omega), if_pos (show σ 40 0 74 = 90 ∧ _ ∧ _ ∧ _ from ⟨h1, h2, h3, h4⟩)]
  · rw [if_neg (show ¬ (0 ≤ σ 40 0 73 ∧ σ 40 0 73 < σ 30 0 6) from fun z => h4 z.2), if_pos rfl, if_neg (fun z => h4 z.2.2.2)]
theorem in01 (a : Int) : (0 ≤ a ∧ a ≤ 1) ↔ (a = 0 ∨ a = 1) := by omega
theorem s9_canDo (hg : OKM σ) (hc : OKC (σ 40 0)) (d a b : Int) : inv N mX9_canDo [vR 30 0, vI d, vI a, vI b] (P σ) = some (some (vI (ableF (σ 30 0 6) (σ 36 0) (σ 40 0) d a b)), P σ) := by
  have img := s9_isImage (N := N) hg.2.2.1 hg.2.2.2.1 b
  have opn := s9_isOpen (N := N) hg hc
  have g4 := hg.2.2.2.1
  have e78 : (78 : Int).toNat = 78 := rfl
  have e72 : (72 : Int).toNat = 72 := rfl
  rw [iX9_canDo, eX9_canDo_0]
  unfold ableF
  by_cases d0 : d = 0
  · simp only [d0, ↓reduceIte, s9_in, bnd_s, push_s, eX9_canDo_7, in01, s9_isOff, eX9_canDo_12]
    by_cases h2 : a = 0 ∨ a = 1
    · simp only [h2, ↓reduceIte, Int.reduceEq, true_and]
      by_cases h3 : b = 0
      · simp only [h3, ↓reduceIte, and_true]
        by_cases h1 : σ 40 0 78 = -1
        · simp only [h1, ↓reduceIte, Int.reduceEq]
        · simp only [h1, ↓reduceIte]
      · simp only [h3, ↓reduceIte, and_false]
    · simp only [h2, ↓reduceIte, false_and, and_false]
  · simp only [d0, ↓reduceIte]
    by_cases d1 : d = 1
    · simp only [d1, ↓reduceIte, s9_in, bnd_s, push_s, eX9_canDo_105, Int.reduceLE, and_self, Int.reduceEq, s9_isOff, eX9_canDo_112]
      by_cases h1 : σ 40 0 78 = -1
      · simp only [h1, ↓reduceIte, Int.reduceEq]
        split
        · split <;> rfl
        · rfl
      · simp only [h1, ↓reduceIte]
        by_cases h2 : a = 0
        · simp only [h2, ↓reduceIte, true_and]
          split <;> rfl
        · simp only [h2, ↓reduceIte, false_and]
    · simp only [d1, ↓reduceIte]
      by_cases d2 : d = 2
      · simp only [d2, ↓reduceIte, s9_in, bnd_s, push_s, eX9_canDo_22, in01, img, eX9_canDo_26, s9_isOff, eX9_canDo_29, e78]
        by_cases h2 : a = 0 ∨ a = 1
        · simp only [h2, ↓reduceIte, Int.reduceEq, true_and]
          by_cases h4 : 0 ≤ b ∧ b < σ 30 0 6
          · simp only [h4, and_self, ↓reduceIte, Int.reduceEq, and_true]
            by_cases h1 : σ 40 0 78 = -1
            · simp only [h1, ↓reduceIte, Int.reduceEq]
            · simp only [h1, ↓reduceIte]
              by_cases h3 : σ 40 0 78 = a
              · rw [if_pos h3, if_neg (fun z => z h3.symm)]
              · rw [if_neg h3, if_pos (fun z => h3 z.symm)]
          · simp only [h4, ↓reduceIte, and_false, ite_self]
        · simp only [h2, ↓reduceIte, false_and, ite_self]
      · simp only [d2, ↓reduceIte]
        by_cases d3 : d = 3
        · simp only [d3, ↓reduceIte]
          by_cases h2 : a = 0
          · simp only [h2, ↓reduceIte, img, bnd_s, push_s, eX9_canDo_45, s9_isOff, eX9_canDo_48, true_and]
            by_cases h4 : 0 ≤ b ∧ b < σ 30 0 6
            · rw [if_pos h4, if_neg (show ¬ (1 : Int) = 0 by omega)]
              have e : w32 (w32 (14 * b) + 1) = ((14 * b.toNat + 1 : Nat) : Int) := by rw [w32i (x := 14 * b) (by omega) (by omega), w32i (by omega) (by omega)]; omega
              have p : ¬ (((14 * b.toNat + 1 : Nat) : Int) < 0) ∧ ((14 * b.toNat + 1 : Nat) : Int) < 84 := by omega
              rw [e, if_neg p.1, if_pos p.2, Int.toNat_natCast]
              clear e p
              by_cases h1 : σ 40 0 78 = -1
              · simp only [h1, ↓reduceIte, Int.reduceEq]
              · simp only [h1, ↓reduceIte]
                by_cases h5 : σ 36 0 (14 * b.toNat + 1) = 0
                · rw [if_pos h5, if_pos ⟨h4.1, h4.2, h5⟩]
                · rw [if_neg h5, if_neg (fun z => h5 z.2.2)]
            · rw [if_neg h4, if_pos rfl, if_neg (show ¬ (0 ≤ b ∧ b < σ 30 0 6 ∧ σ 36 0 (14 * b.toNat + 1) = 0) from fun z => h4 ⟨z.1, z.2.1⟩)]
              split <;> rfl
          · simp only [h2, ↓reduceIte, false_and, ite_self]
        · simp only [d3, ↓reduceIte]
          by_cases d4 : d = 4
          · simp only [d4, ↓reduceIte, s9_in, bnd_s, push_s, eX9_canDo_67, in01, s9_isOff, eX9_canDo_72]
            by_cases h2 : a = 0 ∨ a = 1
            · simp only [h2, ↓reduceIte, Int.reduceEq, true_and]
              by_cases h3 : b = 0
              · simp only [h3, ↓reduceIte]
                by_cases h1 : σ 40 0 78 = -1
                · simp only [h1, ↓reduceIte, Int.reduceEq]
                · simp only [h1, ↓reduceIte]
              · simp only [h3, ↓reduceIte, ite_self]
            · simp only [h2, ↓reduceIte, false_and, ite_self]
          · simp only [d4, ↓reduceIte]
            by_cases d5 : d = 5
            · simp only [d5, ↓reduceIte, s9_in, bnd_s, push_s, eX9_canDo_105, Int.reduceLE, and_self, Int.reduceEq, s9_isOff, eX9_canDo_112]
              by_cases h1 : σ 40 0 78 = -1
              · simp only [h1, ↓reduceIte, Int.reduceEq]
                split
                · split <;> rfl
                · rfl
              · simp only [h1, ↓reduceIte]
                by_cases h2 : a = 0
                · simp only [h2, ↓reduceIte, true_and]
                  split <;> rfl
                · simp only [h2, ↓reduceIte, false_and]
            · simp only [d5, ↓reduceIte]
              by_cases d6 : d = 6
              · simp only [d6, ↓reduceIte]
                by_cases h2 : a = 0
                · simp only [h2, ↓reduceIte, true_and]
                  by_cases h3 : b = 0
                  · simp only [h3, ↓reduceIte, true_and, s9_isOff, bnd_s, push_s, eX9_canDo_83, opn, eX9_canDo_86, e78, e72]
                    by_cases h1 : σ 40 0 78 = -1
                    · simp only [h1, ↓reduceIte, Int.reduceEq]
                    · simp only [h1, ↓reduceIte]
                      rcases openF_b (σ 30 0 6) (σ 40 0) with h4 | h4
                      · simp only [h4, ↓reduceIte, Int.reduceEq, false_and]
                      · simp only [h4, ↓reduceIte, Int.reduceEq, true_and]
                        by_cases h5 : σ 40 0 78 = σ 40 0 72
                        · rw [if_pos h5, if_neg (fun z => z h5.symm)]
                        · rw [if_neg h5, if_pos (fun z => h5 z.symm)]
                  · simp only [h3, ↓reduceIte, false_and, ite_self]
                · simp only [h2, ↓reduceIte, false_and, ite_self]
              · simp only [d6, ↓reduceIte, s9_in, bnd_s, push_s, eX9_canDo_105, ite_self]
                rw [if_neg (show ¬ (1 ≤ d ∧ d ≤ 5) by omega), if_pos rfl]
end MOD
