/-! THE CLASS: why a store cannot start, what can be done -/
section CLS
variable {N i j : Nat} {σ : Sto}
/-- 1 if the parts from the k-th on, m of them, have the digests that are told ahead of them, the first of these d -/
def soundL (c : Vec) (b : Nat) : Nat → Nat → Int → Int
  | 0, _, d => if d = 0 then 1 else 0
  | m + 1, k, d => if dig (c (b + 6 + 2 * k)) (c (b + 7 + 2 * k)) = d then soundL c b m (k + 1) (c (b + 7 + 2 * k)) else 0
def soundF (c : Vec) (b : Nat) (n : Int) : Int := soundL c b n.toNat 0 (c (b + 4))
theorem soundL_b (c : Vec) (b : Nat) : ∀ (m k : Nat) (d : Int), soundL c b m k d = 0 ∨ soundL c b m k d = 1
  | 0, k, d => by unfold soundL; split <;> simp
  | m + 1, k, d => by
    unfold soundL
    split
    · exact soundL_b c b m _ _
    · simp
theorem soundF_b (c : Vec) (b : Nat) (n : Int) : soundF c b n = 0 ∨ soundF c b n = 1 := soundL_b _ _ _ _ _
theorem s2_sound_loop (b : Nat) (n : Int) (hb : b + 13 < 107) (h4 : n ≤ 4) : ∀ (m k : Nat) (d : Int) (x5 : MV), (k : Int) + (m : Int) = n → ev N mX2_hasSoundParts 8 [vR 6 i, vI (b : Int), vI n, vI d, vI (k : Int), x5] [] (P σ) = some (some (vI (soundL (σ 7 i) b m k d)), P σ) := by
  intro m
  induction m with
  | zero =>
    intro k d x5 hk
    rw [eX2_hasSoundParts_8, if_neg (by omega)]
    unfold soundL
    split <;> rfl
  | succ m ih =>
    intro k d x5 hk
    have e6 : ((b : Int) + 6 + 2 * (k : Int)).toNat = b + 6 + 2 * k := by omega
    have e7 : ((b : Int) + 7 + 2 * (k : Int)).toNat = b + 7 + 2 * k := by omega
    rw [eX2_hasSoundParts_8, if_pos (by omega), w32i (x := (b : Int) + 7) (by omega) (by omega), w32i (x := 2 * (k : Int)) (by omega) (by omega), w32i (by omega) (by omega), s2_cell _ (by omega) (by omega), bnd_s, push_s, e7,
      eX2_hasSoundParts_20, w32i (x := (b : Int) + 6) (by omega) (by omega), w32i (x := 2 * (k : Int)) (by omega) (by omega), w32i (by omega) (by omega), s2_cell _ (by omega) (by omega), bnd_s, push_s, e6, eX2_hasSoundParts_30, s0_digest, bnd_s, push_s, eX2_hasSoundParts_32]
    unfold soundL
    split
    · rw [w32i (by omega) (by omega)]
      exact ih (k + 1) _ _ (by omega)
    · rfl
theorem s2_sound (b : Nat) (n : Int) (hb : b + 13 < 107) (h1 : 1 ≤ n) (h4 : n ≤ 4) : inv N mX2_hasSoundParts [vR 6 i, vI (b : Int), vI n] (P σ) = some (some (vI (soundF (σ 7 i) b n)), P σ) := by
  have e4 : ((b : Int) + 4).toNat = b + 4 := by omega
  rw [iX2_hasSoundParts, eX2_hasSoundParts_0, w32i (by omega) (by omega), s2_cell _ (by omega) (by omega), bnd_s, push_s, eX2_hasSoundParts_5, e4]
  exact s2_sound_loop b n hb h4 n.toNat 0 _ _ (by omega)
/-- 1 if the key is revoked, by a chain of at most so many steps -/
def revN (und : Vec) (fz : Int) : Nat → Int → Int
  | 0, _ => 0
  | n + 1, k => if k < 0 then 0 else if fz / ((2 ^ k.toNat : Nat) : Int) % 2 = 1 then 1 else revN und fz n (und k.toNat)
theorem revN_b (und : Vec) (fz : Int) : ∀ (n : Nat) (k : Int), revN und fz n k = 0 ∨ revN und fz n k = 1
  | 0, k => Or.inl rfl
  | n + 1, k => by
    unfold revN
    split
    · simp
    · split
      · simp
      · exact revN_b und fz n _
def OKU (ks : Int) (und : Vec) : Prop := ks ≤ 6 ∧ ∀ k : Nat, (k : Int) < ks → -1 ≤ und k ∧ und k < k
theorem fuse_bit {f k : Int} (f0 : 0 ≤ f) (f1 : f < 2147483648) (k0 : 0 ≤ k) (k1 : k < 32) : bAnd (shr32 f k) 1 = f / ((2 ^ k.toNat : Nat) : Int) % 2 := by
  have := shr32_div f0 f1 k.toNat (by omega)
  rw [Int.toNat_of_nonneg k0] at this
  rw [this, bAnd_1]
theorem s2_rev_loop {ks : Int} (hf : 0 ≤ σ 7 i 77 ∧ σ 7 i 77 < 64) (hu : OKU ks (σ 4 1)) (x1 : Int) : ∀ (n : Nat) (st k : Int), st = 6 - (n : Int) → n ≤ 6 → -1 ≤ k → k < ks → ev N mX2_isRevoked 4 [vR 6 i, vI x1, vI k, vI st] [] (P σ) = some (some (vI (revN (σ 4 1) (σ 7 i 77) n k)), P σ) := by
  intro n
  induction n with
  | zero =>
    intro st k hst hn k0 k1
    rw [eX2_isRevoked_4, if_neg (by omega)]
    rfl
  | succ n ih =>
    intro st k hst hn k0 k1
    have h6 := hu.1
    rw [eX2_isRevoked_4, if_pos (by omega)]
    unfold revN
    by_cases hk : k < 0
    · rw [if_pos hk, if_pos hk]
    · rw [if_neg hk, if_neg hk, s2_cell _ (by omega) (by omega), bnd_s, push_s, eX2_isRevoked_12, show (77 : Int).toNat = 77 from rfl, fuse_bit hf.1 (by omega) (by omega) (by omega)]
      split
      · rfl
      · have hu1 := hu.2 k.toNat (by omega)
        rw [s6_at4 _ (by omega) (by omega), bnd_s, push_s, eX2_isRevoked_25, w32i (by omega) (by omega)]
        exact ih _ _ (by omega) (by omega) (by omega) (by omega)
theorem s2_isRevoked {ks : Int} (hf : 0 ≤ σ 7 i 77 ∧ σ 7 i 77 < 64) (hu : OKU ks (σ 4 1)) (k : Int) (k0 : 0 ≤ k) (k1 : k < ks) : inv N mX2_isRevoked [vR 6 i, vI k] (P σ) = some (some (vI (revN (σ 4 1) (σ 7 i 77) 6 k)), P σ) := by
  rw [iX2_isRevoked, eX2_isRevoked_0]
  exact s2_rev_loop hf hu k 6 0 k rfl (by omega) (by omega) k1
theorem s2_version (s : Nat) (hs : s < 4) (hw : OKW (σ 7 i)) : inv N mX2_version [vR 6 i, vI (s : Int)] (P σ) = some (some (vI (σ 7 i (14 * s) - 1)), P σ) := by
  have h1 := hw (14 * s) (by omega)
  have e : ((s : Int) * 14).toNat = 14 * s := by omega
  rw [iX2_version, eX2_version_0, w32i (by omega) (by omega), s2_cell _ (by omega) (by omega), bnd_s, push_s, eX2_version_5, e, w32i (by omega) (by omega)]
/-- WHY a store cannot start, by the keys there are, their secrets, what they are under -/
def whyF (ks : Int) (sec und c : Vec) (s : Nat) : Int :=
  if c (14 * s) - 1 < 0 ∨ 30 < c (14 * s) - 1 ∨ ¬ (0 ≤ c (14 * s + 1) ∧ c (14 * s + 1) < ks) ∨ c (14 * s + 3) < 1 ∨ 4 < c (14 * s + 3) then 1
  else if ¬ c (14 * s + 5) = signF sec c (14 * s) then 2
  else if s < 2 then (if revN und (c 77) 6 (c (14 * s + 1)) = 1 then 3 else if c (14 * s) - 1 < c 76 then 4 else if soundF c (14 * s) (c (14 * s + 3)) = 1 then 0 else 5)
  else if ¬ c (14 * s + 1) = 0 then 3 else if soundF c (14 * s) (c (14 * s + 3)) = 1 then 0 else 5
/-- what the class's bundle is like -/
def OKG (σ : Sto) (j : Nat) : Prop := 0 ≤ σ 2 j 0 ∧ σ 2 j 0 ≤ 6 ∧ 0 ≤ σ 2 j 1 ∧ σ 2 j 1 ≤ 6 ∧ 1 ≤ σ 2 j 2 ∧ σ 2 j 2 ≤ 9 ∧ 1 ≤ σ 2 j 3 ∧ σ 2 j 3 ≤ 7 ∧ 1 ≤ σ 2 j 4 ∧ σ 2 j 4 ≤ 99 ∧ (∀ k, k < 6 → 0 ≤ σ 3 j k ∧ σ 3 j k < 10000) ∧ OKU (σ 2 j 0) (σ 4 j) ∧ (∀ k, k < 84 → 0 ≤ σ 5 j k ∧ σ 5 j k < 100000)
/-- what the cells are like -/
def OKC (c : Vec) : Prop := OKW c ∧ OKB c ∧ (0 ≤ c 76 ∧ c 76 ≤ 31) ∧ (0 ≤ c 77 ∧ c 77 < 64) ∧ (-1 ≤ c 78 ∧ c 78 ≤ 2)
theorem s0_hasKey (x : Int) : inv N mX0_hasKey [vR 2 i, vI x] (P σ) = some (some (vI (if 0 ≤ x ∧ x < σ 2 i 0 then 1 else 0)), P σ) := by
  rw [iX0_hasKey, eX0_hasKey_0]
  by_cases h1 : x < 0
  · rw [if_pos h1, if_neg (by omega)]
  · rw [if_neg h1]
    by_cases h2 : x < σ 2 i 0
    · rw [if_pos h2, if_pos ⟨by omega, h2⟩]
    · rw [if_neg h2, if_neg (by omega)]
theorem s0_hasImage (x : Int) : inv N mX0_hasImage [vR 2 i, vI x] (P σ) = some (some (vI (if 0 ≤ x ∧ x < σ 2 i 1 then 1 else 0)), P σ) := by
  rw [iX0_hasImage, eX0_hasImage_0]
  by_cases h1 : x < 0
  · rw [if_pos h1, if_neg (by omega)]
  · rw [if_neg h1]
    by_cases h2 : x < σ 2 i 1
    · rw [if_pos h2, if_pos ⟨by omega, h2⟩]
    · rw [if_neg h2, if_neg (by omega)]
theorem s2_reason (s : Nat) (hs : s < 4) (hg : OKG σ 1) (hc : OKC (σ 7 i)) : inv N mX2_reasonAgainst [vR 6 i, vI (s : Int)] (P σ) = some (some (vI (whyF (σ 2 1 0) (σ 3 1) (σ 4 1) (σ 7 i) s)), P σ) := by
  obtain ⟨g1, g2, -, -, -, -, -, -, -, -, g11, g12, -⟩ := hg
  obtain ⟨c1, c2, c3, c4, c5⟩ := hc
  have w0 := c1 (14 * s) (by omega)
  have w1 := c1 (14 * s + 1) (by omega)
  have w3 := c1 (14 * s + 3) (by omega)
  have e1 : ((s : Int) * 14 + 1).toNat = 14 * s + 1 := by omega
  have e3 : ((s : Int) * 14 + 3).toNat = 14 * s + 3 := by omega
  have e5 : ((s : Int) * 14 + 5).toNat = 14 * s + 5 := by omega
  have eb : (s : Int) * 14 = ((14 * s : Nat) : Int) := by omega
  rw [iX2_reasonAgainst, eX2_reasonAgainst_0, s2_version s hs c1, bnd_s, push_s, eX2_reasonAgainst_7, w32i (x := (s : Int) * 14) (by omega) (by omega), w32i (by omega) (by omega), s2_cell _ (by omega) (by omega), bnd_s, push_s, e1,
    eX2_reasonAgainst_13, w32i (by omega) (by omega), s2_cell _ (by omega) (by omega), bnd_s, push_s, e3, eX2_reasonAgainst_19]
  unfold whyF
  by_cases h1 : σ 7 i (14 * s) - 1 < 0
  · rw [if_pos h1, if_pos (Or.inl h1)]
  rw [if_neg h1]
  by_cases h2 : 30 < σ 7 i (14 * s) - 1
  · rw [if_pos h2, if_pos (Or.inr (Or.inl h2))]
  rw [if_neg h2, s0_hasKey, bnd_s, push_s, eX2_reasonAgainst_29]
  by_cases h3 : 0 ≤ σ 7 i (14 * s + 1) ∧ σ 7 i (14 * s + 1) < σ 2 1 0
  case neg => rw [if_neg h3, if_pos rfl, if_pos (Or.inr (Or.inr (Or.inl h3)))]
  rw [if_pos h3, if_neg (by omega)]
  by_cases h4 : σ 7 i (14 * s + 3) < 1
  · rw [if_pos h4, if_pos (by omega)]
  rw [if_neg h4]
  by_cases h5 : 4 < σ 7 i (14 * s + 3)
  · rw [if_pos h5, if_pos (by omega)]
  rw [if_neg h5, if_neg (show ¬ (σ 7 i (14 * s) - 1 < 0 ∨ 30 < σ 7 i (14 * s) - 1 ∨ ¬ (0 ≤ σ 7 i (14 * s + 1) ∧ σ 7 i (14 * s + 1) < σ 2 1 0) ∨ σ 7 i (14 * s + 3) < 1 ∨ 4 < σ 7 i (14 * s + 3)) by omega)]
  rw [w32i (by omega) (by omega), s2_cell _ (by omega) (by omega), bnd_s, push_s, e5, eX2_reasonAgainst_43, eb, s0_sign7 (14 * s) (by omega) (by omega) g11, bnd_s, push_s, eX2_reasonAgainst_49]
  by_cases h6 : σ 7 i (14 * s + 5) = signF (σ 3 1) (σ 7 i) (14 * s)
  case neg => rw [if_neg h6, if_pos h6]
  rw [if_pos h6, if_neg (show ¬ ¬ σ 7 i (14 * s + 5) = signF (σ 3 1) (σ 7 i) (14 * s) from fun z => z h6)]
  have hsnd := soundF_b (σ 7 i) (14 * s) (σ 7 i (14 * s + 3))
  have tail : bnd (inv N mX2_hasSoundParts [vR 6 i, vI ((14 * s : Nat) : Int), vI (σ 7 i (14 * s + 3))] (P σ)) (fun r S2 => ev N mX2_reasonAgainst 76 [vR 6 i, vI (s : Int), vI ((14 * s : Nat) : Int), vI (σ 7 i (14 * s) - 1), vI (σ 7 i (14 * s + 1)), vI (σ 7 i (14 * s + 3))] (push r []) S2) = some (some (vI (if soundF (σ 7 i) (14 * s) (σ 7 i (14 * s + 3)) = 1 then 0 else 5)), P σ) := by
    rw [s2_sound (14 * s) _ (by omega) (by omega) (by omega), bnd_s, push_s, eX2_reasonAgainst_76]
    rcases hsnd with h | h
    · rw [h, if_pos rfl, if_neg (show ¬ (0 : Int) = 1 by omega)]
    · rw [h, if_neg (show ¬ (1 : Int) = 0 by omega), if_pos rfl]
  by_cases h7 : s < 2
  · rw [if_pos h7, if_pos (show (s : Int) < 2 by omega), s2_isRevoked c4 g12 _ (by omega) (by omega), bnd_s, push_s, eX2_reasonAgainst_62]
    rcases revN_b (σ 4 1) (σ 7 i 77) 6 (σ 7 i (14 * s + 1)) with h8 | h8
    · rw [h8, if_pos rfl, if_neg (show ¬ (0 : Int) = 1 by omega), s2_cell _ (by omega) (by omega), bnd_s, push_s, eX2_reasonAgainst_69, show (76 : Int).toNat = 76 from rfl]
      by_cases h9 : σ 7 i (14 * s) - 1 < σ 7 i 76
      · rw [if_pos h9, if_pos h9]
      · rw [if_neg h9, if_neg h9, tail]
    · rw [h8, if_neg (show ¬ (1 : Int) = 0 by omega), if_pos rfl]
  · rw [if_neg h7, if_neg (show ¬ (s : Int) < 2 by omega)]
    by_cases h8 : σ 7 i (14 * s + 1) = 0
    · rw [if_pos h8, if_neg (show ¬ ¬ σ 7 i (14 * s + 1) = 0 from fun z => z h8), tail]
    · rw [if_neg h8, if_pos h8]
/-- the copy that recovery would start -/
def copyF (ks : Int) (sec und c : Vec) : Int := if whyF ks sec und c 2 = 0 then (if whyF ks sec und c 3 = 0 then (if c 28 - 1 < c 42 - 1 then 3 else 2) else 2) else if whyF ks sec und c 3 = 0 then 3 else -1
theorem s2_recoveryCopy (hg : OKG σ 1) (hc : OKC (σ 7 i)) : inv N mX2_recoveryCopy [vR 6 i] (P σ) = some (some (vI (copyF (σ 2 1 0) (σ 3 1) (σ 4 1) (σ 7 i))), P σ) := by
  have r2 := s2_reason (N := N) 2 (by omega) hg hc
  have r3 := s2_reason (N := N) 3 (by omega) hg hc
  have v2 := s2_version (N := N) 2 (by omega) hc.1
  have v3 := s2_version (N := N) 3 (by omega) hc.1
  simp only [Int.cast_ofNat_Int, Nat.reduceMul] at r2 r3 v2 v3
  unfold copyF
  rw [iX2_recoveryCopy, eX2_recoveryCopy_0, r2, bnd_s, push_s, eX2_recoveryCopy_3]
  by_cases h2 : whyF (σ 2 1 0) (σ 3 1) (σ 4 1) (σ 7 i) 2 = 0 <;> by_cases h3 : whyF (σ 2 1 0) (σ 3 1) (σ 4 1) (σ 7 i) 3 = 0 <;> simp only [h2, h3, ↓reduceIte, r3, v2, v3, bnd_s, push_s, eX2_recoveryCopy_11, eX2_recoveryCopy_23, eX2_recoveryCopy_26, Int.reduceEq]
  split <;> rfl
def openF (im : Int) (c : Vec) : Int := if c 74 = 90 ∧ c 75 = (c 72 + c 73 + c 74) % 256 ∧ (c 72 = 0 ∨ c 72 = 1) ∧ c 73 < im then 1 else 0
theorem s8_isSlot (x : Int) : inv N mX8_isSlot [vI x] (P σ) = some (some (vI (if x = 0 ∨ x = 1 then 1 else 0)), P σ) := by
  rw [iX8_isSlot, eX8_isSlot_0]
  by_cases h1 : x = 0
  · rw [if_pos h1, if_pos (Or.inl h1)]
  · rw [if_neg h1]
    by_cases h2 : x = 1
    · rw [if_pos h2, if_pos (Or.inr h2)]
    · rw [if_neg h2, if_neg (by omega)]
theorem s2_isOpen (hc : OKC (σ 7 i)) : inv N mX2_isJournalOpen [vR 6 i] (P σ) = some (some (vI (openF (σ 2 1 1) (σ 7 i))), P σ) := by
  have b72 := hc.2.1 72 (by omega) (by omega)
  have b73 := hc.2.1 73 (by omega) (by omega)
  have b74 := hc.2.1 74 (by omega) (by omega)
  unfold openF
  simp (disch := omega) only [iX2_isJournalOpen, eX2_isJournalOpen_0, eX2_isJournalOpen_3, eX2_isJournalOpen_7, eX2_isJournalOpen_11, s2_cell, bnd_s, push_s, Int.reduceToNat]
  by_cases h1 : σ 7 i 74 = 90
  case neg => rw [if_neg h1, if_neg (fun z => h1 z.1)]
  rw [if_pos h1]
  simp (disch := omega) only [eX2_isJournalOpen_18, w32i, bAnd_255]
  by_cases h2 : σ 7 i 75 = (σ 7 i 72 + σ 7 i 73 + σ 7 i 74) % 256
  case neg => rw [if_neg h2, if_neg (fun z => h2 z.2.1)]
  rw [if_pos h2, s8_isSlot, bnd_s, push_s, eX2_isJournalOpen_28]
  by_cases h3 : σ 7 i 72 = 0 ∨ σ 7 i 72 = 1
  case neg => rw [if_neg h3, if_pos rfl, if_neg (fun z => h3 z.2.2.1)]
  rw [if_pos h3, if_neg (show ¬ (1 : Int) = 0 by omega), s0_hasImage, bnd_s, push_s, eX2_isJournalOpen_33]
  by_cases h4 : σ 7 i 73 < σ 2 1 1
  · rw [if_pos (show 0 ≤ σ 7 i 73 ∧ σ 7 i 73 < σ 2 1 1 from ⟨b73.1, h4⟩), if_neg (show ¬ (1 : Int) = 0 by omega), if_pos (show σ 7 i 74 = 90 ∧ _ ∧ _ ∧ _ from ⟨h1, h2, h3, h4⟩)]
  · rw [if_neg (show ¬ (0 ≤ σ 7 i 73 ∧ σ 7 i 73 < σ 2 1 1) from fun z => h4 z.2), if_pos rfl, if_neg (fun z => h4 z.2.2.2)]
end CLS
