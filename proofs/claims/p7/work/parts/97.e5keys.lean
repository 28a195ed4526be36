/-! LINES: keys, settings -/
section LIN
variable {N n : Nat} {T : Vec} {σ : Sto} {p : Nat}
def addK (σ : Sto) (K : Nat) (v u : Int) : Sto := row (row (row σ 3 0 (set (σ 3 0) K v)) 4 0 (set (σ 4 0) K u)) 2 0 (set (σ 2 0) 0 ((K + 1 : Nat) : Int))
theorem key_n {K : Nat} (hK : K ≤ 6) : ¬ (K : Int) < 0 ∧ (K : Int) < 7 ∧ -1 < (K : Int) ∧ w32 ((K : Int) + 1) = ((K + 1 : Nat) : Int) ∧ w32 ((K : Int) - 1) = (K : Int) - 1 := by
  refine ⟨by omega, by omega, by omega, ?_, ?_⟩
  · rw [w32i (by omega) (by omega)]; omega
  · rw [w32i (by omega) (by omega)]
theorem key_6 {K : Nat} (hK : K < 6) : (K : Int) < 6 ∧ ¬ (K : Int) = 6 ∧ 0 ≤ (K : Int) := by omega
theorem c_addKey (K : Nat) (hK : K < 6) (h : σ 2 0 0 = (K : Int)) (v u : Int) : inv N mX0_addKey [vR 2 0, vI v, vI u] (P σ) = some (none, P (addK σ K v u)) := by
  have e1 : w32 ((K : Int) + 1) = ((K + 1 : Nat) : Int) := by rw [w32i (by omega) (by omega)]; omega
  have p3 := s6_put3 (N := N) (i := 0) (σ := σ) (K : Int) v (by omega) (by omega)
  rw [Int.toNat_natCast] at p3
  have r2 : ∀ f, row σ 3 0 f 2 0 = σ 2 0 := fun _ => rfl
  have p4 := s6_put4 (N := N) (i := 0) (σ := row σ 3 0 (set (σ 3 0) K v)) (K : Int) u (by omega) (by omega)
  rw [Int.toNat_natCast] at p4
  rw [iX0_addKey, eX0_addKey_0, h, p3, bnd_s, push_n, eX0_addKey_6, r2, h, p4, bnd_s, push_n, eX0_addKey_12, sup_row]
  have r3 : ∀ f g, row (row σ 3 0 f) 4 0 g 2 0 = σ 2 0 := fun _ _ => rfl
  have r4 : ∀ f, row σ 3 0 f 4 0 = σ 4 0 := fun _ => rfl
  rw [r3, h, e1, r4]
  rfl
theorem addK_CR {p2 K : Nat} (h : CR n T p2 σ) (hK : K < 6) (e : σ 2 0 0 = (K : Int)) {v u : Int} (hv : 0 ≤ v ∧ v ≤ 9999) (hu : -1 ≤ u ∧ u < (K : Int)) : CR n T p2 (addK σ K v u) := by
  obtain ⟨ct, hp, h3, h4, a, b, c, d, e5, ⟨f1, f2⟩, i, k⟩ := h
  have r0 : addK σ K v u 2 0 0 = ((K + 1 : Nat) : Int) := rfl
  have r3 : addK σ K v u 3 0 = set (σ 3 0) K v := rfl
  have r4 : addK σ K v u 4 0 = set (σ 4 0) K u := rfl
  refine ⟨ct, hp, h3, h4, ?_, b, c, d, e5, ⟨fun l hl => ?_, f2⟩, ?_, k⟩
  · rw [r0]; omega
  · rw [r3]
    by_cases q : l = K
    · rw [q, set_same]; omega
    · rw [set_ne _ _ q]; exact f1 l hl
  · rw [r0, r4]
    refine ⟨by omega, fun l hl => ?_⟩
    by_cases q : l = K
    · rw [q, set_same]; omega
    · rw [set_ne _ _ q]
      exact i.2 l (by rw [e]; omega)
theorem addK_RR {K : Nat} {τ : Sto} (h : RR σ τ) (e : σ 2 0 0 = (K : Int)) (v u : Int) {τ2 : Sto} (f2 : τ2 30 0 2 = σ 8 0 3) (f3 : τ2 30 0 3 = -1) (f7 : τ2 30 0 7 = ((K + 1 : Nat) : Int)) (f8 : τ2 30 0 8 = τ 30 0 8) (f9 : τ2 30 0 9 = τ 30 0 9) (r34 : τ2 34 0 = set (τ 34 0) K v) (r35 : τ2 35 0 = set (τ 35 0) K u) (r37 : τ2 37 0 = τ 37 0) (r39 : τ2 39 0 = τ 39 0) : RR (addK σ K v u) τ2 := by
  obtain ⟨a, b, c, d, k, j, l, m, o, q⟩ := h
  refine ⟨f2, f3, f7, by rw [f8, d]; rfl, fun i hi => ?_, fun i hi => ?_, by rw [r39, l]; rfl, by rw [r39, m]; rfl, by rw [r39, o]; rfl, by rw [f9, q]; rfl⟩
  · have hi2 : (i : Int) < ((K + 1 : Nat) : Int) := hi
    have s3 : addK σ K v u 3 0 = set (σ 3 0) K v := rfl
    have s4 : addK σ K v u 4 0 = set (σ 4 0) K u := rfl
    rw [r34, r35, s3, s4]
    by_cases z : i = K
    · rw [z, set_same, set_same, set_same, set_same]; exact ⟨rfl, rfl⟩
    · rw [set_ne _ _ z, set_ne _ _ z, set_ne _ _ z, set_ne _ _ z]
      exact k i (by rw [e]; omega)
  · rw [r37]
    exact j i hi
theorem CFr_addK (σ : Sto) (K : Nat) (v u : Int) : CFr σ (addK σ K v u) := CFr_trans (CFr_row _ 3 _ (by decide)) (CFr_trans (CFr_row _ 4 _ (by decide)) (CFr_row _ 2 _ (by decide)))
theorem m_key_bad {τ : Sto} (h : MX n T τ) (x1 : Int) {e : Nat} (he : e ≤ n) (h2 : τ 30 0 2 = (e : Int)) (h3 : ¬ τ 30 0 3 = -1) {K : Nat} (hK : K ≤ 6) (h7 : τ 30 0 7 = (K : Int)) (y0 : Int) : ∃ τ2, ev N mX9_readsKey 16 [vR 30 0, vI x1] [vI y0, vI (K : Int), vR 34 0] (P τ) = some (none, P τ2) ∧ MFr τ τ2 ∧ τ2 30 0 3 = τ 30 0 3 := by
  obtain ⟨k1, k2, -, e1, -⟩ := key_n hK
  have r30 : ∀ f g, row (row τ 34 0 f) 35 0 g 30 0 = τ 30 0 := fun _ _ => rfl
  have r30a : ∀ f, row τ 34 0 f 30 0 = τ 30 0 := fun _ => rfl
  have m1 := MFr_row τ 34 (set (τ 34 0) K y0) (by decide)
  have tk := m_takes_bad (N := N) (MX_MFr h m1) he (by rw [r30a]; exact h2) (by rw [r30a]; exact h3) 5
  refine ⟨row (row (row τ 34 0 (set (τ 34 0) K y0)) 35 0 (set (τ 35 0) K (-1))) 30 0 (set (τ 30 0) 7 ((K + 1 : Nat) : Int)), ?_, MFr_trans m1 (MFr_trans (MFr_row _ 35 _ (by decide)) (MFr_30 _ _ (fun j a b c d e f => by rw [set_ne _ _ d, r30]))), ?_⟩
  · rw [eX9_readsKey_16, if_neg k1, if_pos k2, Int.toNat_natCast, sup_row, tk, bnd_s, push_s, r30a, h7, eX9_readsKey_24, if_pos rfl, if_neg k1, if_pos k2, Int.toNat_natCast, sup_row, sup_row]
    have r35 : ∀ f, row τ 34 0 f 35 0 = τ 35 0 := fun _ => rfl
    rw [r35, r30, h7, e1]
  · rw [row_same, set_ne _ _ (by decide)]
theorem XT {X : Sto → Prop} (h : X = fun _ => True) : ∀ τ f, X τ → X (row τ 30 0 f) := fun _ _ _ => by rw [h]; trivial
theorem line_key (h : CR n T p σ) (zw : ZW σ) (st : Nat) (hst : st ≤ n) : LINE n T σ (fun _ => True) (inv N mX4_readKey [vR 8 0, vI (st : Int)] (P σ)) (fun τ => inv N mX9_readsKey [vR 30 0, vI (st : Int)] (P τ)) := by
  obtain ⟨K, eK⟩ := Int.eq_ofNat_of_zero_le h.2.2.2.2.1.1
  have K6 : K ≤ 6 := by have := h.2.2.2.2.1.2; rw [eK] at this; clear h; omega
  obtain ⟨k0, k7, km, k1, kw⟩ := key_n K6
  by_cases q : K = 6
  · have kk : ¬ (K : Int) < 6 ∧ (K : Int) = 6 := by clear h; omega
    refine LINE_congr ?_ ?_ (LINE_fail (N := N) (XT rfl) h st 3 hst (by decide) (fun r S2 => ev N mX4_readKey 9 [vR 8 0, vI (st : Int), vX, vX] (push r []) S2) (fun r S2 => ev N mX9_readsKey 8 [vR 30 0, vI (st : Int)] (push r []) S2) (fun ρ => ?_) ?_)
    · rw [iX4_readKey, eX4_readKey_0, eK, if_neg kk.1]
      rfl
    · intro τ hx hr _
      rw [iX9_readsKey, eX9_readsKey_0, hr.2.2.1, eK, if_pos kk.2]
      rfl
    · rw [push_s, eX4_readKey_9, if_pos rfl]
    · intro τ hx h3 ⟨e, he, h2⟩ h7 h8
      obtain ⟨f, e2, n1, n2, n3, n4⟩ := m_number_bad (N := N) hx he h2 h3 0 9999
      have mfr : MFr τ (row τ 30 0 f) := MFr_30 τ f (fun j a _ c _ _ _ => n4 j a c)
      obtain ⟨τ2, j1, j2, j3⟩ := m_key_bad (N := N) (MX_MFr hx mfr) (st : Int) n3 (by rw [row_same]; exact n2) (by rw [row_same, n4 3 (by decide) (by decide)]; exact h3) K6 (by rw [row_same, n4 7 (by decide) (by decide), h7, eK]) 0
      refine ⟨τ2, ?_, MFr_trans mfr j2, by rw [j3, row_same, n4 3 (by decide) (by decide)]⟩
      show ev N mX9_readsKey 8 [vR 30 0, vI (st : Int)] (push none []) (P τ) = _
      rw [push_n, eX9_readsKey_8, n1, bnd_s, push_s, h7, eK, j1]
  have K5 : K < 6 := Nat.lt_of_le_of_ne K6 q
  obtain ⟨l6, n6, -⟩ := key_6 K5
  refine LINE_congr ?_ ?_ (LINE_num (N := N) (XT rfl) h 0 9999 (fun r S2 => ev N mX4_readKey 14 [vR 8 0, vI (st : Int), vX, vX] (push r []) S2) (fun r S2 => ev N mX9_readsKey 16 [vR 30 0, vI (st : Int)] (push r [vI (K : Int), vR 34 0]) S2) (fun ρ => ?_) (fun x => ?_) ?_)
  · rw [iX4_readKey, eX4_readKey_0, eK, if_pos l6]
  · intro τ hx hr _
    rw [iX9_readsKey, eX9_readsKey_0, hr.2.2.1, eK, if_neg n6, eX9_readsKey_8, hr.2.2.1, eK]
  · rw [push_s, eX4_readKey_14, if_pos rfl]
  · intro τ hx h3 ⟨e, he, h2⟩ h7 h8
    exact m_key_bad hx _ he h2 h3 K6 (by rw [h7, eK]) x
  intro ρ v e cr r5 hv s5 r7 _ _
  have eKρ : ρ 2 0 0 = (K : Int) := by rw [s5.1]; exact eK
  have zwρ : ZW ρ := ZW_o zw (by rw [s5.1]) s5.2.2.2
  -- the model's row of secrets
  refine LINE_step (ρ := ρ) (X2 := fun τ => τ 34 0 K = v) rfl (CFr_refl ρ) rfl (fun τ hx hr _ => ⟨row τ 34 0 (set (τ 34 0) K v), ?_, MFr_row τ 34 _ (by decide), ?_, ?_⟩) (?_ : LINE n T ρ (fun τ => τ 34 0 K = v) _ (fun τ => bnd (inv N mX9_takes [vR 30 0, vI ((5 : Nat) : Int)] (P τ)) (fun r S2 => ev N mX9_readsKey 24 [vR 30 0, vI (st : Int)] (push r [vI (K : Int), vR 35 0]) S2)))
  · show ev N mX9_readsKey 16 [vR 30 0, vI (st : Int)] (push (some (vI v)) [vI (K : Int), vR 34 0]) (P τ) = _
    have r30 : row τ 34 0 (set (τ 34 0) K v) 30 0 7 = (K : Int) := by
      show τ 30 0 7 = (K : Int)
      rw [hr.2.2.1, eKρ]
    rw [push_s, eX9_readsKey_16, if_neg k0, if_pos k7, Int.toNat_natCast, sup_row, r30]
    rfl
  · obtain ⟨a, b, c, d, k, j, l, m, o, w⟩ := hr
    refine ⟨a, b, c, d, fun i hi => ⟨?_, (k i hi).2⟩, j, l, m, o, w⟩
    have ne : i ≠ K := by
      rw [eKρ] at hi
      clear h cr k j
      omega
    rw [row_same, set_ne _ _ ne]
    exact (k i hi).1
  · rw [row_same, set_same]
  refine LINE_congr ?_ (fun τ _ _ _ => rfl) (LINE_word (N := N) (fun _ _ z => z) cr 5 (by decide) (fun r S2 => ev N mX4_readKey 25 [vR 8 0, vI (st : Int), vI v, vI (-1)] (push r []) S2) (fun r S2 => ev N mX9_readsKey 24 [vR 30 0, vI (st : Int)] (push r [vI (K : Int), vR 35 0]) S2) ?_)
  · rw [push_s, eX4_readKey_14, if_neg (by decide), r5]
    rfl
  intro a ρ2 e2 ha cr2 s52 r72 _
  have eK2 : ρ2 2 0 0 = (K : Int) := by rw [s52.1]; exact eKρ
  have zw2 : ZW ρ2 := ZW_o zwρ (by rw [s52.1]) s52.2.2.2
  have e30 : ∀ (τ : Sto) (b : Vec), row τ 35 0 b 30 0 = τ 30 0 := fun _ _ => rfl
  rcases ha with rfl | rfl
  · -- no key above
    refine LINE_ok e2 (σ2 := addK ρ2 K v (-1)) ?_ (CFr_addK _ _ _ _) (addK_CR cr2 K5 eK2 hv ⟨by decide, km⟩) (ZW_o zw2 rfl rfl) rfl (fun τ hx hr hX => ⟨row (row τ 35 0 (set (τ 35 0) K (-1))) 30 0 (set (τ 30 0) 7 ((K + 1 : Nat) : Int)), ?_, ?_, ?_⟩)
    · show ev N mX4_readKey 25 [vR 8 0, vI (st : Int), vI v, vI (-1)] (push (some (vI 0)) []) (P ρ2) = _
      rw [push_s, eX4_readKey_25, if_pos rfl, c_addKey K K5 eK2, bnd_s, push_n, eX4_readKey_45]
    · show ev N mX9_readsKey 24 [vR 30 0, vI (st : Int)] (push (some (vI 0)) [vI (K : Int), vR 35 0]) (P τ) = _
      rw [push_s, eX9_readsKey_24, if_pos rfl, if_neg k0, if_pos k7, Int.toNat_natCast]
      simp only [sup_row, e30, hr.2.2.1, eK2, k1]
    · exact MFr_trans (MFr_row τ 35 _ (by decide)) (MFr_30 _ _ (fun j a b c d e z => by rw [set_ne _ _ d, e30]))
    · exact addK_RR hr eK2 v (-1) (by rw [row_same, set_ne _ _ (by decide)]; exact hr.1) (by rw [row_same, set_ne _ _ (by decide)]; exact hr.2.1) (by rw [row_same, set_same]) (by rw [row_same, set_ne _ _ (by decide)]) (by rw [row_same, set_ne _ _ (by decide)]) (by rw [← hX, set_id]; rfl) rfl rfl rfl
  · -- a key above
    refine LINE_congr ?_ ?_ (LINE_num (N := N) (fun _ _ z => z) cr2 0 ((K : Int) - 1) (fun r S2 => ev N mX4_readKey 34 [vR 8 0, vI (st : Int), vI v, vI (-1)] (push r []) S2) (fun r S2 => ev N mX9_readsKey 32 [vR 30 0, vI (st : Int)] (push r [vI (K : Int), vR 35 0]) S2) (fun ρ => ?_) (fun x => ?_) ?_)
    · show ev N mX4_readKey 25 [vR 8 0, vI (st : Int), vI v, vI (-1)] (push (some (vI 1)) []) (P ρ2) = _
      rw [push_s, eX4_readKey_25, if_neg (by decide), eK2, kw]
    · intro τ hx hr hX
      show ev N mX9_readsKey 24 [vR 30 0, vI (st : Int)] (push (some (vI 1)) [vI (K : Int), vR 35 0]) (P τ) = _
      rw [push_s, eX9_readsKey_24, if_neg (by decide), hr.2.2.1, eK2, kw]
    · rw [push_s, eX4_readKey_34, if_pos rfl]
    · intro τ hx h3 _ h7 h8
      refine ⟨row (row τ 35 0 (set (τ 35 0) K x)) 30 0 (set (τ 30 0) 7 ((K + 1 : Nat) : Int)), ?_, ?_, ?_⟩
      · show ev N mX9_readsKey 32 [vR 30 0, vI (st : Int)] (push (some (vI x)) [vI (K : Int), vR 35 0]) (P τ) = _
        rw [push_s, eX9_readsKey_32, if_neg k0, if_pos k7, Int.toNat_natCast]
        simp only [sup_row, e30, h7, eK2, k1]
      · exact MFr_trans (MFr_row τ 35 _ (by decide)) (MFr_30 _ _ (fun j a b c d e z => by rw [set_ne _ _ d, e30]))
      · rw [row_same, set_ne _ _ (by decide)]
    intro ρ3 u e3 cr3 r53 hu s53 r73 _ _
    have eK3 : ρ3 2 0 0 = (K : Int) := by rw [s53.1]; exact eK2
    have zw3 : ZW ρ3 := ZW_o zw2 (by rw [s53.1]) s53.2.2.2
    have hu2 : -1 ≤ u ∧ u < (K : Int) := by
      obtain ⟨u0, u1⟩ := hu
      clear h cr cr2 cr3
      omega
    refine LINE_ok e3 (σ2 := addK ρ3 K v u) ?_ (CFr_addK _ _ _ _) (addK_CR cr3 K5 eK3 hv hu2) (ZW_o zw3 rfl rfl) rfl (fun τ hx hr hX => ⟨row (row τ 35 0 (set (τ 35 0) K u)) 30 0 (set (τ 30 0) 7 ((K + 1 : Nat) : Int)), ?_, ?_, ?_⟩)
    · show ev N mX4_readKey 34 [vR 8 0, vI (st : Int), vI v, vI (-1)] (push (some (vI 1)) []) (P ρ3) = _
      rw [push_s, eX4_readKey_34, if_neg (by decide), r53, c_addKey K K5 eK3, bnd_s, push_n, eX4_readKey_45]
    · show ev N mX9_readsKey 32 [vR 30 0, vI (st : Int)] (push (some (vI u)) [vI (K : Int), vR 35 0]) (P τ) = _
      rw [push_s, eX9_readsKey_32, if_neg k0, if_pos k7, Int.toNat_natCast]
      simp only [sup_row, e30, hr.2.2.1, eK3, k1]
    · exact MFr_trans (MFr_row τ 35 _ (by decide)) (MFr_30 _ _ (fun j a b c d e z => by rw [set_ne _ _ d, e30]))
    · exact addK_RR hr eK3 v u (by rw [row_same, set_ne _ _ (by decide)]; exact hr.1) (by rw [row_same, set_ne _ _ (by decide)]; exact hr.2.1) (by rw [row_same, set_same]) (by rw [row_same, set_ne _ _ (by decide)]) (by rw [row_same, set_ne _ _ (by decide)]) (by rw [← hX, set_id]; rfl) rfl rfl rfl
theorem st_bits {a b c : Int} (ha : a = 0 ∨ a = 1) (hb : b = 0 ∨ b = 1) (hc : c = 0 ∨ c = 1) : (bAnd (shr32 (4 * a + 8 * b + 16 * c) 2) 1 = a ∧ bOr (4 * 0 + 8 * b + 16 * c) (shl32 1 2) = 4 * 1 + 8 * b + 16 * c) ∧ (bAnd (shr32 (4 * a + 8 * b + 16 * c) 3) 1 = b ∧ bOr (4 * a + 8 * 0 + 16 * c) (shl32 1 3) = 4 * a + 8 * 1 + 16 * c) ∧ (bAnd (shr32 (4 * a + 8 * b + 16 * c) 4) 1 = c ∧ bOr (4 * a + 8 * b + 16 * 0) (shl32 1 4) = 4 * a + 8 * b + 16 * 1) := by
  rcases ha with rfl | rfl <;> rcases hb with rfl | rfl <;> rcases hc with rfl | rfl <;> decide +kernel
theorem line_limit (h : CR n T p σ) (zw : ZW σ) (st : Nat) (hst : st ≤ n) : LINE n T σ (fun _ => True) (inv N mX4_readLimit [vR 8 0, vI (st : Int)] (P σ)) (fun τ => inv N mX9_readsSetting [vR 30 0, vI 2, vI (st : Int)] (P τ)) := by
  have b7 := h.2.2.2.2.2.2.2.2.2.2.2 7 (by decide) (by decide)
  have b8 := h.2.2.2.2.2.2.2.2.2.2.2 8 (by decide) (by decide)
  have b9 := h.2.2.2.2.2.2.2.2.2.2.2 9 (by decide) (by decide)
  have bits := (st_bits b7 b8 b9).1
  have nb : ∀ τ : Sto, RR σ τ → τ 30 0 9 = 4 * σ 8 0 7 + 8 * σ 8 0 8 + 16 * σ 8 0 9 := fun τ hr => hr.2.2.2.2.2.2.2.2.2
  have e39 : ∀ (τ : Sto) (f : Vec), row τ 30 0 f 39 0 = τ 39 0 := fun _ _ => rfl
  rcases b7 with q | q
  case inr =>
    refine LINE_congr ?_ ?_ (LINE_fail (N := N) (XT rfl) h st 3 hst (by decide) (fun r S2 => ev N mX4_readLimit 7 [vR 8 0, vI (st : Int)] (push r []) S2) (fun r S2 => ev N mX9_readsSetting 12 [vR 30 0, vI 2, vI (st : Int)] (push r []) S2) (fun ρ => ?_) ?_)
    · rw [iX4_readLimit, eX4_readLimit_0, if_neg (by rw [q]; decide)]
      rfl
    · intro τ hx hr _
      rw [iX9_readsSetting, eX9_readsSetting_0, nb τ hr, if_pos (bits.1.trans q)]
      rfl
    · rw [push_s, eX4_readLimit_7, if_pos rfl]
    · intro τ hx h3 ⟨e, he, h2⟩ h7 h8
      have m9 : MFr τ (row τ 30 0 (set (τ 30 0) 9 (bOr (τ 30 0 9) (shl32 1 2)))) := MFr_30 τ _ (fun j _ _ _ _ _ z => set_ne _ _ z)
      obtain ⟨f, e2, n1, n2, n3, n4⟩ := m_number_bad (N := N) (MX_MFr hx m9) he (by rw [row_same, set_ne _ _ (by decide)]; exact h2) (by rw [row_same, set_ne _ _ (by decide)]; exact h3) 1 9
      rw [row_row] at n1
      simp only [row_same] at n4
      refine ⟨row (row τ 30 0 f) 39 0 (set (τ 39 0) 2 0), ?_, MFr_trans (MFr_30 τ f (fun j a _ c _ _ z => (n4 j a c).trans (set_ne _ _ z))) (MFr_row _ 39 _ (by decide)), ?_⟩
      · show ev N mX9_readsSetting 12 [vR 30 0, vI 2, vI (st : Int)] (push none []) (P τ) = _
        rw [push_n, eX9_readsSetting_12, if_pos rfl, sup_row, n1, bnd_s, push_s, eX9_readsSetting_37, if_neg (by decide), if_pos (by decide), sup_row, e39]
        rfl
      · show f 3 = τ 30 0 3
        rw [n4 3 (by decide) (by decide), set_ne _ _ (by decide)]
  have g8 : ∀ j, j ≠ 7 → set (σ 8 0) 7 1 j = σ 8 0 j := fun j hj => set_ne _ _ hj
  refine LINE_step (ρ := row σ 8 0 (set (σ 8 0) 7 1)) (X2 := fun _ => True) ?_ (CFr_row σ 8 _ (by decide)) (by rw [row_same]; exact g8 10 (by decide)) (fun τ hx hr _ => ⟨row τ 30 0 (set (τ 30 0) 9 (bOr (τ 30 0 9) (shl32 1 2))), ?_, MFr_30 τ _ (fun j _ _ _ _ _ z => set_ne _ _ z), ?_, trivial⟩) (LINE_num (N := N) (p := p) (XT rfl) ?_ 1 9 (fun r S2 => ev N mX4_readLimit 15 [vR 8 0, vI (st : Int)] (push r []) S2) (fun r S2 => ev N mX9_readsSetting 37 [vR 30 0, vI 2, vI (st : Int)] (push r [vI 2, vR 39 0]) S2) (fun ρ => ?_) (fun x => ?_) ?_)
  · rw [iX4_readLimit, eX4_readLimit_0, if_pos q, sup_row]
  · show inv N mX9_readsSetting [vR 30 0, vI 2, vI (st : Int)] (P τ) = _
    rw [iX9_readsSetting, eX9_readsSetting_0, nb τ hr, if_neg (by rw [bits.1, q]; decide), eX9_readsSetting_12, if_pos rfl, sup_row, nb τ hr]
  · obtain ⟨a, b, c, d, k, j, l, m, o, w⟩ := hr
    have bo := bits.2
    rw [q] at w
    refine ⟨?_, ?_, ?_, ?_, k, j, l, m, o, ?_⟩
    · rw [row_same, row_same, set_ne _ _ (by decide), g8 3 (by decide)]; exact a
    · rw [row_same, set_ne _ _ (by decide)]; exact b
    · rw [row_same, set_ne _ _ (by decide)]; exact c
    · rw [row_same, set_ne _ _ (by decide)]; exact d
    · rw [row_same, row_same, set_same, w, bo, set_ne _ _ (show 8 ≠ 7 by decide), set_ne _ _ (show 9 ≠ 7 by decide), set_same]
  · obtain ⟨ct, hp, h3, h4, a, b, c, d, e, f, i, k⟩ := h
    refine ⟨CT_row ct (g8 2 (by decide)), hp, by rw [row_same, g8 3 (by decide)]; exact h3, by rw [row_same, g8 4 (by decide)]; exact h4, a, b, c, d, e, f, i, fun l h1 h2 => ?_⟩
    rw [row_same]
    by_cases z : l = 7
    · rw [z, set_same]; exact Or.inr rfl
    · rw [set_ne _ _ z]; exact k l h1 h2
  · rw [push_s, eX4_readLimit_15, if_pos rfl]
  · intro τ hx h3 _ h7 h8
    refine ⟨row τ 39 0 (set (τ 39 0) 2 x), ?_, MFr_row τ 39 _ (by decide), rfl⟩
    show ev N mX9_readsSetting 37 [vR 30 0, vI 2, vI (st : Int)] (push (some (vI x)) [vI 2, vR 39 0]) (P τ) = _
    rw [push_s, eX9_readsSetting_37, if_neg (by decide), if_pos (by decide), sup_row]
    rfl
  intro ρ v e cr r5 hv s5 r7 _ _
  refine LINE_ok e (σ2 := row ρ 2 0 (set (ρ 2 0) 2 v)) ?_ (CFr_row ρ 2 _ (by decide)) ?_ (ZW_o zw (by rw [row_same, set_ne _ _ (by decide), s5.1]; rfl) s5.2.2.2) rfl (fun τ hx hr _ => ⟨row τ 39 0 (set (τ 39 0) 2 v), ?_, MFr_row τ 39 _ (by decide), ?_⟩)
  · show ev N mX4_readLimit 15 [vR 8 0, vI (st : Int)] (push (some (vI 1)) []) (P ρ) = _
    rw [push_s, eX4_readLimit_15, if_neg (by decide), r5, sup_row]
  · obtain ⟨ct, hp, h3, h4, a, b, c, d, e5, f, i, k⟩ := cr
    exact ⟨ct, hp, h3, h4, a, b, hv, d, e5, f, i, k⟩
  · show ev N mX9_readsSetting 37 [vR 30 0, vI 2, vI (st : Int)] (push (some (vI v)) [vI 2, vR 39 0]) (P τ) = _
    rw [push_s, eX9_readsSetting_37, if_neg (by decide), if_pos (by decide), sup_row]
    rfl
  · obtain ⟨a, b, c, d, k, j, l, m, o, w⟩ := hr
    exact ⟨a, b, c, d, k, j, rfl, m, o, w⟩
theorem line_tries (h : CR n T p σ) (zw : ZW σ) (st : Nat) (hst : st ≤ n) : LINE n T σ (fun _ => True) (inv N mX4_readTries [vR 8 0, vI (st : Int)] (P σ)) (fun τ => inv N mX9_readsSetting [vR 30 0, vI 3, vI (st : Int)] (P τ)) := by
  have b7 := h.2.2.2.2.2.2.2.2.2.2.2 7 (by decide) (by decide)
  have b8 := h.2.2.2.2.2.2.2.2.2.2.2 8 (by decide) (by decide)
  have b9 := h.2.2.2.2.2.2.2.2.2.2.2 9 (by decide) (by decide)
  have bits := (st_bits b7 b8 b9).2.1
  have nb : ∀ τ : Sto, RR σ τ → τ 30 0 9 = 4 * σ 8 0 7 + 8 * σ 8 0 8 + 16 * σ 8 0 9 := fun τ hr => hr.2.2.2.2.2.2.2.2.2
  have e39 : ∀ (τ : Sto) (f : Vec), row τ 30 0 f 39 0 = τ 39 0 := fun _ _ => rfl
  rcases b8 with q | q
  case inr =>
    refine LINE_congr ?_ ?_ (LINE_fail (N := N) (XT rfl) h st 3 hst (by decide) (fun r S2 => ev N mX4_readTries 7 [vR 8 0, vI (st : Int)] (push r []) S2) (fun r S2 => ev N mX9_readsSetting 12 [vR 30 0, vI 3, vI (st : Int)] (push r []) S2) (fun ρ => ?_) ?_)
    · rw [iX4_readTries, eX4_readTries_0, if_neg (by rw [q]; decide)]
      rfl
    · intro τ hx hr _
      rw [iX9_readsSetting, eX9_readsSetting_0, nb τ hr, if_pos (bits.1.trans q)]
      rfl
    · rw [push_s, eX4_readTries_7, if_pos rfl]
    · intro τ hx h3 ⟨e, he, h2⟩ h7 h8
      have m9 : MFr τ (row τ 30 0 (set (τ 30 0) 9 (bOr (τ 30 0 9) (shl32 1 3)))) := MFr_30 τ _ (fun j _ _ _ _ _ z => set_ne _ _ z)
      obtain ⟨f, e2, n1, n2, n3, n4⟩ := m_number_bad (N := N) (MX_MFr hx m9) he (by rw [row_same, set_ne _ _ (by decide)]; exact h2) (by rw [row_same, set_ne _ _ (by decide)]; exact h3) 1 7
      rw [row_row] at n1
      simp only [row_same] at n4
      refine ⟨row (row τ 30 0 f) 39 0 (set (τ 39 0) 3 0), ?_, MFr_trans (MFr_30 τ f (fun j a _ c _ _ z => (n4 j a c).trans (set_ne _ _ z))) (MFr_row _ 39 _ (by decide)), ?_⟩
      · show ev N mX9_readsSetting 12 [vR 30 0, vI 3, vI (st : Int)] (push none []) (P τ) = _
        rw [push_n, eX9_readsSetting_12, if_neg (by decide), if_pos rfl, sup_row, n1, bnd_s, push_s, eX9_readsSetting_37, if_neg (by decide), if_pos (by decide), sup_row, e39]
        rfl
      · show f 3 = τ 30 0 3
        rw [n4 3 (by decide) (by decide), set_ne _ _ (by decide)]
  have g8 : ∀ j, j ≠ 8 → set (σ 8 0) 8 1 j = σ 8 0 j := fun j hj => set_ne _ _ hj
  refine LINE_step (ρ := row σ 8 0 (set (σ 8 0) 8 1)) (X2 := fun _ => True) ?_ (CFr_row σ 8 _ (by decide)) (by rw [row_same]; exact g8 10 (by decide)) (fun τ hx hr _ => ⟨row τ 30 0 (set (τ 30 0) 9 (bOr (τ 30 0 9) (shl32 1 3))), ?_, MFr_30 τ _ (fun j _ _ _ _ _ z => set_ne _ _ z), ?_, trivial⟩) (LINE_num (N := N) (p := p) (XT rfl) ?_ 1 7 (fun r S2 => ev N mX4_readTries 15 [vR 8 0, vI (st : Int)] (push r []) S2) (fun r S2 => ev N mX9_readsSetting 37 [vR 30 0, vI 3, vI (st : Int)] (push r [vI 3, vR 39 0]) S2) (fun ρ => ?_) (fun x => ?_) ?_)
  · rw [iX4_readTries, eX4_readTries_0, if_pos q, sup_row]
  · show inv N mX9_readsSetting [vR 30 0, vI 3, vI (st : Int)] (P τ) = _
    rw [iX9_readsSetting, eX9_readsSetting_0, nb τ hr, if_neg (by rw [bits.1, q]; decide), eX9_readsSetting_12, if_neg (by decide), if_pos rfl, sup_row, nb τ hr]
  · obtain ⟨a, b, c, d, k, j, l, m, o, w⟩ := hr
    have bo := bits.2
    rw [q] at w
    refine ⟨?_, ?_, ?_, ?_, k, j, l, m, o, ?_⟩
    · rw [row_same, row_same, set_ne _ _ (by decide), g8 3 (by decide)]; exact a
    · rw [row_same, set_ne _ _ (by decide)]; exact b
    · rw [row_same, set_ne _ _ (by decide)]; exact c
    · rw [row_same, set_ne _ _ (by decide)]; exact d
    · rw [row_same, row_same, set_same, w, bo, set_ne _ _ (show 7 ≠ 8 by decide), set_ne _ _ (show 9 ≠ 8 by decide), set_same]
  · obtain ⟨ct, hp, h3, h4, a, b, c, d, e, f, i, k⟩ := h
    refine ⟨CT_row ct (g8 2 (by decide)), hp, by rw [row_same, g8 3 (by decide)]; exact h3, by rw [row_same, g8 4 (by decide)]; exact h4, a, b, c, d, e, f, i, fun l h1 h2 => ?_⟩
    rw [row_same]
    by_cases z : l = 8
    · rw [z, set_same]; exact Or.inr rfl
    · rw [set_ne _ _ z]; exact k l h1 h2
  · rw [push_s, eX4_readTries_15, if_pos rfl]
  · intro τ hx h3 _ h7 h8
    refine ⟨row τ 39 0 (set (τ 39 0) 3 x), ?_, MFr_row τ 39 _ (by decide), rfl⟩
    show ev N mX9_readsSetting 37 [vR 30 0, vI 3, vI (st : Int)] (push (some (vI x)) [vI 3, vR 39 0]) (P τ) = _
    rw [push_s, eX9_readsSetting_37, if_neg (by decide), if_pos (by decide), sup_row]
    rfl
  intro ρ v e cr r5 hv s5 r7 _ _
  refine LINE_ok e (σ2 := row ρ 2 0 (set (ρ 2 0) 3 v)) ?_ (CFr_row ρ 2 _ (by decide)) ?_ (ZW_o zw (by rw [row_same, set_ne _ _ (by decide), s5.1]; rfl) s5.2.2.2) rfl (fun τ hx hr _ => ⟨row τ 39 0 (set (τ 39 0) 3 v), ?_, MFr_row τ 39 _ (by decide), ?_⟩)
  · show ev N mX4_readTries 15 [vR 8 0, vI (st : Int)] (push (some (vI 1)) []) (P ρ) = _
    rw [push_s, eX4_readTries_15, if_neg (by decide), r5, sup_row]
  · obtain ⟨ct, hp, h3, h4, a, b, c, d, e5, f, i, k⟩ := cr
    exact ⟨ct, hp, h3, h4, a, b, c, hv, e5, f, i, k⟩
  · show ev N mX9_readsSetting 37 [vR 30 0, vI 3, vI (st : Int)] (push (some (vI v)) [vI 3, vR 39 0]) (P τ) = _
    rw [push_s, eX9_readsSetting_37, if_neg (by decide), if_pos (by decide), sup_row]
    rfl
  · obtain ⟨a, b, c, d, k, j, l, m, o, w⟩ := hr
    exact ⟨a, b, c, d, k, j, l, rfl, o, w⟩
theorem line_watch (h : CR n T p σ) (zw : ZW σ) (st : Nat) (hst : st ≤ n) : LINE n T σ (fun _ => True) (inv N mX4_readWatch [vR 8 0, vI (st : Int)] (P σ)) (fun τ => inv N mX9_readsSetting [vR 30 0, vI 4, vI (st : Int)] (P τ)) := by
  have b7 := h.2.2.2.2.2.2.2.2.2.2.2 7 (by decide) (by decide)
  have b8 := h.2.2.2.2.2.2.2.2.2.2.2 8 (by decide) (by decide)
  have b9 := h.2.2.2.2.2.2.2.2.2.2.2 9 (by decide) (by decide)
  have bits := (st_bits b7 b8 b9).2.2
  have nb : ∀ τ : Sto, RR σ τ → τ 30 0 9 = 4 * σ 8 0 7 + 8 * σ 8 0 8 + 16 * σ 8 0 9 := fun τ hr => hr.2.2.2.2.2.2.2.2.2
  have e39 : ∀ (τ : Sto) (f : Vec), row τ 30 0 f 39 0 = τ 39 0 := fun _ _ => rfl
  rcases b9 with q | q
  case inr =>
    refine LINE_congr ?_ ?_ (LINE_fail (N := N) (XT rfl) h st 3 hst (by decide) (fun r S2 => ev N mX4_readWatch 7 [vR 8 0, vI (st : Int)] (push r []) S2) (fun r S2 => ev N mX9_readsSetting 12 [vR 30 0, vI 4, vI (st : Int)] (push r []) S2) (fun ρ => ?_) ?_)
    · rw [iX4_readWatch, eX4_readWatch_0, if_neg (by rw [q]; decide)]
      rfl
    · intro τ hx hr _
      rw [iX9_readsSetting, eX9_readsSetting_0, nb τ hr, if_pos (bits.1.trans q)]
      rfl
    · rw [push_s, eX4_readWatch_7, if_pos rfl]
    · intro τ hx h3 ⟨e, he, h2⟩ h7 h8
      have m9 : MFr τ (row τ 30 0 (set (τ 30 0) 9 (bOr (τ 30 0 9) (shl32 1 4)))) := MFr_30 τ _ (fun j _ _ _ _ _ z => set_ne _ _ z)
      obtain ⟨f, e2, n1, n2, n3, n4⟩ := m_number_bad (N := N) (MX_MFr hx m9) he (by rw [row_same, set_ne _ _ (by decide)]; exact h2) (by rw [row_same, set_ne _ _ (by decide)]; exact h3) 1 99
      rw [row_row] at n1
      simp only [row_same] at n4
      refine ⟨row (row τ 30 0 f) 39 0 (set (τ 39 0) 4 0), ?_, MFr_trans (MFr_30 τ f (fun j a _ c _ _ z => (n4 j a c).trans (set_ne _ _ z))) (MFr_row _ 39 _ (by decide)), ?_⟩
      · show ev N mX9_readsSetting 12 [vR 30 0, vI 4, vI (st : Int)] (push none []) (P τ) = _
        rw [push_n, eX9_readsSetting_12, if_neg (by decide), if_neg (by decide), sup_row, n1, bnd_s, push_s, eX9_readsSetting_37, if_neg (by decide), if_pos (by decide), sup_row, e39]
        rfl
      · show f 3 = τ 30 0 3
        rw [n4 3 (by decide) (by decide), set_ne _ _ (by decide)]
  have g8 : ∀ j, j ≠ 9 → set (σ 8 0) 9 1 j = σ 8 0 j := fun j hj => set_ne _ _ hj
  refine LINE_step (ρ := row σ 8 0 (set (σ 8 0) 9 1)) (X2 := fun _ => True) ?_ (CFr_row σ 8 _ (by decide)) (by rw [row_same]; exact g8 10 (by decide)) (fun τ hx hr _ => ⟨row τ 30 0 (set (τ 30 0) 9 (bOr (τ 30 0 9) (shl32 1 4))), ?_, MFr_30 τ _ (fun j _ _ _ _ _ z => set_ne _ _ z), ?_, trivial⟩) (LINE_num (N := N) (p := p) (XT rfl) ?_ 1 99 (fun r S2 => ev N mX4_readWatch 15 [vR 8 0, vI (st : Int)] (push r []) S2) (fun r S2 => ev N mX9_readsSetting 37 [vR 30 0, vI 4, vI (st : Int)] (push r [vI 4, vR 39 0]) S2) (fun ρ => ?_) (fun x => ?_) ?_)
  · rw [iX4_readWatch, eX4_readWatch_0, if_pos q, sup_row]
  · show inv N mX9_readsSetting [vR 30 0, vI 4, vI (st : Int)] (P τ) = _
    rw [iX9_readsSetting, eX9_readsSetting_0, nb τ hr, if_neg (by rw [bits.1, q]; decide), eX9_readsSetting_12, if_neg (by decide), if_neg (by decide), sup_row, nb τ hr]
  · obtain ⟨a, b, c, d, k, j, l, m, o, w⟩ := hr
    have bo := bits.2
    rw [q] at w
    refine ⟨?_, ?_, ?_, ?_, k, j, l, m, o, ?_⟩
    · rw [row_same, row_same, set_ne _ _ (by decide), g8 3 (by decide)]; exact a
    · rw [row_same, set_ne _ _ (by decide)]; exact b
    · rw [row_same, set_ne _ _ (by decide)]; exact c
    · rw [row_same, set_ne _ _ (by decide)]; exact d
    · rw [row_same, row_same, set_same, w, bo, set_ne _ _ (show 7 ≠ 9 by decide), set_ne _ _ (show 8 ≠ 9 by decide), set_same]
  · obtain ⟨ct, hp, h3, h4, a, b, c, d, e, f, i, k⟩ := h
    refine ⟨CT_row ct (g8 2 (by decide)), hp, by rw [row_same, g8 3 (by decide)]; exact h3, by rw [row_same, g8 4 (by decide)]; exact h4, a, b, c, d, e, f, i, fun l h1 h2 => ?_⟩
    rw [row_same]
    by_cases z : l = 9
    · rw [z, set_same]; exact Or.inr rfl
    · rw [set_ne _ _ z]; exact k l h1 h2
  · rw [push_s, eX4_readWatch_15, if_pos rfl]
  · intro τ hx h3 _ h7 h8
    refine ⟨row τ 39 0 (set (τ 39 0) 4 x), ?_, MFr_row τ 39 _ (by decide), rfl⟩
    show ev N mX9_readsSetting 37 [vR 30 0, vI 4, vI (st : Int)] (push (some (vI x)) [vI 4, vR 39 0]) (P τ) = _
    rw [push_s, eX9_readsSetting_37, if_neg (by decide), if_pos (by decide), sup_row]
    rfl
  intro ρ v e cr r5 hv s5 r7 _ _
  refine LINE_ok e (σ2 := row ρ 2 0 (set (ρ 2 0) 4 v)) ?_ (CFr_row ρ 2 _ (by decide)) ?_ (ZW_o zw (by rw [row_same, set_ne _ _ (by decide), s5.1]; rfl) s5.2.2.2) rfl (fun τ hx hr _ => ⟨row τ 39 0 (set (τ 39 0) 4 v), ?_, MFr_row τ 39 _ (by decide), ?_⟩)
  · show ev N mX4_readWatch 15 [vR 8 0, vI (st : Int)] (push (some (vI 1)) []) (P ρ) = _
    rw [push_s, eX4_readWatch_15, if_neg (by decide), r5, sup_row]
  · obtain ⟨ct, hp, h3, h4, a, b, c, d, e5, f, i, k⟩ := cr
    exact ⟨ct, hp, h3, h4, a, b, c, d, hv, f, i, k⟩
  · show ev N mX9_readsSetting 37 [vR 30 0, vI 4, vI (st : Int)] (push (some (vI v)) [vI 4, vR 39 0]) (P τ) = _
    rw [push_s, eX9_readsSetting_37, if_neg (by decide), if_pos (by decide), sup_row]
    rfl
  · obtain ⟨a, b, c, d, k, j, l, m, o, w⟩ := hr
    exact ⟨a, b, c, d, k, j, l, m, rfl, w⟩
end LIN
