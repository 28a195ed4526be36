/-! ROUTE and LIFE on the object as it was made: the model, both (p1 alone) -/
/-- a stand's sign -/
def sgE (ρ : Sto) (j : Nat) : Int := if j < 56 then ρ 40 0 j else if j < 64 then ρ 43 0 (j - 56) else if j = 64 then ρ 40 0 76 else if j = 65 then ρ 40 0 77 else if j = 66 then ρ 40 0 78 else (if ρ 40 0 78 = -1 then 0 else ρ 40 0 79)
def sgV (ρ : Sto) (g : Vec) (a : Nat) : Vec := fun j => if 68 * a ≤ j ∧ j < 68 * a + 68 then sgE ρ (j - 68 * a) else g j
theorem sg_set (ρ : Sto) (g : Vec) (a k : Nat) (hk : k < 68) (p : Vec) (hp : ∀ j, p j = if 68 * a ≤ j ∧ j < 68 * a + k then sgE ρ (j - 68 * a) else g j) (v : Int) (hv : v = sgE ρ k) : ∀ j, set p (68 * a + k) v j = if 68 * a ≤ j ∧ j < 68 * a + (k + 1) then sgE ρ (j - 68 * a) else g j := by
  intro j
  by_cases q : j = 68 * a + k
  · rw [q, set_same, if_pos (by omega), hv, show 68 * a + k - 68 * a = k by omega]
  · rw [set_ne _ _ q, hp j]
    by_cases w : 68 * a ≤ j ∧ j < 68 * a + k
    · rw [if_pos w, if_pos (by omega)]
    · rw [if_neg w, if_neg (by omega)]
section FRESH
variable {N : Nat} {σ τ : Sto}
theorem e_sg8 (ρ : Sto) (g : Vec) (a : Nat) (ha : a ≤ 300) : ∀ (m k : Nat) (p : Vec), k + m = 56 → (∀ j, p j = if 68 * a ≤ j ∧ j < 68 * a + k then sgE ρ (j - 68 * a) else g j) → ∃ p', (∀ j, p' j = if 68 * a ≤ j ∧ j < 68 * a + 56 then sgE ρ (j - 68 * a) else g j) ∧ ev N mX9_signs 8 [vR 30 0, vI (a : Int), vI ((68 * a : Nat) : Int), vI (k : Int)] [] (P (row ρ 49 0 p)) = ev N mX9_signs 26 [vR 30 0, vI (a : Int), vI (w32 (((68 * a : Nat) : Int) + 56)), vI 0] [] (P (row ρ 49 0 p')) := by
  intro m
  induction m with
  | zero =>
    intro k p hk hp
    have e : k = 56 := by omega
    subst e
    rw [eX9_signs_8, if_neg (by decide)]
    exact ⟨p, hp, rfl⟩
  | succ m ih =>
    intro k p hk hp
    have n := sg_num ha (show k < 68 by omega)
    have e40 : row ρ 49 0 p 40 0 = ρ 40 0 := by rw [row_at, if_neg (by decide)]
    have ve : ρ 40 0 k = sgE ρ k := by unfold sgE; rw [if_pos (by omega)]
    rw [eX9_signs_8, if_pos (show (k : Int) < 56 by omega), if_neg (show ¬ (k : Int) < 0 by omega), if_pos (show (k : Int) < 107 by omega), n.2.1, if_neg n.2.2.1, if_pos n.2.2.2.1, n.2.2.2.2, sup_row, row_same, row_row, Int.toNat_natCast, Int.toNat_natCast, e40]
    exact ih (k + 1) _ (by omega) (sg_set ρ g a k (by omega) p hp _ ve)
theorem e_sg26 (ρ : Sto) (g : Vec) (a : Nat) (ha : a ≤ 300) : ∀ (m k : Nat) (p : Vec), k + m = 8 → (∀ j, p j = if 68 * a ≤ j ∧ j < 68 * a + (56 + k) then sgE ρ (j - 68 * a) else g j) → ev N mX9_signs 26 [vR 30 0, vI (a : Int), vI ((68 * a + 56 : Nat) : Int), vI (k : Int)] [] (P (row ρ 49 0 p)) = some (none, P (row ρ 49 0 (sgV ρ g a))) := by
  intro m
  induction m with
  | zero =>
    intro k p hk hp
    have e : k = 8 := by omega
    subst e
    obtain ⟨n1, n2, n3, n4, p1, p2, p3, p4⟩ := sg_num3 ha
    have e40 : ∀ q, row ρ 49 0 q 40 0 = ρ 40 0 := fun q => by rw [row_at, if_neg (by decide)]
    have s64 : ∀ j, set p (68 * a + 64) (ρ 40 0 76) j = _ := sg_set ρ g a 64 (by decide) p hp (ρ 40 0 76) (by rfl)
    have s65 : ∀ j, set (set p (68 * a + 64) (ρ 40 0 76)) (68 * a + 65) (ρ 40 0 77) j = _ := sg_set ρ g a 65 (by decide) _ s64 (ρ 40 0 77) (by rfl)
    have s66 : ∀ j, set (set (set p (68 * a + 64) (ρ 40 0 76)) (68 * a + 65) (ρ 40 0 77)) (68 * a + 66) (ρ 40 0 78) j = _ := sg_set ρ g a 66 (by decide) _ s65 (ρ 40 0 78) (by rfl)
    have s67 := fun v hv => sg_set ρ g a 67 (by decide) _ s66 v hv
    have e67 : sgE ρ 67 = if ρ 40 0 78 = -1 then 0 else ρ 40 0 79 := rfl
    rw [eX9_signs_26, if_neg (by decide), n1, n2, n3, n4, if_neg p1.1, if_pos p1.2, if_neg p2.1, if_pos p2.2, if_neg p3.1, if_pos p3.2, s9_isOff, bnd_s, push_s, eX9_signs_77]
    simp only [sup_row, row_same, row_row, e40, Int.toNat_natCast, show (76 : Int).toNat = 76 from rfl, show (77 : Int).toNat = 77 from rfl, show (78 : Int).toNat = 78 from rfl, show (79 : Int).toNat = 79 from rfl]
    by_cases w : ρ 40 0 78 = -1
    · rw [if_pos w] at e67
      have f := s67 0 e67.symm
      rw [if_pos w, if_neg (by decide), if_neg p4.1, if_pos p4.2]
      exact congrArg (fun z => some (none, P (row ρ 49 0 z))) (funext f)
    · rw [if_neg w] at e67
      have f := s67 (ρ 40 0 79) e67.symm
      rw [if_neg w, if_pos rfl, if_neg p4.1, if_pos p4.2]
      exact congrArg (fun z => some (none, P (row ρ 49 0 z))) (funext f)
  | succ m ih =>
    intro k p hk hp
    have n := sg_num2 ha (show k < 12 by omega)
    have e43 : row ρ 49 0 p 43 0 = ρ 43 0 := by rw [row_at, if_neg (by decide)]
    have ve : ρ 43 0 k = sgE ρ (56 + k) := by unfold sgE; rw [if_neg (by omega), if_pos (by omega), show 56 + k - 56 = k by omega]
    rw [eX9_signs_26, if_pos (show (k : Int) < 8 by omega), if_neg (show ¬ (k : Int) < 0 by omega), if_pos (show (k : Int) < 8 by omega), n.2.1, if_neg n.2.2.1, if_pos n.2.2.2.1, n.2.2.2.2, sup_row, row_same, row_row, Int.toNat_natCast, Int.toNat_natCast, e43, show 68 * a + 56 + k = 68 * a + (56 + k) by omega]
    exact ih (k + 1) _ (by omega) (sg_set ρ g a (56 + k) (by omega) p hp _ ve)
theorem e_signs (hc : OKC (τ 40 0)) (a : Nat) (ha : a ≤ 300) : inv N mX9_signs [vR 30 0, vI (a : Int)] (P τ) = some (none, P (row (rfM τ) 49 0 (sgV (rfM τ) (rfM τ 49 0) a))) := by
  have e0 : ((0 : Nat) : Int) = 0 := rfl
  obtain ⟨p', h1, h2⟩ := e_sg8 (N := N) (rfM τ) (rfM τ 49 0) a ha 56 0 (rfM τ 49 0) rfl (fun j => by rw [if_neg (by omega)])
  have h3 := e_sg26 (N := N) (rfM τ) (rfM τ 49 0) a ha 8 0 p' rfl h1
  rw [row_id, e0, (sg_num2 ha (show 0 < 12 by decide)).1] at h2
  rw [e0] at h3
  rw [iX9_signs, eX9_signs_0, s9_readsFlags hc.2.1, bnd_s, push_n, eX9_signs_2, (sg_num ha (show 0 < 68 by decide)).1, h2, h3]
theorem e_alike (τ : Sto) (a b : Nat) (ha : a ≤ 300) (hb : b ≤ 300) (h : ∀ j, j < 68 → τ 49 0 (68 * a + j) = τ 49 0 (68 * b + j)) : inv N mX9_areAlike [vR 30 0, vI (a : Int), vI (b : Int)] (P τ) = some (some (vI 1), P τ) := by
  have lp : ∀ (m k : Nat), k + m = 68 → ev N mX9_areAlike 2 [vR 30 0, vI (a : Int), vI (b : Int), vI (k : Int)] [] (P τ) = some (some (vI 1), P τ) := by
    intro m
    induction m with
    | zero =>
      intro k hk
      rw [eX9_areAlike_2, if_neg (show ¬ (k : Int) < 68 by omega)]
    | succ m ih =>
      intro k hk
      have n := sg_num ha (show k < 68 by omega)
      have n' := sg_num hb (show k < 68 by omega)
      rw [eX9_areAlike_2, if_pos (show (k : Int) < 68 by omega), n.1, n'.1, n.2.1, n'.2.1, if_neg n.2.2.1, if_pos n.2.2.2.1, if_neg n'.2.2.1, if_pos n'.2.2.2.1, n.2.2.2.2, Int.toNat_natCast, Int.toNat_natCast, if_pos (h k (by omega))]
      exact ih (k + 1) (by omega)
  rw [iX9_areAlike, eX9_areAlike_0]
  exact lp 68 0 rfl
theorem e_there (h : τ 40 0 78 = -1) (v : Int) : inv N mX9_isThere [vR 30 0, vI v] (P τ) = some (some (vI 0), P τ) := by
  rw [iX9_isThere, eX9_isThere_0, iX9_isSlotRunning, eX9_isSlotRunning_0, show (78 : Int).toNat = 78 from rfl, h, if_neg (by decide), if_neg (by decide), bnd_s, push_s, eX9_isThere_2, if_pos rfl]
theorem e_lays (h48 : ∀ j, j < 107 → τ 48 0 j = C0 j) : ∃ υ, inv N mX9_laysFrom [vR 30 0, vR 48 0, vI 0] (P τ) = some (none, P υ) ∧ KM τ υ ∧ ∀ j, j < 107 → υ 40 0 j = C0 j := by
  have t := s9_lays48 (N := N) (σ := τ) 0 (by decide)
  refine ⟨_, t, KM_row τ 40 _ (Or.inl rfl), fun j hj => ?_⟩
  rw [row_same, cpy_all _ _ hj]
  exact h48 j hj
theorem C0_RZ {n : Vec} (h : ∀ j, j < 107 → n j = C0 j) : RZ C0 n := RZ_107 C0_cell.2.1 (fun _ _ => rfl) h
theorem C0_OK {n : Vec} (h : ∀ j, j < 107 → n j = C0 j) : OKC n := OKC_107 C0_ok h
theorem e_seeks (hg : OKG σ 1) (he : EnvM σ σ) (k21 : σ 2 1 = B0) (h40 : ∀ j, j < 107 → σ 40 0 j = C0 j) (v : Int) : ∃ υ, inv N mX9_seeks [vR 30 0, vI v] (P σ) = some (some (vI (-2)), P υ) ∧ MR σ υ := by
  have e0 : ((0 : Nat) : Int) = 0 := rfl
  have e1 : ((1 : Nat) : Int) = 1 := rfl
  have b0 : B0 0 = 0 := rfl
  have b1 : B0 1 = 0 := rfl
  have c78 := C0_78
  have sg := e_signs (N := N) (τ := σ) (C0_OK h40) 0 (by decide)
  rw [e0] at sg
  have th := e_there (N := N) (τ := σ) (by rw [h40 78 (by decide)]; exact c78) v
  rw [iX9_seeks, eX9_seeks_0, th, bnd_s, push_s, eX9_seeks_3, if_pos rfl, sg, bnd_s, push_n, eX9_seeks_12]
  have m1 : MR σ (row (rfM σ) 49 0 (sgV (rfM σ) (rfM σ 49 0) 0)) := MR_row (MR_KM (MR_refl σ) (KM_rf σ)) 49 (by decide) _
  have f40 : rfM σ 40 0 = σ 40 0 := by unfold rfM; rw [row_at, if_neg (by decide)]
  have r1 : row (rfM σ) 49 0 (sgV (rfM σ) (rfM σ 49 0) 0) 40 0 = σ 40 0 := by rw [row_at, if_neg (by decide)]; exact f40
  have r49 : ∀ j, j < 68 → row (rfM σ) 49 0 (sgV (rfM σ) (rfM σ 49 0) 0) 49 0 j = sgE (rfM σ) j := fun j hj => by
    rw [row_same]
    unfold sgV
    rw [if_pos (by omega), show j - 68 * 0 = j by omega]
  generalize row (rfM σ) 49 0 (sgV (rfM σ) (rfM σ 49 0) 0) = τ at m1 r1 r49
  have kp := s9_keep48 (N := N) (σ := τ) 0 (by decide)
  rw [e0] at kp
  rw [kp, bnd_s, push_n, eX9_seeks_17, sup_row]
  have m2 := MR_row (MR_row m1 48 (by decide) (cpyV (τ 40 0) (τ 48 0) 0 0 107)) 50 (by decide) (set (row τ 48 0 (cpyV (τ 40 0) (τ 48 0) 0 0 107) 50 0) ((0 : Int).toNat) (-1))
  have a48 : ∀ j, j < 107 → row (row τ 48 0 (cpyV (τ 40 0) (τ 48 0) 0 0 107)) 50 0 (set (row τ 48 0 (cpyV (τ 40 0) (τ 48 0) 0 0 107) 50 0) ((0 : Int).toNat) (-1)) 48 0 j = C0 j := fun j hj => by
    rw [row_at, if_neg (by decide), row_same, cpy_all _ _ hj, r1]
    exact h40 j hj
  have a49 : ∀ j, j < 68 → row (row τ 48 0 (cpyV (τ 40 0) (τ 48 0) 0 0 107)) 50 0 (set (row τ 48 0 (cpyV (τ 40 0) (τ 48 0) 0 0 107) 50 0) ((0 : Int).toNat) (-1)) 49 0 j = sgE (rfM σ) j := fun j hj => by
    rw [row_at, if_neg (by decide), row_at, if_neg (by decide)]
    exact r49 j hj
  generalize row (row τ 48 0 (cpyV (τ 40 0) (τ 48 0) 0 0 107)) 50 0 (set (row τ 48 0 (cpyV (τ 40 0) (τ 48 0) 0 0 107) 50 0) ((0 : Int).toNat) (-1)) = A at m2 a48 a49
  have i6 : ∀ τ, MR σ τ → τ 30 0 6 = 0 := fun τ h => by
    rw [(MR_env h he).2.2.2.1, k21]
    exact b1
  have w3 : w32 (3 + (w32 (2 * 0))) = 3 := rfl
  have w107 : w32 (107 * 0) = 0 := rfl
  -- the first
  obtain ⟨A1, l1, l2, l3⟩ := e_lays (N := N) a48
  have mA1 := MR_KM m2 l2
  have kA1 : KM A (row A1 40 0 (set (A1 40 0) 78 (-1))) := KM_trans l2 (KM_row A1 40 _ (Or.inl rfl))
  have o78 : A1 40 0 78 = -1 := by rw [l3 78 (by decide)]; exact c78
  have t0 : inv N mX9_tries [vR 30 0, vI 0] (P A1) = some (some (vI 0), P (row A1 40 0 (set (A1 40 0) 78 (-1)))) := by
    rw [iX9_tries, eX9_tries_0, if_pos rfl, s9_isOff, if_pos o78, bnd_s, push_s, eX9_tries_4, if_neg (by decide), show (78 : Int).toNat = 78 from rfl, sup_row]
  rw [eX9_seeks_26, if_pos (by decide), eX9_seeks_31, i6 A m2, w3, if_pos (by decide), w107, l1, bnd_s, push_n, eX9_seeks_46, t0, bnd_s, push_s, eX9_seeks_49, if_pos rfl, show w32 (0 + 1) = 1 from rfl]
  have mB := MR_KM m2 kA1
  have b48 : ∀ j, j < 107 → row A1 40 0 (set (A1 40 0) 78 (-1)) 48 0 j = C0 j := fun j hj => by rw [KM_r kA1 48 (by decide) 0]; exact a48 j hj
  have b49 : ∀ j, j < 68 → row A1 40 0 (set (A1 40 0) 78 (-1)) 49 0 j = sgE (rfM σ) j := fun j hj => by rw [KM_r kA1 49 (by decide) 0]; exact a49 j hj
  generalize row A1 40 0 (set (A1 40 0) 78 (-1)) = B at mB b48 b49
  -- the second: a boot
  obtain ⟨B1, l4, l5, l6⟩ := e_lays (N := N) b48
  have mB1 := MR_KM mB l5
  have eB1 := MR_env mB1 he
  have can := s9_canDo (N := N) (σ := B1) eB1.1 (C0_OK l6) 0 0 0
  have p78 : B1 40 0 78 = -1 := by rw [l6 78 (by decide)]; exact c78
  have ab : ableF (B1 30 0 6) (B1 36 0) (B1 40 0) 0 0 0 = 1 := by
    unfold ableF
    rw [if_pos rfl, if_pos ⟨p78, Or.inl rfl, rfl⟩]
  rw [ab] at can
  obtain ⟨υ, u1, u2, u3, u4⟩ := m_doesBoot (N := N) (σ0 := σ) (σ := B1) (x := (C0, Z)) hg (C0_RZ l6) C0_ok eB1 (by show C0 82 < 2147483000; decide +kernel) 0 0 (-1) (by decide) (by decide)
  rw [boot_none (by rw [k21]; exact b0) FL0_C0.1 FL0_C0.2.1] at u1 u3
  have hu : ∀ j, j < 78 → υ 40 0 j = C0 j := fun j hj => by
    have t := u3.1.1 j hj
    have t2 : set C0 81 0 j = C0 j := set_ne _ _ (by omega)
    exact t.symm.trans t2
  have hu78 : υ 40 0 78 = -1 := by
    have t := u3.2
    have t2 : set C0 81 0 78 = C0 78 := set_ne _ _ (by decide)
    exact t.symm.trans (t2.trans c78)
  have t1 : inv N mX9_tries [vR 30 0, vI 1] (P B1) = some (some (vI 1), P υ) := by
    rw [iX9_tries, eX9_tries_0, if_neg (by decide), if_pos rfl, if_neg (by decide), if_neg (by decide), can, bnd_s, push_s, eX9_tries_57, if_neg (by decide), u1, bnd_s, push_s, eX9_tries_66]
  rw [eX9_seeks_31, i6 B mB, w3, if_pos (by decide), w107, l4, bnd_s, push_n, eX9_seeks_46, t1, bnd_s, push_s, eX9_seeks_49, if_neg (by decide), if_neg (by decide), if_pos (by decide), if_neg (by decide), if_pos (by decide), show (1 : Int).toNat = 1 from rfl, sup_row, sup_row]
  have mC := MR_row (MR_row (MR_KM mB1 u2) 50 (by decide) (set (υ 50 0) 1 0)) 51 (by decide) (set (row υ 50 0 (set (υ 50 0) 1 0) 51 0) 1 1)
  have c40 : row (row υ 50 0 (set (υ 50 0) 1 0)) 51 0 (set (row υ 50 0 (set (υ 50 0) 1 0) 51 0) 1 1) 40 0 = υ 40 0 := by rw [row_at, if_neg (by decide), row_at, if_neg (by decide)]
  have c48 : ∀ j, j < 107 → row (row υ 50 0 (set (υ 50 0) 1 0)) 51 0 (set (row υ 50 0 (set (υ 50 0) 1 0) 51 0) 1 1) 48 0 j = C0 j := fun j hj => by
    rw [row_at, if_neg (by decide), row_at, if_neg (by decide), KM_r u2 48 (by decide) 0, KM_r l5 48 (by decide) 0]
    exact b48 j hj
  have c49 : ∀ j, j < 68 → row (row υ 50 0 (set (υ 50 0) 1 0)) 51 0 (set (row υ 50 0 (set (υ 50 0) 1 0) 51 0) 1 1) 49 0 j = sgE (rfM σ) j := fun j hj => by
    rw [row_at, if_neg (by decide), row_at, if_neg (by decide), KM_r u2 49 (by decide) 0, KM_r l5 49 (by decide) 0]
    exact b49 j hj
  generalize row (row υ 50 0 (set (υ 50 0) 1 0)) 51 0 (set (row υ 50 0 (set (υ 50 0) 1 0) 51 0) 1 1) = C at mC c40 c48 c49
  have okC : OKC (C 40 0) := by
    rw [c40]
    exact OKC_R C0_ok (fun j hj => (hu j hj).symm) (by rw [hu78]; decide)
  have th2 := e_there (N := N) (τ := C) (by rw [c40]; exact hu78) v
  have sg2 := e_signs (N := N) (τ := C) okC 1 (by decide)
  rw [e1] at sg2
  rw [th2, bnd_s, push_s, eX9_seeks_64, if_pos rfl, sg2, bnd_s, push_n, eX9_seeks_75]
  have g40 : rfM C 40 0 = C 40 0 := by unfold rfM; rw [row_at, if_neg (by decide)]
  have mD : MR σ (row (rfM C) 49 0 (sgV (rfM C) (rfM C 49 0) 1)) := MR_row (MR_KM mC (KM_rf C)) 49 (by decide) _
  have d48 : ∀ j, j < 107 → row (rfM C) 49 0 (sgV (rfM C) (rfM C 49 0) 1) 48 0 j = C0 j := fun j hj => by
    rw [row_at, if_neg (by decide), KM_r (KM_rf C) 48 (by decide) 0]
    exact c48 j hj
  have g43 : ∀ k, k < 8 → rfM σ 43 0 k = rfM C 43 0 k := fun k hk => by
    unfold rfM
    rw [row_same, row_same, flV_congr (c := σ 40 0) (n := C0) (fun j _ j2 => h40 j (by omega)), flV_congr (c := C 40 0) (n := C0) (fun j _ j2 => by rw [c40]; exact hu j (by omega))]
    exact (flV_eq C0_ok.2.1 C0_ok.2.1 (σ 43 0) (C 43 0)).2 rfl k hk
  have same : ∀ j, j < 68 → sgE (rfM σ) j = sgE (rfM C) j := fun j hj => by
    have x78 : rfM σ 40 0 78 = -1 := by rw [f40, h40 78 (by decide)]; exact c78
    have y78 : rfM C 40 0 78 = -1 := by rw [g40, c40]; exact hu78
    have lo : ∀ i, i < 78 → rfM σ 40 0 i = rfM C 40 0 i := fun i hi => by rw [f40, h40 i (by omega), g40, c40, hu i hi]
    unfold sgE
    by_cases q1 : j < 56
    · rw [if_pos q1, if_pos q1]; exact lo j (by omega)
    by_cases q2 : j < 64
    · rw [if_neg q1, if_neg q1, if_pos q2, if_pos q2]; exact g43 _ (by omega)
    rw [if_neg q1, if_neg q1, if_neg q2, if_neg q2, lo 76 (by decide), lo 77 (by decide), x78, y78, if_pos rfl, if_pos rfl]
  have al := e_alike (N := N) (row (rfM C) 49 0 (sgV (rfM C) (rfM C 49 0) 1)) 0 1 (by decide) (by decide) (fun j hj => by
    rw [row_same]
    unfold sgV
    rw [if_neg (by omega), if_pos (by omega), show 68 * 1 + j - 68 * 1 = j by omega, show 68 * 0 + j = j by omega, KM_r (KM_rf C) 49 (by decide) 0, c49 j hj]
    exact same j hj)
  rw [e0, e1] at al
  generalize row (rfM C) 49 0 (sgV (rfM C) (rfM C 49 0) 1) = D at mD d48 al
  rw [eX9_seeks_79, if_pos (by decide), if_pos rfl, al, bnd_s, push_s, eX9_seeks_88, show w32 (0 + 1) = 1 from rfl, eX9_seeks_79, if_neg (by decide), if_neg (by decide), show w32 (1 + 1) = 2 from rfl]
  -- the third
  obtain ⟨D1, l7, l8, l9⟩ := e_lays (N := N) d48
  have mD1 := MR_KM mD l8
  have can2 := s9_canDo (N := N) (σ := D1) (MR_env mD1 he).1 (C0_OK l9) 1 0 0
  have ab2 : ableF (D1 30 0 6) (D1 36 0) (D1 40 0) 1 0 0 = 0 := by
    unfold ableF
    rw [if_neg (by decide), if_pos (by rw [l9 78 (by decide)]; exact c78)]
  rw [ab2] at can2
  have t2 : inv N mX9_tries [vR 30 0, vI 2] (P D1) = some (some (vI 0), P D1) := by
    rw [iX9_tries, eX9_tries_0, if_neg (by decide), if_neg (by decide), if_pos rfl, if_neg (by decide), if_neg (by decide), can2, bnd_s, push_s, eX9_tries_57, if_pos rfl]
  rw [eX9_seeks_31, i6 D mD, w3, if_pos (by decide), w107, l7, bnd_s, push_n, eX9_seeks_46, t2, bnd_s, push_s, eX9_seeks_49, if_pos rfl, show w32 (2 + 1) = 3 from rfl]
  rw [eX9_seeks_31, i6 D1 mD1, w3, if_neg (by decide), show w32 (0 + 1) = 1 from rfl, eX9_seeks_26, if_neg (by decide)]
  exact ⟨D1, rfl, mD1⟩
theorem QX_MR {τ υ : Sto} (q1 : QX σ τ) (e42 : ∀ j, j < 107 → τ 42 0 j = σ 40 0 j) (u2 : MR τ υ) : QX σ (row υ 40 0 (cpyV (υ 42 0) (υ 40 0) (107 * 0) 0 107)) := by
  refine QX_trans q1 ?_
  have o : ∀ k k', ¬ (k' = 0 ∧ (k = 30 ∨ k = 40 ∨ k = 43 ∨ k = 44 ∨ k = 45 ∨ k = 48 ∨ k = 49 ∨ k = 50 ∨ k = 51)) → row υ 40 0 (cpyV (υ 42 0) (υ 40 0) (107 * 0) 0 107) k k' = τ k k' := fun k k' q => by
    rw [row_at, if_neg (fun z => q ⟨z.2, Or.inr (Or.inl z.1)⟩)]
    exact u2.1 k k' q
  have o30 : ∀ j, j ≠ 22 → j ≠ 23 → j ≠ 24 → j ≠ 34 → row υ 40 0 (cpyV (υ 42 0) (υ 40 0) (107 * 0) 0 107) 30 0 j = τ 30 0 j := fun j j1 j2 j3 j4 => by
    rw [row_at, if_neg (by decide)]
    exact u2.2 j j1 j2 j3 j4
  have o40 : ∀ j, j < 107 → row υ 40 0 (cpyV (υ 42 0) (υ 40 0) (107 * 0) 0 107) 40 0 j = τ 40 0 j := fun j hj => by
    rw [row_same, Nat.mul_zero, cpy_all _ _ hj, u2.1 42 0 (by decide), e42 j hj, q1.2.2.1 j hj]
  generalize row υ 40 0 (cpyV (υ 42 0) (υ 40 0) (107 * 0) 0 107) = ρ at o o30 o40
  exact ⟨⟨fun k k' q => o k k' (by omega), o30 1 (by decide) (by decide) (by decide) (by decide), o30 5 (by decide) (by decide) (by decide) (by decide), o30 6 (by decide) (by decide) (by decide) (by decide), o30 35 (by decide) (by decide) (by decide) (by decide)⟩, o 7 0 (by decide), o40, o 9 0 (by decide), o 10 0 (by decide), o 41 0 (by decide), o30 21 (by decide) (by decide) (by decide) (by decide)⟩
theorem fresh_route (a b : Int) {σ : Sto} {L : Int} (hs : ∃ σ0, σ = gStart σ0) (h : INV L σ) : ∃ ans σ1 σ2, inv N mX8_route [vR 0 0, vI a, vI b] (P σ) = some (some (vI ans), P σ1) ∧ inv N mX9_route [vR 30 0, vI a, vI b] (P σ1) = some (some (vI ans), P σ2) ∧ INV (L + 300) σ2 := by
  have oi := fun τ v lo hi => s9_in (N := N) (σ := τ) v lo hi
  have i0 : INV 0 σ := by
    obtain ⟨σ0, e⟩ := hs
    rw [e]
    exact INV_start σ0
  have k21 : σ 2 1 = B0 := by
    obtain ⟨σ0, e⟩ := hs
    rw [e]
    exact gs_2_1 σ0
  have k70 : σ 7 0 = C0 := by
    obtain ⟨σ0, e⟩ := hs
    rw [e]
    exact gs_7_0 σ0
  have k74 : σ 7 4 = C0 := by
    obtain ⟨σ0, e⟩ := hs
    rw [e]
    exact gs_7_4 σ0
  have k64 : σ 6 4 = Z := by
    obtain ⟨σ0, e⟩ := hs
    rw [e]
    exact gs_6_4 σ0
  have k40 : σ 40 0 = C0 := by
    obtain ⟨σ0, e⟩ := hs
    rw [e]
    exact gs_40_0 σ0
  clear hs
  by_cases q : (0 ≤ a ∧ a ≤ 30) ∧ ¬ b < -1
  case neg =>
    refine ⟨-1, σ, σ, ?_, ?_, up300 h (by omega)⟩
    · rw [iX8_route, eX8_route_0]
      by_cases a0 : a < 0
      · rw [if_pos a0]
      by_cases a1 : a < 31
      · rw [if_neg a0, if_pos a1, if_pos (by omega)]
      · rw [if_neg a0, if_neg a1]
    · rw [iX9_route, eX9_route_0, oi, bnd_s, push_s, eX9_route_5]
      by_cases a0 : 0 ≤ a ∧ a ≤ 30
      · rw [if_pos a0, if_neg (by decide), if_pos (by omega)]
      · rw [if_neg a0, if_pos rfl]
  obtain ⟨τ, t1, t2⟩ := f_search (N := N) i0 k21 k70 k74 k64 a
  have q1 := QX_RtT t2
  have h1 := INV_QX q1 h
  have h40 : ∀ j, j < 107 → τ 40 0 j = C0 j := fun j hj => by rw [q1.2.2.1 j hj, k40]
  have j21 : τ 2 1 = B0 := by rw [t2.1 2 1 (by decide)]; exact k21
  have q2 : QX τ (row τ 42 0 (cpyV (τ 40 0) (τ 42 0) 0 (107 * 0) 107)) := QX_row τ 42 0 _ (by decide) (by decide) (by decide)
  have e42 : ∀ j, j < 107 → row τ 42 0 (cpyV (τ 40 0) (τ 42 0) 0 (107 * 0) 107) 42 0 j = τ 40 0 j := fun j hj => by
    rw [row_same, Nat.mul_zero]
    exact cpy_all _ _ hj
  have tk := m_think0 (N := N) τ
  generalize row τ 42 0 (cpyV (τ 40 0) (τ 42 0) 0 (107 * 0) 107) = ρ at q2 e42 tk
  have h2 := INV_QX q2 h1
  obtain ⟨υ, u1, u2⟩ := e_seeks (N := N) (σ := ρ) h2.1.1 h2.1.2.1 (by rw [q2.1.1 2 1 (by decide)]; exact j21) (fun j hj => by rw [q2.2.2.1 j hj]; exact h40 j hj) a
  have fin := QX_MR q2 e42 u2
  refine ⟨-2, τ, _, ?_, ?_, up300 (INV_QX fin h1) (by omega)⟩
  · rw [iX8_route, eX8_route_0, if_neg (by omega), if_pos (by omega), if_neg q.2, t1, bnd_s, push_s, eX8_route_14, if_neg (by decide), if_neg (by decide)]
  · rw [iX9_route, eX9_route_0, oi, if_pos q.1, bnd_s, push_s, eX9_route_5, if_neg (by decide), if_neg q.2, tk, bnd_s, push_n, eX9_route_14, u1, bnd_s, push_s, eX9_route_17, m_back0, bnd_s, push_n, eX9_route_21, if_pos (by decide)]
theorem fresh_life (a b : Int) {σ : Sto} {L : Int} (hs : ∃ σ0, σ = gStart σ0) (h : INV L σ) : ∃ ans σ1 σ2, inv N mX8_life [vR 0 0, vI a, vI b] (P σ) = some (some (vI ans), P σ1) ∧ inv N mX9_life [vR 30 0, vI a, vI b] (P σ1) = some (some (vI ans), P σ2) ∧ INV (L + 300) σ2 := by
  have oi := fun τ v lo hi => s9_in (N := N) (σ := τ) v lo hi
  have k21 : σ 2 1 1 = 0 := by
    obtain ⟨σ0, e⟩ := hs
    rw [e, gs_2_1 σ0]
    rfl
  have k30 : σ 30 0 6 = 0 := by
    obtain ⟨σ0, e⟩ := hs
    rw [e, gs_30_0 σ0]
    rfl
  refine ⟨-1, σ, σ, ?_, ?_, up300 h (by omega)⟩
  · rw [iX8_life, eX8_life_0]
    by_cases a1 : a < 1
    · rw [if_pos a1]
    by_cases a2 : 60 < a
    · rw [if_neg a1, if_pos a2]
    rw [if_neg a1, if_neg a2, if_pos k21]
  · rw [iX9_life, eX9_life_0, oi, bnd_s, push_s, eX9_life_5]
    by_cases a1 : 1 ≤ a ∧ a ≤ 60
    · rw [if_pos a1, if_neg (by decide), oi, bnd_s, push_s, eX9_life_11]
      by_cases b1 : 0 ≤ b ∧ b ≤ 5
      · rw [if_pos b1, if_neg (by decide), if_pos k30]
      · rw [if_neg b1, if_pos rfl]
    · rw [if_neg a1, if_pos rfl]
end FRESH
