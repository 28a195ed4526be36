/-! NUMBERS of the text -/
section TOK
variable {N n : Nat} {T : Vec} {σ : Sto}
noncomputable def tailC (N : Nat) (lo hi : Int) (ρ : Sto) : Option Out := if ρ 8 0 5 < lo then bnd (inv N mX4_fail [vR 8 0, vI (ρ 8 0 6), vI 2] (P ρ)) (fun r S2 => ev N mX4_takeNumber 67 [vR 8 0, vI lo, vI hi] (push r []) S2) else if hi < ρ 8 0 5 then bnd (inv N mX4_fail [vR 8 0, vI (ρ 8 0 6), vI 2] (P ρ)) (fun r S2 => ev N mX4_takeNumber 67 [vR 8 0, vI lo, vI hi] (push r []) S2) else some (some (vI 1), P ρ)
theorem num_w {v b : Int} (h0 : 0 ≤ v) (h1 : v ≤ 1000000) (d : 48 ≤ b ∧ b ≤ 57) : w32 (w32 (w32 (v * 10) + b) - 48) = v * 10 + b - 48 ∧ w32 (w32 (w32 (10 * v) + b) - 48) = v * 10 + b - 48 := by
  rw [w32i (x := v * 10) (by omega) (by omega), w32i (x := 10 * v) (by omega) (by omega), w32i (x := v * 10 + b) (by omega) (by omega), w32i (x := 10 * v + b) (by omega) (by omega), w32i (x := v * 10 + b - 48) (by omega) (by omega), w32i (x := 10 * v + b - 48) (by omega) (by omega)]
  omega
theorem c_num_loop (h : CT n T σ) (lo hi : Int) : ∀ (m p : Nat) (v : Int) (g : Vec), n - p = m → p ≤ n → g 3 = (p : Int) → g 5 = v → g 2 = σ 8 0 2 → 0 ≤ v → v ≤ 1000000 → ev N mX4_takeNumber 21 [vR 8 0, vI lo, vI hi] [] (P (row σ 8 0 g)) = tailC N lo hi (row σ 8 0 (set (set g 5 (numF n T m p v).1) 3 ((numF n T m p v).2 : Int))) := by
  intro m
  induction m with
  | zero =>
    intro p v g hm hp g3 g5 g2 v0 v1
    have e : set (set g 5 v) 3 (p : Int) = g := by rw [← g5, set_id, ← g3, set_id]
    rw [eX4_takeNumber_21, row_same, g3, g2, h.1, if_neg (by omega), numF, e]
    unfold tailC
    rw [row_same]
  | succ m ih =>
    intro p v g hm hp g3 g5 g2 v0 v1
    have e : set (set g 5 v) 3 (p : Int) = g := by rw [← g5, set_id, ← g3, set_id]
    have ba := c_byteAt (N := N) (CT_row h g2) p
    rw [eX4_takeNumber_21, row_same, g3, g2, h.1, if_pos (by omega), ba, bnd_s, push_s, eX4_takeNumber_30, c_digit, bnd_s, push_s, eX4_takeNumber_31, numF]
    by_cases q : 48 ≤ byI n T p ∧ byI n T p ≤ 57
    · rw [if_pos q, if_neg (by decide), row_same, g3, g5, ba, bnd_s, push_s, eX4_takeNumber_41, if_pos q, (num_w v0 v1 q).1]
      simp only [sup_row, row_same, row_row]
      rw [set_ne _ _ (show 3 ≠ 5 by decide), g3, p_n hp h.2.1]
      rw [ih (p + 1) (min (v * 10 + byI n T p - 48) 1000000) _ (by omega) (by omega) (set_same _ _ _) (by rw [set_ne _ _ (by decide), set_same]) (by rw [set_ne _ _ (by decide), set_ne _ _ (by decide), g2]) (by omega) (by omega)]
      rw [set_comm (set g 5 (min (v * 10 + byI n T p - 48) 1000000)) 3 5 _ _ (by decide), set_set, set_set]
    · rw [if_neg q, if_pos rfl, if_neg q, e]
      unfold tailC
      rw [row_same]
theorem c_number (h : CT n T σ) {p : Nat} (hp : p ≤ n) (h3 : σ 8 0 3 = (p : Int)) (h4 : σ 8 0 4 = -1) (lo hi : Int) : ∃ g : Vec, inv N mX4_takeNumber [vR 8 0, vI lo, vI hi] (P σ) = some (some (vI (if NF1 n T lo hi (SK n T p) = -1 then 1 else 0)), P (row σ 8 0 g)) ∧ g 4 = NF1 n T lo hi (SK n T p) ∧ (NF1 n T lo hi (SK n T p) = -1 → g 3 = ((NUM n T (SK n T p)).2 : Int) ∧ g 5 = (NUM n T (SK n T p)).1 ∧ g 6 = (SK n T p : Int)) ∧ g 2 = σ 8 0 2 ∧ ∀ j, 7 ≤ j → g j = σ 8 0 j := by
  have sk := SK_le (T := T) hp
  have n3 := h.2.1
  generalize hq : SK n T p = q at sk
  have cs := c_skip (N := N) h hp h3
  rw [hq] at cs
  rw [iX4_takeNumber, eX4_takeNumber_0, cs, bnd_s, push_n, eX4_takeNumber_2]
  simp only [sup_row, row_same, row_row, set_same]
  rw [set_ne _ _ (show 3 ≠ 6 by decide), set_same]
  have g2 : set (set (σ 8 0) 3 (q : Int)) 6 (q : Int) 2 = σ 8 0 2 := by rw [set_ne _ _ (by decide), set_ne _ _ (by decide)]
  rw [c_byteAt (CT_row h g2), bnd_s, push_s, eX4_takeNumber_10, c_digit, bnd_s, push_s, eX4_takeNumber_11]
  unfold NF1
  by_cases d : 48 ≤ byI n T q ∧ byI n T q ≤ 57
  · rw [if_pos d, if_neg (by decide), sup_row, row_same, row_row, if_pos d]
    have lp := c_num_loop (N := N) h lo hi (n - q) q 0 (set (set (set (σ 8 0) 3 (q : Int)) 6 (q : Int)) 5 0) rfl sk.2 (by rw [set_ne _ _ (by decide), set_ne _ _ (by decide), set_same]) (set_same _ _ _) (by rw [set_ne _ _ (by decide), g2]) (by decide) (by decide)
    have ee : numF n T (n - q) q 0 = NUM n T q := rfl
    rw [ee] at lp
    rw [lp]
    unfold tailC
    have r5 : set (set (set (set (set (σ 8 0) 3 (q : Int)) 6 (q : Int)) 5 0) 5 (NUM n T q).1) 3 ((NUM n T q).2 : Int) 5 = (NUM n T q).1 := by rw [set_ne _ _ (by decide), set_same]
    have r6 : set (set (set (set (set (σ 8 0) 3 (q : Int)) 6 (q : Int)) 5 0) 5 (NUM n T q).1) 3 ((NUM n T q).2 : Int) 6 = (q : Int) := by rw [set_ne _ _ (by decide), set_ne _ _ (by decide), set_ne _ _ (by decide), set_same]
    have r4 : set (set (set (set (set (σ 8 0) 3 (q : Int)) 6 (q : Int)) 5 0) 5 (NUM n T q).1) 3 ((NUM n T q).2 : Int) 4 = -1 := by rw [set_ne _ _ (by decide), set_ne _ _ (by decide), set_ne _ _ (by decide), set_ne _ _ (by decide), set_ne _ _ (by decide), h4]
    have r3 : set (set (set (set (set (σ 8 0) 3 (q : Int)) 6 (q : Int)) 5 0) 5 (NUM n T q).1) 3 ((NUM n T q).2 : Int) 3 = ((NUM n T q).2 : Int) := set_same _ _ _
    have ro : ∀ j, j = 2 ∨ 7 ≤ j → set (set (set (set (set (σ 8 0) 3 (q : Int)) 6 (q : Int)) 5 0) 5 (NUM n T q).1) 3 ((NUM n T q).2 : Int) j = σ 8 0 j := fun j hj => by rw [set_ne _ _ (by omega), set_ne _ _ (by omega), set_ne _ _ (by omega), set_ne _ _ (by omega), set_ne _ _ (by omega)]
    generalize set (set (set (set (set (σ 8 0) 3 (q : Int)) 6 (q : Int)) 5 0) 5 (NUM n T q).1) 3 ((NUM n T q).2 : Int) = g at r3 r4 r5 r6 ro
    generalize (NUM n T q).1 = v at r5
    rw [row_same, r5, r6]
    have cf := c_fail (N := N) (σ := row σ 8 0 g) q 2 (by omega) (by decide)
    rw [Int.cast_ofNat_Int, row_same, row_row] at cf
    have bad : ¬ (lo ≤ v ∧ v ≤ hi) → ∃ g2 : Vec, some (some (vI 0), P (row σ 8 0 (set g 4 (8 * (q : Int) + 2)))) = some (some (vI (if (if lo ≤ v ∧ v ≤ hi then (-1 : Int) else 8 * (q : Int) + 2) = -1 then 1 else 0)), P (row σ 8 0 g2)) ∧ g2 4 = (if lo ≤ v ∧ v ≤ hi then (-1 : Int) else 8 * (q : Int) + 2) ∧ ((if lo ≤ v ∧ v ≤ hi then (-1 : Int) else 8 * (q : Int) + 2) = -1 → g2 3 = ((NUM n T q).2 : Int) ∧ g2 5 = v ∧ g2 6 = (q : Int)) ∧ g2 2 = σ 8 0 2 ∧ ∀ j, 7 ≤ j → g2 j = σ 8 0 j := by
      intro b
      have nz : ¬ 8 * (q : Int) + 2 = -1 := by omega
      rw [if_neg b, if_neg nz]
      exact ⟨_, rfl, set_same _ _ _, fun z => absurd z nz, by rw [set_ne _ _ (by decide)]; exact ro 2 (Or.inl rfl), fun j hj => by rw [set_ne _ _ (by omega)]; exact ro j (Or.inr hj)⟩
    by_cases c1 : v < lo
    · rw [if_pos c1, cf, bnd_s, push_s, eX4_takeNumber_67, if_pos rfl]
      exact bad (by omega)
    · rw [if_neg c1]
      by_cases c2 : hi < v
      · rw [if_pos c2, cf, bnd_s, push_s, eX4_takeNumber_67, if_pos rfl]
        exact bad (by omega)
      · rw [if_neg c2, if_pos (show lo ≤ v ∧ v ≤ hi by omega), if_pos rfl]
        exact ⟨g, rfl, r4, fun _ => ⟨r3, r5, r6⟩, ro 2 (Or.inl rfl), fun j hj => ro j (Or.inr hj)⟩
  · have cf := c_fail (N := N) (σ := row σ 8 0 (set (set (σ 8 0) 3 (q : Int)) 6 (q : Int))) q 1 (by omega) (by decide)
    rw [Int.cast_ofNat_Int, row_same, row_row] at cf
    have nz : ¬ 8 * (q : Int) + 1 = -1 := by omega
    rw [if_neg d, if_pos rfl, row_same, set_ne _ _ (show 3 ≠ 6 by decide), set_same, cf, bnd_s, push_s, eX4_takeNumber_17, if_pos rfl, if_neg d, if_neg nz]
    refine ⟨_, rfl, set_same _ _ _, fun z => absurd z nz, by rw [set_ne _ _ (by decide)]; exact g2, fun j hj => ?_⟩
    rw [set_ne _ _ (by omega), set_ne _ _ (by omega), set_ne _ _ (by omega)]
theorem m_num_loop (h : MX n T σ) (lo hi : Int) : ∀ (m p : Nat) (v : Int) (f : Vec), n - p = m → p ≤ n → f 2 = (p : Int) → f 3 = -1 → f 1 = σ 30 0 1 → 0 ≤ v → v ≤ 1000000 → ev N mX9_number 20 [vR 30 0, vI lo, vI hi, vI v] [] (P (row σ 30 0 f)) = ev N mX9_number 46 [vR 30 0, vI lo, vI hi, vI (numF n T m p v).1] [vI 1] (P (row σ 30 0 (set f 2 ((numF n T m p v).2 : Int)))) := by
  intro m
  induction m with
  | zero =>
    intro p v f hm hp f2 f3 f1 v0 v1
    have e : byI n T p = -1 := by
      unfold byI
      rw [if_neg (by omega)]
    have r := m_right (N := N) (σ := row σ 30 0 f)
    rw [row_same, if_pos f3] at r
    have dg := m_digit (N := N) (MX_30 h f1) hp (by rw [row_same]; exact f2)
    rw [eX9_number_20, r, bnd_s, push_s, eX9_number_22, if_neg (by decide), dg, bnd_s, push_s, if_neg (by rw [e]; decide), eX9_number_25, if_pos rfl, r, bnd_s, push_s, numF, ← f2, set_id]
  | succ m ih =>
    intro p v f hm hp f2 f3 f1 v0 v1
    have r := m_right (N := N) (σ := row σ 30 0 f)
    rw [row_same, if_pos f3] at r
    have dg := m_digit (N := N) (MX_30 h f1) hp (by rw [row_same]; exact f2)
    have sg := m_sign (N := N) (MX_30 h f1) hp (by rw [row_same]; exact f2)
    rw [eX9_number_20, r, bnd_s, push_s, eX9_number_22, if_neg (by decide), dg, bnd_s, push_s, eX9_number_25, numF]
    by_cases q : 48 ≤ byI n T p ∧ byI n T p ≤ 57
    · have mn : min 1000000 (v * 10 + byI n T p - 48) = min (v * 10 + byI n T p - 48) 1000000 := by omega
      rw [if_pos q, if_neg (by decide), sg, bnd_s, push_s, eX9_number_32, if_pos q, (num_w v0 v1 q).2, mn, sup_row, row_same, row_row, f2, p_n hp h.2.1]
      rw [ih (p + 1) (min (v * 10 + byI n T p - 48) 1000000) _ (by omega) (by omega) (set_same _ _ _) (by rw [set_ne _ _ (by decide), f3]) (by rw [set_ne _ _ (by decide), f1]) (by omega) (by omega), set_set]
    · rw [if_neg q, if_pos rfl, r, bnd_s, push_s, if_neg q, ← f2, set_id]
theorem m_number (h : MX n T σ) {p : Nat} (hp : p ≤ n) (h2 : σ 30 0 2 = (p : Int)) (h3 : σ 30 0 3 = -1) (lo hi : Int) : ∃ (x : Int) (f : Vec) (e : Nat), inv N mX9_number [vR 30 0, vI lo, vI hi] (P σ) = some (some (vI x), P (row σ 30 0 f)) ∧ f 3 = NF1 n T lo hi (SK n T p) ∧ f 2 = (e : Int) ∧ e ≤ n ∧ (NF1 n T lo hi (SK n T p) = -1 → x = (NUM n T (SK n T p)).1 ∧ e = (NUM n T (SK n T p)).2 ∧ f 4 = (SK n T p : Int)) ∧ ∀ j, j ≠ 2 → j ≠ 3 → j ≠ 4 → f j = σ 30 0 j := by
  have sk := SK_le (T := T) hp
  have n3 := h.2.1
  have mn := m_next (N := N) h hp h2
  generalize hq : SK n T p = q at sk mn
  have f1 : set (set (σ 30 0) 2 (q : Int)) 4 (q : Int) 1 = σ 30 0 1 := by rw [set_ne _ _ (by decide), set_ne _ _ (by decide)]
  have f2 : set (set (σ 30 0) 2 (q : Int)) 4 (q : Int) 2 = (q : Int) := by rw [set_ne _ _ (by decide), set_same]
  have f3 : set (set (σ 30 0) 2 (q : Int)) 4 (q : Int) 3 = -1 := by rw [set_ne _ _ (by decide), set_ne _ _ (by decide), h3]
  have f4 : set (set (σ 30 0) 2 (q : Int)) 4 (q : Int) 4 = (q : Int) := set_same _ _ _
  have fo : ∀ j, j ≠ 2 → j ≠ 3 → j ≠ 4 → set (set (σ 30 0) 2 (q : Int)) 4 (q : Int) j = σ 30 0 j := fun j a b c => by rw [set_ne _ _ c, set_ne _ _ a]
  rw [iX9_number, eX9_number_0, mn, bnd_s, push_s, eX9_number_2]
  simp only [sup_row, row_same, row_row, set_same]
  generalize set (set (σ 30 0) 2 (q : Int)) 4 (q : Int) = f at f1 f2 f3 f4 fo
  have r := m_right (N := N) (σ := row σ 30 0 f)
  rw [row_same, if_pos f3] at r
  have dg := m_digit (N := N) (MX_30 h f1) sk.2 (by rw [row_same]; exact f2)
  rw [r, bnd_s, push_s, eX9_number_9, if_neg (by decide), dg, bnd_s, push_s, eX9_number_12]
  unfold NF1
  by_cases d : 48 ≤ byI n T q ∧ byI n T q ≤ 57
  · have lp := m_num_loop (N := N) h lo hi (n - q) q 0 f rfl sk.2 f2 f3 f1 (by decide) (by decide)
    have ee : numF n T (n - q) q 0 = NUM n T q := rfl
    rw [ee] at lp
    have nr := NUM_r (T := T) sk.2
    rw [if_pos d, if_neg (by decide), if_pos d, eX9_number_18, lp, eX9_number_46, if_neg (by decide), s9_in, bnd_s, push_s, eX9_number_54]
    by_cases c : lo ≤ (NUM n T q).1 ∧ (NUM n T q).1 ≤ hi
    · rw [if_pos c, if_neg (by decide), eX9_number_60, if_pos c]
      exact ⟨_, _, (NUM n T q).2, rfl, by rw [set_ne _ _ (by decide)]; exact f3, set_same _ _ _, nr.2.2, fun _ => ⟨rfl, rfl, by rw [set_ne _ _ (by decide)]; exact f4⟩, fun j a b c => by rw [set_ne _ _ a]; exact fo j a b c⟩
    · have nz : ¬ 8 * (q : Int) + 2 = -1 := by omega
      have mf := m_fails (N := N) (σ := row σ 30 0 (set f 2 ((NUM n T q).2 : Int))) q 2 (by omega) (by decide)
      rw [Int.cast_ofNat_Int, row_same, row_row, set_ne _ _ (show 3 ≠ 2 by decide), if_pos f3] at mf
      rw [if_neg c, if_pos rfl, row_same, set_ne _ _ (show 4 ≠ 2 by decide), f4, mf, bnd_s, push_n, eX9_number_60, if_neg c]
      exact ⟨_, _, (NUM n T q).2, rfl, set_same _ _ _, by rw [set_ne _ _ (by decide), set_same], nr.2.2, fun z => absurd z nz, fun j a b c => by rw [set_ne _ _ b, set_ne _ _ a]; exact fo j a b c⟩
  · have nz : ¬ 8 * (q : Int) + 1 = -1 := by omega
    have mf := m_fails (N := N) (σ := row σ 30 0 f) q 1 (by omega) (by decide)
    rw [Int.cast_ofNat_Int, row_same, row_row, if_pos f3] at mf
    have r2 := m_right (N := N) (σ := row σ 30 0 (set f 3 (8 * (q : Int) + 1)))
    rw [row_same, set_same, if_neg nz] at r2
    rw [if_neg d, if_pos rfl, row_same, f2, mf, bnd_s, push_n, eX9_number_18, eX9_number_20, r2, bnd_s, push_s, eX9_number_22, if_pos rfl, r2, bnd_s, push_s, eX9_number_46, if_pos rfl, eX9_number_60, if_neg d]
    exact ⟨_, _, q, rfl, set_same _ _ _, by rw [set_ne _ _ (by decide)]; exact f2, sk.2, fun z => absurd z nz, fun j a b c => by rw [set_ne _ _ b]; exact fo j a b c⟩
theorem m_number_bad (h : MX n T σ) {p : Nat} (hp : p ≤ n) (h2 : σ 30 0 2 = (p : Int)) (h3 : ¬ σ 30 0 3 = -1) (lo hi : Int) : ∃ (f : Vec) (e : Nat), inv N mX9_number [vR 30 0, vI lo, vI hi] (P σ) = some (some (vI 0), P (row σ 30 0 f)) ∧ f 2 = (e : Int) ∧ e ≤ n ∧ ∀ j, j ≠ 2 → j ≠ 4 → f j = σ 30 0 j := by
  have sk := SK_le (T := T) hp
  have mn := m_next (N := N) h hp h2
  generalize SK n T p = q at sk mn
  have r := m_right (N := N) (σ := row σ 30 0 (set (set (σ 30 0) 2 (q : Int)) 4 (q : Int)))
  rw [row_same, set_ne _ _ (show 3 ≠ 4 by decide), set_ne _ _ (show 3 ≠ 2 by decide), if_neg h3] at r
  refine ⟨set (set (σ 30 0) 2 (q : Int)) 4 (q : Int), q, ?_, ?_, sk.2, ?_⟩
  · rw [iX9_number, eX9_number_0, mn, bnd_s, push_s, eX9_number_2]
    simp only [sup_row, row_same, row_row, set_same]
    rw [r, bnd_s, push_s, eX9_number_9, if_pos rfl, eX9_number_18, eX9_number_20, r, bnd_s, push_s, eX9_number_22, if_pos rfl, r, bnd_s, push_s, eX9_number_46, if_pos rfl, eX9_number_60]
  · rw [set_ne _ _ (by decide), set_same]
  · intro j a b
    rw [set_ne _ _ b, set_ne _ _ a]
end TOK
