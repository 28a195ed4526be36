/-! SLACK -/
section TRY
variable {N : Nat} {σ σ0 : Sto} {L : Int}
theorem xor_ok {c : Vec} (hc : OKC c) (k b : Nat) (hk : k < 56) (hb : b < 31) : OKC (set c k (bXor (c k) (shl32 1 (b : Int)))) ∧ set (set c k (bXor (c k) (shl32 1 (b : Int)))) k (bXor (bXor (c k) (shl32 1 (b : Int))) (shl32 1 (b : Int))) = c := by
  have w := hc.1 k hk
  have p : 2 ^ b < 2 ^ 31 := Nat.pow_lt_pow_right (by omega) hb
  have hp : 0 < 2 ^ b := Nat.pow_pos (by omega)
  rw [shl1 b hb]
  have r := bXor_lt (x := c k) (m := ((2 ^ b : Nat) : Int)) (n := 31) (by omega) w.1 (by have := w.2; omega) (by omega) (by omega)
  refine ⟨?_, ?_⟩
  · rw [← fill_1]
    exact okc_word hc (by omega) ⟨r.1, by have := r.2; omega⟩
  · rw [bXor_back w.1 w.2 (by omega) (by omega), set_set, set_id]
theorem sl_nums {s k b : Nat} (hs : s < 4) (hk : k < 14) (hb : b < 31) : w32 (w32 (14 * (s : Int)) + (k : Int)) = ((14 * s + k : Nat) : Int) ∧ ¬ (((14 * s + k : Nat) : Int) < 0) ∧ ((14 * s + k : Nat) : Int) < 107 ∧ w32 ((b : Int) + 1) = ((b + 1 : Nat) : Int) ∧ (b : Int) < 31 ∧ 14 * s + k < 56 ∧ 0 ≤ ((14 * s + k : Nat) : Int) := by
  refine ⟨?_, by omega, by omega, ?_, by omega, by omega, by omega⟩
  · rw [w32i (x := 14 * (s : Int)) (by omega) (by omega), w32i (by omega) (by omega)]; omega
  · rw [w32i (by omega) (by omega)]; omega
theorem cnt_w {v : Int} (h0 : 0 ≤ v) (h1 : v < 100000) : w32 (v + 1) = v + 1 ∧ w32 (v + 0) = v := by
  refine ⟨w32i (by omega) (by omega), ?_⟩
  rw [w32i (by omega) (by omega)]
  omega
theorem sl_inner (hg : OKG σ0 1) {c : Vec} {τ : Sto} (hS : σ0 7 1 = c) (hc : OKC c) (eq : ∀ j, j < 78 → c j = τ 40 0 j) (h78 : -1 ≤ τ 40 0 78 ∧ τ 40 0 78 ≤ 2) (he : EnvM σ0 τ) (s k : Nat) (hs : s < 4) (hk : k < 14) : ∀ (m b : Nat) (v : Int), b + m = 31 → 0 ≤ v → v + m < 100000 → ∃ r, ev N mX7_slackBits 20 [vR 11 0, vI (s : Int), vI v, vI ((14 * s + k : Nat) : Int), vI (b : Int)] [] (P σ0) = ev N mX7_slackBits 20 [vR 11 0, vI (s : Int), vI r, vI ((14 * s + k : Nat) : Int), vI 31] [] (P σ0) ∧ ev N mX9_slack 17 [vR 30 0, vI (s : Int), vI v, vI (k : Int), vI (b : Int)] [] (P τ) = ev N mX9_slack 17 [vR 30 0, vI (s : Int), vI r, vI (k : Int), vI 31] [] (P τ) ∧ 0 ≤ r ∧ r ≤ v + m := by
  intro m
  induction m with
  | zero =>
    intro b v hb v0 v1
    have e : b = 31 := by omega
    subst e
    exact ⟨v, rfl, rfl, v0, by omega⟩
  | succ m ih =>
    intro b v hb v0 v1
    have hb31 : b < 31 := by omega
    have hbm : b + 1 + m = 31 := by omega
    obtain ⟨n1, n2, n3, n4, n5, n6, n7⟩ := sl_nums (b := b) hs hk hb31
    have cw := cnt_w v0 (by omega)
    have x := xor_ok hc (14 * s + k) b n6 hb31
    have ek : τ 40 0 (14 * s + k) = c (14 * s + k) := (eq _ (by omega)).symm
    have step := fun (w : Int) (h0 : 0 ≤ w) (h1 : w ≤ v + 1) => ih (b + 1) w hbm h0 (by omega)
    have le1 : ∀ r : Int, r ≤ v + 1 + m → r ≤ v + ((m + 1 : Nat) : Int) := fun r h => by omega
    have le0 : ∀ r : Int, r ≤ v + m → r ≤ v + ((m + 1 : Nat) : Int) := fun r h => by omega
    have vv : v ≤ v + 1 := by omega
    have vp : 0 ≤ v + 1 := by omega
    clear ih hb v1 hbm
    have t1 := s2_turnBit (N := N) (σ := σ0) (i := 1) ((14 * s + k : Nat) : Int) (b : Int) n7 n3
    rw [Int.toNat_natCast, hS] at t1
    have t2 := s2_turnBit (N := N) (σ := row σ0 7 1 (set c (14 * s + k) (bXor (c (14 * s + k)) (shl32 1 (b : Int))))) (i := 1) ((14 * s + k : Nat) : Int) (b : Int) n7 n3
    rw [Int.toNat_natCast, row_same, row_row, set_same, x.2, ← hS, row_id] at t2
    rw [hS] at t2
    have why := s2_reason (N := N) (i := 1) (σ := row σ0 7 1 (set c (14 * s + k) (bXor (c (14 * s + k)) (shl32 1 (b : Int))))) s hs (OKG_FX (FX_row σ0 7 1 _ (by decide) (by decide) (by decide)) hg) (by rw [row_same]; exact x.1)
    rw [row_same, row_at, if_neg (by decide), row_at, if_neg (by decide), row_at, if_neg (by decide)] at why
    have q1 : ∀ f, row τ 40 0 f 40 0 = f := fun f => row_same _ _ _ _
    have eqx : ∀ j, j < 78 → set c (14 * s + k) (bXor (c (14 * s + k)) (shl32 1 (b : Int))) j = set (τ 40 0) (14 * s + k) (bXor (c (14 * s + k)) (shl32 1 (b : Int))) j := by
      intro j hj
      unfold set
      rw [eq j hj]
    have hm : OKC (set (τ 40 0) (14 * s + k) (bXor (c (14 * s + k)) (shl32 1 (b : Int)))) := OKC_R x.1 eqx (by rw [set_ne _ _ (show 78 ≠ 14 * s + k by omega)]; exact h78)
    have he2 : EnvM σ0 (row τ 40 0 (set (τ 40 0) (14 * s + k) (bXor (c (14 * s + k)) (shl32 1 (b : Int))))) := EnvM_KM he (KM_row _ _ _ (Or.inl rfl))
    have mw := s9_why (N := N) (σ := row τ 40 0 (set (τ 40 0) (14 * s + k) (bXor (c (14 * s + k)) (shl32 1 (b : Int))))) s hs he2.1 (by rw [q1]; exact hm)
    rw [q1, show whyM (row τ 40 0 (set (τ 40 0) (14 * s + k) (bXor (c (14 * s + k)) (shl32 1 (b : Int))))) (set (τ 40 0) (14 * s + k) (bXor (c (14 * s + k)) (shl32 1 (b : Int)))) s = whyF (σ0 2 1 0) (σ0 3 1) (σ0 4 1) (set c (14 * s + k) (bXor (c (14 * s + k)) (shl32 1 (b : Int)))) s from (he2.2.1 _ _).trans (whyF_cells eqx _ _ _ s hs).symm] at mw
    have back : row (row τ 40 0 (set (τ 40 0) (14 * s + k) (bXor (c (14 * s + k)) (shl32 1 (b : Int))))) 40 0 (set (set (τ 40 0) (14 * s + k) (bXor (c (14 * s + k)) (shl32 1 (b : Int)))) (14 * s + k) (bXor (bXor (c (14 * s + k)) (shl32 1 (b : Int))) (shl32 1 (b : Int)))) = τ := by
      have z := congrFun x.2 (14 * s + k)
      rw [set_same] at z
      rw [row_row, set_set, z, ← ek, set_id, row_id]
    rw [eX7_slackBits_20, if_pos n5, t1, bnd_s, push_s, eX7_slackBits_28, why, bnd_s, push_s, eX7_slackBits_34, t2, eX9_slack_17, if_pos n5, n1, if_neg n2, if_pos n3, if_neg n2, if_pos n3, sup_row, Int.toNat_natCast, ek, mw]
    simp only [bnd_s, push_s, eX7_slackBits_45, eX9_slack_38, s9_truth]
    by_cases y : whyF (σ0 2 1 0) (σ0 3 1) (σ0 4 1) (set c (14 * s + k) (bXor (c (14 * s + k)) (shl32 1 (b : Int)))) s = 0
    · obtain ⟨r, r1, r2, r3, r4⟩ := step (v + 1) vp (Int.le_refl _)
      refine ⟨r, ?_, ?_, r3, le1 r r4⟩
      · rw [if_pos y, cw.1, n4]
        exact r1
      · rw [if_pos y, eX9_slack_43, n1, if_neg n2, if_pos n3, if_neg n2, if_pos n3, sup_row, Int.toNat_natCast, q1, set_same, back, if_neg (by decide), cw.1, n4]
        exact r2
    · obtain ⟨r, r1, r2, r3, r4⟩ := step v v0 vv
      refine ⟨r, ?_, ?_, r3, le0 r r4⟩
      · rw [if_neg y, cw.2, n4]
        exact r1
      · rw [if_neg y, eX9_slack_43, n1, if_neg n2, if_pos n3, if_neg n2, if_pos n3, sup_row, Int.toNat_natCast, q1, set_same, back, if_pos trivial, cw.2, n4]
        exact r2
end TRY
