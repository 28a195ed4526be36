/-! FRAIL -/
section TRY
variable {N : Nat} {σ b : Sto} {L : Int}
def MT (σ τ : Sto) : Prop := QX σ τ ∧ KF (τ 46 0) (σ 40 0)
theorem MT_OM {σ τ υ : Sto} (h : MT σ τ) (o : OM τ υ) (c : ∀ j, j < 107 → υ 40 0 j = τ 40 0 j) : MT σ υ := ⟨QX_OM h.1 o c, by rw [OM_46 o]; exact h.2⟩
theorem fr_nums {k bit : Nat} (hk : k < 16) (hb : bit < 8) : w32 (56 + (k : Int)) = ((56 + k : Nat) : Int) ∧ ¬ (((56 + k : Nat) : Int) < 0) ∧ ((56 + k : Nat) : Int) < 107 ∧ w32 ((bit : Int) + 1) = ((bit + 1 : Nat) : Int) ∧ (bit : Int) < 8 ∧ 56 + k < 72 ∧ 0 ≤ ((56 + k : Nat) : Int) := by
  refine ⟨?_, by omega, by omega, ?_, by omega, by omega, by omega⟩
  · rw [w32i (by omega) (by omega)]; omega
  · rw [w32i (by omega) (by omega)]; omega
theorem xor_b {c : Vec} (hc : OKC c) (k bit : Nat) (hk : k < 16) (hb : bit < 8) : (0 ≤ bXor (c (56 + k)) (shl32 1 (bit : Int)) ∧ bXor (c (56 + k)) (shl32 1 (bit : Int)) < 256) ∧ bXor (bXor (c (56 + k)) (shl32 1 (bit : Int))) (shl32 1 (bit : Int)) = c (56 + k) := by
  have w := hc.2.1 (56 + k) (by omega) (by omega)
  have p : 2 ^ bit < 2 ^ 8 := Nat.pow_lt_pow_right (by omega) hb
  have hp : 0 < 2 ^ bit := Nat.pow_pos (by omega)
  rw [shl1 bit (by omega)]
  have r := bXor_lt (x := c (56 + k)) (m := ((2 ^ bit : Nat) : Int)) (n := 8) (by omega) w.1 (by have := w.2; omega) (by omega) (by omega)
  exact ⟨⟨r.1, by have := r.2; omega⟩, bXor_back w.1 (by have := w.2; omega) (by omega) (by omega)⟩
theorem fr_inner (h : INV L σ) (hL : L < 2147480000) (fb : FX σ b) (hb7 : b 7 0 = σ 7 0) (what start : Int) (k : Nat) (hk : k < 16) : ∀ (m bit : Nat) (v : Int) (x : XP) (x7 : MV), bit + m = 8 → ∃ (r : Int) (y : XP) (z7 : MV), ev N mX7_frailBits 24 [vR 11 0, vI what, vI start, vI (oneF (σ 7 0)), vI v, vI ((56 + k : Nat) : Int), vI (bit : Int), x7] [] (P (putC b 1 x)) = ev N mX7_frailBits 24 [vR 11 0, vI what, vI start, vI (oneF (σ 7 0)), vI r, vI ((56 + k : Nat) : Int), vI 8, z7] [] (P (putC b 1 y)) ∧ ∀ τ, MT σ τ → ∃ υ, ev N mX9_frail 25 [vR 30 0, vI what, vI start, vI v, vI (k : Int), vI (bit : Int)] [] (P τ) = ev N mX9_frail 25 [vR 30 0, vI what, vI start, vI r, vI (k : Int), vI 8] [] (P υ) ∧ MT σ υ := by
  intro m
  induction m with
  | zero =>
    intro bit v x x7 hm
    have e : bit = 8 := by omega
    subst e
    exact ⟨v, x, x7, rfl, fun τ ht => ⟨τ, rfl, ht⟩⟩
  | succ m ih =>
    intro bit v x x7 hm
    have hb8 : bit < 8 := by omega
    have hbm : bit + 1 + m = 8 := by omega
    obtain ⟨n1, n2, n3, n4, n5, n6, n7⟩ := fr_nums (bit := bit) hk hb8
    have hg := OKG_FX fb h.1.1
    have hc := CELL_take h (QX_refl σ) x.1
    have ceq : ∀ j, j < 107 → cpyV (σ 7 0) x.1 0 0 107 j = σ 7 0 j := fun j hj => cpy_all _ _ hj
    have h82 := CELL_82 hc hL
    have ct := p2_take (N := N) (i := 1) (b := b) (x := x) 0 (by decide)
    rw [hb7] at ct
    generalize cpyV (σ 7 0) x.1 0 0 107 = c at hc h82 ct ceq
    obtain ⟨xb, xx⟩ := xor_b hc.1 k bit hk hb8
    have tof : inv N mX2_turnOff [vR 6 1] (P (putC b 1 (c, x.2))) = some (none, P (putC b 1 (set c 78 (-1), x.2))) := p2_turnOff (N := N) (i := 1) (σ := b) (x := (c, x.2))
    have tb := p2_turnBit (N := N) (i := 1) (b := b) (x := (set c 78 (-1), x.2)) ((56 + k : Nat) : Int) (bit : Int) n7 n3
    have ne : 56 + k ≠ 78 := by omega
    have ec : set c 78 (-1) (56 + k) = c (56 + k) := set_ne _ _ ne
    rw [Int.toNat_natCast] at tb
    change _ = some (some (vI (bXor (set c 78 (-1) (56 + k)) (shl32 1 (bit : Int)))), P (putC b 1 (set (set c 78 (-1)) (56 + k) (bXor (set c 78 (-1) (56 + k)) (shl32 1 (bit : Int))), x.2))) at tb
    rw [ec, set_comm c 78 (56 + k) (-1) _ (Ne.symm ne)] at tb
    have cell : ∀ τ, QX σ τ → CELL L (set c (56 + k) (bXor (c (56 + k)) (shl32 1 (bit : Int)))) (set (τ 40 0) (56 + k) (bXor (c (56 + k)) (shl32 1 (bit : Int)))) := fun τ q => CELL_low (CELL_107 h.2.1 (fun j hj => ceq j hj) (fun j hj => q.2.2.1 j hj)) (56 + k) _ n6 (fun z => absurd z (by omega)) (fun _ => xb)
    have e40 : ∀ τ, QX σ τ → τ 40 0 (56 + k) = c (56 + k) := fun τ q => ((q.2.2.1 _ (by omega)).trans (h.2.1.2.1.1.1 _ (by omega)).symm).trans (ceq _ (by omega)).symm
    have hcx := (cell σ (QX_refl σ)).1
    have e82 : set (set c (56 + k) (bXor (c (56 + k)) (shl32 1 (bit : Int)))) 78 (-1) 82 = c 82 := by rw [set_ne _ _ (by decide), set_ne _ _ (by omega)]
    have e82b : set c (56 + k) (bXor (c (56 + k)) (shl32 1 (bit : Int))) 82 = c 82 := set_ne _ _ (by omega)
    generalize hw : bXor (c (56 + k)) (shl32 1 (bit : Int)) = w at xb xx tb cell hcx e82 e82b
    have pf := p2_boot (N := N) (i := 1) (σ := b) (x := (set (set c (56 + k) w) 78 (-1), x.2)) hg (OKC_78 hcx) (show 0 ≤ set (set c (56 + k) w) 78 (-1) 82 by rw [e82]; exact h82.1) (show set (set c (56 + k) w) 78 (-1) 82 < 2147483647 by rw [e82]; exact Int.lt_trans h82.2 (by decide)) 0 0 (-1)
    have fo := p2_flagsAsOne (N := N) (i := 1) (σ := b) (x := (set (set c (56 + k) w) 78 (-1), x.2)) (OKC_78 hcx)
    -- the model: turned, tried, turned back
    have back : ∀ τ υ, MT σ τ → OM (row τ 40 0 (set (τ 40 0) (56 + k) w)) υ → (∀ j, j < 107 → υ 40 0 j = set (τ 40 0) (56 + k) w j) → MT σ (row υ 40 0 (set (υ 40 0) (56 + k) (bXor (υ 40 0 (56 + k)) (shl32 1 (bit : Int))))) := by
      intro τ υ ht o e
      refine MT_OM ht (OM_trans (OM_trans (OM_row τ 40 _ (Or.inl rfl)) o) (OM_row υ 40 _ (Or.inl rfl))) (fun j hj => ?_)
      rw [row_same, e (56 + k) (by omega), set_same, xx, ← e40 τ ht.1]
      by_cases q : j = 56 + k
      · rw [q, set_same]
      · rw [set_ne _ _ q, e j hj, set_ne _ _ q]
    have mstep : ∀ τ, QX σ τ → ev N mX9_frail 25 [vR 30 0, vI what, vI start, vI v, vI (k : Int), vI (bit : Int)] [] (P τ) = (if what = 0 then bnd (inv N mX9_wouldStart [vR 30 0, vI 0] (P (row τ 40 0 (set (τ 40 0) (56 + k) w)))) (fun r S2 => ev N mX9_frail 46 [vR 30 0, vI what, vI start, vI v, vI (k : Int), vI (bit : Int)] (push r [vI v]) S2) else bnd (inv N mX9_areFlags [vR 30 0, vR 46 0] (P (row τ 40 0 (set (τ 40 0) (56 + k) w)))) (fun r S2 => ev N mX9_frail 56 [vR 30 0, vI what, vI start, vI v, vI (k : Int), vI (bit : Int)] (push r [vI v]) S2)) := by
      intro τ q
      rw [eX9_frail_25, if_pos n5, n1, if_neg n2, if_pos n3, if_neg n2, if_pos n3, sup_row, Int.toNat_natCast, e40 τ q, hw]
    have mend2 : ∀ υ y0, ev N mX9_frail 61 [vR 30 0, vI what, vI start, vI v, vI (k : Int), vI (bit : Int)] [vI y0, vI v] (P υ) = ev N mX9_frail 25 [vR 30 0, vI what, vI start, vI (w32 (v + y0)), vI (k : Int), vI ((bit + 1 : Nat) : Int)] [] (P (row υ 40 0 (set (υ 40 0) (56 + k) (bXor (υ 40 0 (56 + k)) (shl32 1 (bit : Int)))))) := by
      intro υ y0
      rw [eX9_frail_61, n1, if_neg n2, if_pos n3, if_neg n2, if_pos n3, sup_row, Int.toNat_natCast, n4]
    rw [eX7_frailBits_24, if_pos n5, ct, bnd_s, push_n, eX7_frailBits_32, tof, bnd_s, push_n, eX7_frailBits_35, tb, bnd_s, push_s, eX7_frailBits_40]
    by_cases hwh : what = 0
    · rw [if_pos hwh, pf, bnd_s, push_s, eX7_frailBits_50, n4]
      have md : ∀ τ, MT σ τ → ∃ υ, inv N mX9_wouldStart [vR 30 0, vI 0] (P (row τ 40 0 (set (τ 40 0) (56 + k) w))) = some (some (vI (bootC b 0 (-1) (set (set c (56 + k) w) 78 (-1), x.2)).1), P υ) ∧ OM (row τ 40 0 (set (τ 40 0) (56 + k) w)) υ ∧ ∀ j, j < 107 → υ 40 0 j = set (τ 40 0) (56 + k) w j := by
        intro τ ht
        obtain ⟨υ, w1, w2⟩ := m_would (N := N) (σ0 := b) (σ := row τ 40 0 (set (τ 40 0) (56 + k) w)) (c := set c (56 + k) w) (g := x.2) hg (by rw [row_same]; exact (cell τ ht.1).2.1) hcx (EnvM_KM (EnvM_FX ht.1.1 fb h.1.2.1) (KM_row _ _ _ (Or.inl rfl))) (by rw [e82b]; exact Int.lt_trans h82.2 (by decide)) 0 (Or.inl rfl)
        rw [performC_0] at w1
        exact ⟨υ, w1, OM_WM w2, fun j hj => (w2.2.2.1 j hj).trans (by rw [row_same])⟩
      generalize bootC b 0 (-1) (set (set c (56 + k) w) 78 (-1), x.2) = p at md
      by_cases q : p.1 = start
      · rw [if_pos q]
        obtain ⟨r, y, z7, r1, r2⟩ := ih (bit + 1) (w32 (v + 0)) p.2 (vI 0) hbm
        refine ⟨r, y, z7, r1, fun τ ht => ?_⟩
        obtain ⟨υ, u1, u2, u3⟩ := md τ ht
        obtain ⟨ρ, p1, p2⟩ := r2 _ (back τ υ ht u2 u3)
        refine ⟨ρ, ?_, p2⟩
        rw [mstep τ ht.1, if_pos hwh, u1, bnd_s, push_s, eX9_frail_46, if_pos q, s9_truth, if_pos rfl, bnd_s, push_s, mend2]
        exact p1
      · rw [if_neg q]
        obtain ⟨r, y, z7, r1, r2⟩ := ih (bit + 1) (w32 (v + 1)) p.2 (vI 1) hbm
        refine ⟨r, y, z7, r1, fun τ ht => ?_⟩
        obtain ⟨υ, u1, u2, u3⟩ := md τ ht
        obtain ⟨ρ, p1, p2⟩ := r2 _ (back τ υ ht u2 u3)
        refine ⟨ρ, ?_, p2⟩
        rw [mstep τ ht.1, if_pos hwh, u1, bnd_s, push_s, eX9_frail_46, if_neg q, s9_truth, if_neg (by decide), bnd_s, push_s, mend2]
        exact p1
    · rw [if_neg hwh, fo, bnd_s, push_s, eX7_frailBits_59, n4]
      have ob : OKB (σ 40 0) := (INV_okm h).2.1
      have o1 : oneF (set (set c (56 + k) w) 78 (-1)) = oneF (set (σ 40 0) (56 + k) w) := oneF_congr (fun j h1 h2 => by
        rw [set_ne _ _ (by omega)]
        unfold set
        rw [ceq j (by omega), h.2.1.2.1.1.1 j (by omega)])
      have o2 : oneF (σ 7 0) = oneF (σ 40 0) := oneF_congr (fun j h1 h2 => h.2.1.2.1.1.1 j (by omega))
      have md : ∀ τ, MT σ τ → ∃ υ, inv N mX9_areFlags [vR 30 0, vR 46 0] (P (row τ 40 0 (set (τ 40 0) (56 + k) w))) = some (some (vI (if oneF (set (set c (56 + k) w) 78 (-1)) = oneF (σ 7 0) then 1 else 0)), P υ) ∧ OM (row τ 40 0 (set (τ 40 0) (56 + k) w)) υ ∧ ∀ j, j < 107 → υ 40 0 j = set (τ 40 0) (56 + k) w j := by
        intro τ ht
        have ct2 := cell τ ht.1
        have okm : OKB (set (τ 40 0) (56 + k) w) := (OKC_R ct2.1 ct2.2.1.1.1 (by rw [← ct2.2.1.2]; exact ct2.1.2.2.2.2)).2.1
        have z := m_areFlags46 (N := N) (σ := row τ 40 0 (set (τ 40 0) (56 + k) w)) (d := σ 40 0) (by rw [row_same]; exact okm) ob (by rw [row_at, if_neg (by decide)]; exact ht.2)
        rw [row_same] at z
        have o3 : oneF (set (τ 40 0) (56 + k) w) = oneF (set (σ 40 0) (56 + k) w) := oneF_congr (fun j h1 h2 => by
          unfold set
          rw [ht.1.2.2.1 j (by omega)])
        refine ⟨_, by rw [z, o3, o1, o2], OM_rf _, fun j hj => ?_⟩
        unfold rfM
        rw [row_at, if_neg (by decide), row_same]
      generalize oneF (set (set c (56 + k) w) 78 (-1)) = p at md
      by_cases q : p = oneF (σ 7 0)
      · rw [if_pos q]
        obtain ⟨r, y, z7, r1, r2⟩ := ih (bit + 1) (w32 (v + 0)) _ (vI 0) hbm
        refine ⟨r, y, z7, r1, fun τ ht => ?_⟩
        obtain ⟨υ, u1, u2, u3⟩ := md τ ht
        obtain ⟨ρ, p1, p2⟩ := r2 _ (back τ υ ht u2 u3)
        refine ⟨ρ, ?_, p2⟩
        rw [mstep τ ht.1, if_neg hwh, u1, if_pos q, bnd_s, push_s, eX9_frail_56, if_neg (by decide), s9_truth, if_pos rfl, bnd_s, push_s, mend2]
        exact p1
      · rw [if_neg q]
        obtain ⟨r, y, z7, r1, r2⟩ := ih (bit + 1) (w32 (v + 1)) _ (vI 1) hbm
        refine ⟨r, y, z7, r1, fun τ ht => ?_⟩
        obtain ⟨υ, u1, u2, u3⟩ := md τ ht
        obtain ⟨ρ, p1, p2⟩ := r2 _ (back τ υ ht u2 u3)
        refine ⟨ρ, ?_, p2⟩
        rw [mstep τ ht.1, if_neg hwh, u1, if_neg q, bnd_s, push_s, eX9_frail_56, if_pos rfl, s9_truth, if_neg (by decide), bnd_s, push_s, mend2]
        exact p1
end TRY
