/-! CUTS: how many writes, what is behind each -/
section TRY
variable {N : Nat} {σ b : Sto} {L : Int}
theorem able_take (h : INV L σ) (fb : FX σ b) {c : Vec} (e : ∀ j, j < 107 → c j = σ 7 0 j) (d a1 a2 : Int) : ableF (b 2 1 1) (b 5 1) c d a1 a2 = ableF (σ 2 1 1) (σ 5 1) (σ 7 0) d a1 a2 := by
  rw [fb.1 2 1 (by decide), fb.1 5 1 (by decide)]
  exact ableF_eq (e 78 (by decide)).symm (fun j hj => (e j (by omega)).symm) (fun _ _ => rfl) d a1 a2
theorem p2_writesOf (h : INV L σ) (hL : L < 2147480000) (fb : FX σ b) (hb7 : b 7 0 = σ 7 0) (d a1 a2 : Int) (hd : ableF (σ 2 1 1) (σ 5 1) (σ 7 0) d a1 a2 = 1) (x : XP) : inv N mX7_writesOf [vR 11 0, vI d, vI a1, vI a2] (P (putC b 1 x)) = some (some (vI ((performC b d a1 a2 (-1) (cpyV (σ 7 0) x.1 0 0 107, x.2)).2.1 81)), P (putC b 1 (performC b d a1 a2 (-1) (cpyV (σ 7 0) x.1 0 0 107, x.2)).2)) := by
  have hg := OKG_FX fb h.1.1
  have hc := CELL_take h (QX_refl σ) x.1
  have ceq : ∀ j, j < 107 → cpyV (σ 7 0) x.1 0 0 107 j = σ 7 0 j := fun j hj => cpy_all _ _ hj
  have h82 := CELL_82 hc hL
  have ct := p2_take (N := N) (i := 1) (b := b) (x := x) 0 (by decide)
  rw [hb7] at ct
  generalize cpyV (σ 7 0) x.1 0 0 107 = c at hc h82 ct ceq ⊢
  have pf := p2_perform (N := N) (i := 1) (σ := b) (x := (c, x.2)) hg hc.1 h82.1 (Int.lt_trans h82.2 (by decide)) d a1 a2 (-1) ((able_take h fb ceq d a1 a2).trans hd)
  rw [iX7_writesOf, eX7_writesOf_0, ct, bnd_s, push_n, eX7_writesOf_5, pf, bnd_s, push_s, eX7_writesOf_12, p2_cell _ (by decide) (by decide), bnd_s, push_s, eX7_writesOf_17]
  rfl
/-- what the model's store is between the trials of cuts -/
def MC (σ : Sto) (d6 : Vec) (τ : Sto) : Prop := QX σ τ ∧ (∀ j, j < 107 → τ 42 0 j = σ 40 0 j) ∧ KF (τ 46 0) (σ 40 0) ∧ KF (τ 47 0) d6
/-- trials that are put back -/
theorem MC_back {d6 : Vec} {τ υ : Sto} (h : MC σ d6 τ) (o : OM τ υ) (e : ∀ j, j < 107 → υ 42 0 j = τ 42 0 j) : MC σ d6 (row υ 40 0 (cpyV (υ 42 0) (υ 40 0) (107 * 0) 0 107)) := by
  obtain ⟨q, w, k6, k7⟩ := h
  have o2 := OM_trans o (OM_row υ 40 (cpyV (υ 42 0) (υ 40 0) (107 * 0) 0 107) (Or.inl rfl))
  refine ⟨QX_OM q o2 (fun j hj => ?_), fun j hj => ?_, by rw [OM_46 o2]; exact k6, by rw [OM_47 o2]; exact k7⟩
  · rw [row_same, Nat.mul_zero, cpy_all _ _ hj, e j hj, w j hj, q.2.2.1 j hj]
  · rw [row_at, if_neg (by decide), e j hj, w j hj]
theorem S78_set (y : XP) : S78 (set y.1 78 (-1), y.2) y := ⟨fun j hj => set_ne _ _ hj, rfl⟩
theorem boot_78 (b : Sto) (y : XP) : (bootC b 0 (-1) (set y.1 78 (-1), y.2)).1 = (bootC b 0 (-1) y).1 := (S78_boot b (S78_set y) 0 (-1)).1
theorem m_back0 (υ : Sto) : inv N mX9_putsBack [vR 30 0, vI 0] (P υ) = some (none, P (row υ 40 0 (cpyV (υ 42 0) (υ 40 0) (107 * 0) 0 107))) := m_putsBack (N := N) (σ := υ) 0 (by decide)
theorem m_back1 (υ : Sto) : inv N mX9_putsBack [vR 30 0, vI 1] (P υ) = some (none, P (row υ 40 0 (cpyV (υ 42 0) (υ 40 0) (107 * 1) 0 107))) := m_putsBack (N := N) (σ := υ) 1 (by decide)
theorem m_think0 (υ : Sto) : inv N mX9_thinks [vR 30 0, vI 0] (P υ) = some (none, P (row υ 42 0 (cpyV (υ 40 0) (υ 42 0) 0 (107 * 0) 107))) := m_thinks (N := N) (σ := υ) 0 (by decide)
theorem m_think1 (υ : Sto) : inv N mX9_thinks [vR 30 0, vI 1] (P υ) = some (none, P (row υ 42 0 (cpyV (υ 40 0) (υ 42 0) 0 (107 * 1) 107))) := m_thinks (N := N) (σ := υ) 1 (by decide)
theorem ct_num {k : Nat} {n : Int} (hn : n < 2147483648) (hk : (k : Int) < n) : w32 ((k : Int) + 1) = ((k + 1 : Nat) : Int) ∧ -1 ≤ (k : Int) ∧ (k : Int) < 2147483648 := by
  refine ⟨?_, by omega, by omega⟩
  rw [w32i (by omega) (by omega)]; omega
theorem RZ_cells {c n : Vec} (h : RZ c n) : ∀ j, j < 78 → c j = n j := h.1.1
theorem RZ_okb {c n : Vec} (hc : OKC c) (h : RZ c n) : OKB n := (OKC_R hc h.1.1 (by rw [← h.2]; exact hc.2.2.2.2)).2.1
theorem ct_loop (h : INV L σ) (hL : L < 2147480000) (fb : FX σ b) (hb7 : b 7 0 = σ 7 0) (d a1 a2 what n due : Int) (hd : ableF (σ 2 1 1) (σ 5 1) (σ 7 0) d a1 a2 = 1) (hw : what < 5 ∨ what = 5 ∨ what = 6) (hn : n < 2147483648) (d6 : Vec) (o6 : OKB d6) (e5 : what = 5 → due = oneF (σ 7 0)) (e6 : what = 6 → due = oneF d6) : ∀ (m k : Nat) (v : Int) (x : XP) (x9 : MV), n ≤ (k : Int) + (m : Int) → ∃ (r : Int) (y : XP), ev N mX7_countCuts 39 [vR 11 0, vI d, vI a1, vI a2, vI what, vI n, vI due, vI v, vI (k : Int), x9] [] (P (putC b 1 x)) = some (some (vI r), P (putC b 1 y)) ∧ ∀ τ, MC σ d6 τ → ∃ υ, ev N mX9_cuts 41 [vR 30 0, vI d, vI a1, vI a2, vI what, vI n, vI v, vI (k : Int)] [] (P τ) = some (some (vI r), P υ) ∧ MC σ d6 υ := by
  intro m
  induction m with
  | zero =>
    intro k v x x9 hk
    have q : ¬ (k : Int) < n := by omega
    refine ⟨v, x, ?_, fun τ ht => ⟨τ, ?_, ht⟩⟩
    · rw [eX7_countCuts_39, if_neg q]
    · rw [eX9_cuts_41, if_neg q]
  | succ m ih =>
    intro k v x x9 hk
    by_cases q : (k : Int) < n
    case neg =>
      refine ⟨v, x, ?_, fun τ ht => ⟨τ, ?_, ht⟩⟩
      · rw [eX7_countCuts_39, if_neg q]
      · rw [eX9_cuts_41, if_neg q]
    obtain ⟨nk, c0, c1⟩ := ct_num hn q
    have hkm : n ≤ ((k + 1 : Nat) : Int) + (m : Int) := by omega
    have hg := OKG_FX fb h.1.1
    have hc := CELL_take h (QX_refl σ) x.1
    have hcm := fun τ (qq : QX σ τ) => CELL_take h qq x.1
    have ceq : ∀ j, j < 107 → cpyV (σ 7 0) x.1 0 0 107 j = σ 7 0 j := fun j hj => cpy_all _ _ hj
    have h82 := CELL_82 hc hL
    have ct := p2_take (N := N) (i := 1) (b := b) (x := x) 0 (by decide)
    rw [hb7] at ct
    generalize cpyV (σ 7 0) x.1 0 0 107 = c at hc h82 ct ceq hcm
    have hdc := (able_take h fb ceq d a1 a2).trans hd
    have pf := p2_perform (N := N) (i := 1) (σ := b) (x := (c, x.2)) hg hc.1 h82.1 (Int.lt_trans h82.2 (by decide)) d a1 a2 (k : Int) hdc
    have ok := performC_ok (σ := b) (x := (c, x.2)) hg hc.1 d a1 a2 (k : Int) hdc
    have md := fun τ (qq : QX σ τ) => m_does (N := N) (σ := τ) (x := (c, x.2)) hg (hcm τ qq).2.1 hc.1 (EnvM_FX qq.1 fb h.1.2.1) (Int.lt_trans h82.2 (by decide)) d a1 a2 (k : Int) hdc c0 c1
    generalize performC b d a1 a2 (k : Int) (c, x.2) = p at pf ok md
    have l1 : c 82 ≤ p.2.1 82 := ok.2.1
    have l2 : p.2.1 82 ≤ c 82 + 1 := ok.2.2
    have p82 : 0 ≤ p.2.1 82 ∧ p.2.1 82 < 2147483000 := ⟨Int.le_trans h82.1 l1, by have := h82.2; omega⟩
    rw [eX7_countCuts_39, if_pos q, ct, bnd_s, push_n, eX7_countCuts_47, pf, bnd_s, push_s, eX7_countCuts_54]
    -- the model's tail: put back
    have tail : ∀ τ υ r0, MC σ d6 τ → OM τ υ → (∀ j, j < 107 → υ 42 0 j = τ 42 0 j) → ∃ ρ, (bnd (inv N mX9_putsBack [vR 30 0, vI 0] (P υ)) (fun r S2 => ev N mX9_cuts 86 [vR 30 0, vI d, vI a1, vI a2, vI what, vI n, vI r0, vI (k : Int)] (push r []) S2)) = ev N mX9_cuts 41 [vR 30 0, vI d, vI a1, vI a2, vI what, vI n, vI r0, vI ((k + 1 : Nat) : Int)] [] (P ρ) ∧ MC σ d6 ρ := by
      intro τ υ r0 ht o e
      exact ⟨_, by rw [m_back0, bnd_s, push_n, eX9_cuts_86, nk], MC_back ht o e⟩
    have km42 : ∀ {τ υ : Sto}, KM τ υ → υ 42 0 = τ 42 0 := fun km => KM_r km 42 (by decide) 0
    by_cases hwh : what < 5
    · have pb := p2_boot (N := N) (i := 1) (σ := b) (x := p.2) hg ok.1.1 p82.1 (Int.lt_trans p82.2 (by decide)) 0 0 (-1)
      rw [if_pos hwh, pb, bnd_s, push_s, eX7_countCuts_74, nk]
      have ms : ∀ τ, MC σ d6 τ → ∃ υ, ev N mX9_cuts 41 [vR 30 0, vI d, vI a1, vI a2, vI what, vI n, vI v, vI (k : Int)] [] (P τ) = ev N mX9_cuts 58 [vR 30 0, vI d, vI a1, vI a2, vI what, vI n, vI v, vI (k : Int)] [vI (bootC b 0 (-1) p.2).1, vI v] (P υ) ∧ OM τ υ ∧ ∀ j, j < 107 → υ 42 0 j = τ 42 0 j := by
        intro τ ht
        obtain ⟨υ, u1, u2, u3, -⟩ := md τ ht.1
        obtain ⟨ρ, w1, w2⟩ := m_would (N := N) (σ0 := b) (σ := υ) (c := p.2.1) (g := p.2.2) hg u3 ok.1.1 (EnvM_KM (EnvM_FX ht.1.1 fb h.1.2.1) u2) p82.2 0 (Or.inl rfl)
        rw [performC_0, boot_78 b p.2] at w1
        refine ⟨ρ, ?_, OM_trans (OM_KM u2) (OM_WM w2), fun j hj => by rw [w2.2.2.2 j (by omega), km42 u2]⟩
        rw [eX9_cuts_41, if_pos q, u1, bnd_s, push_s, eX9_cuts_50, if_pos hwh, w1, bnd_s, push_s]
      by_cases z : (bootC b 0 (-1) p.2).1 = w32 (what - 1)
      · rw [if_pos z]
        obtain ⟨r, y, r1, r2⟩ := ih (k + 1) (w32 (v + 1)) (bootC b 0 (-1) p.2).2 (vI 1) hkm
        refine ⟨r, y, r1, fun τ ht => ?_⟩
        obtain ⟨υ, u1, u2, u3⟩ := ms τ ht
        obtain ⟨ρ, t1, t2⟩ := tail τ υ (w32 (v + 1)) ht u2 u3
        obtain ⟨ω, s1, s2⟩ := r2 ρ t2
        exact ⟨ω, by rw [u1, eX9_cuts_58, if_pos z, s9_truth, if_neg (by decide), bnd_s, push_s, eX9_cuts_66, t1]; exact s1, s2⟩
      · rw [if_neg z]
        obtain ⟨r, y, r1, r2⟩ := ih (k + 1) (w32 (v + 0)) (bootC b 0 (-1) p.2).2 (vI 0) hkm
        refine ⟨r, y, r1, fun τ ht => ?_⟩
        obtain ⟨υ, u1, u2, u3⟩ := ms τ ht
        obtain ⟨ρ, t1, t2⟩ := tail τ υ (w32 (v + 0)) ht u2 u3
        obtain ⟨ω, s1, s2⟩ := r2 ρ t2
        exact ⟨ω, by rw [u1, eX9_cuts_58, if_neg z, s9_truth, if_pos rfl, bnd_s, push_s, eX9_cuts_66, t1]; exact s1, s2⟩
    · have fo := p2_flagsAsOne (N := N) (i := 1) (σ := b) (x := p.2) ok.1.1
      rw [if_neg hwh, fo, bnd_s, push_s, eX7_countCuts_61, nk]
      have o2 : oneF (σ 7 0) = oneF (σ 40 0) := oneF_congr (fun j h1 h2 => h.2.1.2.1.1.1 j (by omega))
      have ob : OKB (σ 40 0) := (INV_okm h).2.1
      have ms : ∀ τ, MC σ d6 τ → ∃ υ, ev N mX9_cuts 41 [vR 30 0, vI d, vI a1, vI a2, vI what, vI n, vI v, vI (k : Int)] [] (P τ) = ev N mX9_cuts 80 [vR 30 0, vI d, vI a1, vI a2, vI what, vI n, vI v, vI (k : Int)] [vI (if oneF p.2.1 = due then 1 else 0), vI v] (P υ) ∧ OM τ υ ∧ ∀ j, j < 107 → υ 42 0 j = τ 42 0 j := by
        intro τ ht
        obtain ⟨υ, u1, u2, u3, -⟩ := md τ ht.1
        have oo : oneF p.2.1 = oneF (υ 40 0) := oneF_congr (fun j h1 h2 => RZ_cells u3 j (by omega))
        have okυ := RZ_okb ok.1.1 u3
        refine ⟨rfM υ, ?_, OM_trans (OM_KM u2) (OM_rf υ), fun j hj => ?_⟩
        · rw [eX9_cuts_41, if_pos q, u1, bnd_s, push_s, eX9_cuts_50, if_neg hwh]
          by_cases w5 : what = 5
          · have z := m_areFlags46 (N := N) (σ := υ) okυ ob (by rw [OM_46 (OM_KM u2)]; exact ht.2.2.1)
            rw [if_pos w5, z, bnd_s, push_s, oo, e5 w5, o2]
          · have w6 : what = 6 := by omega
            have z := m_areFlags47 (N := N) (σ := υ) okυ o6 (by rw [OM_47 (OM_KM u2)]; exact ht.2.2.2)
            rw [if_neg w5, z, bnd_s, push_s, oo, e6 w6]
        · unfold rfM
          rw [row_at, if_neg (by decide), km42 u2]
      by_cases z : oneF p.2.1 = due
      · rw [if_pos z]
        obtain ⟨r, y, r1, r2⟩ := ih (k + 1) (w32 (v + 1)) (readFlC p.2) (vI 1) hkm
        refine ⟨r, y, r1, fun τ ht => ?_⟩
        obtain ⟨υ, u1, u2, u3⟩ := ms τ ht
        obtain ⟨ρ, t1, t2⟩ := tail τ υ (w32 (v + 1)) ht u2 u3
        obtain ⟨ω, s1, s2⟩ := r2 ρ t2
        exact ⟨ω, by rw [u1, if_pos z, eX9_cuts_80, s9_truth, if_neg (by decide), bnd_s, push_s, eX9_cuts_81, t1]; exact s1, s2⟩
      · rw [if_neg z]
        obtain ⟨r, y, r1, r2⟩ := ih (k + 1) (w32 (v + 0)) (readFlC p.2) (vI 0) hkm
        refine ⟨r, y, r1, fun τ ht => ?_⟩
        obtain ⟨υ, u1, u2, u3⟩ := ms τ ht
        obtain ⟨ρ, t1, t2⟩ := tail τ υ (w32 (v + 0)) ht u2 u3
        obtain ⟨ω, s1, s2⟩ := r2 ρ t2
        exact ⟨ω, by rw [u1, if_neg z, eX9_cuts_80, s9_truth, if_pos rfl, bnd_s, push_s, eX9_cuts_81, t1]; exact s1, s2⟩
end TRY
