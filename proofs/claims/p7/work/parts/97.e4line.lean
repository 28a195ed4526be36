/-! LINES: what holds of both readers, step by step -/
def CFr (σ σ2 : Sto) : Prop := ∀ k k', ¬ (k' = 0 ∧ (k = 2 ∨ k = 3 ∨ k = 4 ∨ k = 5 ∨ k = 8)) → σ2 k k' = σ k k'
def MFr (τ τ2 : Sto) : Prop := (∀ k k', ¬ (k' = 0 ∧ (k = 30 ∨ k = 34 ∨ k = 35 ∨ k = 37 ∨ k = 39)) → τ2 k k' = τ k k') ∧ ∀ j, j ≠ 2 → j ≠ 3 → j ≠ 4 → j ≠ 7 → j ≠ 8 → j ≠ 9 → τ2 30 0 j = τ 30 0 j
def DR (σ : Sto) : Prop := (0 ≤ σ 2 0 0 ∧ σ 2 0 0 ≤ 6) ∧ (0 ≤ σ 2 0 1 ∧ σ 2 0 1 ≤ 6) ∧ (1 ≤ σ 2 0 2 ∧ σ 2 0 2 ≤ 9) ∧ (1 ≤ σ 2 0 3 ∧ σ 2 0 3 ≤ 7) ∧ (1 ≤ σ 2 0 4 ∧ σ 2 0 4 ≤ 99) ∧ DRAFT σ ∧ OKU (σ 2 0 0) (σ 4 0) ∧ (∀ j, 7 ≤ j → j < 10 → σ 8 0 j = 0 ∨ σ 8 0 j = 1)
def ZW (σ : Sto) : Prop := ∀ j : Nat, 14 * σ 2 0 1 ≤ (j : Int) → j < 84 → σ 5 0 j = 0
theorem ZW_o {σ ρ : Sto} (h : ZW σ) (h2 : ρ 2 0 1 = σ 2 0 1) (h5 : ρ 5 0 = σ 5 0) : ZW ρ := by
  unfold ZW
  rw [h2, h5]
  exact h
def CR (n : Nat) (T : Vec) (p : Nat) (σ : Sto) : Prop := CT n T σ ∧ p ≤ n ∧ σ 8 0 3 = (p : Int) ∧ σ 8 0 4 = -1 ∧ DR σ
def RR (σ τ : Sto) : Prop := τ 30 0 2 = σ 8 0 3 ∧ τ 30 0 3 = -1 ∧ τ 30 0 7 = σ 2 0 0 ∧ τ 30 0 8 = σ 2 0 1 ∧ (∀ k : Nat, (k : Int) < σ 2 0 0 → τ 34 0 k = σ 3 0 k ∧ τ 35 0 k = σ 4 0 k) ∧ (∀ j : Nat, (j : Int) < 14 * σ 2 0 1 → τ 37 0 j = σ 5 0 j) ∧ τ 39 0 2 = σ 2 0 2 ∧ τ 39 0 3 = σ 2 0 3 ∧ τ 39 0 4 = σ 2 0 4 ∧ τ 30 0 9 = 4 * σ 8 0 7 + 8 * σ 8 0 8 + 16 * σ 8 0 9
def LINE (n : Nat) (T : Vec) (σ : Sto) (X : Sto → Prop) (C : Option Out) (M : Sto → Option Out) : Prop := ∃ (ok : Int) (σ2 : Sto), C = some (some (vI ok), P σ2) ∧ CFr σ σ2 ∧ CT n T σ2 ∧ DRAFT σ2 ∧ σ2 8 0 10 = σ 8 0 10 ∧ ((ok = 1 ∧ ZW σ2 ∧ σ 8 0 3 ≤ σ2 8 0 3 ∧ ∃ p2, CR n T p2 σ2) ∨ (ok = 0 ∧ ¬ σ2 8 0 4 = -1)) ∧ ∀ τ, MX n T τ → RR σ τ → X τ → ∃ τ2, M τ = some (none, P τ2) ∧ MFr τ τ2 ∧ (ok = 1 → RR σ2 τ2) ∧ (ok = 0 → τ2 30 0 3 = σ2 8 0 4)
theorem CFr_refl (σ : Sto) : CFr σ σ := fun _ _ _ => rfl
theorem CFr_trans {a b c : Sto} (h : CFr a b) (g : CFr b c) : CFr a c := fun k k' q => (g k k' q).trans (h k k' q)
theorem CFr_row (σ : Sto) (k : Nat) (f : Vec) (h : k = 2 ∨ k = 3 ∨ k = 4 ∨ k = 5 ∨ k = 8) : CFr σ (row σ k 0 f) := fun k1 k' q => by rw [row_at, if_neg (by omega)]
theorem MFr_refl (σ : Sto) : MFr σ σ := ⟨fun _ _ _ => rfl, fun _ _ _ _ _ _ _ => rfl⟩
theorem MFr_trans {a b c : Sto} (h : MFr a b) (g : MFr b c) : MFr a c := ⟨fun k k' q => (g.1 k k' q).trans (h.1 k k' q), fun j a b c d e f => (g.2 j a b c d e f).trans (h.2 j a b c d e f)⟩
theorem MFr_row (τ : Sto) (k : Nat) (f : Vec) (h : k = 34 ∨ k = 35 ∨ k = 37 ∨ k = 39) : MFr τ (row τ k 0 f) := ⟨fun k1 k' q => by rw [row_at, if_neg (by omega)], fun j _ _ _ _ _ _ => by rw [row_at, if_neg (by omega)]⟩
theorem MFr_30 (τ : Sto) (f : Vec) (h : ∀ j, j ≠ 2 → j ≠ 3 → j ≠ 4 → j ≠ 7 → j ≠ 8 → j ≠ 9 → f j = τ 30 0 j) : MFr τ (row τ 30 0 f) := ⟨fun k1 k' q => by rw [row_at, if_neg (by omega)], fun j a b c d e g => by rw [row_same]; exact h j a b c d e g⟩
theorem MX_MFr {n : Nat} {T : Vec} {τ τ2 : Sto} (h : MX n T τ) (m : MFr τ τ2) : MX n T τ2 := by
  refine ⟨by rw [m.2 1 (by decide) (by decide) (by decide) (by decide) (by decide) (by decide)]; exact h.1, h.2.1, fun j hj => ?_, h.2.2.2⟩
  rw [m.1 31 0 (by decide)]
  exact h.2.2.1 j hj
theorem CT_CFr {n : Nat} {T : Vec} {σ σ2 : Sto} (h : CT n T σ) (f : CFr σ σ2) (e : σ2 8 0 2 = σ 8 0 2) : CT n T σ2 := ⟨by rw [e]; exact h.1, h.2.1, fun j hj => by rw [f 1 0 (by decide)]; exact h.2.2 j hj⟩
theorem DR_8 {σ : Sto} (h : DR σ) {g : Vec} (hg : ∀ j, 7 ≤ j → g j = σ 8 0 j) : DR (row σ 8 0 g) := by
  obtain ⟨a, b, c, d, e, f, i, k⟩ := h
  exact ⟨a, b, c, d, e, f, i, fun l h1 h2 => by rw [row_same, hg l h1]; exact k l h1 h2⟩
theorem LINE_bad {n : Nat} {T : Vec} {σ σ2 : Sto} {X : Sto → Prop} {C : Option Out} {M : Sto → Option Out} (hC : C = some (some (vI 0), P σ2)) (fr : CFr σ σ2) (ct : CT n T σ2) (dr : DRAFT σ2) (e10 : σ2 8 0 10 = σ 8 0 10) (hf : ¬ σ2 8 0 4 = -1) (hm : ∀ τ, MX n T τ → RR σ τ → X τ → ∃ τ2, M τ = some (none, P τ2) ∧ MFr τ τ2 ∧ τ2 30 0 3 = σ2 8 0 4) : LINE n T σ X C M :=
  ⟨0, σ2, hC, fr, ct, dr, e10, Or.inr ⟨rfl, hf⟩, fun τ h1 h2 hX => by
    obtain ⟨τ2, a, b, c⟩ := hm τ h1 h2 hX
    exact ⟨τ2, a, b, fun z => absurd z (by decide), fun _ => c⟩⟩
theorem LINE_bad8 {n : Nat} {T : Vec} {σ : Sto} {g : Vec} {X : Sto → Prop} {C : Option Out} {M : Sto → Option Out} (h : CT n T σ) (dr : DRAFT σ) (hC : C = some (some (vI 0), P (row σ 8 0 g))) (g2 : g 2 = σ 8 0 2) (e10 : g 10 = σ 8 0 10) (hf : ¬ g 4 = -1) (hm : ∀ τ, MX n T τ → RR σ τ → X τ → ∃ τ2, M τ = some (none, P τ2) ∧ MFr τ τ2 ∧ τ2 30 0 3 = g 4) : LINE n T σ X C M :=
  LINE_bad hC (CFr_row σ 8 g (by decide)) (CT_row h g2) dr (by rw [row_same]; exact e10) (by rw [row_same]; exact hf) (fun τ h1 h2 hX => by rw [row_same]; exact hm τ h1 h2 hX)
theorem LINE_ok {n : Nat} {T : Vec} {σ σ2 : Sto} {X : Sto → Prop} {C : Option Out} {M : Sto → Option Out} (p2 : Nat) (hC : C = some (some (vI 1), P σ2)) (fr : CFr σ σ2) (cr : CR n T p2 σ2) (zw : ZW σ2) (e10 : σ2 8 0 10 = σ 8 0 10) (hm : ∀ τ, MX n T τ → RR σ τ → X τ → ∃ τ2, M τ = some (none, P τ2) ∧ MFr τ τ2 ∧ RR σ2 τ2) (mo : σ 8 0 3 ≤ σ2 8 0 3 := by exact Int.le_refl _) : LINE n T σ X C M :=
  ⟨1, σ2, hC, fr, cr.1, cr.2.2.2.2.2.2.2.2.2.1, e10, Or.inl ⟨rfl, zw, mo, p2, cr⟩, fun τ h1 h2 hX => by
    obtain ⟨τ2, a, b, c⟩ := hm τ h1 h2 hX
    exact ⟨τ2, a, b, fun _ => c, fun z => absurd z (by decide)⟩⟩
section LIN
variable {N n : Nat} {T : Vec} {σ : Sto} {p : Nat}
theorem bnd_bnd (o : Option Out) (f g : Option MV → MS → Option Out) : bnd (bnd o f) g = bnd o (fun r S => bnd (f r S) g) := by
  rcases o with _ | ⟨r, S⟩
  · rfl
  · rfl
theorem LINE_congr {X : Sto → Prop} {C C2 : Option Out} {M M2 : Sto → Option Out} (hC : C = C2) (hM : ∀ τ, MX n T τ → RR σ τ → X τ → M τ = M2 τ) (h : LINE n T σ X C2 M2) : LINE n T σ X C M := by
  obtain ⟨ok, σ2, a, b, c, d, e, f, g⟩ := h
  refine ⟨ok, σ2, hC.trans a, b, c, d, e, f, fun τ hx hr hX => ?_⟩
  rw [hM τ hx hr hX]
  exact g τ hx hr hX
theorem LINE_step {ρ : Sto} {X X2 : Sto → Prop} {C C2 : Option Out} {M M2 : Sto → Option Out} (hC : C = C2) (fr : CFr σ ρ) (e10 : ρ 8 0 10 = σ 8 0 10) (hm : ∀ τ, MX n T τ → RR σ τ → X τ → ∃ τ1, M τ = M2 τ1 ∧ MFr τ τ1 ∧ RR ρ τ1 ∧ X2 τ1) (h : LINE n T ρ X2 C2 M2) (mo : σ 8 0 3 ≤ ρ 8 0 3 := by exact Int.le_refl _) : LINE n T σ X C M := by
  obtain ⟨ok, σ2, a, b, c, d, e, f, g⟩ := h
  refine ⟨ok, σ2, hC.trans a, CFr_trans fr b, c, d, e.trans e10, f.imp (fun z => ⟨z.1, z.2.1, Int.le_trans mo z.2.2.1, z.2.2.2⟩) id, fun τ hx hr hX => ?_⟩
  obtain ⟨τ1, h1, h2, h3, h4⟩ := hm τ hx hr hX
  obtain ⟨τ2, k1, k2, k3⟩ := g τ1 (MX_MFr hx h2) h3 h4
  exact ⟨τ2, h1.trans k1, MFr_trans h2 k2, k3⟩
theorem RR_mv {τ τ2 : Sto} (h : RR σ τ) {g : Vec} (hg : ∀ j, 7 ≤ j → g j = σ 8 0 j) (f2 : τ2 30 0 2 = g 3) (f3 : τ2 30 0 3 = -1) (f7 : τ2 30 0 7 = τ 30 0 7) (f8 : τ2 30 0 8 = τ 30 0 8) (f9 : τ2 30 0 9 = τ 30 0 9) (r34 : τ2 34 0 = τ 34 0) (r35 : τ2 35 0 = τ 35 0) (r37 : τ2 37 0 = τ 37 0) (r39 : τ2 39 0 = τ 39 0) : RR (row σ 8 0 g) τ2 := by
  obtain ⟨a, b, c, d, k, j, l, m, o, q⟩ := h
  refine ⟨by rw [f2, row_same], f3, f7.trans c, f8.trans d, fun i hi => ?_, fun i hi => ?_, by rw [r39]; exact l, by rw [r39]; exact m, by rw [r39]; exact o, ?_⟩
  · rw [r34, r35]; exact k i hi
  · rw [r37]; exact j i hi
  · rw [f9, row_same, hg 7 (by decide), hg 8 (by decide), hg 9 (by decide)]; exact q
/-- what the model does behind a fault -/
def BADK (n : Nat) (T : Vec) (σ : Sto) (km : Sto → Option Out) : Prop := ∀ τ, MX n T τ → ¬ τ 30 0 3 = -1 → (∃ e : Nat, e ≤ n ∧ τ 30 0 2 = (e : Int)) → τ 30 0 7 = σ 2 0 0 → τ 30 0 8 = σ 2 0 1 → ∃ τ2, km τ = some (none, P τ2) ∧ MFr τ τ2 ∧ τ2 30 0 3 = τ 30 0 3
def same5 (σ ρ : Sto) : Prop := ρ 2 0 = σ 2 0 ∧ ρ 3 0 = σ 3 0 ∧ ρ 4 0 = σ 4 0 ∧ ρ 5 0 = σ 5 0
theorem same5_8 (σ : Sto) (g : Vec) : same5 σ (row σ 8 0 g) := ⟨rfl, rfl, rfl, rfl⟩
theorem CR_8 {g : Vec} {p2 : Nat} (h : CR n T p σ) (hp : p2 ≤ n) (g2 : g 2 = σ 8 0 2) (g3 : g 3 = (p2 : Int)) (g4 : g 4 = -1) (hg : ∀ j, 7 ≤ j → g j = σ 8 0 j) : CR n T p2 (row σ 8 0 g) := ⟨CT_row h.1 g2, hp, by rw [row_same]; exact g3, by rw [row_same]; exact g4, DR_8 h.2.2.2.2 hg⟩
/-- a number is read by both -/
theorem LINE_num {X : Sto → Prop} (hS : ∀ τ f, X τ → X (row τ 30 0 f)) (h : CR n T p σ) (lo hi : Int) (fc : Option MV → MS → Option Out) (fm : Option MV → MS → Option Out) (fbad : ∀ ρ, fc (some (vI 0)) (P ρ) = some (some (vI 0), P ρ)) (mbad : ∀ x, BADK n T σ (fun τ => fm (some (vI x)) (P τ))) (good : ∀ (ρ : Sto) (v : Int) (e : Nat), CR n T e ρ → ρ 8 0 5 = v → lo ≤ v ∧ v ≤ hi → same5 σ ρ → (∀ j, 7 ≤ j → ρ 8 0 j = σ 8 0 j) → (∃ q : Nat, q ≤ n ∧ ρ 8 0 6 = (q : Int)) → (∀ k k', ¬ (k = 8 ∧ k' = 0) → ρ k k' = σ k k') → LINE n T ρ X (fc (some (vI 1)) (P ρ)) (fun τ => fm (some (vI v)) (P τ))) : LINE n T σ X (bnd (inv N mX4_takeNumber [vR 8 0, vI lo, vI hi] (P σ)) fc) (fun τ => bnd (inv N mX9_number [vR 30 0, vI lo, vI hi] (P τ)) fm) := by
  have h0 := h
  obtain ⟨ct, hp, h3, h4, hD⟩ := h
  obtain ⟨g, c1, g4, gok, g2, go⟩ := c_number (N := N) ct hp h3 h4 lo hi
  have hq := SK_le (T := T) hp
  have mn := fun (τ : Sto) (hx : MX n T τ) (hr : RR σ τ) => m_number (N := N) hx hp (by rw [hr.1, h3]) hr.2.1 lo hi
  generalize SK n T p = q1 at c1 g4 gok hq mn
  by_cases nf : NF1 n T lo hi q1 = -1
  · obtain ⟨g3, g5, g6⟩ := gok nf
    have nr := NUM_r (T := T) hq.2
    have v9 := NF1_ok nf
    have L := good (row σ 8 0 g) _ _ (CR_8 h0 nr.2.2 g2 g3 (g4.trans nf) go) (by rw [row_same]; exact g5) v9 (same5_8 σ g) (fun j hj => by rw [row_same]; exact go j hj) ⟨q1, hq.2, by rw [row_same]; exact g6⟩ (fun k k' z => by rw [row_at, if_neg z])
    refine LINE_step (mo := by rw [row_same, g3, h3]; exact Int.ofNat_le.mpr (Nat.le_trans hq.1 nr.2.1)) ?_ (CFr_row σ 8 g (by decide)) (by rw [row_same]; exact go 10 (by decide)) ?_ L
    · rw [c1, if_pos nf, bnd_s]
    · intro τ hx hr hX
      obtain ⟨x, f, e, n1, n2, n3, n4, n5, n6⟩ := mn τ hx hr
      obtain ⟨e1, e2, e4⟩ := n5 nf
      refine ⟨row τ 30 0 f, ?_, MFr_30 τ f (fun j a b c _ _ _ => n6 j a b c), RR_mv hr go ?_ ?_ ?_ ?_ ?_ rfl rfl rfl rfl, hS _ _ hX⟩
      · show bnd (inv N mX9_number [vR 30 0, vI lo, vI hi] (P τ)) fm = _
        rw [n1, bnd_s, e1]
      · rw [row_same, n3, e2, g3]
      · rw [row_same, n2, nf]
      · rw [row_same]; exact n6 7 (by decide) (by decide) (by decide)
      · rw [row_same]; exact n6 8 (by decide) (by decide) (by decide)
      · rw [row_same]; exact n6 9 (by decide) (by decide) (by decide)
  · refine LINE_bad8 ct hD.2.2.2.2.2.1 (g := g) ?_ g2 (go 10 (by decide)) (by rw [g4]; exact nf) ?_
    · rw [c1, if_neg nf, bnd_s, fbad]
    · intro τ hx hr hX
      obtain ⟨x, f, e, n1, n2, n3, n4, -, n6⟩ := mn τ hx hr
      have mfr : MFr τ (row τ 30 0 f) := MFr_30 τ f (fun j a b c _ _ _ => n6 j a b c)
      obtain ⟨τ2, k1, k2, k3⟩ := mbad x (row τ 30 0 f) (MX_MFr hx mfr) (by rw [row_same, n2]; exact nf) ⟨e, n4, by rw [row_same]; exact n3⟩ (by rw [row_same, n6 7 (by decide) (by decide) (by decide)]; exact hr.2.2.1) (by rw [row_same, n6 8 (by decide) (by decide) (by decide)]; exact hr.2.2.2.1)
      refine ⟨τ2, ?_, MFr_trans mfr k2, by rw [k3, row_same, n2, g4]⟩
      show bnd (inv N mX9_number [vR 30 0, vI lo, vI hi] (P τ)) fm = _
      rw [n1, bnd_s]
      exact k1
/-- a word is looked for by both -/
theorem LINE_word {X : Sto → Prop} (hS : ∀ τ f, X τ → X (row τ 30 0 f)) (h : CR n T p σ) (k : Nat) (hk : k < 8) (fc fm : Option MV → MS → Option Out) (good : ∀ (a : Int) (ρ : Sto) (e : Nat), a = 0 ∨ a = 1 → CR n T e ρ → same5 σ ρ → (∀ j, j ≠ 3 → ρ 8 0 j = σ 8 0 j) → (∀ k k', ¬ (k = 8 ∧ k' = 0) → ρ k k' = σ k k') → LINE n T ρ X (fc (some (vI a)) (P ρ)) (fun τ => fm (some (vI a)) (P τ))) : LINE n T σ X (bnd (inv N mX4_takeWord [vR 8 0, vR 1000 (cw k)] (P σ)) fc) (fun τ => bnd (inv N mX9_takes [vR 30 0, vI (k : Int)] (P τ)) fm) := by
  have h0 := h
  obtain ⟨ct, hp, h3, h4, hD⟩ := h
  have hw : cw k < 16 := by
    rcases (show k = 0 ∨ k = 1 ∨ k = 2 ∨ k = 3 ∨ k = 4 ∨ k = 5 ∨ k = 6 ∨ k = 7 by omega) with rfl | rfl | rfl | rfl | rfl | rfl | rfl | rfl <;> decide
  obtain ⟨a, a1, a2, c2⟩ := c_word (N := N) ct hp h3 (cw k) hw
  have hq := SK_le (T := T) hp
  have el := cw_len k hk
  have wd := WD_cw (n := n) (T := T) (p := SK n T p) hk
  have le : a = 1 → SK n T p + (sLen (cw k)).toNat ≤ n := fun z => WD_le hw hq.2 (a2.mp z)
  have mt := fun (τ : Sto) (hx : MX n T τ) (hr : RR σ τ) => m_takes (N := N) hx hp (by rw [hr.1, h3]) hr.2.1 k hk
  rw [← el] at mt
  generalize SK n T p = q at c2 hq wd le mt a2
  generalize (sLen (cw k)).toNat = l at c2 le mt
  have key : ∃ e : Nat, e ≤ n ∧ p ≤ e ∧ (if a = 1 then ((q + l : Nat) : Int) else (q : Int)) = (e : Int) := by
    rcases a1 with rfl | rfl
    · exact ⟨q, hq.2, hq.1, if_neg (by decide)⟩
    · exact ⟨q + l, le rfl, Nat.le_trans hq.1 (Nat.le_add_right q l), if_pos rfl⟩
  obtain ⟨e, e1, ep, e2⟩ := key
  rw [e2] at c2
  have L := good a (row σ 8 0 (set (σ 8 0) 3 (e : Int))) e a1 (CR_8 h0 e1 (set_ne _ _ (by decide)) (set_same _ _ _) ((set_ne _ _ (by decide)).trans h4) (fun j hj => set_ne _ _ (Nat.ne_of_gt (Nat.lt_of_lt_of_le (by decide) hj)))) (same5_8 σ _) (fun j hj => by rw [row_same, set_ne _ _ hj]) (fun k k' z => by rw [row_at, if_neg z])
  refine LINE_step (mo := by rw [row_same, set_same, h3]; exact Int.ofNat_le.mpr ep) ?_ (CFr_row σ 8 _ (by decide)) (by rw [row_same, set_ne _ _ (by decide)]) ?_ L
  · rw [c2, bnd_s]
  · intro τ hx hr hX
    obtain ⟨b, b1, b2, b3⟩ := mt τ hx hr
    have ab : b = a := by
      rcases a1 with rfl | rfl <;> rcases b1 with rfl | rfl
      · rfl
      · exact (a2.mpr (wd.mpr (b2.mp rfl))).symm
      · exact b2.mpr (wd.mp (a2.mp rfl))
      · rfl
    rw [ab, e2] at b3
    refine ⟨row τ 30 0 (set (τ 30 0) 2 (e : Int)), ?_, MFr_30 τ _ (fun j z _ _ _ _ _ => set_ne _ _ z), RR_mv hr (fun j hj => set_ne _ _ (Nat.ne_of_gt (Nat.lt_of_lt_of_le (by decide) hj))) ?_ ?_ ?_ ?_ ?_ rfl rfl rfl rfl, hS _ _ hX⟩
    · show bnd (inv N mX9_takes [vR 30 0, vI (k : Int)] (P τ)) fm = _
      rw [b3, bnd_s]
    · rw [row_same, set_same, set_same]
    · rw [row_same, set_ne _ _ (by decide)]; exact hr.2.1
    · rw [row_same, set_ne _ _ (by decide)]
    · rw [row_same, set_ne _ _ (by decide)]
    · rw [row_same, set_ne _ _ (by decide)]
/-- blanks are skipped by both -/
theorem LINE_skip {X : Sto → Prop} (hS : ∀ τ f, X τ → X (row τ 30 0 f)) (h : CR n T p σ) (fc fm : Option MV → MS → Option Out) (good : ∀ (ρ : Sto) (e : Nat), CR n T e ρ → same5 σ ρ → (∀ j, j ≠ 3 → ρ 8 0 j = σ 8 0 j) → (∀ k k', ¬ (k = 8 ∧ k' = 0) → ρ k k' = σ k k') → LINE n T ρ X (fc none (P ρ)) (fun τ => fm (some (vI (byI n T e))) (P τ))) : LINE n T σ X (bnd (inv N mX4_skipBlanks [vR 8 0] (P σ)) fc) (fun τ => bnd (inv N mX9_nextSign [vR 30 0] (P τ)) fm) := by
  have h0 := h
  obtain ⟨ct, hp, h3, h4, hD⟩ := h
  have c2 := c_skip (N := N) ct hp h3
  have hq := SK_le (T := T) hp
  have mt := fun (τ : Sto) (hx : MX n T τ) (hr : RR σ τ) => m_next (N := N) hx hp (by rw [hr.1, h3])
  generalize SK n T p = e at c2 hq mt
  have L := good (row σ 8 0 (set (σ 8 0) 3 (e : Int))) e (CR_8 h0 hq.2 (set_ne _ _ (by decide)) (set_same _ _ _) ((set_ne _ _ (by decide)).trans h4) (fun j hj => set_ne _ _ (Nat.ne_of_gt (Nat.lt_of_lt_of_le (by decide) hj)))) (same5_8 σ _) (fun j hj => by rw [row_same, set_ne _ _ hj]) (fun k k' z => by rw [row_at, if_neg z])
  refine LINE_step (mo := by rw [row_same, set_same, h3]; exact Int.ofNat_le.mpr hq.1) ?_ (CFr_row σ 8 _ (by decide)) (by rw [row_same, set_ne _ _ (by decide)]) ?_ L
  · rw [c2, bnd_s]
  · intro τ hx hr hX
    have b3 := mt τ hx hr
    refine ⟨row τ 30 0 (set (τ 30 0) 2 (e : Int)), ?_, MFr_30 τ _ (fun j z _ _ _ _ _ => set_ne _ _ z), RR_mv hr (fun j hj => set_ne _ _ (Nat.ne_of_gt (Nat.lt_of_lt_of_le (by decide) hj))) ?_ ?_ ?_ ?_ ?_ rfl rfl rfl rfl, hS _ _ hX⟩
    · show bnd (inv N mX9_nextSign [vR 30 0] (P τ)) fm = _
      rw [b3, bnd_s]
    · rw [row_same, set_same, set_same]
    · rw [row_same, set_ne _ _ (by decide)]; exact hr.2.1
    · rw [row_same, set_ne _ _ (by decide)]
    · rw [row_same, set_ne _ _ (by decide)]
    · rw [row_same, set_ne _ _ (by decide)]
/-- a fault is told by both -/
theorem LINE_fail {X : Sto → Prop} (hS : ∀ τ f, X τ → X (row τ 30 0 f)) (h : CR n T p σ) (st k : Nat) (hst : st ≤ n) (hk : k < 8) (fc fm : Option MV → MS → Option Out) (fbad : ∀ ρ, fc (some (vI 0)) (P ρ) = some (some (vI 0), P ρ)) (mbad : BADK n T σ (fun τ => fm none (P τ))) : LINE n T σ X (bnd (inv N mX4_fail [vR 8 0, vI (st : Int), vI (k : Int)] (P σ)) fc) (fun τ => bnd (inv N mX9_fails [vR 30 0, vI (k : Int), vI (st : Int)] (P τ)) fm) := by
  have h0 := h
  obtain ⟨ct, hp, h3, h4, hD⟩ := h
  have s3 : st ≤ 300 := Nat.le_trans hst ct.2.1
  have nz : ¬ 8 * (st : Int) + (k : Int) = -1 := by clear h0 h3 h4 hD ct; omega
  have cf := c_fail (N := N) (σ := σ) st k s3 hk
  refine LINE_bad8 ct hD.2.2.2.2.2.1 (g := set (σ 8 0) 4 (8 * (st : Int) + (k : Int))) ?_ (set_ne _ _ (by decide)) (set_ne _ _ (by decide)) (by rw [set_same]; exact nz) ?_
  · rw [cf, bnd_s, fbad]
  · intro τ hx hr hX
    have mf := m_fails (N := N) (σ := τ) st k s3 hk
    rw [if_pos hr.2.1] at mf
    have mfr : MFr τ (row τ 30 0 (set (τ 30 0) 3 (8 * (st : Int) + (k : Int)))) := MFr_30 τ _ (fun j _ z _ _ _ _ => set_ne _ _ z)
    obtain ⟨τ2, k1, k2, k3⟩ := mbad _ (MX_MFr hx mfr) (by rw [row_same, set_same]; exact nz) ⟨p, hp, by rw [row_same, set_ne _ _ (by decide), hr.1, h3]⟩ (by rw [row_same, set_ne _ _ (by decide)]; exact hr.2.2.1) (by rw [row_same, set_ne _ _ (by decide)]; exact hr.2.2.2.1)
    refine ⟨τ2, ?_, MFr_trans mfr k2, by rw [k3, row_same, set_same, set_same]⟩
    show bnd (inv N mX9_fails [vR 30 0, vI (k : Int), vI (st : Int)] (P τ)) fm = _
    rw [mf, bnd_s]
    exact k1
theorem m_fails_bad {τ : Sto} (h : ¬ τ 30 0 3 = -1) (k x : Int) : inv N mX9_fails [vR 30 0, vI k, vI x] (P τ) = some (none, P τ) := by
  rw [iX9_fails, eX9_fails_0, if_neg h]
/-- a number is read by both, and is one too many -/
theorem LINE_num4 {X : Sto → Prop} (hS : ∀ τ f, X τ → X (row τ 30 0 f)) (h : CR n T p σ) (lo hi : Int) (fc fc2 fm : Option MV → MS → Option Out) (fm2 : Int → Option MV → MS → Option Out) (fbad : ∀ ρ, fc (some (vI 0)) (P ρ) = some (some (vI 0), P ρ)) (fgood : ∀ ρ, fc (some (vI 1)) (P ρ) = bnd (inv N mX4_fail [vR 8 0, vI (ρ 8 0 6), vI 4] (P ρ)) fc2) (fbad2 : ∀ ρ, fc2 (some (vI 0)) (P ρ) = some (some (vI 0), P ρ)) (hfm : ∀ x τ, fm (some (vI x)) (P τ) = bnd (inv N mX9_fails [vR 30 0, vI 4, vI (τ 30 0 4)] (P τ)) (fm2 x)) (mbad : ∀ x, BADK n T σ (fun τ => fm2 x none (P τ))) : LINE n T σ X (bnd (inv N mX4_takeNumber [vR 8 0, vI lo, vI hi] (P σ)) fc) (fun τ => bnd (inv N mX9_number [vR 30 0, vI lo, vI hi] (P τ)) fm) := by
  have h0 := h
  obtain ⟨ct, hp, h3, h4, hD⟩ := h
  obtain ⟨g, c1, g4, gok, g2, go⟩ := c_number (N := N) ct hp h3 h4 lo hi
  have hq := SK_le (T := T) hp
  have mn := fun (τ : Sto) (hx : MX n T τ) (hr : RR σ τ) => m_number (N := N) hx hp (by rw [hr.1, h3]) hr.2.1 lo hi
  generalize SK n T p = q1 at c1 g4 gok hq mn
  have s3 : q1 ≤ 300 := Nat.le_trans hq.2 ct.2.1
  by_cases nf : NF1 n T lo hi q1 = -1
  · obtain ⟨g3, g5, g6⟩ := gok nf
    have nz : ¬ 8 * (q1 : Int) + 4 = -1 := by clear h0 h3 h4 hD ct c1 g4 gok g2 go mn nf g3 g5 g6; omega
    have cf := c_fail (N := N) (σ := row σ 8 0 g) q1 4 s3 (by decide)
    rw [Int.cast_ofNat_Int, row_row, row_same] at cf
    refine LINE_bad8 ct hD.2.2.2.2.2.1 (g := set g 4 (8 * (q1 : Int) + 4)) ?_ ((set_ne _ _ (by decide)).trans g2) ((set_ne _ _ (by decide)).trans (go 10 (by decide))) (by rw [set_same]; exact nz) ?_
    · rw [c1, if_pos nf, bnd_s, fgood, row_same, g6, cf, bnd_s, fbad2]
    · intro τ hx hr hX
      obtain ⟨x, f, e, n1, n2, n3, n4, n5, n6⟩ := mn τ hx hr
      obtain ⟨e1, e2, e4⟩ := n5 nf
      have mf := m_fails (N := N) (σ := row τ 30 0 f) q1 4 s3 (by decide)
      rw [Int.cast_ofNat_Int, row_row, row_same, if_pos (n2.trans nf)] at mf
      have mfr : MFr τ (row τ 30 0 (set f 3 (8 * (q1 : Int) + 4))) := MFr_30 τ _ (fun j a b c _ _ _ => (set_ne _ _ b).trans (n6 j a b c))
      obtain ⟨τ2, k1, k2, k3⟩ := mbad x _ (MX_MFr hx mfr) (by rw [row_same, set_same]; exact nz) ⟨e, n4, by rw [row_same, set_ne _ _ (by decide)]; exact n3⟩ (by rw [row_same, set_ne _ _ (by decide), n6 7 (by decide) (by decide) (by decide)]; exact hr.2.2.1) (by rw [row_same, set_ne _ _ (by decide), n6 8 (by decide) (by decide) (by decide)]; exact hr.2.2.2.1)
      refine ⟨τ2, ?_, MFr_trans mfr k2, by rw [k3, row_same, set_same, set_same]⟩
      show bnd (inv N mX9_number [vR 30 0, vI lo, vI hi] (P τ)) fm = _
      rw [n1, bnd_s, hfm, row_same, e4, mf, bnd_s]
      exact k1
  · refine LINE_bad8 ct hD.2.2.2.2.2.1 (g := g) ?_ g2 (go 10 (by decide)) (by rw [g4]; exact nf) ?_
    · rw [c1, if_neg nf, bnd_s, fbad]
    · intro τ hx hr hX
      obtain ⟨x, f, e, n1, n2, n3, n4, -, n6⟩ := mn τ hx hr
      have mfr : MFr τ (row τ 30 0 f) := MFr_30 τ f (fun j a b c _ _ _ => n6 j a b c)
      have bad : ¬ row τ 30 0 f 30 0 3 = -1 := by rw [row_same, n2]; exact nf
      obtain ⟨τ2, k1, k2, k3⟩ := mbad x (row τ 30 0 f) (MX_MFr hx mfr) bad ⟨e, n4, by rw [row_same]; exact n3⟩ (by rw [row_same, n6 7 (by decide) (by decide) (by decide)]; exact hr.2.2.1) (by rw [row_same, n6 8 (by decide) (by decide) (by decide)]; exact hr.2.2.2.1)
      refine ⟨τ2, ?_, MFr_trans mfr k2, by rw [k3, row_same, n2, g4]⟩
      show bnd (inv N mX9_number [vR 30 0, vI lo, vI hi] (P τ)) fm = _
      rw [n1, bnd_s, hfm, m_fails_bad bad, bnd_s]
      exact k1
end LIN
