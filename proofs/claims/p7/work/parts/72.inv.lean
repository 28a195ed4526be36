/-! WHAT HOLDS BETWEEN CALLS -/
def TAPE (σ : Sto) : Prop := 0 ≤ σ 0 0 1 ∧ σ 0 0 1 ≤ 300 ∧ σ 30 0 1 = σ 0 0 1 ∧ ∀ j, j < 300 → 0 ≤ σ 1 0 j ∧ σ 1 0 j < 256 ∧ -128 ≤ σ 31 0 j ∧ σ 31 0 j < 128 ∧ σ 31 0 j % 256 = σ 1 0 j
def DRAWN (σ : Sto) : Prop := σ 0 0 10 = σ 30 0 35 ∧ 0 ≤ σ 30 0 35 ∧ σ 30 0 35 < 2147483648
def DRAFT (σ : Sto) : Prop := (∀ k, k < 6 → 0 ≤ σ 3 0 k ∧ σ 3 0 k < 10000) ∧ (∀ k, k < 84 → 0 ≤ σ 5 0 k ∧ σ 5 0 k < 100000)
def BASE (σ : Sto) : Prop := OKG σ 1 ∧ EnvM σ σ ∧ TAPE σ ∧ DRAWN σ ∧ DRAFT σ
def INV (L : Int) (σ : Sto) : Prop := BASE σ ∧ CELL L (σ 7 0) (σ 40 0) ∧ PAST L (σ 10 0) (σ 9 0 2) (σ 9 0 3) (σ 41 0) (σ 30 0 21)
/-- what deeds and trials leave as it is -/
def FX (σ τ : Sto) : Prop := (∀ k k', k ≤ 5 ∨ (31 ≤ k ∧ k ≤ 39) → τ k k' = σ k k') ∧ τ 30 0 1 = σ 30 0 1 ∧ τ 30 0 5 = σ 30 0 5 ∧ τ 30 0 6 = σ 30 0 6 ∧ τ 30 0 35 = σ 30 0 35
theorem FX_refl (σ : Sto) : FX σ σ := ⟨fun _ _ _ => rfl, rfl, rfl, rfl, rfl⟩
theorem FX_trans {σ τ υ : Sto} (h : FX σ τ) (g : FX τ υ) : FX σ υ := ⟨fun k k' q => (g.1 k k' q).trans (h.1 k k' q), g.2.1.trans h.2.1, g.2.2.1.trans h.2.2.1, g.2.2.2.1.trans h.2.2.2.1, g.2.2.2.2.trans h.2.2.2.2⟩
theorem FX_KM {σ τ : Sto} (h : KM σ τ) : FX σ τ := ⟨fun k k' q => h.1 k k' (by omega), h.2 1 (by decide) (by decide) (by decide), h.2 5 (by decide) (by decide) (by decide), h.2 6 (by decide) (by decide) (by decide), h.2 35 (by decide) (by decide) (by decide)⟩
theorem FX_row (σ : Sto) (k i : Nat) (f : Vec) (h1 : 5 < k) (h2 : k < 31 ∨ 39 < k) (h3 : k ≠ 30) : FX σ (row σ k i f) := by
  have e : row σ k i f 30 0 = σ 30 0 := by rw [row_at, if_neg (by omega)]
  refine ⟨fun k1 k' q => ?_, by rw [e], by rw [e], by rw [e], by rw [e]⟩
  rw [row_at, if_neg (by omega)]
theorem FX_30 (σ : Sto) (f : Vec) (h1 : f 1 = σ 30 0 1) (h5 : f 5 = σ 30 0 5) (h6 : f 6 = σ 30 0 6) (h35 : f 35 = σ 30 0 35) : FX σ (row σ 30 0 f) := by
  refine ⟨fun k1 k' q => ?_, by rw [row_same]; exact h1, by rw [row_same]; exact h5, by rw [row_same]; exact h6, by rw [row_same]; exact h35⟩
  rw [row_at, if_neg (by omega)]
theorem FX_put (σ : Sto) (i : Nat) (x : XP) : FX σ (putC σ i x) := FX_trans (FX_row σ 7 i x.1 (by omega) (by omega) (by omega)) (FX_row _ 6 i x.2 (by omega) (by omega) (by omega))
theorem OKG_FX {σ τ : Sto} (h : FX σ τ) (g : OKG σ 1) : OKG τ 1 := by
  unfold OKG at g ⊢
  rw [h.1 2 1 (by omega), h.1 3 1 (by omega), h.1 4 1 (by omega), h.1 5 1 (by omega)]
  exact g
theorem EnvM_FX {σ τ υ : Sto} (h : FX σ τ) (h2 : FX σ υ) (g : EnvM σ σ) : EnvM υ τ := by
  unfold EnvM OKM whyM whyS at g ⊢
  rw [h.1 32 0 (by omega), h.1 33 0 (by omega), h.1 36 0 (by omega), h.1 38 0 (by omega), h.2.2.1, h.2.2.2.1, h2.1 2 1 (by omega), h2.1 3 1 (by omega), h2.1 4 1 (by omega), h2.1 5 1 (by omega)]
  exact g
theorem BASE_FX {σ τ : Sto} (h : FX σ τ) (g : BASE σ) : BASE τ := by
  refine ⟨OKG_FX h g.1, EnvM_FX h h g.2.1, ?_, ?_, ?_⟩
  · have t := g.2.2.1
    unfold TAPE at t ⊢
    rw [h.1 0 0 (by omega), h.1 1 0 (by omega), h.1 31 0 (by omega), h.2.1]
    exact t
  · have t := g.2.2.2.1
    unfold DRAWN at t ⊢
    rw [h.1 0 0 (by omega), h.2.2.2.2]
    exact t
  · have t := g.2.2.2.2
    unfold DRAFT at t ⊢
    rw [h.1 3 0 (by omega), h.1 5 0 (by omega)]
    exact t
/-- what questions leave as it is -/
def QX (σ τ : Sto) : Prop := FX σ τ ∧ τ 7 0 = σ 7 0 ∧ (∀ j, j < 107 → τ 40 0 j = σ 40 0 j) ∧ τ 9 0 = σ 9 0 ∧ τ 10 0 = σ 10 0 ∧ τ 41 0 = σ 41 0 ∧ τ 30 0 21 = σ 30 0 21
theorem QX_refl (σ : Sto) : QX σ σ := ⟨FX_refl σ, rfl, fun _ _ => rfl, rfl, rfl, rfl, rfl⟩
theorem QX_trans {σ τ υ : Sto} (h : QX σ τ) (g : QX τ υ) : QX σ υ := ⟨FX_trans h.1 g.1, g.2.1.trans h.2.1, fun j hj => (g.2.2.1 j hj).trans (h.2.2.1 j hj), g.2.2.2.1.trans h.2.2.2.1, g.2.2.2.2.1.trans h.2.2.2.2.1, g.2.2.2.2.2.1.trans h.2.2.2.2.2.1, g.2.2.2.2.2.2.trans h.2.2.2.2.2.2⟩
theorem INV_QX {L : Int} {σ τ : Sto} (h : QX σ τ) (g : INV L σ) : INV L τ := by
  obtain ⟨q1, q2, q3, q4, q5, q6, q7⟩ := h
  refine ⟨BASE_FX q1 g.1, ?_, ?_⟩
  · rw [q2]
    exact CELL_107 g.2.1 (fun _ _ => rfl) q3
  · rw [q4, q5, q6, q7]
    exact g.2.2
theorem INV_le {L M : Int} {σ : Sto} (h : INV L σ) (hl : L ≤ M) : INV M σ := ⟨h.1, CELL_le h.2.1 hl, PAST_le h.2.2 hl⟩
theorem ableF_eq {im : Int} {w w2 c n : Vec} (h78 : c 78 = n 78) (hc : ∀ j, j < 78 → c j = n j) (hw : ∀ j : Nat, (j : Int) < 14 * im → w2 j = w j) (d a b : Int) : ableF im w2 n d a b = ableF im w c d a b := by
  have eo : openF im n = openF im c := by
    unfold openF
    rw [hc 72 (by omega), hc 73 (by omega), hc 74 (by omega), hc 75 (by omega)]
  have e3 : (if a = 0 ∧ 0 ≤ b ∧ b < im ∧ w2 (14 * b.toNat + 1) = 0 then (1 : Int) else 0) = if a = 0 ∧ 0 ≤ b ∧ b < im ∧ w (14 * b.toNat + 1) = 0 then 1 else 0 := by
    by_cases q : 0 ≤ b ∧ b < im
    · rw [hw _ (by omega)]
    · rw [if_neg (fun z => q ⟨z.2.1, z.2.2.1⟩), if_neg (fun z => q ⟨z.2.1, z.2.2.1⟩)]
  unfold ableF
  rw [eo, e3, h78, hc 72 (by omega)]
theorem INV_able {L : Int} {σ : Sto} (h : INV L σ) (d a b : Int) : ableF (σ 30 0 6) (σ 36 0) (σ 40 0) d a b = ableF (σ 2 1 1) (σ 5 1) (σ 7 0) d a b := by
  have e := h.1.2.1
  have z := h.2.1.2.1
  rw [e.2.2.2.1]
  exact ableF_eq z.2 z.1.1 e.2.2.2.2.2.2.2.1 d a b
theorem ableF_b (im : Int) (w c : Vec) (d a b : Int) : ableF im w c d a b = 0 ∨ ableF im w c d a b = 1 := by
  unfold ableF
  repeat (first | (split; first | exact Or.inl rfl | exact Or.inr rfl | skip) | exact Or.inl rfl | exact Or.inr rfl)
