/-! TRIALS of the model: what stays -/
/-- what the model's trials leave: all but fields 22 to 24, the rows of cells, of what is put by, of flags -/
def OM (σ τ : Sto) : Prop := (∀ k k', ¬ (k' = 0 ∧ (k = 30 ∨ k = 40 ∨ k = 42 ∨ k = 43 ∨ k = 44 ∨ k = 45)) → τ k k' = σ k k') ∧ (∀ j, j ≠ 22 → j ≠ 23 → j ≠ 24 → τ 30 0 j = σ 30 0 j)
theorem OM_trans {σ τ υ : Sto} (h : OM σ τ) (g : OM τ υ) : OM σ υ := ⟨fun k k' q => (g.1 k k' q).trans (h.1 k k' q), fun j a b c => (g.2 j a b c).trans (h.2 j a b c)⟩
theorem OM_refl (σ : Sto) : OM σ σ := ⟨fun _ _ _ => rfl, fun _ _ _ _ => rfl⟩
theorem OM_KM {σ τ : Sto} (h : KM σ τ) : OM σ τ := ⟨fun k k' q => h.1 k k' (fun z => q ⟨z.1, by rcases z.2 with y | y | y | y | y <;> simp [y]⟩), h.2⟩
theorem OM_WM {b : Nat} {σ τ : Sto} (h : WM b σ τ) : OM σ τ := ⟨h.1, h.2.1⟩
theorem OM_row (σ : Sto) (k : Nat) (f : Vec) (h : k = 40 ∨ k = 42 ∨ k = 43 ∨ k = 44 ∨ k = 45) : OM σ (row σ k 0 f) := by
  refine ⟨fun k1 k' q => ?_, fun j _ _ _ => ?_⟩
  · rw [row_at, if_neg (fun z => q ⟨z.2, by rw [z.1]; rcases h with y | y | y | y | y <;> simp [y]⟩)]
  · rw [row_at, if_neg (by omega)]
theorem OM_rf (σ : Sto) : OM σ (rfM σ) := OM_row σ 43 _ (Or.inr (Or.inr (Or.inl rfl)))
theorem QX_OM {σ τ υ : Sto} (h : QX σ τ) (o : OM τ υ) (c : ∀ j, j < 107 → υ 40 0 j = τ 40 0 j) : QX σ υ := QX_trans h (QX_WM (b := 0) ⟨o.1, o.2, c, fun j hj => absurd hj (Nat.not_lt_zero j)⟩)
theorem OM_46 {σ τ : Sto} (o : OM σ τ) : τ 46 0 = σ 46 0 := o.1 46 0 (by decide)
theorem OM_47 {σ τ : Sto} (o : OM σ τ) : τ 47 0 = σ 47 0 := o.1 47 0 (by decide)
theorem KF_congr {r c d : Vec} (h : KF r c) (e : ∀ j, 56 ≤ j → j < 72 → c j = d j) : KF r d := by
  obtain ⟨f, hf⟩ := h
  exact ⟨f, fun k hk => (hf k hk).trans (by rw [flV_congr e f])⟩
section TRY
variable {N : Nat} {σ b : Sto} {L : Int} {x : XP} {i : Nat}
theorem p2_take (j : Nat) (hj : j ≠ i) : inv N mX2_takeFrom [vR 6 i, vR 6 j] (P (putC b i x)) = some (none, P (putC b i (cpyV (b 7 j) x.1 0 0 107, x.2))) := by
  rw [c_take, putC_i b i x hj, putC_7, row_putC7]
theorem p2_turnBit (k bit : Int) (h0 : 0 ≤ k) (h1 : k < 107) : inv N mX2_turnBit [vR 6 i, vI k, vI bit] (P (putC b i x)) = some (some (vI (bXor (x.1 k.toNat) (shl32 1 bit))), P (putC b i (set x.1 k.toNat (bXor (x.1 k.toNat) (shl32 1 bit)), x.2))) := by
  rw [s2_turnBit k bit h0 h1, putC_7, row_putC7]
theorem putC_same (b : Sto) (i : Nat) (g : Vec) : putC b i (b 7 i, g) = row b 6 i g := by
  unfold putC
  rw [row_id]
theorem putC_comm (b : Sto) (y z : XP) : putC (putC b 1 y) 2 z = putC (putC b 2 z) 1 y := by
  unfold putC
  rw [row_comm (row b 7 1 y.1) 6 1 7 2 y.2 z.1 (by decide), row_comm b 7 1 7 2 y.1 z.1 (by decide), row_comm (row (row b 7 2 z.1) 7 1 y.1) 6 1 6 2 y.2 z.2 (by decide), row_comm (row b 7 2 z.1) 7 1 6 2 y.1 z.2 (by decide)]
/-- cells that were taken from the real machine -/
theorem CELL_take (h : INV L σ) {τ : Sto} (q : QX σ τ) (g : Vec) : CELL L (cpyV (σ 7 0) g 0 0 107) (τ 40 0) := CELL_107 h.2.1 (fun j hj => cpy_all _ _ hj) (fun j hj => q.2.2.1 j hj)
theorem CELL_82 {c n : Vec} (h : CELL L c n) (hL : L < 2147480000) : 0 ≤ c 82 ∧ c 82 < 2147482000 := ⟨h.2.1.1.2.2.2.2.1, Int.lt_of_le_of_lt h.2.2 (by omega)⟩
/-- the class's next start, tried -/
theorem p2_next (h : INV L σ) (hL : L < 2147480000) (fb : FX σ b) (hb7 : b 7 0 = σ 7 0) : inv N mX7_nextStart [vR 11 0, vI 0] (P (putC b 1 x)) = some (some (vI (bootC b 0 (-1) (set (cpyV (σ 7 0) x.1 0 0 107) 78 (-1), x.2)).1), P (putC b 1 (bootC b 0 (-1) (set (cpyV (σ 7 0) x.1 0 0 107) 78 (-1), x.2)).2)) := by
  have hg := OKG_FX fb h.1.1
  have hc := CELL_take h (QX_refl σ) x.1
  have h82 := CELL_82 hc hL
  have ct := p2_take (N := N) (i := 1) (b := b) (x := x) 0 (by decide)
  rw [hb7] at ct
  generalize cpyV (σ 7 0) x.1 0 0 107 = c at hc h82 ct ⊢
  have e82 : set c 78 (-1) 82 = c 82 := set_ne _ _ (by decide)
  have pf := p2_boot (N := N) (i := 1) (σ := b) (x := (set c 78 (-1), x.2)) hg (OKC_78 hc.1) (show 0 ≤ set c 78 (-1) 82 by rw [e82]; exact h82.1) (show set c 78 (-1) 82 < 2147483647 by rw [e82]; exact Int.lt_trans h82.2 (by decide)) 0 0 (-1)
  have tof : inv N mX2_turnOff [vR 6 1] (P (putC b 1 (c, x.2))) = some (none, P (putC b 1 (set c 78 (-1), x.2))) := p2_turnOff (N := N) (i := 1) (σ := b) (x := (c, x.2))
  rw [iX7_nextStart, eX7_nextStart_0, ct, bnd_s, push_n, eX7_nextStart_5, tof, bnd_s, push_n, eX7_nextStart_8, if_pos rfl, pf, bnd_s, push_s, eX7_nextStart_19]
end TRY
