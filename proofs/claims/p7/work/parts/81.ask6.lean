/-! COUNT -/
section ASK
variable {N : Nat} {σ : Sto} {L : Int}
theorem c_cof (h : INV L σ) (w : Int) : inv N mX8_countOfFlags [vR 0 0, vI w] (P σ) = some (some (vI (if w = 7 then flagF (σ 7 0) 2 else if w = 8 then flagF (σ 7 0) 3 else if w = 9 then newestF (σ 7 0) else if w = 10 then (if newestF (σ 7 0) = -1 then -1 else if newestF (σ 7 0) = 0 then σ 7 0 57 else σ 7 0 65) else -1)), P (row σ 6 0 (rdV (σ 7 0) (σ 6 0)))) := by
  have rf := s2_readFlags (N := N) (σ := σ) (i := 0) h.2.1.1.2.1
  have v := rdV_v (σ 7 0) (σ 6 0)
  have r6 : row σ 6 0 (rdV (σ 7 0) (σ 6 0)) 6 0 = rdV (σ 7 0) (σ 6 0) := row_same _ _ _ _
  have r7 : row σ 6 0 (rdV (σ 7 0) (σ 6 0)) 7 0 = σ 7 0 := by rw [row_at, if_neg (by decide)]
  have q0 := s2_seq0 (N := N) (σ := row σ 6 0 (rdV (σ 7 0) (σ 6 0))) (i := 0)
  have q1 := s2_seq1 (N := N) (σ := row σ 6 0 (rdV (σ 7 0) (σ 6 0))) (i := 0)
  rw [r7] at q0 q1
  rw [iX8_countOfFlags, eX8_countOfFlags_0, rf, bnd_s, push_n]
  show ev N mX8_countOfFlags 3 _ _ (P (row σ 6 0 (rdV (σ 7 0) (σ 6 0)))) = _
  rw [eX8_countOfFlags_3, r6, v.1, v.2.2.2.1, v.2.2.2.2]
  by_cases a7 : w = 7
  · rw [if_pos a7, if_pos a7]
  by_cases a8 : w = 8
  · rw [if_neg a7, if_pos a8, if_neg a7, if_pos a8]
  by_cases a9 : w = 9
  · rw [if_neg a7, if_neg a8, if_pos a9, if_neg a7, if_neg a8, if_pos a9]
  by_cases a10 : w = 10
  · rw [if_neg a7, if_neg a8, if_neg a9, if_pos a10, if_neg a7, if_neg a8, if_neg a9, if_pos a10]
    rcases newestF_b (σ 7 0) with n | n | n
    · rw [n, if_pos rfl, if_pos rfl, eX8_countOfFlags_30]
    · rw [n, if_neg (by decide), if_neg (by decide), if_pos rfl, q0, bnd_s, push_s, eX8_countOfFlags_30]
    · rw [n, if_neg (by decide), if_neg (by decide), if_neg (by decide), q1, bnd_s, push_s, eX8_countOfFlags_30]
  rw [if_neg a7, if_neg a8, if_neg a9, if_neg a10, if_neg a7, if_neg a8, if_neg a9, if_neg a10]
theorem flV_67 (f c : Vec) : flV f c 6 = flagF c 2 ∧ flV f c 7 = flagF c 3 := by
  unfold flV flagF
  rcases newestF_b c with n | n | n
  · rw [n]
    exact ⟨rfl, rfl⟩
  · simp only [n, Int.reduceEq, Int.reduceNeg, ↓reduceIte]
    exact ⟨rfl, rfl⟩
  · simp only [n, Int.reduceEq, Int.reduceNeg, ↓reduceIte]
    exact ⟨rfl, rfl⟩
/-- the model's COUNT, behind its reading of flags -/
theorem pair_count (w : Int) : PAIR N mX8_count mX9_count [vI w] := pair_q (fun L σ h => by
  have cof := c_cof (N := N) h w
  have hm := INV_okm h
  have he := h.1.2.1
  have hg := h.1.1
  obtain ⟨ht1, ht2, ht3, -⟩ := h.1.2.2.1
  obtain ⟨hd1, -, -⟩ := h.1.2.2.2.1
  obtain ⟨-, -, hp, -⟩ := h.2.2
  have z := h.2.1.2.1
  have eq := INV_eq h
  have cg : ∀ j, 56 ≤ j → j < 72 → σ 7 0 j = σ 40 0 j := fun j a b => eq j (by omega)
  have ci := fun j h0 h1 => s2_cell (N := N) (σ := σ) (i := 0) j h0 h1
  have co := s2_isOpen (N := N) (σ := σ) (i := 0) h.2.1.1
  have op : openF (σ 30 0 6) (σ 40 0) = openF (σ 2 1 1) (σ 7 0) := by
    unfold openF
    rw [he.2.2.2.1, eq 72 (by decide), eq 73 (by decide), eq 74 (by decide), eq 75 (by decide)]
  -- the model, over any store that differs in the class's fields alone
  have mod : ∀ τ : Sto, (∀ k k', k ≠ 6 → τ k k' = σ k k') → inv N mX9_count [vR 30 0, vI w] (P τ) = ev N mX9_count 4 [vR 30 0, vI w, vX] [vI (newestF (σ 7 0))] (P (rfM τ)) := by
    intro τ ho
    have h40 : OKB (τ 40 0) := by rw [ho 40 0 (by decide)]; exact hm.2.1
    have r40 : rfM τ 40 0 = σ 40 0 := by
      unfold rfM
      rw [row_at, if_neg (by decide), ho 40 0 (by decide)]
    have nw := s9_newest (N := N) (σ := rfM τ) (by rw [r40]; exact hm.2.1)
    rw [r40, ← newestF_congr cg] at nw
    rw [iX9_count, eX9_count_0, s9_readsFlags h40, bnd_s, push_n, eX9_count_2, nw, bnd_s, push_s]
  have rfo : ∀ τ : Sto, (∀ k k', k ≠ 6 → τ k k' = σ k k') → ∀ k, k ≠ 6 → k ≠ 43 → rfM τ k 0 = σ k 0 := by
    intro τ ho k h6 h43
    unfold rfM
    rw [row_at, if_neg (fun y => h43 y.1), ho k 0 h6]
  have rf43 : ∀ τ : Sto, (∀ k k', k ≠ 6 → τ k k' = σ k k') → rfM τ 43 0 6 = flagF (σ 7 0) 2 ∧ rfM τ 43 0 7 = flagF (σ 7 0) 3 := by
    intro τ ho
    have f := flV_67 (τ 43 0) (τ 40 0)
    rw [flagF_congr cg (by decide : 2 < 4), flagF_congr cg (by decide : 3 < 4)]
    rw [ho 40 0 (by decide)] at f
    unfold rfM
    rw [row_same, ho 40 0 (by decide)]
    exact f
  have qx : ∀ τ : Sto, QX σ τ → QX σ (rfM τ) := fun τ q => QX_trans q (QX_row τ 43 0 _ (by decide) (by decide) (by decide))
  have o1 : ∀ k k', k ≠ 6 → row σ 6 0 (rdV (σ 7 0) (σ 6 0)) k k' = σ k k' := fun k k' hk => by rw [row_at, if_neg (fun y => hk y.1)]
  have o0 : ∀ k k', k ≠ 6 → σ k k' = σ k k' := fun _ _ _ => rfl
  have q6 := QX_row σ 6 0 (rdV (σ 7 0) (σ 6 0)) (by decide) (by decide) (by decide)
  have e76 := eq 76 (by decide)
  have e77 := eq 77 (by decide)
  have e57 := eq 57 (by decide)
  have e65 := eq 65 (by decide)
  by_cases a0 : w = 0
  · refine ⟨σ 2 1 0, σ, rfM σ, ?_, ?_, qx σ (QX_refl σ)⟩
    · rw [iX8_count, eX8_count_0, if_pos a0]
    · rw [mod σ o0, eX9_count_4, if_pos a0, rfo σ o0 30 (by decide) (by decide), he.2.2.1]
  by_cases a1 : w = 1
  · refine ⟨σ 2 1 1, σ, rfM σ, ?_, ?_, qx σ (QX_refl σ)⟩
    · rw [iX8_count, eX8_count_0, if_neg a0, if_pos a1]
    · rw [mod σ o0, eX9_count_4, if_neg a0, if_pos a1, rfo σ o0 30 (by decide) (by decide), he.2.2.2.1]
  by_cases a2 : w = 2
  · refine ⟨σ 2 1 2, σ, rfM σ, ?_, ?_, qx σ (QX_refl σ)⟩
    · rw [iX8_count, eX8_count_0, if_neg a0, if_neg a1, if_pos a2]
    · rw [mod σ o0, eX9_count_4, if_neg a0, if_neg a1, if_pos a2, rfo σ o0 38 (by decide) (by decide), show (2 : Int).toNat = 2 from rfl, he.2.2.2.2.1]
  by_cases a3 : w = 3
  · refine ⟨σ 2 1 3, σ, rfM σ, ?_, ?_, qx σ (QX_refl σ)⟩
    · rw [iX8_count, eX8_count_0, if_neg a0, if_neg a1, if_neg a2, if_pos a3]
    · rw [mod σ o0, eX9_count_4, if_neg a0, if_neg a1, if_neg a2, if_pos a3, rfo σ o0 38 (by decide) (by decide), show (3 : Int).toNat = 3 from rfl, he.2.2.2.2.2.1]
  by_cases a4 : w = 4
  · refine ⟨σ 7 0 76, σ, rfM σ, ?_, ?_, qx σ (QX_refl σ)⟩
    · rw [iX8_count, eX8_count_0, if_neg a0, if_neg a1, if_neg a2, if_neg a3, if_pos a4, ci _ (by decide) (by decide), bnd_s, push_s, eX8_count_22]
      rfl
    · rw [mod σ o0, eX9_count_4, if_neg a0, if_neg a1, if_neg a2, if_neg a3, if_pos a4, rfo σ o0 40 (by decide) (by decide), show (76 : Int).toNat = 76 from rfl, e76]
  by_cases a5 : w = 5
  · refine ⟨σ 7 0 77, σ, rfM σ, ?_, ?_, qx σ (QX_refl σ)⟩
    · rw [iX8_count, eX8_count_0, if_neg a0, if_neg a1, if_neg a2, if_neg a3, if_neg a4, if_pos a5, ci _ (by decide) (by decide), bnd_s, push_s, eX8_count_27]
      rfl
    · rw [mod σ o0, eX9_count_4, if_neg a0, if_neg a1, if_neg a2, if_neg a3, if_neg a4, if_pos a5, rfo σ o0 40 (by decide) (by decide), show (77 : Int).toNat = 77 from rfl, e77]
  by_cases a6 : w = 6
  · refine ⟨σ 7 0 78, σ, rfM σ, ?_, ?_, qx σ (QX_refl σ)⟩
    · rw [iX8_count, eX8_count_0, if_neg a0, if_neg a1, if_neg a2, if_neg a3, if_neg a4, if_neg a5, if_pos a6, ci _ (by decide) (by decide), bnd_s, push_s, eX8_count_32]
      rfl
    · rw [mod σ o0, eX9_count_4, if_neg a0, if_neg a1, if_neg a2, if_neg a3, if_neg a4, if_neg a5, if_pos a6, rfo σ o0 40 (by decide) (by decide), show (78 : Int).toNat = 78 from rfl, z.2]
  by_cases a7 : w = 7
  · refine ⟨flagF (σ 7 0) 2, row σ 6 0 (rdV (σ 7 0) (σ 6 0)), rfM (row σ 6 0 (rdV (σ 7 0) (σ 6 0))), ?_, ?_, qx _ q6⟩
    · rw [if_pos a7] at cof
      rw [iX8_count, eX8_count_0, if_neg a0, if_neg a1, if_neg a2, if_neg a3, if_neg a4, if_neg a5, if_neg a6, if_pos a7, cof, bnd_s, push_s, eX8_count_73]
    · rw [mod _ o1, eX9_count_4, if_neg a0, if_neg a1, if_neg a2, if_neg a3, if_neg a4, if_neg a5, if_neg a6, if_pos a7, show (6 : Int).toNat = 6 from rfl, (rf43 _ o1).1]
  by_cases a8 : w = 8
  · refine ⟨flagF (σ 7 0) 3, row σ 6 0 (rdV (σ 7 0) (σ 6 0)), rfM (row σ 6 0 (rdV (σ 7 0) (σ 6 0))), ?_, ?_, qx _ q6⟩
    · rw [if_neg a7, if_pos a8] at cof
      rw [iX8_count, eX8_count_0, if_neg a0, if_neg a1, if_neg a2, if_neg a3, if_neg a4, if_neg a5, if_neg a6, if_neg a7, if_pos a8, cof, bnd_s, push_s, eX8_count_73]
    · rw [mod _ o1, eX9_count_4, if_neg a0, if_neg a1, if_neg a2, if_neg a3, if_neg a4, if_neg a5, if_neg a6, if_neg a7, if_pos a8, show (7 : Int).toNat = 7 from rfl, (rf43 _ o1).2]
  by_cases a9 : w = 9
  · refine ⟨newestF (σ 7 0), row σ 6 0 (rdV (σ 7 0) (σ 6 0)), rfM (row σ 6 0 (rdV (σ 7 0) (σ 6 0))), ?_, ?_, qx _ q6⟩
    · rw [if_neg a7, if_neg a8, if_pos a9] at cof
      rw [iX8_count, eX8_count_0, if_neg a0, if_neg a1, if_neg a2, if_neg a3, if_neg a4, if_neg a5, if_neg a6, if_neg a7, if_neg a8, if_pos a9, cof, bnd_s, push_s, eX8_count_73]
    · rw [mod _ o1, eX9_count_4, if_neg a0, if_neg a1, if_neg a2, if_neg a3, if_neg a4, if_neg a5, if_neg a6, if_neg a7, if_neg a8, if_pos a9]
  by_cases a10 : w = 10
  · refine ⟨if newestF (σ 7 0) = -1 then -1 else if newestF (σ 7 0) = 0 then σ 7 0 57 else σ 7 0 65, row σ 6 0 (rdV (σ 7 0) (σ 6 0)), rfM (row σ 6 0 (rdV (σ 7 0) (σ 6 0))), ?_, ?_, qx _ q6⟩
    · rw [if_neg a7, if_neg a8, if_neg a9, if_pos a10] at cof
      rw [iX8_count, eX8_count_0, if_neg a0, if_neg a1, if_neg a2, if_neg a3, if_neg a4, if_neg a5, if_neg a6, if_neg a7, if_neg a8, if_neg a9, if_pos a10, cof, bnd_s, push_s, eX8_count_73]
    · rw [mod _ o1, eX9_count_4, if_neg a0, if_neg a1, if_neg a2, if_neg a3, if_neg a4, if_neg a5, if_neg a6, if_neg a7, if_neg a8, if_neg a9, if_pos a10]
      have r40 := rfo _ o1 40 (by decide) (by decide)
      rcases newestF_b (σ 7 0) with n | n | n
      · rw [n, if_pos rfl, if_pos rfl]
      · rw [n, if_neg (by decide), s9_pageAt _ (by decide) (by decide), bnd_s, push_s, eX9_count_59, r40]
        exact congrArg (fun v => some (some (vI v), _)) e57.symm
      · rw [n, if_neg (by decide), s9_pageAt _ (by decide) (by decide), bnd_s, push_s, eX9_count_59, r40]
        exact congrArg (fun v => some (some (vI v), _)) e65.symm
  by_cases a11 : w = 11
  · refine ⟨σ 9 0 3, σ, rfM σ, ?_, ?_, qx σ (QX_refl σ)⟩
    · rw [iX8_count, eX8_count_0, if_neg a0, if_neg a1, if_neg a2, if_neg a3, if_neg a4, if_neg a5, if_neg a6, if_neg a7, if_neg a8, if_neg a9, if_neg a10, if_pos a11]
    · rw [mod σ o0, eX9_count_4, if_neg a0, if_neg a1, if_neg a2, if_neg a3, if_neg a4, if_neg a5, if_neg a6, if_neg a7, if_neg a8, if_neg a9, if_neg a10, if_pos a11, rfo σ o0 30 (by decide) (by decide), hp]
  by_cases a12 : w = 12
  · refine ⟨σ 0 0 10, σ, rfM σ, ?_, ?_, qx σ (QX_refl σ)⟩
    · rw [iX8_count, eX8_count_0, if_neg a0, if_neg a1, if_neg a2, if_neg a3, if_neg a4, if_neg a5, if_neg a6, if_neg a7, if_neg a8, if_neg a9, if_neg a10, if_neg a11, if_pos a12]
    · rw [mod σ o0, eX9_count_4, if_neg a0, if_neg a1, if_neg a2, if_neg a3, if_neg a4, if_neg a5, if_neg a6, if_neg a7, if_neg a8, if_neg a9, if_neg a10, if_neg a11, if_pos a12, rfo σ o0 30 (by decide) (by decide), ← hd1]
  by_cases a13 : w = 13
  · refine ⟨σ 0 0 1, σ, rfM σ, ?_, ?_, qx σ (QX_refl σ)⟩
    · rw [iX8_count, eX8_count_0, if_neg a0, if_neg a1, if_neg a2, if_neg a3, if_neg a4, if_neg a5, if_neg a6, if_neg a7, if_neg a8, if_neg a9, if_neg a10, if_neg a11, if_neg a12, if_pos a13]
    · rw [mod σ o0, eX9_count_4, if_neg a0, if_neg a1, if_neg a2, if_neg a3, if_neg a4, if_neg a5, if_neg a6, if_neg a7, if_neg a8, if_neg a9, if_neg a10, if_neg a11, if_neg a12, if_pos a13, rfo σ o0 30 (by decide) (by decide), ht3]
  by_cases a14 : w = 14
  · refine ⟨σ 7 0 81, σ, rfM σ, ?_, ?_, qx σ (QX_refl σ)⟩
    · rw [iX8_count, eX8_count_0, if_neg a0, if_neg a1, if_neg a2, if_neg a3, if_neg a4, if_neg a5, if_neg a6, if_neg a7, if_neg a8, if_neg a9, if_neg a10, if_neg a11, if_neg a12, if_neg a13, if_pos a14, ci _ (by decide) (by decide), bnd_s, push_s, eX8_count_47]
      rfl
    · rw [mod σ o0, eX9_count_4, if_neg a0, if_neg a1, if_neg a2, if_neg a3, if_neg a4, if_neg a5, if_neg a6, if_neg a7, if_neg a8, if_neg a9, if_neg a10, if_neg a11, if_neg a12, if_neg a13, if_pos a14, rfo σ o0 40 (by decide) (by decide), show (81 : Int).toNat = 81 from rfl, z.1.2.2.2.1]
  by_cases a15 : w = 15
  · refine ⟨σ 2 1 4, σ, rfM σ, ?_, ?_, qx σ (QX_refl σ)⟩
    · rw [iX8_count, eX8_count_0, if_neg a0, if_neg a1, if_neg a2, if_neg a3, if_neg a4, if_neg a5, if_neg a6, if_neg a7, if_neg a8, if_neg a9, if_neg a10, if_neg a11, if_neg a12, if_neg a13, if_neg a14, if_pos a15]
    · rw [mod σ o0, eX9_count_4, if_neg a0, if_neg a1, if_neg a2, if_neg a3, if_neg a4, if_neg a5, if_neg a6, if_neg a7, if_neg a8, if_neg a9, if_neg a10, if_neg a11, if_neg a12, if_neg a13, if_neg a14, if_pos a15, rfo σ o0 38 (by decide) (by decide), show (4 : Int).toNat = 4 from rfl, he.2.2.2.2.2.2.1]
  by_cases a16 : w = 16
  · refine ⟨σ 7 0 79, σ, rfM σ, ?_, ?_, qx σ (QX_refl σ)⟩
    · rw [iX8_count, eX8_count_0, if_neg a0, if_neg a1, if_neg a2, if_neg a3, if_neg a4, if_neg a5, if_neg a6, if_neg a7, if_neg a8, if_neg a9, if_neg a10, if_neg a11, if_neg a12, if_neg a13, if_neg a14, if_neg a15, if_pos a16, ci _ (by decide) (by decide), bnd_s, push_s, eX8_count_56]
      rfl
    · rw [mod σ o0, eX9_count_4, if_neg a0, if_neg a1, if_neg a2, if_neg a3, if_neg a4, if_neg a5, if_neg a6, if_neg a7, if_neg a8, if_neg a9, if_neg a10, if_neg a11, if_neg a12, if_neg a13, if_neg a14, if_neg a15, if_pos a16, rfo σ o0 40 (by decide) (by decide), show (80 : Int).toNat = 80 from rfl, z.1.2.1]
  by_cases a17 : w = 17
  · refine ⟨σ 7 0 80, σ, rfM σ, ?_, ?_, qx σ (QX_refl σ)⟩
    · rw [iX8_count, eX8_count_0, if_neg a0, if_neg a1, if_neg a2, if_neg a3, if_neg a4, if_neg a5, if_neg a6, if_neg a7, if_neg a8, if_neg a9, if_neg a10, if_neg a11, if_neg a12, if_neg a13, if_neg a14, if_neg a15, if_neg a16, if_pos a17, ci _ (by decide) (by decide), bnd_s, push_s, eX8_count_61]
      rfl
    · rw [mod σ o0, eX9_count_4, if_neg a0, if_neg a1, if_neg a2, if_neg a3, if_neg a4, if_neg a5, if_neg a6, if_neg a7, if_neg a8, if_neg a9, if_neg a10, if_neg a11, if_neg a12, if_neg a13, if_neg a14, if_neg a15, if_neg a16, if_pos a17, rfo σ o0 40 (by decide) (by decide), show (79 : Int).toNat = 79 from rfl, z.1.2.2.1]
  by_cases a18 : w = 18
  · have io := s9_isOpen (N := N) (σ := rfM σ) (EnvM_KM he (KM_rf σ)).1 (by rw [rfo σ o0 40 (by decide) (by decide)]; exact hm)
    rw [rfo σ o0 40 (by decide) (by decide), rfo σ o0 30 (by decide) (by decide), op] at io
    refine ⟨if openF (σ 2 1 1) (σ 7 0) = 0 then 0 else 1, σ, rfM σ, ?_, ?_, qx σ (QX_refl σ)⟩
    · rw [iX8_count, eX8_count_0, if_neg a0, if_neg a1, if_neg a2, if_neg a3, if_neg a4, if_neg a5, if_neg a6, if_neg a7, if_neg a8, if_neg a9, if_neg a10, if_neg a11, if_neg a12, if_neg a13, if_neg a14, if_neg a15, if_neg a16, if_neg a17, if_pos a18, co, bnd_s, push_s, eX8_count_65]
      split <;> rfl
    · rw [mod σ o0, eX9_count_4, if_neg a0, if_neg a1, if_neg a2, if_neg a3, if_neg a4, if_neg a5, if_neg a6, if_neg a7, if_neg a8, if_neg a9, if_neg a10, if_neg a11, if_neg a12, if_neg a13, if_neg a14, if_neg a15, if_neg a16, if_neg a17, if_pos a18, io, bnd_s, push_s, eX9_count_94, s9_truth, bnd_s, push_s, eX9_count_95]
  refine ⟨-1, row σ 6 0 (rdV (σ 7 0) (σ 6 0)), rfM (row σ 6 0 (rdV (σ 7 0) (σ 6 0))), ?_, ?_, qx _ q6⟩
  · rw [if_neg a7, if_neg a8, if_neg a9, if_neg a10] at cof
    rw [iX8_count, eX8_count_0, if_neg a0, if_neg a1, if_neg a2, if_neg a3, if_neg a4, if_neg a5, if_neg a6, if_neg a7, if_neg a8, if_neg a9, if_neg a10, if_neg a11, if_neg a12, if_neg a13, if_neg a14, if_neg a15, if_neg a16, if_neg a17, if_neg a18, cof, bnd_s, push_s, eX8_count_73]
  · rw [mod _ o1, eX9_count_4, if_neg a0, if_neg a1, if_neg a2, if_neg a3, if_neg a4, if_neg a5, if_neg a6, if_neg a7, if_neg a8, if_neg a9, if_neg a10, if_neg a11, if_neg a12, if_neg a13, if_neg a14, if_neg a15, if_neg a16, if_neg a17, if_neg a18])
end ASK
