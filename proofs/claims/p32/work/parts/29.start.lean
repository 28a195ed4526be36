/-! THE LAW'S START -/
def sOwn (i : Nat) : String := cN (nthD [4, 4, 4, 4, 4, 4, 4, 4, 8, 8, 8, 8, 8, 8, 8, 8] i)
def sIdx (i : Nat) : Nat := nthD [62, 101, 72, 110, 116, 77, 82, 87, 91, 93, 95, 97, 99, 101, 102, 104] i
def sRep (i : Nat) : Nat := nthD [0, 1, 2, 3, 4, 5, 6, 7, 0, 2, 5, 6, 7, 1, 3, 4] i
def tmS (i : Nat) : Term := .string (sOwn i) (sIdx i)
theorem tb_in {c : Cond} (h : c ∈ tables_1) : c ∈ lw_tbl := List.mem_append_right _ h
set_option maxRecDepth 100000 in
theorem sr_all : ∀ i, i < 16 → Cond.stringRef (sOwn i) (sIdx i) (sTxt i) ∈ tables_1 := by decide +kernel
theorem nl_0 : ∀ q ∈ ([(2, 119), (5, 70)] : List (Nat × Nat)), Cond.methodLinkNest (cN q.1) q.2 (mN 149) "TwinSlots" ∈ tables_1 := by decide +kernel
theorem ls_0 : Cond.laysStatic "java/lang/String" "COMPACT_STRINGS" "Z" ∈ tables_1 := by decide +kernel
theorem ls_1 : Cond.laysStatic "jdk/internal/util/Preconditions" "SIOOBE_FORMATTER" "Ljava/util/function/BiFunction;" ∈ tables_1 := by decide +kernel
def flN : List Cond := flatC (Jvm.Cond.and given_1 narrow_1)
theorem lx_0 : Cond.eq (.static "java/lang/String" "COMPACT_STRINGS" "Z") (.int 1) ∈ flN := by decide +kernel
theorem lx_1 : Cond.isRef (.static "jdk/internal/util/Preconditions" "SIOOBE_FORMATTER" "Ljava/util/function/BiFunction;") ∈ flN := by decide +kernel
theorem lx_ex : ∀ i, i < 8 → Cond.exactly (tmS i) "java/lang/String" ∈ flN := by decide +kernel
theorem lx_co : ∀ i, i < 8 → Cond.eq (.field (tmS i) "java/lang/String" "coder" "B") (.int 0) ∈ flN := by decide +kernel
theorem lx_ar : ∀ i, i < 8 → Cond.arrayOf (.field (tmS i) "java/lang/String" "value" "[B") .byte ∈ flN := by decide +kernel
theorem lx_le : ∀ i, i < 8 → Cond.eq (.length (.field (tmS i) "java/lang/String" "value" "[B")) (.int (Int32.ofNat (lenS.getD i 0))) ∈ flN := by decide +kernel
theorem lx_el : ∀ i, i < 8 → ∀ j, j < lenS.getD i 0 → Cond.eq (.elem (.field (tmS i) "java/lang/String" "value" "[B") (.int (Int32.ofNat j))) (.int ((bytS.getD i []).getD j 0)) ∈ flN := by decide +kernel
theorem lx_eq : ∀ i, i < 16 → 8 ≤ i → Cond.eq (tmS (sRep i)) (tmS i) ∈ flN := by decide +kernel
theorem lx_rep : ∀ i, i < 16 → sRep i < 8 ∧ (i < 8 → sRep i = i) ∧ lenS.getD (sRep i) 0 = lenS.getD i 0 ∧ bytS.getD (sRep i) [] = bytS.getD i [] ∧ lenS.getD i 0 < 100 := by decide +kernel
theorem eqR {args : Array Value} {s : State} {t u : Term} {a : Nat} (h : (Cond.eq t u).before args s = true) (ht : t.eval args s none [] s = some (.ref a)) : u.eval args s none [] s = some (.ref a) := by
  cases hv : u.eval args s none [] s with
  | none => simp [Cond.before, Cond.holds, Cond.value, hv, ht] at h
  | some w =>
    simp only [Cond.before, Cond.holds, Cond.value, hv, ht] at h
    cases w <;> simp_all
theorem b3 {a idx i x y z : Nat} (h : band3 (Nat.beq a x) (Nat.beq idx y) (Nat.beq i z) = true) : a = x ∧ idx = y ∧ i = z := by
  unfold band3 at h
  rcases z1 : Nat.beq a x with _ | _ <;> rw [z1] at h
  · cases h
  rcases z2 : Nat.beq idx y with _ | _ <;> rw [z2] at h
  · cases h
  exact ⟨Nat.eq_of_beq_eq_true z1, Nat.eq_of_beq_eq_true z2, Nat.eq_of_beq_eq_true h⟩
theorem strOk_t {a idx i : Nat} (h : strOk a idx i = true) : i < 16 ∧ cN a = sOwn i ∧ idx = sIdx i := by
  unfold strOk at h
  rcases Bool.eq_false_or_eq_true (band3 (Nat.beq a 4) (Nat.beq idx 62) (Nat.beq i 0)) with z | z
  · obtain ⟨rfl, rfl, rfl⟩ := b3 z
    exact ⟨by decide, rfl, rfl⟩
  rw [z, cond_false] at h
  rcases Bool.eq_false_or_eq_true (band3 (Nat.beq a 4) (Nat.beq idx 101) (Nat.beq i 1)) with z | z
  · obtain ⟨rfl, rfl, rfl⟩ := b3 z
    exact ⟨by decide, rfl, rfl⟩
  rw [z, cond_false] at h
  rcases Bool.eq_false_or_eq_true (band3 (Nat.beq a 4) (Nat.beq idx 72) (Nat.beq i 2)) with z | z
  · obtain ⟨rfl, rfl, rfl⟩ := b3 z
    exact ⟨by decide, rfl, rfl⟩
  rw [z, cond_false] at h
  rcases Bool.eq_false_or_eq_true (band3 (Nat.beq a 4) (Nat.beq idx 110) (Nat.beq i 3)) with z | z
  · obtain ⟨rfl, rfl, rfl⟩ := b3 z
    exact ⟨by decide, rfl, rfl⟩
  rw [z, cond_false] at h
  rcases Bool.eq_false_or_eq_true (band3 (Nat.beq a 4) (Nat.beq idx 116) (Nat.beq i 4)) with z | z
  · obtain ⟨rfl, rfl, rfl⟩ := b3 z
    exact ⟨by decide, rfl, rfl⟩
  rw [z, cond_false] at h
  rcases Bool.eq_false_or_eq_true (band3 (Nat.beq a 4) (Nat.beq idx 77) (Nat.beq i 5)) with z | z
  · obtain ⟨rfl, rfl, rfl⟩ := b3 z
    exact ⟨by decide, rfl, rfl⟩
  rw [z, cond_false] at h
  rcases Bool.eq_false_or_eq_true (band3 (Nat.beq a 4) (Nat.beq idx 82) (Nat.beq i 6)) with z | z
  · obtain ⟨rfl, rfl, rfl⟩ := b3 z
    exact ⟨by decide, rfl, rfl⟩
  rw [z, cond_false] at h
  rcases Bool.eq_false_or_eq_true (band3 (Nat.beq a 4) (Nat.beq idx 87) (Nat.beq i 7)) with z | z
  · obtain ⟨rfl, rfl, rfl⟩ := b3 z
    exact ⟨by decide, rfl, rfl⟩
  rw [z, cond_false] at h
  rcases Bool.eq_false_or_eq_true (band3 (Nat.beq a 8) (Nat.beq idx 91) (Nat.beq i 8)) with z | z
  · obtain ⟨rfl, rfl, rfl⟩ := b3 z
    exact ⟨by decide, rfl, rfl⟩
  rw [z, cond_false] at h
  rcases Bool.eq_false_or_eq_true (band3 (Nat.beq a 8) (Nat.beq idx 93) (Nat.beq i 9)) with z | z
  · obtain ⟨rfl, rfl, rfl⟩ := b3 z
    exact ⟨by decide, rfl, rfl⟩
  rw [z, cond_false] at h
  rcases Bool.eq_false_or_eq_true (band3 (Nat.beq a 8) (Nat.beq idx 95) (Nat.beq i 10)) with z | z
  · obtain ⟨rfl, rfl, rfl⟩ := b3 z
    exact ⟨by decide, rfl, rfl⟩
  rw [z, cond_false] at h
  rcases Bool.eq_false_or_eq_true (band3 (Nat.beq a 8) (Nat.beq idx 97) (Nat.beq i 11)) with z | z
  · obtain ⟨rfl, rfl, rfl⟩ := b3 z
    exact ⟨by decide, rfl, rfl⟩
  rw [z, cond_false] at h
  rcases Bool.eq_false_or_eq_true (band3 (Nat.beq a 8) (Nat.beq idx 99) (Nat.beq i 12)) with z | z
  · obtain ⟨rfl, rfl, rfl⟩ := b3 z
    exact ⟨by decide, rfl, rfl⟩
  rw [z, cond_false] at h
  rcases Bool.eq_false_or_eq_true (band3 (Nat.beq a 8) (Nat.beq idx 101) (Nat.beq i 13)) with z | z
  · obtain ⟨rfl, rfl, rfl⟩ := b3 z
    exact ⟨by decide, rfl, rfl⟩
  rw [z, cond_false] at h
  rcases Bool.eq_false_or_eq_true (band3 (Nat.beq a 8) (Nat.beq idx 102) (Nat.beq i 14)) with z | z
  · obtain ⟨rfl, rfl, rfl⟩ := b3 z
    exact ⟨by decide, rfl, rfl⟩
  rw [z, cond_false] at h
  rcases Bool.eq_false_or_eq_true (band3 (Nat.beq a 8) (Nat.beq idx 104) (Nat.beq i 15)) with z | z
  · obtain ⟨rfl, rfl, rfl⟩ := b3 z
    exact ⟨by decide, rfl, rfl⟩
  rw [z, cond_false] at h
  cases h
theorem nestOk_t {a idx k : Nat} (h : nestOk a idx k = true) : k = 149 ∧ (a, idx) ∈ ([(2, 119), (5, 70)] : List (Nat × Nat)) := by
  refine ⟨nest_k h, ?_⟩
  unfold nestOk at h
  rcases Bool.eq_false_or_eq_true (band3 (Nat.beq a 5) (Nat.beq idx 70) (Nat.beq k 149)) with z | z
  · obtain ⟨rfl, rfl, rfl⟩ := b3 z
    decide
  rw [z, cond_false] at h
  rcases Bool.eq_false_or_eq_true (band3 (Nat.beq a 2) (Nat.beq idx 119) (Nat.beq k 149)) with z | z
  · obtain ⟨rfl, rfl, rfl⟩ := b3 z
    decide
  rw [z, cond_false] at h
  cases h
theorem inst_all : allR (fun c => elemW (7, c, 0, 0)) 0 9 = true := by decide +kernel
theorem arrs_all : elemW (12, 1, 0, 0) = true ∧ elemW (12, 2, 0, 0) = true ∧ elemW (12, 3, 0, 0) = true := by decide +kernel
theorem arr_k {args : Array Value} {s : State} {ty : FieldType} (h : (Cond.arrayClass ty).before args s = true) : ∃ cA : ClassId, ArrOfT s cA ty ∧ s.vm.findClass ("[" ++ ty.toString) = some cA := by
  obtain ⟨cA, kA, comp, h1, h2, h3⟩ := Cond.arrayClass_spec h
  exact ⟨cA, fun n z => ⟨fun k h => (by cases h), kA, h2, comp, h3⟩, h1⟩
theorem start_G {s : State} {args : Array Value} (hts : ∀ w ∈ lw_tbl, w.before args s = true) (hgv : (Jvm.Cond.and given_1 narrow_1).before args s = true) : ∃ G : GT, GS G s ∧ TXc G (fun q => s.heap.size ≤ q) s s.heap := by
  have hfl : ∀ c ∈ flN, c.before args s = true := flat_of_before _ hgv
  have htg : ∀ w ∈ gw, w.before args s = true := fun w hw => hts w (gw_in w hw)
  have hA : ∀ a : Nat, a < s.heap.size → ¬ (fun q : Nat => s.heap.size ≤ q) a := fun a h => Nat.not_le.mpr h
  -- the classes
  have h0 : ∀ c, ∃ q : ClassId × (Nat → Nat), c < 9 → u_Kn s (cN c) (cTb c) (nF c) q.1 q.2 := by
    intro c
    by_cases hc : c < 9
    · have w := htg _ (gw_of (allR_at (f := fun c => elemW (7, c, 0, 0)) 9 0 c inst_all (by omega) (by omega)) rfl)
      rw [wd_7] at w
      obtain ⟨cC, iS, h⟩ := u_known htg (fld_in hc) w
      exact ⟨(cC, iS), fun _ => h⟩
    · exact ⟨(0, fun _ => 0), fun h => absurd h hc⟩
  obtain ⟨dd, hdd⟩ := Classical.axiomOfChoice h0
  -- the rows
  obtain ⟨c1, a1, n1⟩ := arr_k (ty := .int) (htg (wd (12, 1, 0, 0)) (gw_of arrs_all.1 rfl))
  obtain ⟨c2, a2, n2⟩ := arr_k (ty := .byte) (htg (wd (12, 2, 0, 0)) (gw_of arrs_all.2.1 rfl))
  obtain ⟨c3, a3, n3⟩ := arr_k (ty := .long) (htg (wd (12, 3, 0, 0)) (gw_of arrs_all.2.2 rfl))
  -- the texts
  have h1 : ∀ i : Nat, ∃ q : Nat × Nat, i < 8 → (tmS i).eval args s none [] s = some (.ref q.1) ∧ TX1 (lenS.getD i 0) (bytS.getD i []) q.1 q.2 (fun q => s.heap.size ≤ q) s s.heap := by
    intro i
    by_cases hi : i < 8
    · obtain ⟨a, c, cA, kA, q1, q2, q3, q4, q5, q6, -⟩ := Cond.exactly_spec (args := args) (first := s) (o := none) (s := s) (idx := []) (t := tmS i) (cls := "java/lang/String") (hfl _ (lx_ex i hi))
      have hlen : lenS.getD i 0 < 2 ^ 31 := by
        have := (lx_rep i (by omega)).2.2.2.2
        omega
      obtain ⟨t, ht, hT⟩ := va_Tof (f := fun j => .int ((bytS.getD i []).getD j 0)) (A := fun q => s.heap.size ≤ q) hlen (hfl _ (lx_ar i hi)) (va_eqt (hfl _ (lx_le i hi))) (fun j hj => va_eqt (hfl _ (lx_el i hi j hj))) hA
      exact ⟨(a, t), fun _ => ⟨q1, ⟨cA, q3, q5, by rw [q6]; exact q2, hA a (Array.getElem?_eq_some_iff.mp q3).1⟩, vk_OFof q1 (va_eqt (hfl _ (lx_co i hi))) hA, vk_OFof q1 ht hA, hT⟩⟩
    · exact ⟨(0, 0), fun h => absurd h hi⟩
  obtain ⟨tt, htt⟩ := Classical.axiomOfChoice h1
  have hev : ∀ i, i < 16 → (tmS i).eval args s none [] s = some (.ref (tt (sRep i)).1) := by
    intro i hi
    obtain ⟨r1, r2, -⟩ := lx_rep i hi
    have e1 := (htt (sRep i) r1).1
    by_cases hi2 : i < 8
    · rw [r2 hi2] at e1 ⊢
      exact e1
    · exact eqR (hfl _ (lx_eq i hi (by omega))) e1
  refine ⟨((fun c => (dd c).1, fun c => (dd c).2), fun k => if k = 1 then c1 else if k = 2 then c2 else c3, fun i => (tt (sRep i)).1), ⟨⟨fun c q hq => ?_, fun k q hq => ?_⟩, fun a i k h => ?_, fun a i k h => ?_⟩, ⟨fun i => (tt (sRep i)).2, fun i hi => ?_⟩, ?_, ?_⟩
  · have hc : c < 9 := (List.getElem?_eq_some_iff.mp hq).1
    rw [cls_at hc] at hq
    cases hq
    exact hdd c hc
  · match k, hq with
    | 0, hq => cases hq; exact ⟨a1, n1⟩
    | 1, hq => cases hq; exact ⟨a2, n2⟩
    | 2, hq => cases hq; exact ⟨a3, n3⟩
    | k + 3, hq => simp [tys0] at hq
  · obtain ⟨rfl, h2⟩ := nestOk_t h
    exact va_Nw.of rfl (hts _ (tb_in (nl_0 (a, i) h2)))
  · obtain ⟨hk, e1, rfl⟩ := strOk_t h
    rw [e1]
    have g1 := hts _ (tb_in (sr_all k hk))
    exact vk_R.of g1 (hev k hk)
  · obtain ⟨r1, -, r3, r4, -⟩ := lx_rep i hi
    have := (htt (sRep i) r1).2
    rw [r3, r4] at this
    exact this
  · exact va_Zof (hts _ (tb_in ls_0)) (htg _ ji_0) (va_eqt (hfl _ lx_0)) hA
  · exact va_Zqof (hts _ (tb_in ls_1)) (htg _ ji_2) (hfl _ lx_1) hA
/-- what is to be shown of the law's run by the small machine -/
def LawRuns : Prop := ∀ (N : Nat) (σ : Sto), N ≤ 3072 → okS σ → ∃ (F : Nat) (σ' : Sto), exec N F 0 0 (mkL 0 [vR 999 0]) [] (0, [], σ) = some (some (vI 1), P σ')
theorem slN_55 : slN 55 = 60185 := by decide +kernel
theorem ret_law {pc : Nat} (h : EndAt 0 pc (some (vI 1))) : decode code (bpc 0 pc) = .ok (.ireturn, 1) := h.1
