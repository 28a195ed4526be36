/-! ROUTE: both searches go hand in hand -/
/-- so many steps back to the first stand -/
def chF (F : Nat → Nat) : Nat → Nat → Prop
  | 0, s => s = 0
  | n + 1, s => s ≠ 0 ∧ F s < s ∧ chF F n (F s)
theorem chF_le {F : Nat → Nat} : ∀ (n s : Nat), chF F n s → n ≤ s
  | 0, s, _ => Nat.zero_le _
  | n + 1, s, h => by
    have t := chF_le n (F s) h.2.2
    have u := h.2.1
    omega
theorem chF_cong {F G : Nat → Nat} : ∀ (n s : Nat), (∀ j, j ≤ s → F j = G j) → chF F n s → chF G n s
  | 0, s, _, h => h
  | n + 1, s, e, h => by
    have u := h.2.1
    have es := e s (Nat.le_refl _)
    refine ⟨h.1, by rw [← es]; exact u, ?_⟩
    rw [← es]
    exact chF_cong n (F s) (fun j hj => e j (by omega)) h.2.2
theorem chn_chF {f : Vec} {F : Nat → Nat} {b : Nat} (hb : b < 301) (h : ∀ s : Nat, 1 ≤ s → s ≤ b → f s = (F s : Int)) : ∀ (n s : Nat), s ≤ b → chF F n s → chn f n s
  | 0, s, _, q => q
  | n + 1, s, hs, q => by
    have u := q.2.1
    have z := q.1
    exact ⟨z, by omega, F s, u, h s (by omega) hs, chn_chF hb h n (F s) (by omega) q.2.2⟩
def upN {α : Type} (f : Nat → α) (m : Nat) (v : α) : Nat → α := fun s => if s = m then v else f s
theorem upN_same {α : Type} (f : Nat → α) (m : Nat) (v : α) : upN f m v m = v := if_pos rfl
theorem upN_ne {α : Type} (f : Nat → α) {m s : Nat} (v : α) (h : s ≠ m) : upN f m v s = f s := if_neg h
/-- the class's stands -/
def CTS (σ τ : Sto) (many : Nat) (C : Nat → Vec) (A B : Nat → Int) (F : Nat → Nat) (X : Nat → Int) : Prop :=
  RtT σ τ ∧ AL σ τ ∧ τ 14 0 9 = (many : Int) ∧ HT (τ 19 0) (τ 15 0) many ∧ (∀ s : Nat, s < many → SC σ (2147482000 + s) (A s) (B s) (C s) ∧ τ 15 0 s = PKV (A s) (B s) (C s)) ∧ (∀ s : Nat, s < many → ∃ n : Nat, chF F n s ∧ τ 18 0 s = (n : Int)) ∧ (∀ s : Nat, 1 ≤ s → s < many → F s < s ∧ τ 16 0 s = (F s : Int) ∧ τ 17 0 s = X s)
/-- the model's -/
def MTS (ρ υ : Sto) (many : Nat) (C : Nat → Vec) (F : Nat → Nat) (K : Nat → Int) : Prop :=
  MR ρ υ ∧ (∀ s : Nat, s < many → RZ (C s) (seg (υ 48 0) (107 * s)) ∧ ∀ k, k < 68 → υ 49 0 (68 * s + k) = sgF (C s) k) ∧ (∀ s : Nat, 1 ≤ s → s < many → υ 50 0 s = (F s : Int) ∧ υ 51 0 s = K s)
def XKR (im : Int) (many : Nat) (X K : Nat → Int) : Prop := ∀ s : Nat, 1 ≤ s → s < many → mvc im (K s) = X s ∧ (K s < 3 ∨ ¬ im = 0)
theorem SC_le {σ : Sto} {B D a b : Int} {c : Vec} (h : SC σ B a b c) (l : B ≤ D) : SC σ D a b c := ⟨h.1, h.2.1, ⟨h.2.2.1.1, by have := h.2.2.1.2; omega⟩, h.2.2.2⟩
theorem MR_env2 {σ ρ υ : Sto} (h : MR ρ υ) (he : EnvM σ ρ) : EnvM σ υ := by
  have e32 : υ 32 0 = ρ 32 0 := h.1 32 0 (by decide)
  have e33 : υ 33 0 = ρ 33 0 := h.1 33 0 (by decide)
  have e36 : υ 36 0 = ρ 36 0 := h.1 36 0 (by decide)
  have e38 : υ 38 0 = ρ 38 0 := h.1 38 0 (by decide)
  have e5 : υ 30 0 5 = ρ 30 0 5 := h.2 5 (by decide) (by decide) (by decide) (by decide)
  have e6 : υ 30 0 6 = ρ 30 0 6 := h.2 6 (by decide) (by decide) (by decide) (by decide)
  unfold EnvM OKM whyM at he ⊢
  rw [e32, e33, e36, e38, e5, e6]
  exact he
theorem MTS_same {ρ υ υ2 : Sto} {many : Nat} {C : Nat → Vec} {F : Nat → Nat} {K : Nat → Int} (h : MTS ρ υ many C F K) (m : MR ρ υ2) (e48 : υ2 48 0 = υ 48 0) (e49 : ∀ s : Nat, s < many → ∀ k, k < 68 → υ2 49 0 (68 * s + k) = υ 49 0 (68 * s + k)) (e50 : ∀ s : Nat, s < many → υ2 50 0 s = υ 50 0 s) (e51 : ∀ s : Nat, s < many → υ2 51 0 s = υ 51 0 s) : MTS ρ υ2 many C F K := by
  refine ⟨m, fun s hs => ⟨?_, fun k hk => ?_⟩, fun s s1 hs => ?_⟩
  · rw [e48]; exact (h.2.1 s hs).1
  · rw [e49 s hs k hk]; exact (h.2.1 s hs).2 k hk
  · rw [e50 s hs, e51 s hs]; exact h.2.2 s s1 hs
theorem MTS_KM {ρ υ υ2 : Sto} {many : Nat} {C : Nat → Vec} {F : Nat → Nat} {K : Nat → Int} (h : MTS ρ υ many C F K) (k : KM υ υ2) : MTS ρ υ2 many C F K := by
  have r := fun (j : Nat) (hj : j ≠ 30 ∧ j ≠ 40 ∧ j ≠ 43 ∧ j ≠ 44 ∧ j ≠ 45) => KM_r k j hj 0
  exact MTS_same h (MR_KM h.1 k) (r 48 (by decide)) (fun s _ k _ => by rw [r 49 (by decide)]) (fun s _ => by rw [r 50 (by decide)]) (fun s _ => by rw [r 51 (by decide)])
/-- how the searches end, but for the stands being gone through -/
def ENDR (σ ρ τ υ : Sto) (o n : Int) : Prop := RtT σ τ ∧ MR ρ υ ∧ ((o = 2 ∧ n = -3) ∨ (o = 1 ∧ ∃ (L g : Nat) (F : Nat → Nat) (X K : Nat → Int), n = (L : Int) ∧ 1 ≤ L ∧ g ≤ 300 ∧ chF F L g ∧ τ 14 0 10 = n ∧ τ 14 0 11 = (F g : Int) ∧ τ 14 0 12 = X g ∧ (∀ s : Nat, 1 ≤ s → s < g → τ 16 0 s = (F s : Int) ∧ τ 17 0 s = X s) ∧ υ 30 0 34 = (g : Int) ∧ ∀ s : Nat, 1 ≤ s → s ≤ g → υ 50 0 s = (F s : Int) ∧ υ 51 0 s = K s ∧ mvc (σ 2 1 1) (K s) = X s ∧ (K s < 3 ∨ ¬ σ 2 1 1 = 0)))
section ROUTE
variable {N : Nat} {σ ρ τ υ : Sto} {many : Nat} {C : Nat → Vec} {A B : Nat → Int} {F : Nat → Nat} {X K : Nat → Int}
/-- a move of the model ahead of what comes of it -/
theorem m_move0 (hg : OKG σ 1) (he : EnvM σ ρ) (h : MTS ρ υ many C F K) (at' : Nat) (ha : at' < many) (hm : many ≤ 300) (v : Int) (k : Nat) (hk : (k : Int) < 3 + 2 * σ 2 1 1) (x5 x6 : MV) : ∃ υ1, KM υ υ1 ∧ RZ (C at') (υ1 40 0) ∧ ev N mX9_seeks 31 [vR 30 0, vI v, vI (many : Int), vI (at' : Int), vI (k : Int), x5, x6] [] (P υ) = bnd (inv N mX9_tries [vR 30 0, vI (k : Int)] (P υ1)) (fun r S2 => ev N mX9_seeks 49 [vR 30 0, vI v, vI (many : Int), vI (at' : Int), vI (k : Int), x5, x6] (push r []) S2) := by
  have i0 := hg.2.2.1
  have i1 := hg.2.2.2.1
  have e6 : υ 30 0 6 = σ 2 1 1 := (MR_env2 h.1 he).2.2.2.1
  have w2 : w32 (3 + (w32 (2 * σ 2 1 1))) = 3 + 2 * σ 2 1 1 := by rw [w32i (x := 2 * σ 2 1 1) (by omega) (by omega), w32i (by omega) (by omega)]
  have e107 : w32 (107 * (at' : Int)) = ((107 * at' : Nat) : Int) := by rw [w32i (by omega) (by omega)]; omega
  refine ⟨row υ 40 0 (cpyV (υ 48 0) (υ 40 0) (107 * at') 0 107), KM_row υ 40 _ (Or.inl rfl), ?_, ?_⟩
  · rw [row_same]
    refine RZ_107 (h.2.1 at' ha).1 (fun _ _ => rfl) (fun j hj => ?_)
    have t := cpyV_in (υ 48 0) (υ 40 0) (107 * at') 0 107 j hj
    rw [Nat.zero_add] at t
    exact t
  · rw [eX9_seeks_31, e6, w2, if_pos hk, e107, s9_lays48 (107 * at') (by omega), bnd_s, push_n, eX9_seeks_46]
theorem m_moveN (hg : OKG σ 1) (he : EnvM σ ρ) (h : MTS ρ υ many C F K) (at' : Nat) (ha : at' < many) (hm : many ≤ 300) (v : Int) (k : Nat) (hk : (k : Int) < 3 + 2 * σ 2 1 1) (x5 x6 : MV) (hT : ∀ υ1, KM υ υ1 → RZ (C at') (υ1 40 0) → ∃ υ2, inv N mX9_tries [vR 30 0, vI (k : Int)] (P υ1) = some (some (vI 0), P υ2) ∧ KM υ1 υ2) : ∃ υ', ev N mX9_seeks 31 [vR 30 0, vI v, vI (many : Int), vI (at' : Int), vI (k : Int), x5, x6] [] (P υ) = ev N mX9_seeks 31 [vR 30 0, vI v, vI (many : Int), vI (at' : Int), vI ((k + 1 : Nat) : Int), x5, x6] [] (P υ') ∧ MTS ρ υ' many C F K := by
  have i1 := hg.2.2.2.1
  have ek : w32 ((k : Int) + 1) = ((k + 1 : Nat) : Int) := by rw [w32i (by omega) (by omega)]; omega
  obtain ⟨υ1, k1, z1, e1⟩ := m_move0 (N := N) hg he h at' ha hm v k hk x5 x6
  obtain ⟨υ2, t1, t2⟩ := hT υ1 k1 z1
  refine ⟨υ2, ?_, MTS_KM (MTS_KM h k1) t2⟩
  rw [e1, t1, bnd_s, push_s, eX9_seeks_49, if_pos rfl, ek]
theorem m_moveY (hg : OKG σ 1) (he : EnvM σ ρ) (h : MTS ρ υ many C F K) (at' : Nat) (ha : at' < many) (hm : many ≤ 300) (v : Int) (k : Nat) (hk : (k : Int) < 3 + 2 * σ 2 1 1) (x5 x6 : MV) {c : Vec} (hc : OKC c) (hF : ∀ s : Nat, 1 ≤ s → s < many → F s < s) (hT : ∀ υ1, KM υ υ1 → RZ (C at') (υ1 40 0) → ∃ υ2, inv N mX9_tries [vR 30 0, vI (k : Int)] (P υ1) = some (some (vI 1), P υ2) ∧ KM υ1 υ2 ∧ RZ c (υ2 40 0)) :
    (¬ THR c v = 0 → ∀ L, chF F L at' → ∃ υ', ev N mX9_seeks 31 [vR 30 0, vI v, vI (many : Int), vI (at' : Int), vI (k : Int), x5, x6] [] (P υ) = some (some (vI ((L + 1 : Nat) : Int)), P υ') ∧ MR ρ υ' ∧ υ' 30 0 34 = (many : Int) ∧ (∀ s : Nat, 1 ≤ s → s ≤ many → υ' 50 0 s = ((upN F many at' s : Nat) : Int) ∧ υ' 51 0 s = upN K many (k : Int) s))
    ∧ (THR c v = 0 → (∃ o, o < many ∧ ∀ k, k < 68 → sgF (C o) k = sgF c k) → ∃ υ' y5 y6, ev N mX9_seeks 31 [vR 30 0, vI v, vI (many : Int), vI (at' : Int), vI (k : Int), x5, x6] [] (P υ) = ev N mX9_seeks 31 [vR 30 0, vI v, vI (many : Int), vI (at' : Int), vI ((k + 1 : Nat) : Int), y5, y6] [] (P υ') ∧ MTS ρ υ' many C F K)
    ∧ (THR c v = 0 → (∀ o, o < many → ¬ ∀ k, k < 68 → sgF (C o) k = sgF c k) → many = 300 → ∃ υ', ev N mX9_seeks 31 [vR 30 0, vI v, vI (many : Int), vI (at' : Int), vI (k : Int), x5, x6] [] (P υ) = some (some (vI (-3)), P υ') ∧ MR ρ υ')
    ∧ (THR c v = 0 → (∀ o, o < many → ¬ ∀ k, k < 68 → sgF (C o) k = sgF c k) → many < 300 → ∃ υ' y5 y6, ev N mX9_seeks 31 [vR 30 0, vI v, vI (many : Int), vI (at' : Int), vI (k : Int), x5, x6] [] (P υ) = ev N mX9_seeks 31 [vR 30 0, vI v, vI ((many + 1 : Nat) : Int), vI (at' : Int), vI ((k + 1 : Nat) : Int), y5, y6] [] (P υ') ∧ MTS ρ υ' (many + 1) (upN C many c) (upN F many at') (upN K many (k : Int))) := by
  have i1 := hg.2.2.2.1
  have ek : w32 ((k : Int) + 1) = ((k + 1 : Nat) : Int) := by rw [w32i (by omega) (by omega)]; omega
  obtain ⟨υ1, k1, z1, e1⟩ := m_move0 (N := N) hg he h at' ha hm v k hk x5 x6
  obtain ⟨υ2, t1, t2, t3⟩ := hT υ1 k1 z1
  have h2 := MTS_KM (MTS_KM h k1) t2
  have n0 : ¬ (many : Int) < 0 := by omega
  have n1 : (many : Int) < 301 := by omega
  rw [t1, bnd_s, push_s, eX9_seeks_49, if_neg (by decide), if_neg n0, if_pos n1, if_neg n0, if_pos n1, Int.toNat_natCast, sup_row, sup_row] at e1
  have m2 : MR ρ (row (row υ2 50 0 (set (υ2 50 0) many (at' : Int))) 51 0 (set (row υ2 50 0 (set (υ2 50 0) many (at' : Int)) 51 0) many (k : Int))) := MR_row (MR_row h2.1 50 (by decide) _) 51 (by decide) _
  have e50 : row (row υ2 50 0 (set (υ2 50 0) many (at' : Int))) 51 0 (set (row υ2 50 0 (set (υ2 50 0) many (at' : Int)) 51 0) many (k : Int)) 50 0 = set (υ2 50 0) many (at' : Int) := by rw [row_at, if_neg (by decide), row_same]
  have e51 : row (row υ2 50 0 (set (υ2 50 0) many (at' : Int))) 51 0 (set (row υ2 50 0 (set (υ2 50 0) many (at' : Int)) 51 0) many (k : Int)) 51 0 = set (υ2 51 0) many (k : Int) := by rw [row_same, row_at, if_neg (by decide)]
  have eo : ∀ j, j ≠ 50 → j ≠ 51 → row (row υ2 50 0 (set (υ2 50 0) many (at' : Int))) 51 0 (set (row υ2 50 0 (set (υ2 50 0) many (at' : Int)) 51 0) many (k : Int)) j 0 = υ2 j 0 := fun j j1 j2 => by rw [row_at, if_neg (fun z => j2 z.1), row_at, if_neg (fun z => j1 z.1)]
  generalize row (row υ2 50 0 (set (υ2 50 0) many (at' : Int))) 51 0 (set (row υ2 50 0 (set (υ2 50 0) many (at' : Int)) 51 0) many (k : Int)) = υ3 at e1 m2 e50 e51 eo
  have z3 : RZ c (υ3 40 0) := by rw [eo 40 (by decide) (by decide)]; exact t3
  have h3 : MTS ρ υ3 many C F K := MTS_same h2 m2 (eo 48 (by decide) (by decide)) (fun s _ k _ => by rw [eo 49 (by decide) (by decide)]) (fun s hs => by rw [e50, set_ne _ _ (by omega)]) (fun s hs => by rw [e51, set_ne _ _ (by omega)])
  have lk : ∀ s : Nat, 1 ≤ s → s ≤ many → υ3 50 0 s = ((upN F many at' s : Nat) : Int) ∧ υ3 51 0 s = upN K many (k : Int) s := by
    intro s s1 s2
    by_cases q : s = many
    · rw [q, e50, e51, set_same, set_same, upN_same, upN_same]
      exact ⟨rfl, rfl⟩
    · rw [upN_ne _ _ q, upN_ne _ _ q]
      exact h3.2.2 s s1 (by omega)
  rw [m_isThere2 z3 hc, bnd_s, push_s, eX9_seeks_64] at e1
  refine ⟨fun q L hL => ?_, ?_⟩
  · have ch : chF (upN F many at') (L + 1) many := by
      refine ⟨by omega, by rw [upN_same]; exact ha, ?_⟩
      rw [upN_same]
      exact chF_cong L at' (fun j hj => (upN_ne _ _ (by omega)).symm) hL
    have m3 := MR_34 m2 (many : Int)
    have f34 : sup υ3 30 0 34 (many : Int) 30 0 34 = (many : Int) := by rw [sup_row, row_same, set_same]
    have f50 : sup υ3 30 0 34 (many : Int) 50 0 = υ3 50 0 := by rw [sup_row, row_at, if_neg (by decide)]
    have f51 : sup υ3 30 0 34 (many : Int) 51 0 = υ3 51 0 := by rw [sup_row, row_at, if_neg (by decide)]
    generalize sup υ3 30 0 34 (many : Int) = υ4 at e1 m3 f34 f50 f51
    have lL := chF_le L at' hL
    have ln := m_len (N := N) υ4 (many : Int) (L + 1) many 0 (by decide) (by omega) (chn_chF (by omega) (fun s s1 s2 => by rw [f50]; exact (lk s s1 s2).1) (L + 1) many (Nat.le_refl _) ch)
    rw [Int.zero_add] at ln
    rw [if_neg q, iX9_lengthOf, eX9_lengthOf_0, ln, bnd_s, push_s, eX9_seeks_71] at e1
    exact ⟨υ4, e1, m3, f34, fun s s1 s2 => by rw [f50, f51]; exact lk s s1 s2⟩
  by_cases q : THR c v = 0
  case neg => exact ⟨fun z => absurd z q, fun z => absurd z q, fun z => absurd z q⟩
  obtain ⟨g, eg, g1, g2⟩ := m_signs2 (N := N) z3 hc many hm
  rw [if_pos q, eg, bnd_s, push_n, eX9_seeks_75] at e1
  have m4 : MR ρ (row (rfM υ3) 49 0 g) := MR_row (MR_KM m2 (KM_rf υ3)) 49 (by decide) g
  have r4 : ∀ j, j ≠ 43 → j ≠ 49 → row (rfM υ3) 49 0 g j 0 = υ3 j 0 := fun j j1 j2 => by
    unfold rfM
    rw [row_at, if_neg (fun z => j2 z.1), row_at, if_neg (fun z => j1 z.1)]
  have g4 : row (rfM υ3) 49 0 g 49 0 = g := row_same _ _ _ _
  generalize row (rfM υ3) 49 0 g = υ4 at e1 m4 r4 g4
  have h4 : MTS ρ υ4 many C F K := MTS_same h3 m4 (r4 48 (by decide) (by decide)) (fun s hs k hk => by rw [g4, g2 _ (by omega)]) (fun s _ => by rw [r4 50 (by decide) (by decide)]) (fun s _ => by rw [r4 51 (by decide) (by decide)])
  have z4 : RZ c (υ4 40 0) := by rw [r4 40 (by decide) (by decide)]; exact z3
  have alk : ∀ o, o < many → (ALK υ4 many o ↔ ∀ k, k < 68 → sgF (C o) k = sgF c k) := by
    intro o ho
    unfold ALK
    constructor
    · intro w k hk
      have t := w k hk
      rw [(h4.2.1 o ho).2 k hk, g4, g1 k hk] at t
      exact t
    · intro w k hk
      rw [(h4.2.1 o ho).2 k hk, g4, g1 k hk]
      exact w k hk
  have e0 : ((0 : Nat) : Int) = 0 := rfl
  obtain ⟨y5, y6, old⟩ := m_old2 (N := N) υ4 v (at' : Int) (k : Int) many hm many 0 (by omega) (fun o ho => absurd ho (by omega))
  rw [e0] at old
  refine ⟨fun _ w => ?_, fun _ w z => ?_, fun _ w z => ?_⟩
  · obtain ⟨o, o1, o2⟩ := w
    rcases old with old | old
    · rw [old.2, ek] at e1
      exact ⟨υ4, vI y5, vI y6, e1, h4⟩
    · exact absurd ((alk o o1).mpr o2) (old.1 o o1)
  · rcases old with old | old
    · obtain ⟨o, o1, o2⟩ := old.1
      exact absurd ((alk o o1).mp o2) (w o o1)
    · rw [old.2, if_pos (show (many : Int) = 300 by omega)] at e1
      exact ⟨υ4, e1, m4⟩
  · rcases old with old | old
    · obtain ⟨o, o1, o2⟩ := old.1
      exact absurd ((alk o o1).mp o2) (w o o1)
    · have e107 : w32 (107 * (many : Int)) = ((107 * many : Nat) : Int) := by rw [w32i (by omega) (by omega)]; omega
      have em : w32 ((many : Int) + 1) = ((many + 1 : Nat) : Int) := by rw [w32i (by omega) (by omega)]; omega
      rw [old.2, if_neg (show ¬ (many : Int) = 300 by omega), e107, s9_keep48 (107 * many) (by omega), bnd_s, push_n, eX9_seeks_105, em, ek] at e1
      refine ⟨_, vI y5, vI y6, e1, MR_row m4 48 (by decide) _, fun s hs => ⟨?_, fun k' hk' => ?_⟩, fun s s1 hs => ?_⟩
      · rw [row_same]
        by_cases y : s = many
        · rw [y, upN_same]
          refine RZ_107 z4 (fun _ _ => rfl) (fun j hj => ?_)
          have t := cpyV_in (υ4 40 0) (υ4 48 0) 0 (107 * many) 107 j hj
          rw [Nat.zero_add] at t
          exact t
        · rw [upN_ne _ _ y]
          refine RZ_107 (h4.2.1 s (by omega)).1 (fun _ _ => rfl) (fun j hj => ?_)
          exact cpyV_out (υ4 40 0) (υ4 48 0) 0 (107 * many) 107 (107 * s + j) (by omega)
      · rw [row_at, if_neg (by decide)]
        by_cases y : s = many
        · rw [y, upN_same, g4]
          exact g1 k' hk'
        · rw [upN_ne _ _ y]
          exact (h4.2.1 s (by omega)).2 k' hk'
      · rw [row_at, if_neg (by decide), row_at, if_neg (by decide), r4 50 (by decide) (by decide), r4 51 (by decide) (by decide)]
        exact lk s s1 (by omega)
end ROUTE
