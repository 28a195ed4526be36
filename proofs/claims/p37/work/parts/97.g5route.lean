section
/-! ROUTE, the model's -/
def MR (σ τ : Sto) : Prop := (∀ k k', ¬ (k' = 0 ∧ (k = 30 ∨ k = 40 ∨ k = 43 ∨ k = 44 ∨ k = 45 ∨ k = 48 ∨ k = 49 ∨ k = 50 ∨ k = 51)) → τ k k' = σ k k') ∧ (∀ j, j ≠ 22 → j ≠ 23 → j ≠ 24 → j ≠ 34 → τ 30 0 j = σ 30 0 j)
theorem MR_refl (σ : Sto) : MR σ σ := ⟨fun _ _ _ => rfl, fun _ _ _ _ _ => rfl⟩
theorem MR_row {σ τ : Sto} (h : MR σ τ) (k : Nat) (hk : k = 40 ∨ k = 43 ∨ k = 44 ∨ k = 45 ∨ k = 48 ∨ k = 49 ∨ k = 50 ∨ k = 51) (f : Vec) : MR σ (row τ k 0 f) := by
  refine ⟨fun i i' q => ?_, fun j j1 j2 j3 j4 => ?_⟩
  · rw [row_at, if_neg (fun z => q ⟨z.2, by rw [z.1]; exact Or.inr hk⟩)]
    exact h.1 i i' q
  · rw [row_at, if_neg (by omega)]
    exact h.2 j j1 j2 j3 j4
theorem MR_KM {σ τ υ : Sto} (h : MR σ τ) (k : KM τ υ) : MR σ υ := by
  refine ⟨fun i i' q => ?_, fun j j1 j2 j3 j4 => (k.2 j j1 j2 j3).trans (h.2 j j1 j2 j3 j4)⟩
  rw [k.1 i i' (fun z => q ⟨z.1, by omega⟩)]
  exact h.1 i i' q
theorem MR_34 {σ τ : Sto} (h : MR σ τ) (v : Int) : MR σ (sup τ 30 0 34 v) := by
  rw [sup_row]
  refine ⟨fun i i' q => ?_, fun j j1 j2 j3 j4 => ?_⟩
  · rw [row_at, if_neg (fun z => q ⟨z.2, Or.inl z.1⟩)]
    exact h.1 i i' q
  · rw [row_same, set_ne _ _ j4]
    exact h.2 j j1 j2 j3 j4
theorem MR_env {σ τ : Sto} (h : MR σ τ) (he : EnvM σ σ) : EnvM σ τ := by
  have e32 : τ 32 0 = σ 32 0 := h.1 32 0 (by decide)
  have e33 : τ 33 0 = σ 33 0 := h.1 33 0 (by decide)
  have e36 : τ 36 0 = σ 36 0 := h.1 36 0 (by decide)
  have e38 : τ 38 0 = σ 38 0 := h.1 38 0 (by decide)
  have e5 : τ 30 0 5 = σ 30 0 5 := h.2 5 (by decide) (by decide) (by decide) (by decide)
  have e6 : τ 30 0 6 = σ 30 0 6 := h.2 6 (by decide) (by decide) (by decide) (by decide)
  unfold EnvM OKM whyM whyS at he ⊢
  rw [e32, e33, e36, e38, e5, e6]
  exact he
/-- cells that a class machine could hold -/
def GC (B : Int) (n : Vec) : Prop := ∃ c, RZ c n ∧ OKC c ∧ 0 ≤ c 82 ∧ c 82 < B
theorem GC_ok {B : Int} {n : Vec} (h : GC B n) : OKC n := by
  obtain ⟨c, a, b, _⟩ := h
  exact OKC_RZ b a
theorem GC_107 {B : Int} {n n2 : Vec} (h : GC B n) (e : ∀ j, j < 107 → n2 j = n j) : GC B n2 := by
  obtain ⟨c, a, b, d⟩ := h
  exact ⟨c, RZ_107 a (fun _ _ => rfl) e, b, d⟩
theorem GC_le {B C : Int} {n : Vec} (h : GC B n) (l : B ≤ C) : GC C n := by
  obtain ⟨c, a, b, d, e⟩ := h
  exact ⟨c, a, b, d, by omega⟩
theorem GC_off {B : Int} {n : Vec} (h : GC B n) : GC B (set n 78 (-1)) := by
  obtain ⟨c, a, b, d, e⟩ := h
  exact ⟨set c 78 (-1), RZ_78 a, OKC_78 b, by rw [set_ne _ _ (by decide)]; exact d, by rw [set_ne _ _ (by decide)]; exact e⟩
/-- so many steps back to the first stand -/
def chn (f : Vec) : Nat → Nat → Prop
  | 0, s => s = 0
  | n + 1, s => s ≠ 0 ∧ s < 301 ∧ ∃ p : Nat, p < s ∧ f s = (p : Int) ∧ chn f n p
theorem chn_of (f : Vec) (b : Nat) (hb : b < 301) (h : ∀ s : Nat, 1 ≤ s → s ≤ b → ∃ p : Nat, p < s ∧ f s = (p : Int)) : ∀ (m s : Nat), s ≤ m → s ≤ b → ∃ n, n ≤ s ∧ chn f n s := by
  intro m
  induction m with
  | zero =>
    intro s hs hb
    exact ⟨0, Nat.zero_le _, Nat.le_zero.mp hs⟩
  | succ m ih =>
    intro s hs hsb
    by_cases q : s = 0
    · exact ⟨0, Nat.zero_le _, q⟩
    obtain ⟨p, p1, p2⟩ := h s (by omega) hsb
    obtain ⟨n, n1, n2⟩ := ih p (by omega) (by omega)
    exact ⟨n + 1, by omega, q, by omega, p, p1, p2, n2⟩
/-- the stands that are kept, the ways to them -/
def SKp (σ : Sto) (many : Nat) (τ : Sto) : Prop := MR σ τ ∧ (∀ s : Nat, s < many → GC (2147482000 + s) (seg (τ 48 0) (107 * s))) ∧ (∀ s : Nat, 1 ≤ s → s < many → (∃ p : Nat, p < s ∧ τ 50 0 s = (p : Int)) ∧ (τ 51 0 s < 3 ∨ σ 2 1 1 ≠ 0))
theorem SKp_same {σ τ υ : Sto} {many : Nat} (h : SKp σ many τ) (m : MR σ υ) (e48 : υ 48 0 = τ 48 0) (e50 : ∀ s : Nat, s < many → υ 50 0 s = τ 50 0 s) (e51 : ∀ s : Nat, s < many → υ 51 0 s = τ 51 0 s) : SKp σ many υ := by
  refine ⟨m, fun s hs => by rw [e48]; exact h.2.1 s hs, fun s s1 hs => ?_⟩
  rw [e50 s hs, e51 s hs]
  exact h.2.2 s s1 hs
theorem SKp_KM {σ τ υ : Sto} {many : Nat} (h : SKp σ many τ) (k : KM τ υ) : SKp σ many υ := by
  refine SKp_same h (MR_KM h.1 k) (KM_r k 48 (by decide) 0) (fun s _ => ?_) (fun s _ => ?_)
  · rw [KM_r k 50 (by decide) 0]
  · rw [KM_r k 51 (by decide) 0]
/-- what seeks answers -/
def FIN (σ : Sto) (n : Int) (υ : Sto) : Prop := MR σ υ ∧ (n < 0 ∨ ∃ g m : Nat, n = (m : Int) ∧ m ≤ 300 ∧ υ 30 0 34 = (g : Int) ∧ chn (υ 50 0) m g ∧ ∀ s : Nat, 1 ≤ s → s ≤ g → (υ 51 0 s < 3 ∨ σ 2 1 1 ≠ 0))
section ROUTE
variable {N : Nat} {σ τ : Sto} {B : Int}
theorem m_isThere (hc : OKC (τ 40 0)) (v : Int) : ∃ u, inv N mX9_isThere [vR 30 0, vI v] (P τ) = some (some (vI u), P τ) := by
  have e78 : (78 : Int).toNat = 78 := rfl
  have vs := fun (s : Nat) (hs : s < 4) => s9_versionOf (N := N) (σ := τ) s hs hc.1
  have rest : ∀ s : Nat, s < 4 → τ 40 0 78 = (s : Int) → ∃ u, ev N mX9_isThere 2 [vR 30 0, vI v] [vI 1] (P τ) = some (some (vI u), P τ) := by
    intro s hs es
    rw [eX9_isThere_2, if_neg (by decide), e78, es]
    by_cases q : τ 40 0 ((79 : Int).toNat) = 1
    · rw [if_pos q, vs s hs, bnd_s, push_s, eX9_isThere_15]
      by_cases w : τ 40 0 (14 * s) - 1 = v
      · rw [if_pos w]; exact ⟨_, rfl⟩
      · rw [if_neg w]; exact ⟨_, rfl⟩
    · rw [if_neg q]; exact ⟨_, rfl⟩
  rw [iX9_isThere, eX9_isThere_0, iX9_isSlotRunning, eX9_isSlotRunning_0, e78]
  by_cases q0 : τ 40 0 78 = 0
  · rw [if_pos q0, bnd_s, push_s]
    exact rest 0 (by decide) q0
  by_cases q1 : τ 40 0 78 = 1
  · rw [if_neg q0, if_pos q1, bnd_s, push_s]
    exact rest 1 (by decide) q1
  rw [if_neg q0, if_neg q1, bnd_s, push_s, eX9_isThere_2, if_pos rfl]
  exact ⟨_, rfl⟩
theorem m_try57 (hg : OKG σ 1) (he : EnvM σ τ) (h : GC B (τ 40 0)) (hB : B < 2147483000) (k d a b : Int) : ∃ u υ, bnd (inv N mX9_canDo [vR 30 0, vI d, vI a, vI b] (P τ)) (fun r S2 => ev N mX9_tries 57 [vR 30 0, vI k, vI d, vI a, vI b] (push r []) S2) = some (some (vI u), P υ) ∧ KM τ υ ∧ GC (B + 1) (υ 40 0) := by
  have okm := GC_ok h
  have h' := h
  obtain ⟨c, r1, r2, r3, r4⟩ := h
  have can := s9_canDo (N := N) (σ := τ) he.1 okm d a b
  have ea : ableF (τ 30 0 6) (τ 36 0) (τ 40 0) d a b = ableF (σ 2 1 1) (σ 5 1) c d a b := by
    rw [he.2.2.2.1]
    exact ableF_eq r1.2 r1.1.1 he.2.2.2.2.2.2.2.1 d a b
  rw [ea] at can
  rw [can, bnd_s, push_s, eX9_tries_57]
  rcases ableF_b (σ 2 1 1) (σ 5 1) c d a b with z | z
  · rw [if_pos z]
    exact ⟨_, _, rfl, KM_refl τ, GC_le h' (by omega)⟩
  obtain ⟨υ, u1, u2, u3, u4⟩ := m_does (N := N) (σ0 := σ) (σ := τ) (x := (c, σ 6 4)) hg r1 r2 he (Int.lt_trans r4 hB) d a b (-1) z (by decide) (by decide)
  have ok := performC_ok (σ := σ) (x := (c, σ 6 4)) hg r2 d a b (-1) z
  generalize performC σ d a b (-1) (c, σ 6 4) = p at u1 u3 u4 ok
  obtain ⟨o1, o2, o3⟩ := ok
  change c 82 ≤ p.2.1 82 at o2
  change p.2.1 82 ≤ c 82 + 1 at o3
  rw [if_neg (show ¬ ableF (σ 2 1 1) (σ 5 1) c d a b = 0 by rw [z]; decide), u1, bnd_s, push_s, eX9_tries_66]
  exact ⟨_, _, rfl, u2, p.2.1, u3, o1.1, Int.le_trans r3 o2, by omega⟩
theorem m_tries (hg : OKG σ 1) (he : EnvM σ τ) (h : GC B (τ 40 0)) (hB : B < 2147483000) (k : Int) (k0 : 0 ≤ k) (hk : k < 3 ∨ τ 30 0 6 ≠ 0) : ∃ u υ, inv N mX9_tries [vR 30 0, vI k] (P τ) = some (some (vI u), P υ) ∧ KM τ υ ∧ GC (B + 1) (υ 40 0) := by
  have go := fun d a b => m_try57 (N := N) hg he h hB k d a b
  have e78 : (78 : Int).toNat = 78 := rfl
  rw [iX9_tries, eX9_tries_0]
  by_cases q0 : k = 0
  · rw [if_pos q0, s9_isOff, bnd_s, push_s, eX9_tries_4, e78, sup_row]
    have km : KM τ (row τ 40 0 (set (τ 40 0) 78 (-1))) := KM_row τ 40 _ (Or.inl rfl)
    have gc : GC (B + 1) (row τ 40 0 (set (τ 40 0) 78 (-1)) 40 0) := by
      rw [row_same]
      exact GC_le (GC_off h) (by omega)
    by_cases w : (if τ 40 0 78 = -1 then (1 : Int) else 0) = 0
    · rw [if_pos w]; exact ⟨_, _, rfl, km, gc⟩
    · rw [if_neg w]; exact ⟨_, _, rfl, km, gc⟩
  by_cases q1 : k = 1
  · have n2 : ¬ 2 < k := by omega
    rw [if_neg q0, if_pos q1, if_neg n2, if_neg n2]
    exact go _ _ _
  by_cases q2 : k = 2
  · have n2 : ¬ 2 < k := by omega
    rw [if_neg q0, if_neg q1, if_pos q2, if_neg n2, if_neg n2]
    exact go _ _ _
  have n2 : 2 < k := by omega
  have n3 : ¬ τ 30 0 6 = 0 := hk.resolve_left (by omega)
  rw [if_neg q0, if_neg q1, if_neg q2, if_pos n2, if_neg n3, if_pos n2, if_neg n3]
  exact go _ _ _
theorem sg_num {a j : Nat} (ha : a ≤ 300) (hj : j < 68) : w32 (68 * (a : Int)) = ((68 * a : Nat) : Int) ∧ w32 (((68 * a : Nat) : Int) + (j : Int)) = ((68 * a + j : Nat) : Int) ∧ ¬ ((68 * a + j : Nat) : Int) < 0 ∧ ((68 * a + j : Nat) : Int) < 20468 ∧ w32 ((j : Int) + 1) = ((j + 1 : Nat) : Int) := by
  refine ⟨?_, ?_, by omega, by omega, ?_⟩
  · rw [w32i (by omega) (by omega)]; omega
  · rw [w32i (by omega) (by omega)]; omega
  · rw [w32i (by omega) (by omega)]; omega
theorem m_sg8 (a : Nat) (ha : a ≤ 300) : ∀ (m k : Nat) (τ : Sto), k + m = 56 → ∃ g, ev N mX9_signs 8 [vR 30 0, vI (a : Int), vI ((68 * a : Nat) : Int), vI (k : Int)] [] (P τ) = ev N mX9_signs 26 [vR 30 0, vI (a : Int), vI (w32 (((68 * a : Nat) : Int) + 56)), vI 0] [] (P (row τ 49 0 g)) := by
  intro m
  induction m with
  | zero =>
    intro k τ hk
    rw [eX9_signs_8, if_neg (show ¬ (k : Int) < 56 by omega)]
    exact ⟨τ 49 0, by rw [row_id]⟩
  | succ m ih =>
    intro k τ hk
    have n := sg_num ha (show k < 68 by omega)
    rw [eX9_signs_8, if_pos (show (k : Int) < 56 by omega), if_neg (show ¬ (k : Int) < 0 by omega), if_pos (show (k : Int) < 107 by omega), n.2.1, if_neg n.2.2.1, if_pos n.2.2.2.1, n.2.2.2.2, sup_row]
    obtain ⟨g, e⟩ := ih (k + 1) (row τ 49 0 (set (τ 49 0) ((68 * a + k : Nat) : Int).toNat (τ 40 0 (k : Int).toNat))) (by omega)
    rw [row_row] at e
    exact ⟨g, e⟩
theorem sg_num2 {a j : Nat} (ha : a ≤ 300) (hj : j < 12) : w32 (((68 * a : Nat) : Int) + 56) = ((68 * a + 56 : Nat) : Int) ∧ w32 (((68 * a + 56 : Nat) : Int) + (j : Int)) = ((68 * a + 56 + j : Nat) : Int) ∧ ¬ ((68 * a + 56 + j : Nat) : Int) < 0 ∧ ((68 * a + 56 + j : Nat) : Int) < 20468 ∧ w32 ((j : Int) + 1) = ((j + 1 : Nat) : Int) := by
  refine ⟨?_, ?_, by omega, by omega, ?_⟩
  · rw [w32i (by omega) (by omega)]; omega
  · rw [w32i (by omega) (by omega)]; omega
  · rw [w32i (by omega) (by omega)]; omega
theorem sg_num3 {a : Nat} (ha : a ≤ 300) : w32 (((68 * a + 56 : Nat) : Int) + 8) = ((68 * a + 64 : Nat) : Int) ∧ w32 (((68 * a + 64 : Nat) : Int) + 1) = ((68 * a + 65 : Nat) : Int) ∧ w32 (((68 * a + 64 : Nat) : Int) + 2) = ((68 * a + 66 : Nat) : Int) ∧ w32 (((68 * a + 64 : Nat) : Int) + 3) = ((68 * a + 67 : Nat) : Int) ∧ (¬ ((68 * a + 64 : Nat) : Int) < 0 ∧ ((68 * a + 64 : Nat) : Int) < 20468) ∧ (¬ ((68 * a + 65 : Nat) : Int) < 0 ∧ ((68 * a + 65 : Nat) : Int) < 20468) ∧ (¬ ((68 * a + 66 : Nat) : Int) < 0 ∧ ((68 * a + 66 : Nat) : Int) < 20468) ∧ (¬ ((68 * a + 67 : Nat) : Int) < 0 ∧ ((68 * a + 67 : Nat) : Int) < 20468) := by
  refine ⟨?_, ?_, ?_, ?_, by omega, by omega, by omega, by omega⟩
  · rw [w32i (by omega) (by omega)]; omega
  · rw [w32i (by omega) (by omega)]; omega
  · rw [w32i (by omega) (by omega)]; omega
  · rw [w32i (by omega) (by omega)]; omega
theorem m_sg26 (a : Nat) (ha : a ≤ 300) : ∀ (m k : Nat) (τ : Sto), k + m = 8 → ∃ g, ev N mX9_signs 26 [vR 30 0, vI (a : Int), vI ((68 * a + 56 : Nat) : Int), vI (k : Int)] [] (P τ) = some (none, P (row τ 49 0 g)) := by
  intro m
  induction m with
  | zero =>
    intro k τ hk
    obtain ⟨n1, n2, n3, n4, p1, p2, p3, p4⟩ := sg_num3 ha
    rw [eX9_signs_26, if_neg (show ¬ (k : Int) < 8 by omega), n1, n2, n3, n4, if_neg p1.1, if_pos p1.2, if_neg p2.1, if_pos p2.2, if_neg p3.1, if_pos p3.2, s9_isOff, bnd_s, push_s, eX9_signs_77]
    simp only [sup_row, row_same, row_row]
    generalize (if _ = (-1 : Int) then (1 : Int) else 0) = y0
    by_cases w : y0 = 0
    · rw [if_pos w, if_neg p4.1, if_pos p4.2]
      exact ⟨_, rfl⟩
    · rw [if_neg w, if_neg p4.1, if_pos p4.2]
      exact ⟨_, rfl⟩
  | succ m ih =>
    intro k τ hk
    have n := sg_num2 ha (show k < 12 by omega)
    rw [eX9_signs_26, if_pos (show (k : Int) < 8 by omega), if_neg (show ¬ (k : Int) < 0 by omega), if_pos (show (k : Int) < 8 by omega), n.2.1, if_neg n.2.2.1, if_pos n.2.2.2.1, n.2.2.2.2, sup_row]
    obtain ⟨g, e⟩ := ih (k + 1) (row τ 49 0 (set (τ 49 0) ((68 * a + 56 + k : Nat) : Int).toNat (τ 43 0 (k : Int).toNat))) (by omega)
    rw [row_row] at e
    exact ⟨g, e⟩
theorem m_signs (hc : OKC (τ 40 0)) (a : Nat) (ha : a ≤ 300) : ∃ g, inv N mX9_signs [vR 30 0, vI (a : Int)] (P τ) = some (none, P (row (rfM τ) 49 0 g)) := by
  obtain ⟨g1, e1⟩ := m_sg8 (N := N) a ha 56 0 (rfM τ) rfl
  obtain ⟨g2, e2⟩ := m_sg26 (N := N) a ha 8 0 (row (rfM τ) 49 0 g1) rfl
  have e0 : ((0 : Nat) : Int) = 0 := rfl
  rw [e0] at e1 e2
  rw [(sg_num2 ha (show 0 < 12 by decide)).1] at e1
  rw [iX9_signs, eX9_signs_0, s9_readsFlags hc.2.1, bnd_s, push_n, eX9_signs_2, (sg_num ha (show 0 < 68 by decide)).1, e1, e2, row_row]
  exact ⟨g2, rfl⟩
theorem m_alike (τ : Sto) (a b : Nat) (ha : a ≤ 300) (hb : b ≤ 300) : ∃ u, inv N mX9_areAlike [vR 30 0, vI (a : Int), vI (b : Int)] (P τ) = some (some (vI u), P τ) := by
  have lp : ∀ (m k : Nat), k + m = 68 → ∃ u, ev N mX9_areAlike 2 [vR 30 0, vI (a : Int), vI (b : Int), vI (k : Int)] [] (P τ) = some (some (vI u), P τ) := by
    intro m
    induction m with
    | zero =>
      intro k hk
      rw [eX9_areAlike_2, if_neg (show ¬ (k : Int) < 68 by omega)]
      exact ⟨_, rfl⟩
    | succ m ih =>
      intro k hk
      have n := sg_num ha (show k < 68 by omega)
      have n' := sg_num hb (show k < 68 by omega)
      rw [eX9_areAlike_2, if_pos (show (k : Int) < 68 by omega), n.1, n'.1, n.2.1, n'.2.1, if_neg n.2.2.1, if_pos n.2.2.2.1, if_neg n'.2.2.1, if_pos n'.2.2.2.1, n.2.2.2.2]
      by_cases q : τ 49 0 ((68 * a + k : Nat) : Int).toNat = τ 49 0 ((68 * b + k : Nat) : Int).toNat
      · rw [if_pos q]
        exact ih (k + 1) (by omega)
      · rw [if_neg q]
        exact ⟨_, rfl⟩
  rw [iX9_areAlike, eX9_areAlike_0]
  exact lp 68 0 rfl
theorem m_len (τ : Sto) (x1 : Int) : ∀ (n s : Nat) (x2 : Int), 0 ≤ x2 → x2 + n < 2147483648 → chn (τ 50 0) n s → ev N mX9_lengthOf 4 [vR 30 0, vI x1, vI x2, vI (s : Int)] [] (P τ) = some (some (vI (x2 + n)), P τ) := by
  intro n
  induction n with
  | zero =>
    intro s x2 h0 h1 h
    have e : s = 0 := h
    subst e
    rw [eX9_lengthOf_4, if_pos (by decide)]
    rw [show x2 + ((0 : Nat) : Int) = x2 by omega]
  | succ n ih =>
    intro s x2 h0 h1 h
    obtain ⟨c1, c2, p, c3, c4, c5⟩ := h
    have e1 : w32 (x2 + 1) = x2 + 1 := w32i (by omega) (by omega)
    rw [eX9_lengthOf_4, if_neg (show ¬ (s : Int) = 0 by omega), if_neg (show ¬ (s : Int) < 0 by omega), if_pos (show (s : Int) < 301 by omega), e1, Int.toNat_natCast, c4, ih p (x2 + 1) (by omega) (by omega) c5]
    rw [show x2 + 1 + (n : Int) = x2 + ((n + 1 : Nat) : Int) by omega]
theorem m_old (τ : Sto) (v at' k : Int) (many : Nat) (hm : many ≤ 300) : ∀ (m j : Nat) (x5 : Int), j + m = many → ∃ y5 y6 : Int, ev N mX9_seeks 79 [vR 30 0, vI v, vI (many : Int), vI at', vI k, vI x5, vI (j : Int)] [] (P τ) = ev N mX9_seeks 31 [vR 30 0, vI v, vI (many : Int), vI at', vI (w32 (k + 1)), vI y5, vI y6] [] (P τ) ∨ ev N mX9_seeks 79 [vR 30 0, vI v, vI (many : Int), vI at', vI k, vI x5, vI (j : Int)] [] (P τ) = (if (many : Int) = 300 then some (some (vI (-3)), P τ) else bnd (inv N mX9_keepsIn [vR 30 0, vR 48 0, vI (w32 (107 * (many : Int)))] (P τ)) (fun r S2 => ev N mX9_seeks 105 [vR 30 0, vI v, vI (many : Int), vI at', vI k, vI y5, vI y6] (push r []) S2)) := by
  intro m
  induction m with
  | zero =>
    intro j x5 hj
    refine ⟨x5, (j : Int), ?_⟩
    rw [eX9_seeks_79, if_neg (show ¬ (j : Int) < (many : Int) by omega)]
    by_cases q : x5 = 0
    · rw [if_pos q]; exact Or.inr rfl
    · rw [if_neg q]; exact Or.inl rfl
  | succ m ih =>
    intro j x5 hj
    have e1 : w32 ((j : Int) + 1) = ((j + 1 : Nat) : Int) := by rw [w32i (by omega) (by omega)]; omega
    rw [eX9_seeks_79, if_pos (show (j : Int) < (many : Int) by omega)]
    by_cases q : x5 = 0
    · obtain ⟨u, eu⟩ := m_alike (N := N) τ j many (by omega) hm
      rw [if_pos q, eu, bnd_s, push_s, eX9_seeks_88, e1]
      exact ih (j + 1) u (by omega)
    · rw [if_neg q, if_neg q]
      exact ⟨x5, (j : Int), Or.inl rfl⟩
theorem GC_seg {f g : Vec} {a : Nat} (h : GC B (seg f a)) : GC B (cpyV f g a 0 107) := GC_107 h (fun j hj => by
  have t := cpyV_in f g a 0 107 j hj
  rw [Nat.zero_add] at t
  exact t)
/-- a try, what is behind it -/
theorem m_after (hg : OKG σ 1) (he : EnvM σ σ) (v : Int) (at' many : Nat) (k : Int) (x5 x6 : MV) (h : SKp σ many τ) (hm : many ≤ 300) (ha : at' < many) (hgc : GC (2147482000 + at' + 1) (τ 40 0)) (hk : k < 3 ∨ σ 2 1 1 ≠ 0) : (∃ n υ, bnd (inv N mX9_isThere [vR 30 0, vI v] (P (sup (sup τ 50 0 (many : Int).toNat (at' : Int)) 51 0 (many : Int).toNat k))) (fun r S2 => ev N mX9_seeks 64 [vR 30 0, vI v, vI (many : Int), vI (at' : Int), vI k, x5, x6] (push r []) S2) = some (some (vI n), P υ) ∧ FIN σ n υ) ∨ (∃ (many' : Nat) (υ : Sto) (y5 y6 : Int), bnd (inv N mX9_isThere [vR 30 0, vI v] (P (sup (sup τ 50 0 (many : Int).toNat (at' : Int)) 51 0 (many : Int).toNat k))) (fun r S2 => ev N mX9_seeks 64 [vR 30 0, vI v, vI (many : Int), vI (at' : Int), vI k, x5, x6] (push r []) S2) = ev N mX9_seeks 31 [vR 30 0, vI v, vI (many' : Int), vI (at' : Int), vI (w32 (k + 1)), vI y5, vI y6] [] (P υ) ∧ SKp σ many' υ ∧ at' < many' ∧ many' ≤ 300) := by
  rw [Int.toNat_natCast, sup_row, sup_row]
  have m2 : MR σ (row (row τ 50 0 (set (τ 50 0) many (at' : Int))) 51 0 (set (row τ 50 0 (set (τ 50 0) many (at' : Int)) 51 0) many k)) := MR_row (MR_row h.1 50 (by decide) _) 51 (by decide) _
  have e48 : row (row τ 50 0 (set (τ 50 0) many (at' : Int))) 51 0 (set (row τ 50 0 (set (τ 50 0) many (at' : Int)) 51 0) many k) 48 0 = τ 48 0 := by rw [row_at, if_neg (by decide), row_at, if_neg (by decide)]
  have e40 : row (row τ 50 0 (set (τ 50 0) many (at' : Int))) 51 0 (set (row τ 50 0 (set (τ 50 0) many (at' : Int)) 51 0) many k) 40 0 = τ 40 0 := by rw [row_at, if_neg (by decide), row_at, if_neg (by decide)]
  have e50 : row (row τ 50 0 (set (τ 50 0) many (at' : Int))) 51 0 (set (row τ 50 0 (set (τ 50 0) many (at' : Int)) 51 0) many k) 50 0 = set (τ 50 0) many (at' : Int) := by rw [row_at, if_neg (by decide), row_same]
  have e51 : row (row τ 50 0 (set (τ 50 0) many (at' : Int))) 51 0 (set (row τ 50 0 (set (τ 50 0) many (at' : Int)) 51 0) many k) 51 0 = set (τ 51 0) many k := by rw [row_same, row_at, if_neg (by decide)]
  generalize row (row τ 50 0 (set (τ 50 0) many (at' : Int))) 51 0 (set (row τ 50 0 (set (τ 50 0) many (at' : Int)) 51 0) many k) = τ2 at m2 e48 e40 e50 e51
  have gc2 : GC (2147482000 + at' + 1) (τ2 40 0) := by rw [e40]; exact hgc
  have sk2 : SKp σ many τ2 := SKp_same h m2 e48 (fun s hs => by rw [e50, set_ne _ _ (by omega)]) (fun s hs => by rw [e51, set_ne _ _ (by omega)])
  have lk : (∃ p : Nat, p < many ∧ τ2 50 0 many = (p : Int)) ∧ (τ2 51 0 many < 3 ∨ σ 2 1 1 ≠ 0) := by
    refine ⟨⟨at', ha, by rw [e50, set_same]⟩, ?_⟩
    rw [e51, set_same]
    exact hk
  have lks : ∀ s : Nat, 1 ≤ s → s ≤ many → (∃ p : Nat, p < s ∧ τ2 50 0 s = (p : Int)) ∧ (τ2 51 0 s < 3 ∨ σ 2 1 1 ≠ 0) := by
    intro s s1 s2
    by_cases q : s = many
    · rw [q]; exact lk
    · exact sk2.2.2 s s1 (by omega)
  obtain ⟨u, eu⟩ := m_isThere (N := N) (GC_ok gc2) v
  rw [eu, bnd_s, push_s, eX9_seeks_64]
  by_cases q : u = 0
  case neg =>
    -- there
    rw [if_neg q]
    have m3 := MR_34 m2 (many : Int)
    have f34 : sup τ2 30 0 34 (many : Int) 30 0 34 = (many : Int) := by rw [sup_row, row_same, set_same]
    have f50 : sup τ2 30 0 34 (many : Int) 50 0 = τ2 50 0 := by rw [sup_row, row_at, if_neg (by decide)]
    have f51 : sup τ2 30 0 34 (many : Int) 51 0 = τ2 51 0 := by rw [sup_row, row_at, if_neg (by decide)]
    generalize sup τ2 30 0 34 (many : Int) = τ3 at m3 f34 f50 f51
    obtain ⟨n, n1, n2⟩ := chn_of (τ3 50 0) many (by omega) (fun s s1 s2 => by rw [f50]; exact (lks s s1 s2).1) many many (Nat.le_refl _) (Nat.le_refl _)
    have ln := m_len (N := N) τ3 (many : Int) n many 0 (by decide) (by omega) n2
    rw [iX9_lengthOf, eX9_lengthOf_0, ln, bnd_s, push_s, eX9_seeks_71]
    refine Or.inl ⟨_, _, rfl, m3, Or.inr ⟨many, n, by omega, by omega, f34, n2, fun s s1 s2 => ?_⟩⟩
    rw [f51]
    exact (lks s s1 s2).2
  obtain ⟨g, eg⟩ := m_signs (N := N) (GC_ok gc2) many hm
  rw [if_pos q, eg, bnd_s, push_n, eX9_seeks_75]
  have m3 : MR σ (row (rfM τ2) 49 0 g) := MR_row (MR_KM m2 (KM_rf τ2)) 49 (by decide) g
  have r3 : ∀ j, j ≠ 43 → j ≠ 49 → row (rfM τ2) 49 0 g j 0 = τ2 j 0 := fun j j1 j2 => by
    unfold rfM
    rw [row_at, if_neg (fun z => j2 z.1), row_at, if_neg (fun z => j1 z.1)]
  generalize row (rfM τ2) 49 0 g = τ3 at m3 r3
  have sk3 : SKp σ many τ3 := SKp_same sk2 m3 (r3 48 (by decide) (by decide)) (fun s _ => by rw [r3 50 (by decide) (by decide)]) (fun s _ => by rw [r3 51 (by decide) (by decide)])
  have gc3 : GC (2147482000 + at' + 1) (τ3 40 0) := by rw [r3 40 (by decide) (by decide)]; exact gc2
  have e0 : ((0 : Nat) : Int) = 0 := rfl
  obtain ⟨y5, y6, old⟩ := m_old (N := N) τ3 v (at' : Int) k many hm many 0 0 (by omega)
  rw [e0] at old
  rcases old with old | old
  · rw [old]
    exact Or.inr ⟨many, τ3, y5, y6, rfl, sk3, ha, hm⟩
  rw [old]
  by_cases z : (many : Int) = 300
  · rw [if_pos z]
    exact Or.inl ⟨_, _, rfl, m3, Or.inl (by decide)⟩
  have e107 : w32 (107 * (many : Int)) = ((107 * many : Nat) : Int) := by rw [w32i (by omega) (by omega)]; omega
  have em : w32 ((many : Int) + 1) = ((many + 1 : Nat) : Int) := by rw [w32i (by omega) (by omega)]; omega
  rw [if_neg z, e107, s9_keep48 (107 * many) (by omega), bnd_s, push_n, eX9_seeks_105, em]
  refine Or.inr ⟨many + 1, _, y5, y6, rfl, ⟨MR_row m3 48 (by decide) _, fun s hs => ?_, fun s s1 hs => ?_⟩, by omega, by omega⟩
  · rw [row_same]
    by_cases w : s = many
    · rw [w]
      refine GC_le (GC_107 gc3 (fun j hj => ?_)) (by omega)
      have t := cpyV_in (τ3 40 0) (τ3 48 0) 0 (107 * many) 107 j hj
      rw [Nat.zero_add] at t
      exact t
    · refine GC_107 (sk3.2.1 s (by omega)) (fun j hj => ?_)
      exact cpyV_out (τ3 40 0) (τ3 48 0) 0 (107 * many) 107 (107 * s + j) (by omega)
  · rw [row_at, if_neg (by decide), row_at, if_neg (by decide), r3 50 (by decide) (by decide), r3 51 (by decide) (by decide)]
    exact lks s s1 (by omega)
theorem m_inner (hg : OKG σ 1) (he : EnvM σ σ) (v : Int) (at' : Nat) : ∀ (m k : Nat) (τ : Sto) (many : Nat) (x5 x6 : MV), k + m = 15 → SKp σ many τ → many ≤ 300 → at' < many → (∃ n υ, ev N mX9_seeks 31 [vR 30 0, vI v, vI (many : Int), vI (at' : Int), vI (k : Int), x5, x6] [] (P τ) = some (some (vI n), P υ) ∧ FIN σ n υ) ∨ (∃ (many' : Nat) (υ : Sto) (y4 y5 y6 : MV), ev N mX9_seeks 31 [vR 30 0, vI v, vI (many : Int), vI (at' : Int), vI (k : Int), x5, x6] [] (P τ) = ev N mX9_seeks 26 [vR 30 0, vI v, vI (many' : Int), vI ((at' + 1 : Nat) : Int), y4, y5, y6] [] (P υ) ∧ SKp σ many' υ ∧ at' < many' ∧ many' ≤ 300) := by
  have i0 := hg.2.2.1
  have i1 := hg.2.2.2.1
  intro m
  induction m with
  | zero =>
    intro k τ many x5 x6 hk h hm ha
    have e6 : τ 30 0 6 = σ 2 1 1 := (MR_env h.1 he).2.2.2.1
    have w2 : w32 (3 + (w32 (2 * σ 2 1 1))) = 3 + 2 * σ 2 1 1 := by rw [w32i (x := 2 * σ 2 1 1) (by omega) (by omega), w32i (by omega) (by omega)]
    have ea : w32 ((at' : Int) + 1) = ((at' + 1 : Nat) : Int) := by rw [w32i (by omega) (by omega)]; omega
    rw [eX9_seeks_31, e6, w2, if_neg (show ¬ (k : Int) < 3 + 2 * σ 2 1 1 by omega), ea]
    exact Or.inr ⟨many, τ, _, _, _, rfl, h, ha, hm⟩
  | succ m ih =>
    intro k τ many x5 x6 hk h hm ha
    have e6 : τ 30 0 6 = σ 2 1 1 := (MR_env h.1 he).2.2.2.1
    have w2 : w32 (3 + (w32 (2 * σ 2 1 1))) = 3 + 2 * σ 2 1 1 := by rw [w32i (x := 2 * σ 2 1 1) (by omega) (by omega), w32i (by omega) (by omega)]
    have ea : w32 ((at' : Int) + 1) = ((at' + 1 : Nat) : Int) := by rw [w32i (by omega) (by omega)]; omega
    have ek : w32 ((k : Int) + 1) = ((k + 1 : Nat) : Int) := by rw [w32i (by omega) (by omega)]; omega
    have e107 : w32 (107 * (at' : Int)) = ((107 * at' : Nat) : Int) := by rw [w32i (by omega) (by omega)]; omega
    rw [eX9_seeks_31, e6, w2]
    by_cases q : (k : Int) < 3 + 2 * σ 2 1 1
    case neg =>
      rw [if_neg q, ea]
      exact Or.inr ⟨many, τ, _, _, _, rfl, h, ha, hm⟩
    have hk3 : (k : Int) < 3 ∨ σ 2 1 1 ≠ 0 := by omega
    rw [if_pos q, e107, s9_lays48 (107 * at') (by omega), bnd_s, push_n, eX9_seeks_46]
    have km1 : KM τ (row τ 40 0 (cpyV (τ 48 0) (τ 40 0) (107 * at') 0 107)) := KM_row τ 40 _ (Or.inl rfl)
    have gc1 : GC (2147482000 + at') (row τ 40 0 (cpyV (τ 48 0) (τ 40 0) (107 * at') 0 107) 40 0) := by
      rw [row_same]
      exact GC_seg (h.2.1 at' ha)
    have h1 := SKp_KM h km1
    generalize row τ 40 0 (cpyV (τ 48 0) (τ 40 0) (107 * at') 0 107) = τ1 at km1 gc1 h1
    have e61 : τ1 30 0 6 = σ 2 1 1 := (MR_env h1.1 he).2.2.2.1
    obtain ⟨u, υ, u1, u2, u3⟩ := m_tries (N := N) hg (MR_env h1.1 he) gc1 (by omega) (k : Int) (by omega) (by rw [e61]; exact hk3)
    have h2 := SKp_KM h1 u2
    rw [u1, bnd_s, push_s, eX9_seeks_49]
    by_cases z : u = 0
    · rw [if_pos z, ek]
      exact ih (k + 1) υ many x5 x6 (by omega) h2 hm ha
    have n0 : ¬ (many : Int) < 0 := by omega
    have n1 : (many : Int) < 301 := by omega
    rw [if_neg z, if_neg n0, if_pos n1, if_neg n0, if_pos n1]
    rcases m_after (N := N) hg he v at' many (k : Int) x5 x6 h2 hm ha u3 hk3 with ⟨n, ρ, r1, r2⟩ | ⟨many', ρ, y5, y6, r1, r2, r3, r4⟩
    · exact Or.inl ⟨n, ρ, r1, r2⟩
    · rw [r1, ek]
      exact ih (k + 1) ρ many' (vI y5) (vI y6) (by omega) r2 r4 r3
theorem m_outer (hg : OKG σ 1) (he : EnvM σ σ) (v : Int) : ∀ (m k : Nat) (τ : Sto) (many : Nat) (x4 x5 x6 : MV), k + m = 300 → SKp σ many τ → many ≤ 300 → ∃ n υ, ev N mX9_seeks 26 [vR 30 0, vI v, vI (many : Int), vI (k : Int), x4, x5, x6] [] (P τ) = some (some (vI n), P υ) ∧ FIN σ n υ := by
  intro m
  induction m with
  | zero =>
    intro k τ many x4 x5 x6 hk h hm
    rw [eX9_seeks_26, if_neg (show ¬ (k : Int) < (many : Int) by omega)]
    exact ⟨_, _, rfl, h.1, Or.inl (by decide)⟩
  | succ m ih =>
    intro k τ many x4 x5 x6 hk h hm
    rw [eX9_seeks_26]
    by_cases q : (k : Int) < (many : Int)
    · have e0 : ((0 : Nat) : Int) = 0 := rfl
      rw [if_pos q]
      have go := m_inner (N := N) hg he v k 15 0 τ many x5 x6 rfl h hm (by omega)
      rw [e0] at go
      rcases go with ⟨n, ρ, r1, r2⟩ | ⟨many', ρ, y4, y5, y6, r1, r2, r3, r4⟩
      · exact ⟨n, ρ, r1, r2⟩
      · rw [r1]
        exact ih (k + 1) ρ many' y4 y5 y6 (by omega) r2 r4
    · rw [if_neg q]
      exact ⟨_, _, rfl, h.1, Or.inl (by decide)⟩
theorem m_seeks (hg : OKG σ 1) (he : EnvM σ σ) (hgc : GC 2147482000 (σ 40 0)) (v : Int) : ∃ n υ, inv N mX9_seeks [vR 30 0, vI v] (P σ) = some (some (vI n), P υ) ∧ FIN σ n υ := by
  obtain ⟨u, eu⟩ := m_isThere (N := N) (GC_ok hgc) v
  rw [iX9_seeks, eX9_seeks_0, eu, bnd_s, push_s, eX9_seeks_3]
  by_cases q : u = 0
  case neg =>
    rw [if_neg q]
    refine ⟨_, _, rfl, MR_34 (MR_refl σ) 0, Or.inr ⟨0, 0, rfl, by decide, ?_, rfl, fun s s1 s2 => absurd s1 (by omega)⟩⟩
    rw [sup_row, row_same, set_same]
    rfl
  obtain ⟨g, eg⟩ := m_signs (N := N) (GC_ok hgc) 0 (by decide)
  have e0 : ((0 : Nat) : Int) = 0 := rfl
  rw [e0] at eg
  have m1 : MR σ (row (rfM σ) 49 0 g) := MR_row (MR_KM (MR_refl σ) (KM_rf σ)) 49 (by decide) g
  have r1 : row (rfM σ) 49 0 g 40 0 = σ 40 0 := by
    unfold rfM
    rw [row_at, if_neg (by decide), row_at, if_neg (by decide)]
  rw [if_pos q, eg, bnd_s, push_n, eX9_seeks_12]
  generalize row (rfM σ) 49 0 g = τ at m1 r1
  have kp := s9_keep48 (N := N) (σ := τ) 0 (by decide)
  rw [e0] at kp
  rw [kp, bnd_s, push_n, eX9_seeks_17, sup_row]
  refine m_outer hg he v 300 0 _ 1 vX vX vX rfl ⟨MR_row (MR_row m1 48 (by decide) _) 50 (by decide) _, fun s hs => ?_, fun s s1 s2 => absurd s2 (by omega)⟩ (by decide)
  have s0 : s = 0 := by omega
  rw [s0, row_at, if_neg (by decide), row_same, r1]
  refine GC_le (GC_107 hgc (fun j hj => ?_)) (by omega)
  have t := cpyV_in (σ 40 0) (τ 48 0) 0 0 107 j hj
  rw [Nat.zero_add] at t
  show cpyV (σ 40 0) (τ 48 0) 0 0 107 (107 * 0 + j) = σ 40 0 j
  rw [Nat.mul_zero, Nat.zero_add]
  exact t
theorem m_walk (τ : Sto) (im v k n : Int) (k0 : 0 ≤ k) (hi : τ 30 0 6 = im) : ∀ (d : Nat) (at' m : Nat), m ≤ 300 → chn (τ 50 0) (m + 1) at' → (m : Int) = k + d → (∀ s : Nat, 1 ≤ s → s ≤ at' → (τ 51 0 s < 3 ∨ im ≠ 0)) → ∃ ans, ev N mX9_route 40 [vR 30 0, vI v, vI k, vI n, vI (at' : Int), vI (m : Int)] [] (P τ) = some (some (vI ans), P τ) := by
  intro d
  induction d with
  | zero =>
    intro at' m hm h e hb
    obtain ⟨c1, c2, p, c3, c4, c5⟩ := h
    have n0 : ¬ (at' : Int) < 0 := by omega
    have n1 : (at' : Int) < 301 := by omega
    have b := hb at' (by omega) (Nat.le_refl _)
    rw [eX9_route_40, if_neg (show ¬ k < (m : Int) by omega), if_neg n0, if_pos n1, Int.toNat_natCast, hi]
    by_cases q : τ 51 0 at' < 3
    · rw [if_pos q]; exact ⟨_, rfl⟩
    · have i0 := b.resolve_left q
      rw [if_neg q, if_neg i0, if_neg i0]; exact ⟨_, rfl⟩
  | succ d ih =>
    intro at' m hm h e hb
    obtain ⟨c1, c2, p, c3, c4, c5⟩ := h
    have n0 : ¬ (at' : Int) < 0 := by omega
    have n1 : (at' : Int) < 301 := by omega
    cases m with
    | zero => exact absurd e (by omega)
    | succ m =>
      have e1 : w32 (((m + 1 : Nat) : Int) + (-1)) = (m : Int) := by rw [w32i (by omega) (by omega)]; omega
      rw [eX9_route_40, if_pos (show k < ((m + 1 : Nat) : Int) by omega), if_neg n0, if_pos n1, Int.toNat_natCast, c4, e1]
      exact ih p m (by omega) c5 (by omega) (fun s s1 s2 => hb s s1 (by omega))
theorem m_route {L : Int} (h : INV L σ) (hL : L < 2147480000) (a b : Int) : ∃ ans σ1, inv N mX9_route [vR 30 0, vI a, vI b] (P σ) = some (some (vI ans), P σ1) ∧ QX σ σ1 := by
  have oi := fun τ v lo hi => s9_in (N := N) (σ := τ) v lo hi
  rw [iX9_route, eX9_route_0, oi, bnd_s, push_s, eX9_route_5]
  by_cases a1 : 0 ≤ a ∧ a ≤ 30
  case neg =>
    rw [if_neg a1, if_pos rfl]
    exact ⟨_, _, rfl, QX_refl σ⟩
  rw [if_pos a1, if_neg (by decide)]
  by_cases b1 : b < -1
  · rw [if_pos b1]
    exact ⟨_, _, rfl, QX_refl σ⟩
  rw [if_neg b1, m_think0, bnd_s, push_n, eX9_route_14]
  have q1 : QX σ (row σ 42 0 (cpyV (σ 40 0) (σ 42 0) 0 (107 * 0) 107)) := QX_row σ 42 0 _ (by decide) (by decide) (by decide)
  have e42 : ∀ j, j < 107 → row σ 42 0 (cpyV (σ 40 0) (σ 42 0) 0 (107 * 0) 107) 42 0 j = σ 40 0 j := fun j hj => by
    rw [row_same, Nat.mul_zero]
    exact cpy_all _ _ hj
  generalize row σ 42 0 (cpyV (σ 40 0) (σ 42 0) 0 (107 * 0) 107) = τ at q1 e42
  have hτ := INV_QX q1 h
  have c82 := CELL_82 hτ.2.1 hL
  obtain ⟨n, υ, u1, u2, u3⟩ := m_seeks (N := N) (σ := τ) hτ.1.1 hτ.1.2.1 ⟨τ 7 0, hτ.2.1.2.1, hτ.2.1.1, c82.1, c82.2⟩ a
  rw [u1, bnd_s, push_s, eX9_route_17, m_back0, bnd_s, push_n]
  have fin : QX τ (row υ 40 0 (cpyV (υ 42 0) (υ 40 0) (107 * 0) 0 107)) := by
    have o : ∀ k k', ¬ (k' = 0 ∧ (k = 30 ∨ k = 40 ∨ k = 43 ∨ k = 44 ∨ k = 45 ∨ k = 48 ∨ k = 49 ∨ k = 50 ∨ k = 51)) → row υ 40 0 (cpyV (υ 42 0) (υ 40 0) (107 * 0) 0 107) k k' = τ k k' := fun k k' q => by
      rw [row_at, if_neg (fun z => q ⟨z.2, Or.inr (Or.inl z.1)⟩)]
      exact u2.1 k k' q
    have o30 : ∀ j, j ≠ 22 → j ≠ 23 → j ≠ 24 → j ≠ 34 → row υ 40 0 (cpyV (υ 42 0) (υ 40 0) (107 * 0) 0 107) 30 0 j = τ 30 0 j := fun j j1 j2 j3 j4 => by
      rw [row_at, if_neg (by decide)]
      exact u2.2 j j1 j2 j3 j4
    have o40 : ∀ j, j < 107 → row υ 40 0 (cpyV (υ 42 0) (υ 40 0) (107 * 0) 0 107) 40 0 j = τ 40 0 j := fun j hj => by
      rw [row_same, Nat.mul_zero, cpy_all _ _ hj, u2.1 42 0 (by decide), e42 j hj, q1.2.2.1 j hj]
    generalize row υ 40 0 (cpyV (υ 42 0) (υ 40 0) (107 * 0) 0 107) = ρ at o o30 o40
    exact ⟨⟨fun k k' q => o k k' (by omega), o30 1 (by decide) (by decide) (by decide) (by decide), o30 5 (by decide) (by decide) (by decide) (by decide), o30 6 (by decide) (by decide) (by decide) (by decide), o30 35 (by decide) (by decide) (by decide) (by decide)⟩, o 7 0 (by decide), o40, o 9 0 (by decide), o 10 0 (by decide), o 41 0 (by decide), o30 21 (by decide) (by decide) (by decide) (by decide)⟩
  have f30 : row υ 40 0 (cpyV (υ 42 0) (υ 40 0) (107 * 0) 0 107) 30 0 = υ 30 0 := by rw [row_at, if_neg (by decide)]
  have f50 : row υ 40 0 (cpyV (υ 42 0) (υ 40 0) (107 * 0) 0 107) 50 0 = υ 50 0 := by rw [row_at, if_neg (by decide)]
  have f51 : row υ 40 0 (cpyV (υ 42 0) (υ 40 0) (107 * 0) 0 107) 51 0 = υ 51 0 := by rw [row_at, if_neg (by decide)]
  have q2 := QX_trans q1 fin
  have i6 : υ 30 0 6 = τ 2 1 1 := (MR_env u2 hτ.1.2.1).2.2.2.1
  generalize row υ 40 0 (cpyV (υ 42 0) (υ 40 0) (107 * 0) 0 107) = ρ at q2 f30 f50 f51
  rw [eX9_route_21]
  by_cases n0 : n < 0
  · rw [if_pos n0]; exact ⟨_, _, rfl, q2⟩
  by_cases bn : b = -1
  · rw [if_neg n0, if_pos bn]; exact ⟨_, _, rfl, q2⟩
  by_cases bl : b < n
  case neg =>
    rw [if_neg n0, if_neg bn, if_neg bl]; exact ⟨_, _, rfl, q2⟩
  obtain ⟨g, m, g1, g2, g3, g4, g5⟩ := u3.resolve_left n0
  cases m with
  | zero => exact absurd bl (by omega)
  | succ m =>
    have e1 : w32 (n - 1) = (m : Int) := by rw [w32i (by omega) (by omega)]; omega
    rw [if_neg n0, if_neg bn, if_pos bl, e1, f30, g3]
    obtain ⟨ans, w⟩ := m_walk (N := N) ρ (τ 2 1 1) a b n (by omega) (by rw [f30]; exact i6) ((m : Int) - b).toNat g m (by omega) (by rw [f50]; exact g4) (by omega) (fun s s1 s2 => by rw [f51]; exact g5 s s1 s2)
    exact ⟨ans, ρ, w, q2⟩
theorem safe_route (a b L : Int) (σ : Sto) (h : INV L σ) (hL : L < 2147480000) : ∃ ans ans2 σ1 σ2, inv N mX8_route [vR 0 0, vI a, vI b] (P σ) = some (some (vI ans), P σ1) ∧ inv N mX9_route [vR 30 0, vI a, vI b] (P σ1) = some (some (vI ans2), P σ2) ∧ INV (L + 300) σ2 := by
  obtain ⟨ans, σ1, e1, q1⟩ := c_route (N := N) h hL a b
  obtain ⟨ans2, σ2, e2, q2⟩ := m_route (N := N) (INV_QX q1 h) hL a b
  exact ⟨ans, ans2, σ1, σ2, e1, e2, up300 (INV_QX q2 (INV_QX q1 h)) (by omega)⟩
end ROUTE
end
section
/-! THE CONSTRUCTORS (made by wip/gen/initregs.py) -/
theorem mloop_11 (N : Nat) (n i : Nat) (p : List (Nat × Nat × Nat)) (x2 : Int) (σ : Sto) : ev N mX2_init 11 [vR 6 i, vR 2 1, vI x2] [] (n, p, σ) = (if x2 < 76 then bnd (inv N mX2_setCell [vR 6 i, vI x2, vI 255] (n, p, σ)) (fun r S2 => ev N mX2_init 18 [vR 6 i, vR 2 1, vI x2] (push r []) S2) else ev N mX2_init 20 [vR 6 i, vR 2 1, vI x2] [] (n, p, σ)) := run_eq _ [11, 18, 20] 7 _ _ _ _
theorem mloop_18 (N : Nat) (n i : Nat) (p : List (Nat × Nat × Nat)) (x2 : Int) (σ : Sto) : ev N mX2_init 18 [vR 6 i, vR 2 1, vI x2] [] (n, p, σ) = (ev N mX2_init 11 [vR 6 i, vR 2 1, vI (w32 (x2 + 1))] [] (n, p, σ)) := run_eq _ [11, 18, 20] 2 _ _ _ _
theorem dloop_108 (N : Nat) (n : Nat) (p : List (Nat × Nat × Nat)) (x1 : Int) (σ : Sto) : ev N mX9_init 108 [vR 30 0, vI x1] [] (n, p, σ) = (if x1 < 20 then cond (elem3 (30, 0, 18) p) none (if w32 (56 + x1) < 0 then none else if w32 (56 + x1) < 107 then ev N mX9_init 108 [vR 30 0, vI (w32 (x1 + 1))] [] (n, p, sup (σ) 40 0 (w32 (56 + x1)).toNat 255) else none) else ev N mX9_init 120 [vR 30 0, vI x1] [] (n, p, σ)) := run_eq _ [108, 120] 12 _ _ _ _
theorem setCell_p {N : Nat} {σ : Sto} (i n : Nat) (p : List (Nat × Nat × Nat)) (x v : Int) (hp : elem3 (6, i, 1) p = false) (h0 : 0 ≤ x) (h1 : x < 107) : inv N mX2_setCell [vR 6 i, vI x, vI v] (n, p, σ) = some (none, (n, p, row σ 7 i (set (σ 7 i) x.toNat v))) := by
  have e : ev N mX2_setCell 0 [vR 6 i, vI x, vI v] [] (n, p, σ) = (if x < 0 then some (none, (n, p, σ)) else cond (elem3 (6, i, 1) p) none (if x < 107 then cond (elem3 (6, i, 1) p) none (if x < 0 then none else if x < 107 then some (none, (n, p, sup σ 7 i x.toNat v)) else none) else some (none, (n, p, σ)))) := run_eq _ [0] 20 _ _ _ _
  rw [show inv N mX2_setCell [vR 6 i, vI x, vI v] (n, p, σ) = ev N mX2_setCell 0 [vR 6 i, vI x, vI v] [] (n, p, σ) from rfl, e, hp, cond_false, cond_false, if_neg (by omega), if_pos h1, if_neg (by omega), if_pos h1, sup_row]
theorem mloop {N : Nat} {σ : Sto} (i n : Nat) (p : List (Nat × Nat × Nat)) (hp : elem3 (6, i, 1) p = false) : ev N mX2_init 11 [vR 6 i, vR 2 1, vI 56] [] (n, p, σ) = ev N mX2_init 20 [vR 6 i, vR 2 1, vI 76] [] (n, p, row σ 7 i (fill (σ 7 i) 56 20 255)) := by
  have h : ∀ (m k : Nat) (τ : Sto), k + m = 76 → 56 ≤ k → ev N mX2_init 11 [vR 6 i, vR 2 1, vI (k : Int)] [] (n, p, τ) = ev N mX2_init 20 [vR 6 i, vR 2 1, vI 76] [] (n, p, row τ 7 i (fill (τ 7 i) k m 255)) := by
    intro m
    induction m with
    | zero =>
      intro k τ hk _
      have e : k = 76 := by omega
      subst e
      rw [mloop_11, if_neg (by decide), fill_0, row_id]
      rfl
    | succ m ih =>
      intro k τ hk h56
      have e1 : w32 ((k : Int) + 1) = ((k + 1 : Nat) : Int) := by rw [w32i (by omega) (by omega)]; omega
      rw [mloop_11, if_pos (by omega), setCell_p i n p _ _ hp (by omega) (by omega), bnd_s, push_n, mloop_18, e1, ih (k + 1) _ (by omega) (by omega), row_same, row_row, Int.toNat_natCast, fill_s]
  exact h 20 56 σ rfl (Nat.le_refl _)
theorem dloop {N : Nat} {σ : Sto} (n : Nat) (p : List (Nat × Nat × Nat)) (hp : elem3 (30, 0, 18) p = false) : ev N mX9_init 108 [vR 30 0, vI 0] [] (n, p, σ) = ev N mX9_init 120 [vR 30 0, vI 20] [] (n, p, row σ 40 0 (fill (σ 40 0) 56 20 255)) := by
  have h : ∀ (m k : Nat) (τ : Sto), k + m = 20 → ev N mX9_init 108 [vR 30 0, vI (k : Int)] [] (n, p, τ) = ev N mX9_init 120 [vR 30 0, vI 20] [] (n, p, row τ 40 0 (fill (τ 40 0) (56 + k) m 255)) := by
    intro m
    induction m with
    | zero =>
      intro k τ hk
      have e : k = 20 := by omega
      subst e
      rw [dloop_108, if_neg (by decide), fill_0, row_id]
      rfl
    | succ m ih =>
      intro k τ hk
      have e1 : w32 ((k : Int) + 1) = ((k + 1 : Nat) : Int) := by rw [w32i (by omega) (by omega)]; omega
      have e2 : w32 (56 + (k : Int)) = ((56 + k : Nat) : Int) := by rw [w32i (by omega) (by omega)]; omega
      rw [dloop_108, if_pos (by omega), hp, cond_false, e2, if_neg (by omega), if_pos (by omega), e1, sup_row, ih (k + 1) _ (by omega), row_same, row_row, Int.toNat_natCast, show 56 + (k + 1) = 56 + k + 1 by omega, fill_s]
  exact h 20 0 σ rfl
theorem wa0 (N : Nat) (σ : Sto) : ev N mL_law 0 [vR 999 0, vX, vX, vX] [] (0, [], σ) = (bnd (inv N mX8_init [vR 0 0] (1, [(0, 0, 0), (0, 0, 2), (0, 0, 3), (0, 0, 4), (0, 0, 5), (0, 0, 6), (0, 0, 7), (0, 0, 8), (0, 0, 9)], zro (σ) 0 0)) (fun r S2 => ev N mL_law 3 [vR 999 0, vX, vX, vX] (push r [vR 0 0]) S2)) := run_eq _ [3, 7, 10] 3 _ _ _ _
theorem wa2 (N : Nat) (σ : Sto) : ev N mX8_init 0 [vR 0 0, vX, vX, vX, vX] [] (1, [(0, 0, 0), (0, 0, 2), (0, 0, 3), (0, 0, 4), (0, 0, 5), (0, 0, 6), (0, 0, 7), (0, 0, 8), (0, 0, 9)], σ) = (bnd (inv N mX0_init [vR 2 0] (3, [(0, 0, 0), (0, 0, 2), (0, 0, 3), (0, 0, 4), (0, 0, 5), (0, 0, 6), (0, 0, 7), (0, 0, 8), (0, 0, 9), (2, 0, 5), (2, 0, 6), (2, 0, 7)], zro (zro (σ) 1 0) 2 0)) (fun r S2 => ev N mX8_init 8 [vR 0 0, vR 1 0, vX, vX, vX] (push r [vR 2 0]) S2)) := run_eq _ [8, 12, 17, 30, 42, 49, 56, 63] 8 _ _ _ _
set_option maxRecDepth 4000 in
theorem wa4 (N : Nat) (σ : Sto) : ev N mX0_init 0 [vR 2 0] [] (3, [(0, 0, 0), (0, 0, 2), (0, 0, 3), (0, 0, 4), (0, 0, 5), (0, 0, 6), (0, 0, 7), (0, 0, 8), (0, 0, 9), (2, 0, 5), (2, 0, 6), (2, 0, 7)], σ) = (some (none, (6, [(0, 0, 0), (0, 0, 2), (0, 0, 3), (0, 0, 4), (0, 0, 5), (0, 0, 6), (0, 0, 7), (0, 0, 8), (0, 0, 9)], sup (sup (sup (zro (zro (zro (σ) 3 0) 4 0) 5 0) 2 0 2 3) 2 0 3 3) 2 0 4 20))) := run_eq _ [] 24 _ _ _ _
def gwk3 (σ : Sto) : Sto := sup (sup (sup (zro (zro (zro ((σ)) 3 0) 4 0) 5 0) 2 0 2 3) 2 0 3 3) 2 0 4 20
theorem wk3 (N : Nat) (σ : Sto) : inv N mX0_init [vR 2 0] (3, [(0, 0, 0), (0, 0, 2), (0, 0, 3), (0, 0, 4), (0, 0, 5), (0, 0, 6), (0, 0, 7), (0, 0, 8), (0, 0, 9), (2, 0, 5), (2, 0, 6), (2, 0, 7)], σ) = some (none, (6, [(0, 0, 0), (0, 0, 2), (0, 0, 3), (0, 0, 4), (0, 0, 5), (0, 0, 6), (0, 0, 7), (0, 0, 8), (0, 0, 9)], gwk3 σ)) := by
  rw [show inv N mX0_init [vR 2 0] (3, [(0, 0, 0), (0, 0, 2), (0, 0, 3), (0, 0, 4), (0, 0, 5), (0, 0, 6), (0, 0, 7), (0, 0, 8), (0, 0, 9), (2, 0, 5), (2, 0, 6), (2, 0, 7)], σ) = ev N mX0_init 0 [vR 2 0] [] (3, [(0, 0, 0), (0, 0, 2), (0, 0, 3), (0, 0, 4), (0, 0, 5), (0, 0, 6), (0, 0, 7), (0, 0, 8), (0, 0, 9), (2, 0, 5), (2, 0, 6), (2, 0, 7)], σ) from rfl, wa4]
  try rfl
theorem wa5 (N : Nat) (σ : Sto) : ev N mX8_init 8 [vR 0 0, vR 1 0, vX, vX, vX] [vR 2 0] (6, [(0, 0, 0), (0, 0, 2), (0, 0, 3), (0, 0, 4), (0, 0, 5), (0, 0, 6), (0, 0, 7), (0, 0, 8), (0, 0, 9)], σ) = (bnd (inv N mX0_init [vR 2 1] (7, [(0, 0, 0), (0, 0, 2), (0, 0, 3), (0, 0, 4), (0, 0, 5), (0, 0, 6), (0, 0, 7), (0, 0, 8), (0, 0, 9), (2, 1, 5), (2, 1, 6), (2, 1, 7)], zro (σ) 2 1)) (fun r S2 => ev N mX8_init 12 [vR 0 0, vR 1 0, vR 2 0, vX, vX] (push r [vR 2 1]) S2)) := run_eq _ [8, 12, 17, 30, 42, 49, 56, 63] 4 _ _ _ _
set_option maxRecDepth 4000 in
theorem wa7 (N : Nat) (σ : Sto) : ev N mX0_init 0 [vR 2 1] [] (7, [(0, 0, 0), (0, 0, 2), (0, 0, 3), (0, 0, 4), (0, 0, 5), (0, 0, 6), (0, 0, 7), (0, 0, 8), (0, 0, 9), (2, 1, 5), (2, 1, 6), (2, 1, 7)], σ) = (some (none, (10, [(0, 0, 0), (0, 0, 2), (0, 0, 3), (0, 0, 4), (0, 0, 5), (0, 0, 6), (0, 0, 7), (0, 0, 8), (0, 0, 9)], sup (sup (sup (zro (zro (zro (σ) 3 1) 4 1) 5 1) 2 1 2 3) 2 1 3 3) 2 1 4 20))) := run_eq _ [] 24 _ _ _ _
def gwk6 (σ : Sto) : Sto := sup (sup (sup (zro (zro (zro ((σ)) 3 1) 4 1) 5 1) 2 1 2 3) 2 1 3 3) 2 1 4 20
theorem wk6 (N : Nat) (σ : Sto) : inv N mX0_init [vR 2 1] (7, [(0, 0, 0), (0, 0, 2), (0, 0, 3), (0, 0, 4), (0, 0, 5), (0, 0, 6), (0, 0, 7), (0, 0, 8), (0, 0, 9), (2, 1, 5), (2, 1, 6), (2, 1, 7)], σ) = some (none, (10, [(0, 0, 0), (0, 0, 2), (0, 0, 3), (0, 0, 4), (0, 0, 5), (0, 0, 6), (0, 0, 7), (0, 0, 8), (0, 0, 9)], gwk6 σ)) := by
  rw [show inv N mX0_init [vR 2 1] (7, [(0, 0, 0), (0, 0, 2), (0, 0, 3), (0, 0, 4), (0, 0, 5), (0, 0, 6), (0, 0, 7), (0, 0, 8), (0, 0, 9), (2, 1, 5), (2, 1, 6), (2, 1, 7)], σ) = ev N mX0_init 0 [vR 2 1] [] (7, [(0, 0, 0), (0, 0, 2), (0, 0, 3), (0, 0, 4), (0, 0, 5), (0, 0, 6), (0, 0, 7), (0, 0, 8), (0, 0, 9), (2, 1, 5), (2, 1, 6), (2, 1, 7)], σ) from rfl, wa7]
  try rfl
theorem wa8 (N : Nat) (σ : Sto) : ev N mX8_init 12 [vR 0 0, vR 1 0, vR 2 0, vX, vX] [vR 2 1] (10, [(0, 0, 0), (0, 0, 2), (0, 0, 3), (0, 0, 4), (0, 0, 5), (0, 0, 6), (0, 0, 7), (0, 0, 8), (0, 0, 9)], σ) = (bnd (inv N mX2_init [vR 6 0, vR 2 1] (11, [(0, 0, 0), (0, 0, 2), (0, 0, 3), (0, 0, 4), (0, 0, 5), (0, 0, 6), (0, 0, 7), (0, 0, 8), (0, 0, 9), (6, 0, 0), (6, 0, 1)], zro (σ) 6 0)) (fun r S2 => ev N mX8_init 17 [vR 0 0, vR 1 0, vR 2 0, vR 2 1, vX] (push r [vR 6 0]) S2)) := run_eq _ [8, 12, 17, 30, 42, 49, 56, 63] 5 _ _ _ _
theorem wa10 (N : Nat) (σ : Sto) : ev N mX2_init 0 [vR 6 0, vR 2 1, vX] [] (11, [(0, 0, 0), (0, 0, 2), (0, 0, 3), (0, 0, 4), (0, 0, 5), (0, 0, 6), (0, 0, 7), (0, 0, 8), (0, 0, 9), (6, 0, 0), (6, 0, 1)], σ) = (ev N mX2_init 11 [vR 6 0, vR 2 1, vI 56] [] (12, [(0, 0, 0), (0, 0, 2), (0, 0, 3), (0, 0, 4), (0, 0, 5), (0, 0, 6), (0, 0, 7), (0, 0, 8), (0, 0, 9)], zro (σ) 7 0)) := run_eq _ [11, 18, 20, 24] 11 _ _ _ _
theorem wa11 (N : Nat) (σ : Sto) : ev N mX2_init 20 [vR 6 0, vR 2 1, vI 76] [] (12, [(0, 0, 0), (0, 0, 2), (0, 0, 3), (0, 0, 4), (0, 0, 5), (0, 0, 6), (0, 0, 7), (0, 0, 8), (0, 0, 9)], σ) = (bnd (inv N mX2_setCell [vR 6 0, vI 78, vI (-1)] (12, [(0, 0, 0), (0, 0, 2), (0, 0, 3), (0, 0, 4), (0, 0, 5), (0, 0, 6), (0, 0, 7), (0, 0, 8), (0, 0, 9)], σ)) (fun r S2 => ev N mX2_init 24 [vR 6 0, vR 2 1, vI 76] (push r []) S2)) := run_eq _ [11, 18, 20, 24] 4 _ _ _ _
theorem wa12 (N : Nat) (σ : Sto) : ev N mX2_init 24 [vR 6 0, vR 2 1, vI 76] [] (12, [(0, 0, 0), (0, 0, 2), (0, 0, 3), (0, 0, 4), (0, 0, 5), (0, 0, 6), (0, 0, 7), (0, 0, 8), (0, 0, 9)], σ) = (some (none, (12, [(0, 0, 0), (0, 0, 2), (0, 0, 3), (0, 0, 4), (0, 0, 5), (0, 0, 6), (0, 0, 7), (0, 0, 8), (0, 0, 9)], σ))) := run_eq _ [11, 18, 20, 24] 1 _ _ _ _
def gwk9 (σ : Sto) : Sto := (row (row (zro ((σ)) 7 0) 7 0 (fill ((zro ((σ)) 7 0) 7 0) 56 20 255)) 7 0 (set ((row (zro ((σ)) 7 0) 7 0 (fill ((zro ((σ)) 7 0) 7 0) 56 20 255)) 7 0) 78 (-1)))
theorem wk9 (N : Nat) (σ : Sto) : inv N mX2_init [vR 6 0, vR 2 1] (11, [(0, 0, 0), (0, 0, 2), (0, 0, 3), (0, 0, 4), (0, 0, 5), (0, 0, 6), (0, 0, 7), (0, 0, 8), (0, 0, 9), (6, 0, 0), (6, 0, 1)], σ) = some (none, (12, [(0, 0, 0), (0, 0, 2), (0, 0, 3), (0, 0, 4), (0, 0, 5), (0, 0, 6), (0, 0, 7), (0, 0, 8), (0, 0, 9)], gwk9 σ)) := by
  rw [show inv N mX2_init [vR 6 0, vR 2 1] (11, [(0, 0, 0), (0, 0, 2), (0, 0, 3), (0, 0, 4), (0, 0, 5), (0, 0, 6), (0, 0, 7), (0, 0, 8), (0, 0, 9), (6, 0, 0), (6, 0, 1)], σ) = ev N mX2_init 0 [vR 6 0, vR 2 1, vX] [] (11, [(0, 0, 0), (0, 0, 2), (0, 0, 3), (0, 0, 4), (0, 0, 5), (0, 0, 6), (0, 0, 7), (0, 0, 8), (0, 0, 9), (6, 0, 0), (6, 0, 1)], σ) from rfl, wa10, mloop 0 12 [(0, 0, 0), (0, 0, 2), (0, 0, 3), (0, 0, 4), (0, 0, 5), (0, 0, 6), (0, 0, 7), (0, 0, 8), (0, 0, 9)] rfl, wa11, setCell_p 0 12 [(0, 0, 0), (0, 0, 2), (0, 0, 3), (0, 0, 4), (0, 0, 5), (0, 0, 6), (0, 0, 7), (0, 0, 8), (0, 0, 9)] 78 (-1) rfl (by decide) (by decide), bnd_s, push_n, wa12]
  try rfl
theorem wa13 (N : Nat) (σ : Sto) : ev N mX8_init 17 [vR 0 0, vR 1 0, vR 2 0, vR 2 1, vX] [vR 6 0] (12, [(0, 0, 0), (0, 0, 2), (0, 0, 3), (0, 0, 4), (0, 0, 5), (0, 0, 6), (0, 0, 7), (0, 0, 8), (0, 0, 9)], σ) = (bnd (inv N mX4_init [vR 8 0, vR 1 0, vR 2 0] (13, [(0, 0, 2), (0, 0, 4), (0, 0, 5), (0, 0, 6), (0, 0, 7), (0, 0, 8), (0, 0, 9), (8, 0, 0), (8, 0, 1)], zro (σ) 8 0)) (fun r S2 => ev N mX8_init 30 [vR 0 0, vR 1 0, vR 2 0, vR 2 1, vR 6 0] (push r [vR 8 0, vR 0 0]) S2)) := run_eq _ [8, 12, 17, 30, 42, 49, 56, 63] 13 _ _ _ _
theorem wa15 (N : Nat) (σ : Sto) : ev N mX4_init 0 [vR 8 0, vR 1 0, vR 2 0] [] (13, [(0, 0, 2), (0, 0, 4), (0, 0, 5), (0, 0, 6), (0, 0, 7), (0, 0, 8), (0, 0, 9), (8, 0, 0), (8, 0, 1)], σ) = (some (none, (13, [(0, 0, 2), (0, 0, 4), (0, 0, 5), (0, 0, 6), (0, 0, 7), (0, 0, 8), (0, 0, 9)], σ))) := run_eq _ [] 9 _ _ _ _
def gwk14 (σ : Sto) : Sto := (σ)
theorem wk14 (N : Nat) (σ : Sto) : inv N mX4_init [vR 8 0, vR 1 0, vR 2 0] (13, [(0, 0, 2), (0, 0, 4), (0, 0, 5), (0, 0, 6), (0, 0, 7), (0, 0, 8), (0, 0, 9), (8, 0, 0), (8, 0, 1)], σ) = some (none, (13, [(0, 0, 2), (0, 0, 4), (0, 0, 5), (0, 0, 6), (0, 0, 7), (0, 0, 8), (0, 0, 9)], gwk14 σ)) := by
  rw [show inv N mX4_init [vR 8 0, vR 1 0, vR 2 0] (13, [(0, 0, 2), (0, 0, 4), (0, 0, 5), (0, 0, 6), (0, 0, 7), (0, 0, 8), (0, 0, 9), (8, 0, 0), (8, 0, 1)], σ) = ev N mX4_init 0 [vR 8 0, vR 1 0, vR 2 0] [] (13, [(0, 0, 2), (0, 0, 4), (0, 0, 5), (0, 0, 6), (0, 0, 7), (0, 0, 8), (0, 0, 9), (8, 0, 0), (8, 0, 1)], σ) from rfl, wa15]
  try rfl
theorem wa16 (N : Nat) (σ : Sto) : ev N mX8_init 30 [vR 0 0, vR 1 0, vR 2 0, vR 2 1, vR 6 0] [vR 8 0, vR 0 0] (13, [(0, 0, 2), (0, 0, 4), (0, 0, 5), (0, 0, 6), (0, 0, 7), (0, 0, 8), (0, 0, 9)], σ) = (bnd (inv N mX3_init [vR 9 0, vR 6 0] (14, [(0, 0, 6), (0, 0, 7), (0, 0, 8), (0, 0, 9), (9, 0, 0), (9, 0, 1)], zro (σ) 9 0)) (fun r S2 => ev N mX8_init 42 [vR 0 0, vR 1 0, vR 2 0, vR 2 1, vR 6 0] (push r [vR 9 0, vR 0 0]) S2)) := run_eq _ [8, 12, 17, 30, 42, 49, 56, 63] 12 _ _ _ _
theorem wa18 (N : Nat) (σ : Sto) : ev N mX3_init 0 [vR 9 0, vR 6 0] [] (14, [(0, 0, 6), (0, 0, 7), (0, 0, 8), (0, 0, 9), (9, 0, 0), (9, 0, 1)], σ) = (some (none, (15, [(0, 0, 6), (0, 0, 7), (0, 0, 8), (0, 0, 9)], zro (σ) 10 0))) := run_eq _ [] 10 _ _ _ _
def gwk17 (σ : Sto) : Sto := zro ((σ)) 10 0
theorem wk17 (N : Nat) (σ : Sto) : inv N mX3_init [vR 9 0, vR 6 0] (14, [(0, 0, 6), (0, 0, 7), (0, 0, 8), (0, 0, 9), (9, 0, 0), (9, 0, 1)], σ) = some (none, (15, [(0, 0, 6), (0, 0, 7), (0, 0, 8), (0, 0, 9)], gwk17 σ)) := by
  rw [show inv N mX3_init [vR 9 0, vR 6 0] (14, [(0, 0, 6), (0, 0, 7), (0, 0, 8), (0, 0, 9), (9, 0, 0), (9, 0, 1)], σ) = ev N mX3_init 0 [vR 9 0, vR 6 0] [] (14, [(0, 0, 6), (0, 0, 7), (0, 0, 8), (0, 0, 9), (9, 0, 0), (9, 0, 1)], σ) from rfl, wa18]
  try rfl
theorem wa19 (N : Nat) (σ : Sto) : ev N mX8_init 42 [vR 0 0, vR 1 0, vR 2 0, vR 2 1, vR 6 0] [vR 9 0, vR 0 0] (15, [(0, 0, 6), (0, 0, 7), (0, 0, 8), (0, 0, 9)], σ) = (bnd (inv N mX7_init [vR 11 0, vR 2 1, vR 6 0] (16, [(0, 0, 7), (0, 0, 8), (0, 0, 9), (11, 0, 0), (11, 0, 1), (11, 0, 2)], zro (σ) 11 0)) (fun r S2 => ev N mX8_init 49 [vR 0 0, vR 1 0, vR 2 0, vR 2 1, vR 6 0] (push r [vR 11 0, vR 0 0]) S2)) := run_eq _ [8, 12, 17, 30, 42, 49, 56, 63] 7 _ _ _ _
theorem wa21 (N : Nat) (σ : Sto) : ev N mX7_init 0 [vR 11 0, vR 2 1, vR 6 0] [] (16, [(0, 0, 7), (0, 0, 8), (0, 0, 9), (11, 0, 0), (11, 0, 1), (11, 0, 2)], σ) = (bnd (inv N mX2_init [vR 6 1, vR 2 1] (17, [(0, 0, 7), (0, 0, 8), (0, 0, 9), (11, 0, 1), (11, 0, 2), (6, 1, 0), (6, 1, 1)], zro (σ) 6 1)) (fun r S2 => ev N mX7_init 10 [vR 11 0, vR 2 1, vR 6 0] (push r [vR 6 1, vR 11 0]) S2)) := run_eq _ [10, 16] 10 _ _ _ _
theorem wa23 (N : Nat) (σ : Sto) : ev N mX2_init 0 [vR 6 1, vR 2 1, vX] [] (17, [(0, 0, 7), (0, 0, 8), (0, 0, 9), (11, 0, 1), (11, 0, 2), (6, 1, 0), (6, 1, 1)], σ) = (ev N mX2_init 11 [vR 6 1, vR 2 1, vI 56] [] (18, [(0, 0, 7), (0, 0, 8), (0, 0, 9), (11, 0, 1), (11, 0, 2)], zro (σ) 7 1)) := run_eq _ [11, 18, 20, 24] 11 _ _ _ _
theorem wa24 (N : Nat) (σ : Sto) : ev N mX2_init 20 [vR 6 1, vR 2 1, vI 76] [] (18, [(0, 0, 7), (0, 0, 8), (0, 0, 9), (11, 0, 1), (11, 0, 2)], σ) = (bnd (inv N mX2_setCell [vR 6 1, vI 78, vI (-1)] (18, [(0, 0, 7), (0, 0, 8), (0, 0, 9), (11, 0, 1), (11, 0, 2)], σ)) (fun r S2 => ev N mX2_init 24 [vR 6 1, vR 2 1, vI 76] (push r []) S2)) := run_eq _ [11, 18, 20, 24] 4 _ _ _ _
theorem wa25 (N : Nat) (σ : Sto) : ev N mX2_init 24 [vR 6 1, vR 2 1, vI 76] [] (18, [(0, 0, 7), (0, 0, 8), (0, 0, 9), (11, 0, 1), (11, 0, 2)], σ) = (some (none, (18, [(0, 0, 7), (0, 0, 8), (0, 0, 9), (11, 0, 1), (11, 0, 2)], σ))) := run_eq _ [11, 18, 20, 24] 1 _ _ _ _
def gwk22 (σ : Sto) : Sto := (row (row (zro ((σ)) 7 1) 7 1 (fill ((zro ((σ)) 7 1) 7 1) 56 20 255)) 7 1 (set ((row (zro ((σ)) 7 1) 7 1 (fill ((zro ((σ)) 7 1) 7 1) 56 20 255)) 7 1) 78 (-1)))
theorem wk22 (N : Nat) (σ : Sto) : inv N mX2_init [vR 6 1, vR 2 1] (17, [(0, 0, 7), (0, 0, 8), (0, 0, 9), (11, 0, 1), (11, 0, 2), (6, 1, 0), (6, 1, 1)], σ) = some (none, (18, [(0, 0, 7), (0, 0, 8), (0, 0, 9), (11, 0, 1), (11, 0, 2)], gwk22 σ)) := by
  rw [show inv N mX2_init [vR 6 1, vR 2 1] (17, [(0, 0, 7), (0, 0, 8), (0, 0, 9), (11, 0, 1), (11, 0, 2), (6, 1, 0), (6, 1, 1)], σ) = ev N mX2_init 0 [vR 6 1, vR 2 1, vX] [] (17, [(0, 0, 7), (0, 0, 8), (0, 0, 9), (11, 0, 1), (11, 0, 2), (6, 1, 0), (6, 1, 1)], σ) from rfl, wa23, mloop 1 18 [(0, 0, 7), (0, 0, 8), (0, 0, 9), (11, 0, 1), (11, 0, 2)] rfl, wa24, setCell_p 1 18 [(0, 0, 7), (0, 0, 8), (0, 0, 9), (11, 0, 1), (11, 0, 2)] 78 (-1) rfl (by decide) (by decide), bnd_s, push_n, wa25]
  try rfl
theorem wa26 (N : Nat) (σ : Sto) : ev N mX7_init 10 [vR 11 0, vR 2 1, vR 6 0] [vR 6 1, vR 11 0] (18, [(0, 0, 7), (0, 0, 8), (0, 0, 9), (11, 0, 1), (11, 0, 2)], σ) = (bnd (inv N mX2_init [vR 6 2, vR 2 1] (19, [(0, 0, 7), (0, 0, 8), (0, 0, 9), (11, 0, 2), (6, 2, 0), (6, 2, 1)], zro (σ) 6 2)) (fun r S2 => ev N mX7_init 16 [vR 11 0, vR 2 1, vR 6 0] (push r [vR 6 2, vR 11 0]) S2)) := run_eq _ [10, 16] 6 _ _ _ _
theorem wa28 (N : Nat) (σ : Sto) : ev N mX2_init 0 [vR 6 2, vR 2 1, vX] [] (19, [(0, 0, 7), (0, 0, 8), (0, 0, 9), (11, 0, 2), (6, 2, 0), (6, 2, 1)], σ) = (ev N mX2_init 11 [vR 6 2, vR 2 1, vI 56] [] (20, [(0, 0, 7), (0, 0, 8), (0, 0, 9), (11, 0, 2)], zro (σ) 7 2)) := run_eq _ [11, 18, 20, 24] 11 _ _ _ _
theorem wa29 (N : Nat) (σ : Sto) : ev N mX2_init 20 [vR 6 2, vR 2 1, vI 76] [] (20, [(0, 0, 7), (0, 0, 8), (0, 0, 9), (11, 0, 2)], σ) = (bnd (inv N mX2_setCell [vR 6 2, vI 78, vI (-1)] (20, [(0, 0, 7), (0, 0, 8), (0, 0, 9), (11, 0, 2)], σ)) (fun r S2 => ev N mX2_init 24 [vR 6 2, vR 2 1, vI 76] (push r []) S2)) := run_eq _ [11, 18, 20, 24] 4 _ _ _ _
theorem wa30 (N : Nat) (σ : Sto) : ev N mX2_init 24 [vR 6 2, vR 2 1, vI 76] [] (20, [(0, 0, 7), (0, 0, 8), (0, 0, 9), (11, 0, 2)], σ) = (some (none, (20, [(0, 0, 7), (0, 0, 8), (0, 0, 9), (11, 0, 2)], σ))) := run_eq _ [11, 18, 20, 24] 1 _ _ _ _
def gwk27 (σ : Sto) : Sto := (row (row (zro ((σ)) 7 2) 7 2 (fill ((zro ((σ)) 7 2) 7 2) 56 20 255)) 7 2 (set ((row (zro ((σ)) 7 2) 7 2 (fill ((zro ((σ)) 7 2) 7 2) 56 20 255)) 7 2) 78 (-1)))
theorem wk27 (N : Nat) (σ : Sto) : inv N mX2_init [vR 6 2, vR 2 1] (19, [(0, 0, 7), (0, 0, 8), (0, 0, 9), (11, 0, 2), (6, 2, 0), (6, 2, 1)], σ) = some (none, (20, [(0, 0, 7), (0, 0, 8), (0, 0, 9), (11, 0, 2)], gwk27 σ)) := by
  rw [show inv N mX2_init [vR 6 2, vR 2 1] (19, [(0, 0, 7), (0, 0, 8), (0, 0, 9), (11, 0, 2), (6, 2, 0), (6, 2, 1)], σ) = ev N mX2_init 0 [vR 6 2, vR 2 1, vX] [] (19, [(0, 0, 7), (0, 0, 8), (0, 0, 9), (11, 0, 2), (6, 2, 0), (6, 2, 1)], σ) from rfl, wa28, mloop 2 20 [(0, 0, 7), (0, 0, 8), (0, 0, 9), (11, 0, 2)] rfl, wa29, setCell_p 2 20 [(0, 0, 7), (0, 0, 8), (0, 0, 9), (11, 0, 2)] 78 (-1) rfl (by decide) (by decide), bnd_s, push_n, wa30]
  try rfl
theorem wa31 (N : Nat) (σ : Sto) : ev N mX7_init 16 [vR 11 0, vR 2 1, vR 6 0] [vR 6 2, vR 11 0] (20, [(0, 0, 7), (0, 0, 8), (0, 0, 9), (11, 0, 2)], σ) = (some (none, (20, [(0, 0, 7), (0, 0, 8), (0, 0, 9)], σ))) := run_eq _ [10, 16] 2 _ _ _ _
def gwk20 (σ : Sto) : Sto := (gwk27 (zro ((gwk22 (zro ((σ)) 6 1))) 6 2))
theorem wk20 (N : Nat) (σ : Sto) : inv N mX7_init [vR 11 0, vR 2 1, vR 6 0] (16, [(0, 0, 7), (0, 0, 8), (0, 0, 9), (11, 0, 0), (11, 0, 1), (11, 0, 2)], σ) = some (none, (20, [(0, 0, 7), (0, 0, 8), (0, 0, 9)], gwk20 σ)) := by
  rw [show inv N mX7_init [vR 11 0, vR 2 1, vR 6 0] (16, [(0, 0, 7), (0, 0, 8), (0, 0, 9), (11, 0, 0), (11, 0, 1), (11, 0, 2)], σ) = ev N mX7_init 0 [vR 11 0, vR 2 1, vR 6 0] [] (16, [(0, 0, 7), (0, 0, 8), (0, 0, 9), (11, 0, 0), (11, 0, 1), (11, 0, 2)], σ) from rfl, wa21, wk22, bnd_s, push_n, wa26, wk27, bnd_s, push_n, wa31]
  try rfl
theorem wa32 (N : Nat) (σ : Sto) : ev N mX8_init 49 [vR 0 0, vR 1 0, vR 2 0, vR 2 1, vR 6 0] [vR 11 0, vR 0 0] (20, [(0, 0, 7), (0, 0, 8), (0, 0, 9)], σ) = (bnd (inv N mX1_init [vR 12 0, vR 2 1, vR 6 0] (21, [(0, 0, 8), (0, 0, 9), (12, 0, 0), (12, 0, 1), (12, 0, 2), (12, 0, 3)], zro (σ) 12 0)) (fun r S2 => ev N mX8_init 56 [vR 0 0, vR 1 0, vR 2 0, vR 2 1, vR 6 0] (push r [vR 12 0, vR 0 0]) S2)) := run_eq _ [8, 12, 17, 30, 42, 49, 56, 63] 7 _ _ _ _
theorem wa34 (N : Nat) (σ : Sto) : ev N mX1_init 0 [vR 12 0, vR 2 1, vR 6 0] [] (21, [(0, 0, 8), (0, 0, 9), (12, 0, 0), (12, 0, 1), (12, 0, 2), (12, 0, 3)], σ) = (bnd (inv N mX2_init [vR 6 3, vR 2 1] (22, [(0, 0, 8), (0, 0, 9), (12, 0, 2), (12, 0, 3), (6, 3, 0), (6, 3, 1)], zro (σ) 6 3)) (fun r S2 => ev N mX1_init 13 [vR 12 0, vR 2 1, vR 6 0] (push r [vR 6 3, vR 12 0]) S2)) := run_eq _ [13] 13 _ _ _ _
theorem wa36 (N : Nat) (σ : Sto) : ev N mX2_init 0 [vR 6 3, vR 2 1, vX] [] (22, [(0, 0, 8), (0, 0, 9), (12, 0, 2), (12, 0, 3), (6, 3, 0), (6, 3, 1)], σ) = (ev N mX2_init 11 [vR 6 3, vR 2 1, vI 56] [] (23, [(0, 0, 8), (0, 0, 9), (12, 0, 2), (12, 0, 3)], zro (σ) 7 3)) := run_eq _ [11, 18, 20, 24] 11 _ _ _ _
theorem wa37 (N : Nat) (σ : Sto) : ev N mX2_init 20 [vR 6 3, vR 2 1, vI 76] [] (23, [(0, 0, 8), (0, 0, 9), (12, 0, 2), (12, 0, 3)], σ) = (bnd (inv N mX2_setCell [vR 6 3, vI 78, vI (-1)] (23, [(0, 0, 8), (0, 0, 9), (12, 0, 2), (12, 0, 3)], σ)) (fun r S2 => ev N mX2_init 24 [vR 6 3, vR 2 1, vI 76] (push r []) S2)) := run_eq _ [11, 18, 20, 24] 4 _ _ _ _
theorem wa38 (N : Nat) (σ : Sto) : ev N mX2_init 24 [vR 6 3, vR 2 1, vI 76] [] (23, [(0, 0, 8), (0, 0, 9), (12, 0, 2), (12, 0, 3)], σ) = (some (none, (23, [(0, 0, 8), (0, 0, 9), (12, 0, 2), (12, 0, 3)], σ))) := run_eq _ [11, 18, 20, 24] 1 _ _ _ _
def gwk35 (σ : Sto) : Sto := (row (row (zro ((σ)) 7 3) 7 3 (fill ((zro ((σ)) 7 3) 7 3) 56 20 255)) 7 3 (set ((row (zro ((σ)) 7 3) 7 3 (fill ((zro ((σ)) 7 3) 7 3) 56 20 255)) 7 3) 78 (-1)))
theorem wk35 (N : Nat) (σ : Sto) : inv N mX2_init [vR 6 3, vR 2 1] (22, [(0, 0, 8), (0, 0, 9), (12, 0, 2), (12, 0, 3), (6, 3, 0), (6, 3, 1)], σ) = some (none, (23, [(0, 0, 8), (0, 0, 9), (12, 0, 2), (12, 0, 3)], gwk35 σ)) := by
  rw [show inv N mX2_init [vR 6 3, vR 2 1] (22, [(0, 0, 8), (0, 0, 9), (12, 0, 2), (12, 0, 3), (6, 3, 0), (6, 3, 1)], σ) = ev N mX2_init 0 [vR 6 3, vR 2 1, vX] [] (22, [(0, 0, 8), (0, 0, 9), (12, 0, 2), (12, 0, 3), (6, 3, 0), (6, 3, 1)], σ) from rfl, wa36, mloop 3 23 [(0, 0, 8), (0, 0, 9), (12, 0, 2), (12, 0, 3)] rfl, wa37, setCell_p 3 23 [(0, 0, 8), (0, 0, 9), (12, 0, 2), (12, 0, 3)] 78 (-1) rfl (by decide) (by decide), bnd_s, push_n, wa38]
  try rfl
theorem wa39 (N : Nat) (σ : Sto) : ev N mX1_init 13 [vR 12 0, vR 2 1, vR 6 0] [vR 6 3, vR 12 0] (23, [(0, 0, 8), (0, 0, 9), (12, 0, 2), (12, 0, 3)], σ) = (some (none, (24, [(0, 0, 8), (0, 0, 9)], zro (σ) 13 0))) := run_eq _ [13] 6 _ _ _ _
def gwk33 (σ : Sto) : Sto := zro ((gwk35 (zro ((σ)) 6 3))) 13 0
theorem wk33 (N : Nat) (σ : Sto) : inv N mX1_init [vR 12 0, vR 2 1, vR 6 0] (21, [(0, 0, 8), (0, 0, 9), (12, 0, 0), (12, 0, 1), (12, 0, 2), (12, 0, 3)], σ) = some (none, (24, [(0, 0, 8), (0, 0, 9)], gwk33 σ)) := by
  rw [show inv N mX1_init [vR 12 0, vR 2 1, vR 6 0] (21, [(0, 0, 8), (0, 0, 9), (12, 0, 0), (12, 0, 1), (12, 0, 2), (12, 0, 3)], σ) = ev N mX1_init 0 [vR 12 0, vR 2 1, vR 6 0] [] (21, [(0, 0, 8), (0, 0, 9), (12, 0, 0), (12, 0, 1), (12, 0, 2), (12, 0, 3)], σ) from rfl, wa34, wk35, bnd_s, push_n, wa39]
  try rfl
theorem wa40 (N : Nat) (σ : Sto) : ev N mX8_init 56 [vR 0 0, vR 1 0, vR 2 0, vR 2 1, vR 6 0] [vR 12 0, vR 0 0] (24, [(0, 0, 8), (0, 0, 9)], σ) = (bnd (inv N mX5_init [vR 14 0, vR 2 1, vR 6 0] (25, [(0, 0, 9), (14, 0, 0), (14, 0, 1), (14, 0, 2), (14, 0, 3), (14, 0, 4), (14, 0, 5), (14, 0, 6), (14, 0, 7), (14, 0, 8)], zro (σ) 14 0)) (fun r S2 => ev N mX8_init 63 [vR 0 0, vR 1 0, vR 2 0, vR 2 1, vR 6 0] (push r [vR 14 0, vR 0 0]) S2)) := run_eq _ [8, 12, 17, 30, 42, 49, 56, 63] 7 _ _ _ _
theorem wa42 (N : Nat) (σ : Sto) : ev N mX5_init 0 [vR 14 0, vR 2 1, vR 6 0] [] (25, [(0, 0, 9), (14, 0, 0), (14, 0, 1), (14, 0, 2), (14, 0, 3), (14, 0, 4), (14, 0, 5), (14, 0, 6), (14, 0, 7), (14, 0, 8)], σ) = (bnd (inv N mX2_init [vR 6 4, vR 2 1] (26, [(0, 0, 9), (14, 0, 2), (14, 0, 3), (14, 0, 4), (14, 0, 5), (14, 0, 6), (14, 0, 7), (14, 0, 8), (6, 4, 0), (6, 4, 1)], zro (σ) 6 4)) (fun r S2 => ev N mX5_init 13 [vR 14 0, vR 2 1, vR 6 0] (push r [vR 6 4, vR 14 0]) S2)) := run_eq _ [13] 13 _ _ _ _
theorem wa44 (N : Nat) (σ : Sto) : ev N mX2_init 0 [vR 6 4, vR 2 1, vX] [] (26, [(0, 0, 9), (14, 0, 2), (14, 0, 3), (14, 0, 4), (14, 0, 5), (14, 0, 6), (14, 0, 7), (14, 0, 8), (6, 4, 0), (6, 4, 1)], σ) = (ev N mX2_init 11 [vR 6 4, vR 2 1, vI 56] [] (27, [(0, 0, 9), (14, 0, 2), (14, 0, 3), (14, 0, 4), (14, 0, 5), (14, 0, 6), (14, 0, 7), (14, 0, 8)], zro (σ) 7 4)) := run_eq _ [11, 18, 20, 24] 11 _ _ _ _
theorem wa45 (N : Nat) (σ : Sto) : ev N mX2_init 20 [vR 6 4, vR 2 1, vI 76] [] (27, [(0, 0, 9), (14, 0, 2), (14, 0, 3), (14, 0, 4), (14, 0, 5), (14, 0, 6), (14, 0, 7), (14, 0, 8)], σ) = (bnd (inv N mX2_setCell [vR 6 4, vI 78, vI (-1)] (27, [(0, 0, 9), (14, 0, 2), (14, 0, 3), (14, 0, 4), (14, 0, 5), (14, 0, 6), (14, 0, 7), (14, 0, 8)], σ)) (fun r S2 => ev N mX2_init 24 [vR 6 4, vR 2 1, vI 76] (push r []) S2)) := run_eq _ [11, 18, 20, 24] 4 _ _ _ _
theorem wa46 (N : Nat) (σ : Sto) : ev N mX2_init 24 [vR 6 4, vR 2 1, vI 76] [] (27, [(0, 0, 9), (14, 0, 2), (14, 0, 3), (14, 0, 4), (14, 0, 5), (14, 0, 6), (14, 0, 7), (14, 0, 8)], σ) = (some (none, (27, [(0, 0, 9), (14, 0, 2), (14, 0, 3), (14, 0, 4), (14, 0, 5), (14, 0, 6), (14, 0, 7), (14, 0, 8)], σ))) := run_eq _ [11, 18, 20, 24] 1 _ _ _ _
def gwk43 (σ : Sto) : Sto := (row (row (zro ((σ)) 7 4) 7 4 (fill ((zro ((σ)) 7 4) 7 4) 56 20 255)) 7 4 (set ((row (zro ((σ)) 7 4) 7 4 (fill ((zro ((σ)) 7 4) 7 4) 56 20 255)) 7 4) 78 (-1)))
theorem wk43 (N : Nat) (σ : Sto) : inv N mX2_init [vR 6 4, vR 2 1] (26, [(0, 0, 9), (14, 0, 2), (14, 0, 3), (14, 0, 4), (14, 0, 5), (14, 0, 6), (14, 0, 7), (14, 0, 8), (6, 4, 0), (6, 4, 1)], σ) = some (none, (27, [(0, 0, 9), (14, 0, 2), (14, 0, 3), (14, 0, 4), (14, 0, 5), (14, 0, 6), (14, 0, 7), (14, 0, 8)], gwk43 σ)) := by
  rw [show inv N mX2_init [vR 6 4, vR 2 1] (26, [(0, 0, 9), (14, 0, 2), (14, 0, 3), (14, 0, 4), (14, 0, 5), (14, 0, 6), (14, 0, 7), (14, 0, 8), (6, 4, 0), (6, 4, 1)], σ) = ev N mX2_init 0 [vR 6 4, vR 2 1, vX] [] (26, [(0, 0, 9), (14, 0, 2), (14, 0, 3), (14, 0, 4), (14, 0, 5), (14, 0, 6), (14, 0, 7), (14, 0, 8), (6, 4, 0), (6, 4, 1)], σ) from rfl, wa44, mloop 4 27 [(0, 0, 9), (14, 0, 2), (14, 0, 3), (14, 0, 4), (14, 0, 5), (14, 0, 6), (14, 0, 7), (14, 0, 8)] rfl, wa45, setCell_p 4 27 [(0, 0, 9), (14, 0, 2), (14, 0, 3), (14, 0, 4), (14, 0, 5), (14, 0, 6), (14, 0, 7), (14, 0, 8)] 78 (-1) rfl (by decide) (by decide), bnd_s, push_n, wa46]
  try rfl
set_option maxRecDepth 4000 in
theorem wa47 (N : Nat) (σ : Sto) : ev N mX5_init 13 [vR 14 0, vR 2 1, vR 6 0] [vR 6 4, vR 14 0] (27, [(0, 0, 9), (14, 0, 2), (14, 0, 3), (14, 0, 4), (14, 0, 5), (14, 0, 6), (14, 0, 7), (14, 0, 8)], σ) = (some (none, (33, [(0, 0, 9)], zro (zro (zro (zro (zro (zro (σ) 15 0) 16 0) 17 0) 18 0) 19 0) 20 0))) := run_eq _ [13] 26 _ _ _ _
def gwk41 (σ : Sto) : Sto := zro (zro (zro (zro (zro (zro ((gwk43 (zro ((σ)) 6 4))) 15 0) 16 0) 17 0) 18 0) 19 0) 20 0
theorem wk41 (N : Nat) (σ : Sto) : inv N mX5_init [vR 14 0, vR 2 1, vR 6 0] (25, [(0, 0, 9), (14, 0, 0), (14, 0, 1), (14, 0, 2), (14, 0, 3), (14, 0, 4), (14, 0, 5), (14, 0, 6), (14, 0, 7), (14, 0, 8)], σ) = some (none, (33, [(0, 0, 9)], gwk41 σ)) := by
  rw [show inv N mX5_init [vR 14 0, vR 2 1, vR 6 0] (25, [(0, 0, 9), (14, 0, 0), (14, 0, 1), (14, 0, 2), (14, 0, 3), (14, 0, 4), (14, 0, 5), (14, 0, 6), (14, 0, 7), (14, 0, 8)], σ) = ev N mX5_init 0 [vR 14 0, vR 2 1, vR 6 0] [] (25, [(0, 0, 9), (14, 0, 0), (14, 0, 1), (14, 0, 2), (14, 0, 3), (14, 0, 4), (14, 0, 5), (14, 0, 6), (14, 0, 7), (14, 0, 8)], σ) from rfl, wa42, wk43, bnd_s, push_n, wa47]
  try rfl
theorem wa48 (N : Nat) (σ : Sto) : ev N mX8_init 63 [vR 0 0, vR 1 0, vR 2 0, vR 2 1, vR 6 0] [vR 14 0, vR 0 0] (33, [(0, 0, 9)], σ) = (some (none, (33, [], σ))) := run_eq _ [8, 12, 17, 30, 42, 49, 56, 63] 2 _ _ _ _
def gwk1 (σ : Sto) : Sto := (gwk41 (zro ((gwk33 (zro ((gwk20 (zro ((gwk17 (zro ((gwk14 (zro ((gwk9 (zro ((gwk6 (zro ((gwk3 (zro (zro ((σ)) 1 0) 2 0))) 2 1))) 6 0))) 8 0))) 9 0))) 11 0))) 12 0))) 14 0))
theorem wk1 (N : Nat) (σ : Sto) : inv N mX8_init [vR 0 0] (1, [(0, 0, 0), (0, 0, 2), (0, 0, 3), (0, 0, 4), (0, 0, 5), (0, 0, 6), (0, 0, 7), (0, 0, 8), (0, 0, 9)], σ) = some (none, (33, [], gwk1 σ)) := by
  rw [show inv N mX8_init [vR 0 0] (1, [(0, 0, 0), (0, 0, 2), (0, 0, 3), (0, 0, 4), (0, 0, 5), (0, 0, 6), (0, 0, 7), (0, 0, 8), (0, 0, 9)], σ) = ev N mX8_init 0 [vR 0 0, vX, vX, vX, vX] [] (1, [(0, 0, 0), (0, 0, 2), (0, 0, 3), (0, 0, 4), (0, 0, 5), (0, 0, 6), (0, 0, 7), (0, 0, 8), (0, 0, 9)], σ) from rfl, wa2, wk3, bnd_s, push_n, wa5, wk6, bnd_s, push_n, wa8, wk9, bnd_s, push_n, wa13, wk14, bnd_s, push_n, wa16, wk17, bnd_s, push_n, wa19, wk20, bnd_s, push_n, wa32, wk33, bnd_s, push_n, wa40, wk41, bnd_s, push_n, wa48]
  try rfl
theorem wa49 (N : Nat) (σ : Sto) : ev N mL_law 3 [vR 999 0, vX, vX, vX] [vR 0 0] (33, [], σ) = (bnd (inv N mX9_init [vR 30 0] (34, [(30, 0, 0), (30, 0, 10), (30, 0, 11), (30, 0, 12), (30, 0, 13), (30, 0, 14), (30, 0, 15), (30, 0, 16), (30, 0, 17), (30, 0, 18), (30, 0, 19), (30, 0, 20), (30, 0, 25), (30, 0, 26), (30, 0, 27), (30, 0, 28), (30, 0, 29), (30, 0, 30), (30, 0, 31), (30, 0, 32), (30, 0, 33)], zro (σ) 30 0)) (fun r S2 => ev N mL_law 7 [vR 999 0, vR 0 0, vX, vX] (push r [vR 30 0]) S2)) := run_eq _ [3, 7, 10] 4 _ _ _ _
theorem wa51 (N : Nat) (σ : Sto) : ev N mX9_init 0 [vR 30 0, vX] [] (34, [(30, 0, 0), (30, 0, 10), (30, 0, 11), (30, 0, 12), (30, 0, 13), (30, 0, 14), (30, 0, 15), (30, 0, 16), (30, 0, 17), (30, 0, 18), (30, 0, 19), (30, 0, 20), (30, 0, 25), (30, 0, 26), (30, 0, 27), (30, 0, 28), (30, 0, 29), (30, 0, 30), (30, 0, 31), (30, 0, 32), (30, 0, 33)], σ) = (ev N mX9_init 10 [vR 30 0, vX] [] (36, [(30, 0, 11), (30, 0, 12), (30, 0, 13), (30, 0, 14), (30, 0, 15), (30, 0, 16), (30, 0, 17), (30, 0, 18), (30, 0, 19), (30, 0, 20), (30, 0, 25), (30, 0, 26), (30, 0, 27), (30, 0, 28), (30, 0, 29), (30, 0, 30), (30, 0, 31), (30, 0, 32), (30, 0, 33)], zro (zro (σ) 31 0) 32 0)) := run_eq _ [10, 22, 30, 42, 54, 66, 78, 90, 102, 108, 120] 10 _ _ _ _
theorem wa52 (N : Nat) (σ : Sto) : ev N mX9_init 10 [vR 30 0, vX] [] (36, [(30, 0, 11), (30, 0, 12), (30, 0, 13), (30, 0, 14), (30, 0, 15), (30, 0, 16), (30, 0, 17), (30, 0, 18), (30, 0, 19), (30, 0, 20), (30, 0, 25), (30, 0, 26), (30, 0, 27), (30, 0, 28), (30, 0, 29), (30, 0, 30), (30, 0, 31), (30, 0, 32), (30, 0, 33)], σ) = (ev N mX9_init 22 [vR 30 0, vX] [] (39, [(30, 0, 14), (30, 0, 15), (30, 0, 16), (30, 0, 17), (30, 0, 18), (30, 0, 19), (30, 0, 20), (30, 0, 25), (30, 0, 26), (30, 0, 27), (30, 0, 28), (30, 0, 29), (30, 0, 30), (30, 0, 31), (30, 0, 32), (30, 0, 33)], zro (zro (zro (σ) 33 0) 34 0) 35 0)) := run_eq _ [10, 22, 30, 42, 54, 66, 78, 90, 102, 108, 120] 12 _ _ _ _
theorem wa53 (N : Nat) (σ : Sto) : ev N mX9_init 22 [vR 30 0, vX] [] (39, [(30, 0, 14), (30, 0, 15), (30, 0, 16), (30, 0, 17), (30, 0, 18), (30, 0, 19), (30, 0, 20), (30, 0, 25), (30, 0, 26), (30, 0, 27), (30, 0, 28), (30, 0, 29), (30, 0, 30), (30, 0, 31), (30, 0, 32), (30, 0, 33)], σ) = (ev N mX9_init 30 [vR 30 0, vX] [] (41, [(30, 0, 16), (30, 0, 17), (30, 0, 18), (30, 0, 19), (30, 0, 20), (30, 0, 25), (30, 0, 26), (30, 0, 27), (30, 0, 28), (30, 0, 29), (30, 0, 30), (30, 0, 31), (30, 0, 32), (30, 0, 33)], zro (zro (σ) 36 0) 37 0)) := run_eq _ [10, 22, 30, 42, 54, 66, 78, 90, 102, 108, 120] 8 _ _ _ _
theorem wa54 (N : Nat) (σ : Sto) : ev N mX9_init 30 [vR 30 0, vX] [] (41, [(30, 0, 16), (30, 0, 17), (30, 0, 18), (30, 0, 19), (30, 0, 20), (30, 0, 25), (30, 0, 26), (30, 0, 27), (30, 0, 28), (30, 0, 29), (30, 0, 30), (30, 0, 31), (30, 0, 32), (30, 0, 33)], σ) = (ev N mX9_init 42 [vR 30 0, vX] [vR 38 0, vR 38 0, vR 30 0] (42, [(30, 0, 16), (30, 0, 17), (30, 0, 18), (30, 0, 19), (30, 0, 20), (30, 0, 25), (30, 0, 26), (30, 0, 27), (30, 0, 28), (30, 0, 29), (30, 0, 30), (30, 0, 31), (30, 0, 32), (30, 0, 33)], sup (sup (zro (σ) 38 0) 38 0 ((0 : Int).toNat) 0) 38 0 ((1 : Int).toNat) 0)) := run_eq _ [10, 22, 30, 42, 54, 66, 78, 90, 102, 108, 120] 12 _ _ _ _
theorem wa55 (N : Nat) (σ : Sto) : ev N mX9_init 42 [vR 30 0, vX] [vR 38 0, vR 38 0, vR 30 0] (42, [(30, 0, 16), (30, 0, 17), (30, 0, 18), (30, 0, 19), (30, 0, 20), (30, 0, 25), (30, 0, 26), (30, 0, 27), (30, 0, 28), (30, 0, 29), (30, 0, 30), (30, 0, 31), (30, 0, 32), (30, 0, 33)], σ) = (ev N mX9_init 54 [vR 30 0, vX] [] (42, [(30, 0, 17), (30, 0, 18), (30, 0, 19), (30, 0, 20), (30, 0, 25), (30, 0, 26), (30, 0, 27), (30, 0, 28), (30, 0, 29), (30, 0, 30), (30, 0, 31), (30, 0, 32), (30, 0, 33)], sup (sup (sup (σ) 38 0 ((2 : Int).toNat) 3) 38 0 ((3 : Int).toNat) 3) 38 0 ((4 : Int).toNat) 20)) := run_eq _ [10, 22, 30, 42, 54, 66, 78, 90, 102, 108, 120] 12 _ _ _ _
theorem wa56 (N : Nat) (σ : Sto) : ev N mX9_init 54 [vR 30 0, vX] [] (42, [(30, 0, 17), (30, 0, 18), (30, 0, 19), (30, 0, 20), (30, 0, 25), (30, 0, 26), (30, 0, 27), (30, 0, 28), (30, 0, 29), (30, 0, 30), (30, 0, 31), (30, 0, 32), (30, 0, 33)], σ) = (ev N mX9_init 66 [vR 30 0, vX] [] (45, [(30, 0, 20), (30, 0, 25), (30, 0, 26), (30, 0, 27), (30, 0, 28), (30, 0, 29), (30, 0, 30), (30, 0, 31), (30, 0, 32), (30, 0, 33)], zro (zro (zro (σ) 39 0) 40 0) 41 0)) := run_eq _ [10, 22, 30, 42, 54, 66, 78, 90, 102, 108, 120] 12 _ _ _ _
theorem wa57 (N : Nat) (σ : Sto) : ev N mX9_init 66 [vR 30 0, vX] [] (45, [(30, 0, 20), (30, 0, 25), (30, 0, 26), (30, 0, 27), (30, 0, 28), (30, 0, 29), (30, 0, 30), (30, 0, 31), (30, 0, 32), (30, 0, 33)], σ) = (ev N mX9_init 78 [vR 30 0, vX] [] (48, [(30, 0, 27), (30, 0, 28), (30, 0, 29), (30, 0, 30), (30, 0, 31), (30, 0, 32), (30, 0, 33)], zro (zro (zro (σ) 42 0) 43 0) 44 0)) := run_eq _ [10, 22, 30, 42, 54, 66, 78, 90, 102, 108, 120] 12 _ _ _ _
theorem wa58 (N : Nat) (σ : Sto) : ev N mX9_init 78 [vR 30 0, vX] [] (48, [(30, 0, 27), (30, 0, 28), (30, 0, 29), (30, 0, 30), (30, 0, 31), (30, 0, 32), (30, 0, 33)], σ) = (ev N mX9_init 90 [vR 30 0, vX] [] (51, [(30, 0, 30), (30, 0, 31), (30, 0, 32), (30, 0, 33)], zro (zro (zro (σ) 45 0) 46 0) 47 0)) := run_eq _ [10, 22, 30, 42, 54, 66, 78, 90, 102, 108, 120] 12 _ _ _ _
theorem wa59 (N : Nat) (σ : Sto) : ev N mX9_init 90 [vR 30 0, vX] [] (51, [(30, 0, 30), (30, 0, 31), (30, 0, 32), (30, 0, 33)], σ) = (ev N mX9_init 102 [vR 30 0, vX] [] (54, [(30, 0, 33)], zro (zro (zro (σ) 48 0) 49 0) 50 0)) := run_eq _ [10, 22, 30, 42, 54, 66, 78, 90, 102, 108, 120] 12 _ _ _ _
theorem wa60 (N : Nat) (σ : Sto) : ev N mX9_init 102 [vR 30 0, vX] [] (54, [(30, 0, 33)], σ) = (ev N mX9_init 108 [vR 30 0, vI 0] [] (55, [], zro (σ) 51 0)) := run_eq _ [10, 22, 30, 42, 54, 66, 78, 90, 102, 108, 120] 6 _ _ _ _
theorem wa61 (N : Nat) (σ : Sto) : ev N mX9_init 120 [vR 30 0, vI 20] [] (55, [], σ) = (some (none, (55, [], sup (σ) 40 0 ((78 : Int).toNat) (-1)))) := run_eq _ [10, 22, 30, 42, 54, 66, 78, 90, 102, 108, 120] 6 _ _ _ _
def gwk50 (σ : Sto) : Sto := sup ((row (zro ((zro (zro (zro ((zro (zro (zro ((zro (zro (zro ((zro (zro (zro ((sup (sup (sup ((sup (sup (zro ((zro (zro ((zro (zro (zro ((zro (zro ((σ)) 31 0) 32 0)) 33 0) 34 0) 35 0)) 36 0) 37 0)) 38 0) 38 0 ((0 : Int).toNat) 0) 38 0 ((1 : Int).toNat) 0)) 38 0 ((2 : Int).toNat) 3) 38 0 ((3 : Int).toNat) 3) 38 0 ((4 : Int).toNat) 20)) 39 0) 40 0) 41 0)) 42 0) 43 0) 44 0)) 45 0) 46 0) 47 0)) 48 0) 49 0) 50 0)) 51 0) 40 0 (fill ((zro ((zro (zro (zro ((zro (zro (zro ((zro (zro (zro ((zro (zro (zro ((sup (sup (sup ((sup (sup (zro ((zro (zro ((zro (zro (zro ((zro (zro ((σ)) 31 0) 32 0)) 33 0) 34 0) 35 0)) 36 0) 37 0)) 38 0) 38 0 ((0 : Int).toNat) 0) 38 0 ((1 : Int).toNat) 0)) 38 0 ((2 : Int).toNat) 3) 38 0 ((3 : Int).toNat) 3) 38 0 ((4 : Int).toNat) 20)) 39 0) 40 0) 41 0)) 42 0) 43 0) 44 0)) 45 0) 46 0) 47 0)) 48 0) 49 0) 50 0)) 51 0) 40 0) 56 20 255))) 40 0 ((78 : Int).toNat) (-1)
theorem wk50 (N : Nat) (σ : Sto) : inv N mX9_init [vR 30 0] (34, [(30, 0, 0), (30, 0, 10), (30, 0, 11), (30, 0, 12), (30, 0, 13), (30, 0, 14), (30, 0, 15), (30, 0, 16), (30, 0, 17), (30, 0, 18), (30, 0, 19), (30, 0, 20), (30, 0, 25), (30, 0, 26), (30, 0, 27), (30, 0, 28), (30, 0, 29), (30, 0, 30), (30, 0, 31), (30, 0, 32), (30, 0, 33)], σ) = some (none, (55, [], gwk50 σ)) := by
  rw [show inv N mX9_init [vR 30 0] (34, [(30, 0, 0), (30, 0, 10), (30, 0, 11), (30, 0, 12), (30, 0, 13), (30, 0, 14), (30, 0, 15), (30, 0, 16), (30, 0, 17), (30, 0, 18), (30, 0, 19), (30, 0, 20), (30, 0, 25), (30, 0, 26), (30, 0, 27), (30, 0, 28), (30, 0, 29), (30, 0, 30), (30, 0, 31), (30, 0, 32), (30, 0, 33)], σ) = ev N mX9_init 0 [vR 30 0, vX] [] (34, [(30, 0, 0), (30, 0, 10), (30, 0, 11), (30, 0, 12), (30, 0, 13), (30, 0, 14), (30, 0, 15), (30, 0, 16), (30, 0, 17), (30, 0, 18), (30, 0, 19), (30, 0, 20), (30, 0, 25), (30, 0, 26), (30, 0, 27), (30, 0, 28), (30, 0, 29), (30, 0, 30), (30, 0, 31), (30, 0, 32), (30, 0, 33)], σ) from rfl, wa51, wa52, wa53, wa54, wa55, wa56, wa57, wa58, wa59, wa60, dloop 55 [] rfl, wa61]
  try rfl
theorem wa62 (N : Nat) (σ : Sto) : ev N mL_law 7 [vR 999 0, vR 0 0, vX, vX] [vR 30 0] (55, [], σ) = (ev N mL_law 10 [vR 999 0, vR 0 0, vR 30 0, vI 0] [] (55, [], σ)) := run_eq _ [3, 7, 10] 3 _ _ _ _
def gStart (σ : Sto) : Sto := (gwk50 (zro ((gwk1 (zro ((σ)) 0 0))) 30 0))
theorem law_head (N : Nat) (σ : Sto) : ev N mL_law 0 [vR 999 0, vX, vX, vX] [] (0, [], σ) = ev N mL_law 10 [vR 999 0, vR 0 0, vR 30 0, vI 0] [] (55, [], gStart σ) := by
  rw [wa0, wk1, bnd_s, push_n, wa49, wk50, bnd_s, push_n, wa62]
  try rfl
end
section
/-! THE STORE behind the constructors -/

def B0 : Vec := set (set (set Z 2 3) 3 3) 4 20
def C0 : Vec := set (fill Z 56 20 255) 78 (-1)
def S0 : Vec := set (set (set (set (set Z 0 0) 1 0) 2 3) 3 3) 4 20
theorem zro_row (σ : Sto) (k i : Nat) : zro σ k i = row σ k i Z := by
  funext k' i' j'
  unfold zro row
  by_cases h : k' = k ∧ i' = i
  · rw [if_pos h, if_pos h]
    rfl
  · rw [if_neg h, if_neg h]
theorem gs_0_0 (σ : Sto) : gStart σ 0 0 = Z := rfl
theorem gs_1_0 (σ : Sto) : gStart σ 1 0 = Z := rfl
theorem gs_3_0 (σ : Sto) : gStart σ 3 0 = Z := rfl
theorem gs_3_1 (σ : Sto) : gStart σ 3 1 = Z := rfl
theorem gs_4_0 (σ : Sto) : gStart σ 4 0 = Z := rfl
theorem gs_4_1 (σ : Sto) : gStart σ 4 1 = Z := rfl
theorem gs_5_0 (σ : Sto) : gStart σ 5 0 = Z := rfl
theorem gs_5_1 (σ : Sto) : gStart σ 5 1 = Z := rfl
theorem gs_7_0 (σ : Sto) : gStart σ 7 0 = C0 := rfl
theorem gs_8_0 (σ : Sto) : gStart σ 8 0 = Z := rfl
theorem gs_9_0 (σ : Sto) : gStart σ 9 0 = Z := rfl
theorem gs_10_0 (σ : Sto) : gStart σ 10 0 = Z := rfl
theorem gs_30_0 (σ : Sto) : gStart σ 30 0 = Z := rfl
theorem gs_31_0 (σ : Sto) : gStart σ 31 0 = Z := rfl
theorem gs_32_0 (σ : Sto) : gStart σ 32 0 = Z := rfl
theorem gs_33_0 (σ : Sto) : gStart σ 33 0 = Z := rfl
theorem gs_34_0 (σ : Sto) : gStart σ 34 0 = Z := rfl
theorem gs_35_0 (σ : Sto) : gStart σ 35 0 = Z := rfl
theorem gs_36_0 (σ : Sto) : gStart σ 36 0 = Z := rfl
theorem gs_37_0 (σ : Sto) : gStart σ 37 0 = Z := rfl
theorem gs_39_0 (σ : Sto) : gStart σ 39 0 = Z := rfl
theorem gs_41_0 (σ : Sto) : gStart σ 41 0 = Z := rfl
theorem three (X : Sto) (i : Nat) (h : X 2 i = Z) : sup (sup (sup X 2 i 2 3) 2 i 3 3) 2 i 4 20 2 i = B0 := by
  rw [sup_row, row_same, sup_row, row_same, sup_row, row_same, h]
  rfl
theorem gs_2_0 (σ : Sto) : gStart σ 2 0 = B0 := three (zro (zro (zro (zro (zro (zro σ 0 0) 1 0) 2 0) 3 0) 4 0) 5 0) 0 rfl
theorem gs_2_1 (σ : Sto) : gStart σ 2 1 = B0 := three (zro (zro (zro (zro (gwk3 (zro (zro (zro σ 0 0) 1 0) 2 0)) 2 1) 3 1) 4 1) 5 1) 1 rfl
theorem five (X : Sto) (h : X 38 0 = Z) : sup (sup (sup (sup (sup X 38 0 0 0) 38 0 1 0) 38 0 2 3) 38 0 3 3) 38 0 4 20 38 0 = S0 := by
  rw [sup_row, row_same, sup_row, row_same, sup_row, row_same, sup_row, row_same, sup_row, row_same, h]
  rfl
theorem gs_38_0 (σ : Sto) : gStart σ 38 0 = S0 := five (zro (zro (zro (zro (zro (zro (zro (zro (zro (gwk1 (zro σ 0 0)) 30 0) 31 0) 32 0) 33 0) 34 0) 35 0) 36 0) 37 0) 38 0) rfl
theorem forty (X : Sto) (h : X 40 0 = Z) : sup (row X 40 0 (fill (X 40 0) 56 20 255)) 40 0 78 (-1) 40 0 = C0 := by
  rw [sup_row, row_same, row_same, h]
  rfl
theorem gs_40_0 (σ : Sto) : gStart σ 40 0 = C0 := forty ((zro ((zro (zro (zro ((zro (zro (zro ((zro (zro (zro ((zro (zro (zro ((sup (sup (sup ((sup (sup (zro ((zro (zro ((zro (zro (zro ((zro (zro ((zro (gwk1 (zro (σ) 0 0)) 30 0)) 31 0) 32 0)) 33 0) 34 0) 35 0)) 36 0) 37 0)) 38 0) 38 0 ((0 : Int).toNat) 0) 38 0 ((1 : Int).toNat) 0)) 38 0 ((2 : Int).toNat) 3) 38 0 ((3 : Int).toNat) 3) 38 0 ((4 : Int).toNat) 20)) 39 0) 40 0) 41 0)) 42 0) 43 0) 44 0)) 45 0) 46 0) 47 0)) 48 0) 49 0) 50 0)) 51 0)) rfl
theorem C0_in {j : Nat} (h1 : 56 ≤ j) (h2 : j < 76) : C0 j = 255 := by
  unfold C0
  rw [set_ne _ _ (by omega)]
  unfold fill
  rw [if_pos (by omega)]
theorem C0_out {j : Nat} (h : j < 56 ∨ 76 ≤ j) (h2 : j ≠ 78) : C0 j = 0 := by
  unfold C0
  rw [set_ne _ _ h2]
  unfold fill
  rw [if_neg (by omega)]
  rfl
theorem C0_78 : C0 78 = -1 := set_same _ _ _
theorem C0_ok : OKC C0 := by
  refine ⟨fun j hj => ?_, fun j h1 h2 => ?_, ?_, ?_, ?_⟩
  · rw [C0_out (Or.inl hj) (by omega)]; omega
  · rw [C0_in h1 h2]; omega
  · rw [C0_out (by omega) (by omega)]; omega
  · rw [C0_out (by omega) (by omega)]; omega
  · rw [C0_78]; omega
theorem C0_cell : CELL 0 C0 C0 := by
  have z := fun (j : Nat) (h : 76 ≤ j) (h2 : j ≠ 78) => C0_out (j := j) (Or.inr h) h2
  refine ⟨C0_ok, ⟨⟨fun _ _ => rfl, ?_, ?_, rfl, ?_⟩, rfl⟩, ?_⟩
  · rw [z 79 (by decide) (by decide), z 80 (by decide) (by decide)]
  · rw [z 79 (by decide) (by decide), z 80 (by decide) (by decide)]
  · refine ⟨by rw [z 82 (by decide) (by decide)]; decide, by rw [z 82 (by decide) (by decide)]; rfl, fun k hk h => ?_⟩
    rw [z 82 (by decide) (by decide)] at h
    omega
  · rw [z 82 (by decide) (by decide)]; decide
theorem INV_start (σ : Sto) : INV 0 (gStart σ) := by
  have z : ∀ k, Z k = 0 := fun _ => rfl
  have b2 : B0 2 = 3 := rfl
  have b3 : B0 3 = 3 := rfl
  have b4 : B0 4 = 20 := rfl
  have b0 : B0 0 = 0 := rfl
  have b1 : B0 1 = 0 := rfl
  refine ⟨⟨?_, ?_, ?_, ?_, ?_⟩, ?_, ?_⟩
  · unfold OKG OKU
    rw [gs_2_1, gs_3_1, gs_4_1, gs_5_1, b0, b1, b2, b3, b4]
    refine ⟨by decide, by decide, by decide, by decide, by decide, by decide, by decide, by decide, by decide, by decide, fun k _ => ?_, ⟨by decide, fun k h => absurd h (by omega)⟩, fun k _ => ?_⟩
    · rw [z]; decide
    · rw [z]; decide
  · unfold EnvM OKM whyM whyS OKU
    rw [gs_2_1, gs_3_1, gs_4_1, gs_5_1, gs_30_0, gs_32_0, gs_33_0, gs_36_0, gs_38_0, b0, b1, b2, b3, b4]
    refine ⟨⟨by decide, by decide, by decide, by decide, by decide, by decide, by decide, by decide, by decide, by decide, fun k _ => by rw [z]; decide, ⟨by decide, fun k h => absurd h (by rw [z]; omega)⟩, fun k _ => by rw [z]; decide⟩, fun _ _ => rfl, rfl, rfl, rfl, rfl, rfl, fun j h => absurd h (by omega), fun j h => absurd h (by omega)⟩
  · unfold TAPE
    rw [gs_0_0, gs_1_0, gs_30_0, gs_31_0]
    exact ⟨by decide, by decide, rfl, fun j _ => ⟨by rw [z]; decide, by rw [z]; decide, by rw [z]; decide, by rw [z]; decide, rfl⟩⟩
  · unfold DRAWN
    rw [gs_0_0, gs_30_0]
    exact ⟨rfl, by decide, by decide⟩
  · unfold DRAFT
    rw [gs_3_0, gs_5_0]
    exact ⟨fun k _ => ⟨by rw [z]; decide, by rw [z]; decide⟩, fun k _ => ⟨by rw [z]; decide, by rw [z]; decide⟩⟩
  · rw [gs_7_0, gs_40_0]
    exact C0_cell
  · rw [gs_10_0, gs_9_0, gs_41_0, gs_30_0]
    exact PAST_0 0 Z Z 0 (by decide)
end
section
/-! THE SCRIPT stays -/
def N9 (S0 : MS) (f : ∀ (β : Type), KT β → β → β) : Prop := (∃ (pc' : Nat) (L' st' : List MV) (S' : MS), S'.2.2 999 = S0.2.2 999 ∧ ∀ (β : Type) (K : KT β) (z : β), f β K z = K pc' L' st' S') ∨ (∀ (β : Type) (K : KT β) (z : β), f β K z = z)
theorem N9.k {S0 : MS} (pc : Nat) (L st : List MV) (S : MS) (h : S.2.2 999 = S0.2.2 999 := by exact rfl) : N9 S0 (fun _ K _ => K pc L st S) := Or.inl ⟨pc, L, st, S, h, fun _ _ _ => rfl⟩
theorem N9.z {S0 : MS} : N9 S0 (fun _ _ z => z) := Or.inr fun _ _ _ => rfl
theorem N9.ite {S0 : MS} {p : Prop} [d : Decidable p] {f g : ∀ (β : Type), KT β → β → β} (hf : N9 S0 f) (hg : N9 S0 g) : N9 S0 (fun β K z => if p then f β K z else g β K z) := by
  by_cases h : p
  · simp only [h, if_true]; exact hf
  · simp only [h, if_false]; exact hg
theorem N9.cond {S0 : MS} {b : Bool} {f g : ∀ (β : Type), KT β → β → β} (hf : N9 S0 f) (hg : N9 S0 g) : N9 S0 (fun β K z => cond b (f β K z) (g β K z)) := by
  cases b
  · exact hg
  · exact hf
theorem N9.sw (L st : List MV) (S : MS) (d : Nat) (a : Int) : ∀ (ts : List Int) (lo : Int), N9 S (fun _ K _ => x_sw L st S K d a lo ts)
  | [], lo => N9.k d L st S
  | t :: ts, lo => N9.ite (N9.k t.toNat L st S) (N9.sw L st S d a ts (lo + 1))
theorem sup_999 {σ : Sto} {k i j : Nat} {v : Int} (h : k ≠ 999) : sup σ k i j v 999 = σ 999 := by
  funext i' j'
  unfold sup
  rw [if_neg (fun z => h z.1.symm)]
theorem zro_999 {σ : Sto} {k i : Nat} (h : k ≠ 999) : zro σ k i 999 = σ 999 := by
  funext i' j'
  unfold zro
  rw [if_neg (fun z => h z.1.symm)]
theorem cpy_999 {σ : Sto} {k i sp k2 i2 dp n : Nat} (h : k2 ≠ 999) : cpy σ k i sp k2 i2 dp n 999 = σ 999 := by
  funext i' j'
  unfold cpy
  rw [if_neg (fun z => h z.1.symm)]
theorem tag_999 {k : Nat} (h : kTag k ≠ 4) : k ≠ 999 := fun e => h (by rw [e]; rfl)
theorem ords_all : ∀ q ∈ ords, q.1 ≠ 999 := by decide
theorem ords_999 {i k j : Nat} (h : nth ords i = some (k, j)) : k ≠ 999 := ords_all _ (nth_mem _ _ _ h)
section N9S
variable {N i pc n : Nat} {L st : List MV} {S : MS}
theorem n9_iload : N9 S (fun _ K z => x_iload i pc L st S K z) := by
  unfold x_iload; rcases nth L i with _ | (x | (x | (x | x))) <;> first | exact N9.z | exact N9.k _ _ _ _
theorem n9_lload : N9 S (fun _ K z => x_lload i pc L st S K z) := by
  unfold x_lload; rcases nth L i with _ | (x | (x | (x | x))) <;> first | exact N9.z | exact N9.k _ _ _ _
theorem n9_aload : N9 S (fun _ K z => x_aload i pc L st S K z) := by
  unfold x_aload; rcases nth L i with _ | (x | (x | (x | x))) <;> first | exact N9.z | exact N9.k _ _ _ _
theorem n9_istore : N9 S (fun _ K z => x_istore i pc L st S K z) := by
  unfold x_istore; rcases st with _ | ⟨(x | (x | (x | x))), st⟩ <;> first | exact N9.z | exact N9.k _ _ _ _
theorem n9_astore : N9 S (fun _ K z => x_astore i pc L st S K z) := by
  unfold x_astore; rcases st with _ | ⟨(x | (x | (x | x))), st⟩ <;> first | exact N9.z | exact N9.k _ _ _ _
theorem n9_lstore : N9 S (fun _ K z => x_lstore i pc L st S K z) := by
  unfold x_lstore; rcases st with _ | ⟨(x | (x | (x | x))), st⟩ <;> first | exact N9.z | exact N9.k _ _ _ _
theorem n9_iinc {c : Int} : N9 S (fun _ K z => x_iinc i c pc L st S K z) := by
  unfold x_iinc; rcases nth L i with _ | (x | (x | (x | x))) <;> first | exact N9.z | exact N9.k _ _ _ _
theorem n9_iop {f : Int → Int → Int} : N9 S (fun _ K z => x_iop f pc L st S K z) := by
  unfold x_iop; rcases st with _ | ⟨(x | (x | (x | x))), _ | ⟨(y | (y | (y | y))), st⟩⟩ <;> first | exact N9.z | exact N9.k _ _ _ _
theorem n9_iopc {f : Int → Int → Int} : N9 S (fun _ K z => x_iopc f pc L st S K z) := by
  unfold x_iopc; rcases st with _ | ⟨(x | (x | (x | x))), _ | ⟨(y | (y | (y | y))), st⟩⟩ <;> first | exact N9.z | exact N9.cond (N9.k _ _ _ _) N9.z
theorem n9_idv {f : Int → Int → Int} : N9 S (fun _ K z => x_idv f pc L st S K z) := by
  unfold x_idv; rcases st with _ | ⟨(x | (x | (x | x))), _ | ⟨(y | (y | (y | y))), st⟩⟩ <;> first | exact N9.z | exact N9.k _ _ _ _ | exact N9.ite N9.z (N9.k _ _ _ _)
theorem n9_lop {f : Int → Int → Int} : N9 S (fun _ K z => x_lop f pc L st S K z) := by
  unfold x_lop; rcases st with _ | ⟨(x | (x | (x | x))), _ | ⟨(y | (y | (y | y))), st⟩⟩ <;> first | exact N9.z | exact N9.k _ _ _ _
theorem n9_ldv {f : Int → Int → Int} : N9 S (fun _ K z => x_ldv f pc L st S K z) := by
  unfold x_ldv; rcases st with _ | ⟨(x | (x | (x | x))), _ | ⟨(y | (y | (y | y))), st⟩⟩ <;> first | exact N9.z | exact N9.k _ _ _ _ | exact N9.ite N9.z (N9.k _ _ _ _)
theorem n9_lsh {f : Int → Int → Int} : N9 S (fun _ K z => x_lsh f pc L st S K z) := by
  unfold x_lsh; rcases st with _ | ⟨(x | (x | (x | x))), _ | ⟨(y | (y | (y | y))), st⟩⟩ <;> first | exact N9.z | exact N9.k _ _ _ _
theorem n9_lcmp : N9 S (fun _ K z => x_lcmp pc L st S K z) := by
  unfold x_lcmp; rcases st with _ | ⟨(x | (x | (x | x))), _ | ⟨(y | (y | (y | y))), st⟩⟩ <;> first | exact N9.z | exact N9.ite (N9.k _ _ _ _) (N9.ite (N9.k _ _ _ _) (N9.k _ _ _ _))
theorem n9_i2l : N9 S (fun _ K z => x_i2l pc L st S K z) := by
  unfold x_i2l; rcases st with _ | ⟨(x | (x | (x | x))), st⟩ <;> first | exact N9.z | exact N9.k _ _ _ _
theorem n9_l2i : N9 S (fun _ K z => x_l2i pc L st S K z) := by
  unfold x_l2i; rcases st with _ | ⟨(x | (x | (x | x))), st⟩ <;> first | exact N9.z | exact N9.k _ _ _ _
theorem n9_i2b : N9 S (fun _ K z => x_i2b pc L st S K z) := by
  unfold x_i2b; rcases st with _ | ⟨(x | (x | (x | x))), st⟩ <;> first | exact N9.z | exact N9.k _ _ _ _
theorem n9_dup : N9 S (fun _ K z => x_dup pc L st S K z) := by
  unfold x_dup; rcases st with _ | ⟨v, st⟩
  · exact N9.z
  · exact N9.cond N9.z (N9.k _ _ _ _)
theorem n9_dup2 : N9 S (fun _ K z => x_dup2 pc L st S K z) := by
  unfold x_dup2; rcases st with _ | ⟨v, _ | ⟨u, st⟩⟩
  · exact N9.z
  · exact N9.z
  · exact N9.cond N9.z (N9.cond N9.z (N9.k _ _ _ _))
theorem n9_pop : N9 S (fun _ K z => x_pop pc L st S K z) := by
  unfold x_pop; rcases st with _ | ⟨v, st⟩
  · exact N9.z
  · exact N9.cond N9.z (N9.k _ _ _ _)
theorem n9_icmp {c : Jvm.ClassFile.Cond} : N9 S (fun _ K z => x_icmp c n pc L st S K z) := by
  unfold x_icmp; rcases st with _ | ⟨(x | (x | (x | x))), _ | ⟨(y | (y | (y | y))), st⟩⟩ <;> first | exact N9.z | (cases c <;> exact N9.ite (N9.k _ _ _ _) (N9.k _ _ _ _))
theorem n9_if {c : Jvm.ClassFile.Cond} : N9 S (fun _ K z => x_if c n pc L st S K z) := by
  unfold x_if; rcases st with _ | ⟨(x | (x | (x | x))), st⟩ <;> first | exact N9.z | (cases c <;> exact N9.ite (N9.k _ _ _ _) (N9.k _ _ _ _))
theorem n9_ifnull : N9 S (fun _ K z => x_ifnull pc L st S K z) := by
  unfold x_ifnull; rcases st with _ | ⟨(x | (x | (x | x))), st⟩ <;> first | exact N9.z | exact N9.k _ _ _ _
theorem n9_switch {lo : Int} {ts : List Int} : N9 S (fun _ K z => x_switch n lo ts L st S K z) := by
  unfold x_switch; rcases st with _ | ⟨(x | (x | (x | x))), st⟩ <;> first | exact N9.z | exact N9.sw _ _ _ _ _ _ _
theorem n9_get : N9 S (fun _ K z => x_get n pc L st S K z) := by
  unfold x_get; rcases st with _ | ⟨(x | (x | (x | x))), st⟩ <;> first | exact N9.z | skip
  refine N9.cond ?_ N9.z
  rcases fTy (n / 100) (n % 100) with _ | _ | _ | _ | _ <;> first | exact N9.z | exact N9.k _ _ _ _ | exact N9.cond N9.z (N9.k _ _ _ _)
--put
theorem n9_alen : N9 S (fun _ K z => x_alen N pc L st S K z) := by
  unfold x_alen; rcases st with _ | ⟨(x | (x | (⟨k, j⟩ | x))), st⟩ <;> first | exact N9.z | skip
  dsimp only
  rcases kTag k with _ | _ | _ | _ | _ | _ <;> first | exact N9.z | exact N9.k _ _ _ _
theorem n9_iald : N9 S (fun _ K z => x_iald N pc L st S K z) := by
  unfold x_iald; rcases st with _ | ⟨(x | (x | (x | x))), _ | ⟨(y | (y | (⟨k, j⟩ | y))), st⟩⟩ <;> first | exact N9.z | skip
  dsimp only
  rcases kTag k with _ | _ | _ | _ | _ | _ <;> first | exact N9.z | exact N9.ite N9.z (N9.ite (N9.k _ _ _ _) N9.z)
theorem n9_bald : N9 S (fun _ K z => x_bald N pc L st S K z) := by
  unfold x_bald; rcases st with _ | ⟨(x | (x | (x | x))), _ | ⟨(y | (y | (⟨k, j⟩ | y))), st⟩⟩ <;> first | exact N9.z | skip
  dsimp only
  rcases kTag k with _ | _ | _ | _ | _ | _ <;> first | exact N9.z | exact N9.ite N9.z (N9.ite (N9.k _ _ _ _) N9.z)
theorem n9_lald : N9 S (fun _ K z => x_lald N pc L st S K z) := by
  unfold x_lald; rcases st with _ | ⟨(x | (x | (x | x))), _ | ⟨(y | (y | (⟨k, j⟩ | y))), st⟩⟩ <;> first | exact N9.z | skip
  dsimp only
  rcases kTag k with _ | _ | _ | _ | _ | _ <;> first | exact N9.z | exact N9.ite N9.z (N9.ite (N9.k _ _ _ _) N9.z)
--iast
--bast
--last
--new
--newa
theorem n9_slen : N9 S (fun _ K z => x_slen pc L st S K z) := by
  unfold x_slen; rcases st with _ | ⟨(x | (x | (x | x))), st⟩ <;> first | exact N9.z | exact N9.cond (N9.cond (N9.k _ _ _ _) N9.z) N9.z
theorem n9_schr : N9 S (fun _ K z => x_schr pc L st S K z) := by
  unfold x_schr; rcases st with _ | ⟨(x | (x | (x | x))), _ | ⟨(y | (y | (⟨k, j⟩ | y))), st⟩⟩ <;> first | exact N9.z | exact N9.cond (N9.ite N9.z (N9.ite (N9.cond (N9.k _ _ _ _) N9.z) N9.z)) N9.z
theorem n9_obj : N9 S (fun _ K z => x_obj pc L st S K z) := by
  unfold x_obj; rcases st with _ | ⟨(x | (x | (x | x))), st⟩ <;> first | exact N9.z | exact N9.cond (N9.k _ _ _ _) N9.z
--copy
theorem n9_put : N9 S (fun _ K z => x_put n pc L st S K z) := by
  unfold x_put; rcases st with _ | ⟨v, _ | ⟨(y | (y | (⟨k, j⟩ | y))), st⟩⟩ <;> first | exact N9.z | skip
  dsimp only
  by_cases hk : k = 999
  · subst hk
    rcases hb : Nat.beq (kCls 999) (n / 100) with _ | _
    · exact N9.z
    · have e : n / 100 = 99 := (Nat.eq_of_beq_eq_true hb).symm
      rw [e]
      exact N9.z
  · refine N9.cond ?_ N9.z
    rcases fTy (n / 100) (n % 100) with _ | _ | _ | _ | _ <;> rcases v with (x | (x | (x | x))) <;> first | exact N9.z | exact N9.k _ _ _ _ (sup_999 hk) | exact N9.cond (N9.cond (N9.k _ _ _ _) N9.z) N9.z | exact N9.ite (N9.k _ _ _ _ (sup_999 hk)) (N9.ite (N9.k _ _ _ _ (sup_999 hk)) N9.z)
theorem n9_iast : N9 S (fun _ K z => x_iast N pc L st S K z) := by
  unfold x_iast; rcases st with _ | ⟨(v | (v | (v | v))), _ | ⟨(x | (x | (x | x))), _ | ⟨(y | (y | (⟨k, j⟩ | y))), st⟩⟩⟩ <;> first | exact N9.z | skip
  dsimp only
  rcases hk : kTag k with _ | _ | _ | _ | _ | _ <;> first | exact N9.z | exact N9.ite N9.z (N9.ite (N9.k _ _ _ _ (sup_999 (tag_999 (by rw [hk]; decide)))) N9.z)
theorem n9_bast : N9 S (fun _ K z => x_bast N pc L st S K z) := by
  unfold x_bast; rcases st with _ | ⟨(v | (v | (v | v))), _ | ⟨(x | (x | (x | x))), _ | ⟨(y | (y | (⟨k, j⟩ | y))), st⟩⟩⟩ <;> first | exact N9.z | skip
  dsimp only
  rcases hk : kTag k with _ | _ | _ | _ | _ | _ <;> first | exact N9.z | exact N9.ite N9.z (N9.ite (N9.k _ _ _ _ (sup_999 (tag_999 (by rw [hk]; decide)))) N9.z)
theorem n9_last : N9 S (fun _ K z => x_last N pc L st S K z) := by
  unfold x_last; rcases st with _ | ⟨(v | (v | (v | v))), _ | ⟨(x | (x | (x | x))), _ | ⟨(y | (y | (⟨k, j⟩ | y))), st⟩⟩⟩ <;> first | exact N9.z | skip
  dsimp only
  rcases hk : kTag k with _ | _ | _ | _ | _ | _ <;> first | exact N9.z | exact N9.ite N9.z (N9.ite (N9.k _ _ _ _ (sup_999 (tag_999 (by rw [hk]; decide)))) N9.z)
theorem n9_new : N9 S (fun _ K z => x_new n pc L st S K z) := by
  unfold x_new; rcases h : nth ords S.1 with _ | ⟨k, j⟩
  · exact N9.z
  · exact N9.cond (N9.cond (N9.k _ _ _ _ (zro_999 (ords_999 h))) N9.z) N9.z
theorem n9_newa : N9 S (fun _ K z => x_newa n pc L st S K z) := by
  unfold x_newa; rcases st with _ | ⟨(x | (x | (x | x))), st⟩ <;> first | exact N9.z | skip
  dsimp only
  rcases h : nth ords S.1 with _ | ⟨k, j⟩
  · exact N9.z
  · exact N9.cond (N9.cond N9.z (N9.ite (N9.k _ _ _ _ (zro_999 (ords_999 h))) N9.z)) N9.z
theorem n9_copy : N9 S (fun _ K z => x_copy N pc L st S K z) := by
  unfold x_copy
  rcases st with _ | ⟨(a1 | (a1 | (a1 | a1))), _ | ⟨(a2 | (a2 | (a2 | a2))), st⟩⟩ <;> first | exact N9.z | skip
  rcases st with _ | ⟨(a3 | (a3 | (⟨k, j⟩ | a3))), _ | ⟨(a4 | (a4 | (a4 | a4))), st⟩⟩ <;> first | exact N9.z | skip
  rcases st with _ | ⟨(a5 | (a5 | (⟨k2, j2⟩ | a5))), st⟩ <;> first | exact N9.z | skip
  dsimp only
  rcases h1 : Nat.beq (kTag k2) 1 with _ | _
  · exact N9.z
  rcases h2 : Nat.beq (kTag k) 1 with _ | _
  · exact N9.z
  have hk : k ≠ 999 := tag_999 (by rw [Nat.eq_of_beq_eq_true h2]; decide)
  exact N9.ite N9.z (N9.ite N9.z (N9.ite N9.z (N9.ite N9.z (N9.ite N9.z (N9.cond (N9.k _ _ _ _ (cpy_999 hk)) N9.z)))))
theorem stp_n9 (ins : Instr) : N9 S (fun _ K z => stp N ins pc L st S K z) := by
  cases ins <;> first | exact N9.z | exact N9.k _ _ _ _ | exact n9_iload | exact n9_lload | exact n9_aload | exact n9_istore | exact n9_astore | exact n9_lstore | exact n9_iinc | exact n9_iop | exact n9_iopc | exact n9_idv | exact n9_lop | exact n9_ldv | exact n9_lsh | exact n9_lcmp | exact n9_i2l | exact n9_l2i | exact n9_i2b | exact n9_dup | exact n9_dup2 | exact n9_pop | exact n9_icmp | exact n9_if | exact n9_ifnull | exact n9_switch | exact n9_get | exact n9_put | exact n9_alen | exact n9_iald | exact n9_bald | exact n9_lald | exact n9_iast | exact n9_bast | exact n9_last | exact n9_new | exact n9_newa | exact n9_slen | exact n9_schr | exact n9_obj | exact n9_copy
end N9S
section N9E
variable {N : Nat}
def One9 (N m : Nat) (ins : Instr) (pc : Nat) (L st : List MV) (S : MS) : Prop :=
    (∃ (k : Nat) (as rest : List MV), ∀ inv K, one N m inv ins pc L st S K = bnd (inv k as S) (fun r S' => K (pc + 1) L (push r rest) S')) ∨
    (∃ (pc' : Nat) (L' st' : List MV) (S' : MS), S'.2.2 999 = S.2.2 999 ∧ ∀ inv K, one N m inv ins pc L st S K = K pc' L' st' S') ∨ (∃ o : Option Out, (∀ x, o = some x → x.2.2.2 999 = S.2.2 999) ∧ ∀ inv K, one N m inv ins pc L st S K = o)
theorem one9_s {m : Nat} {ins : Instr} {pc : Nat} {L st : List MV} {S : MS} (h : ∀ inv K, one N m inv ins pc L st S K = stp N ins pc L st S K none) : One9 N m ins pc L st S := by
  rcases stp_n9 (N := N) (pc := pc) (L := L) (st := st) (S := S) ins with ⟨a, b, c, d, hl, e⟩ | e
  · exact Or.inr (Or.inl ⟨a, b, c, d, hl, fun inv K => (h inv K).trans (e _ K none)⟩)
  · exact Or.inr (Or.inr ⟨none, (fun _ h => by cases h), fun inv K => (h inv K).trans (e _ K none)⟩)
theorem one9_c {m : Nat} {ins : Instr} {pc : Nat} {L st : List MV} {S : MS} (k : Nat) (h : ∀ inv K, one N m inv ins pc L st S K = xcall inv k pc L st S K) : One9 N m ins pc L st S := by
  rcases e : takeR (mArg k) st [] with _ | ⟨as, rest⟩
  · exact Or.inr (Or.inr ⟨none, (fun _ h => by cases h), fun inv K => (h inv K).trans (by simp only [xcall, e])⟩)
  · rcases e2 : recvOk k as with _ | _
    · exact Or.inr (Or.inr ⟨none, (fun _ h => by cases h), fun inv K => (h inv K).trans (by simp only [xcall, e, e2, cond_false])⟩)
    · rcases e3 : Nat.ble (wordsOf rest) 8 with _ | _
      · exact Or.inr (Or.inr ⟨none, (fun _ h => by cases h), fun inv K => (h inv K).trans (by simp only [xcall, e, e2, e3, cond_true, cond_false])⟩)
      · exact Or.inl ⟨k, as, rest, fun inv K => (h inv K).trans (by simp only [xcall, e, e2, e3, cond_true])⟩
theorem xret_9 {m : Nat} {st : List MV} {S : MS} {x : Out} (h : xret m st S = some x) : x.2.2.2 999 = S.2.2 999 := by
  unfold xret at h
  split at h <;> (try split at h) <;> (try split at h) <;> (try split at h) <;> first | (cases h; rfl) | cases h
theorem one9 (m : Nat) (ins : Instr) (pc : Nat) (L st : List MV) (S : MS) : One9 N m ins pc L st S := by
  cases ins <;> first | exact one9_s (fun _ _ => rfl) | exact one9_c _ (fun _ _ => rfl) | exact Or.inr (Or.inr ⟨_, fun _ h => xret_9 h, fun _ _ => rfl⟩)
theorem exec_999 : ∀ (F : Nat) (m pc : Nat) (L st : List MV) (S : MS) (o : Out), exec N F m pc L st S = some o → o.2.2.2 999 = S.2.2 999 := by
  intro F
  induction F with
  | zero => intro m pc L st S o h; exact absurd h (by simp [exec])
  | succ F ih =>
    intro m pc L st S o h
    rw [exec] at h
    rcases e : nth (cod m) pc with _ | ins
    · rw [e] at h; exact absurd h (by simp)
    rw [e] at h
    dsimp only at h
    rcases one9 (N := N) m ins pc L st S with ⟨k, as, rest, hc⟩ | ⟨a, b, c, d, hl, hc⟩ | ⟨o', hl, hc⟩
    · rw [hc] at h
      obtain ⟨y, h1, h2⟩ := bnd_some h
      exact (ih _ _ _ _ _ _ h2).trans (ih _ _ _ _ _ _ h1)
    · rw [hc] at h
      exact (ih _ _ _ _ _ _ h).trans hl
    · rw [hc] at h
      exact hl o h
theorem inv_999 {k : Nat} {as : List MV} {S : MS} {o : Out} (h : inv N k as S = some o) : o.2.2.2 999 = S.2.2 999 := by
  obtain ⟨F, hF⟩ := ev_to h
  exact exec_999 F _ _ _ _ _ _ hF
end N9E
end
section
/-! TRUTH -/
theorem bool_if (v : Int) : (if v = 0 then (0 : Int) else 1) = 0 ∨ (if v = 0 then (0 : Int) else 1) = 1 := by
  by_cases h : v = 0
  · rw [if_pos h]; exact Or.inl rfl
  · rw [if_neg h]; exact Or.inr rfl
end
