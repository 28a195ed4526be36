/-! ROUTE, the model's -/
def MR (σ τ : Sto) : Prop := (∀ k k', ¬ (k' = 0 ∧ (k = 30 ∨ k = 40 ∨ k = 43 ∨ k = 44 ∨ k = 45 ∨ k = 48 ∨ k = 49 ∨ k = 50 ∨ k = 51)) → τ k k' = σ k k') ∧ (∀ j, j ≠ 22 → j ≠ 23 → j ≠ 24 → j ≠ 34 → τ 30 0 j = σ 30 0 j)
theorem MR_refl (σ : Sto) : MR σ σ := ⟨fun _ _ _ => rfl, fun _ _ _ _ _ => rfl⟩
theorem MR_row {σ τ : Sto} (h : MR σ τ) (k : Nat) (hk : k = 40 ∨ k = 43 ∨ k = 44 ∨ k = 45 ∨ k = 48 ∨ k = 49 ∨ k = 50 ∨ k = 51) (f : Vec) : MR σ (row τ k 0 f) := by
  refine ⟨fun i i' q => ?_, fun j j1 j2 j3 j4 => ?_⟩
  · rw [row_at, if_neg (fun z => q ⟨z.2, by rw [z.1]; exact Or.inr hk⟩)]
    exact h.1 i i' q
  · rw [row_at, if_neg (by omega)]
    exact h.2 j j1 j2 j3 j4
theorem MR_KM {σ τ υ : Sto} (h : MR σ τ) (k : KM τ υ) : MR σ υ := by
  refine ⟨fun i i' q => ?_, fun j j1 j2 j3 j4 => (k.2 j j1 j2 j3).trans (h.2 j j1 j2 j3 j4)⟩
  rw [k.1 i i' (fun z => q ⟨z.1, by omega⟩)]
  exact h.1 i i' q
theorem MR_34 {σ τ : Sto} (h : MR σ τ) (v : Int) : MR σ (sup τ 30 0 34 v) := by
  rw [sup_row]
  refine ⟨fun i i' q => ?_, fun j j1 j2 j3 j4 => ?_⟩
  · rw [row_at, if_neg (fun z => q ⟨z.2, Or.inl z.1⟩)]
    exact h.1 i i' q
  · rw [row_same, set_ne _ _ j4]
    exact h.2 j j1 j2 j3 j4
theorem MR_env {σ τ : Sto} (h : MR σ τ) (he : EnvM σ σ) : EnvM σ τ := by
  have e32 : τ 32 0 = σ 32 0 := h.1 32 0 (by decide)
  have e33 : τ 33 0 = σ 33 0 := h.1 33 0 (by decide)
  have e36 : τ 36 0 = σ 36 0 := h.1 36 0 (by decide)
  have e38 : τ 38 0 = σ 38 0 := h.1 38 0 (by decide)
  have e5 : τ 30 0 5 = σ 30 0 5 := h.2 5 (by decide) (by decide) (by decide) (by decide)
  have e6 : τ 30 0 6 = σ 30 0 6 := h.2 6 (by decide) (by decide) (by decide) (by decide)
  unfold EnvM OKM whyM whyS at he ⊢
  rw [e32, e33, e36, e38, e5, e6]
  exact he
/-- cells that a class machine could hold -/
def GC (B : Int) (n : Vec) : Prop := ∃ c, RZ c n ∧ OKC c ∧ 0 ≤ c 82 ∧ c 82 < B
theorem GC_ok {B : Int} {n : Vec} (h : GC B n) : OKC n := by
  obtain ⟨c, a, b, _⟩ := h
  exact OKC_RZ b a
theorem GC_107 {B : Int} {n n2 : Vec} (h : GC B n) (e : ∀ j, j < 107 → n2 j = n j) : GC B n2 := by
  obtain ⟨c, a, b, d⟩ := h
  exact ⟨c, RZ_107 a (fun _ _ => rfl) e, b, d⟩
theorem GC_le {B C : Int} {n : Vec} (h : GC B n) (l : B ≤ C) : GC C n := by
  obtain ⟨c, a, b, d, e⟩ := h
  exact ⟨c, a, b, d, by omega⟩
theorem GC_off {B : Int} {n : Vec} (h : GC B n) : GC B (set n 78 (-1)) := by
  obtain ⟨c, a, b, d, e⟩ := h
  exact ⟨set c 78 (-1), RZ_78 a, OKC_78 b, by rw [set_ne _ _ (by decide)]; exact d, by rw [set_ne _ _ (by decide)]; exact e⟩
/-- so many steps back to the first stand -/
def chn (f : Vec) : Nat → Nat → Prop
  | 0, s => s = 0
  | n + 1, s => s ≠ 0 ∧ s < 301 ∧ ∃ p : Nat, p < s ∧ f s = (p : Int) ∧ chn f n p
theorem chn_of (f : Vec) (b : Nat) (hb : b < 301) (h : ∀ s : Nat, 1 ≤ s → s ≤ b → ∃ p : Nat, p < s ∧ f s = (p : Int)) : ∀ (m s : Nat), s ≤ m → s ≤ b → ∃ n, n ≤ s ∧ chn f n s := by
  intro m
  induction m with
  | zero =>
    intro s hs hb
    exact ⟨0, Nat.zero_le _, Nat.le_zero.mp hs⟩
  | succ m ih =>
    intro s hs hsb
    by_cases q : s = 0
    · exact ⟨0, Nat.zero_le _, q⟩
    obtain ⟨p, p1, p2⟩ := h s (by omega) hsb
    obtain ⟨n, n1, n2⟩ := ih p (by omega) (by omega)
    exact ⟨n + 1, by omega, q, by omega, p, p1, p2, n2⟩
/-- the stands that are kept, the ways to them -/
def SKp (σ : Sto) (many : Nat) (τ : Sto) : Prop := MR σ τ ∧ (∀ s : Nat, s < many → GC (2147482000 + s) (seg (τ 48 0) (107 * s))) ∧ (∀ s : Nat, 1 ≤ s → s < many → (∃ p : Nat, p < s ∧ τ 50 0 s = (p : Int)) ∧ (τ 51 0 s < 3 ∨ σ 2 1 1 ≠ 0))
theorem SKp_same {σ τ υ : Sto} {many : Nat} (h : SKp σ many τ) (m : MR σ υ) (e48 : υ 48 0 = τ 48 0) (e50 : ∀ s : Nat, s < many → υ 50 0 s = τ 50 0 s) (e51 : ∀ s : Nat, s < many → υ 51 0 s = τ 51 0 s) : SKp σ many υ := by
  refine ⟨m, fun s hs => by rw [e48]; exact h.2.1 s hs, fun s s1 hs => ?_⟩
  rw [e50 s hs, e51 s hs]
  exact h.2.2 s s1 hs
theorem SKp_KM {σ τ υ : Sto} {many : Nat} (h : SKp σ many τ) (k : KM τ υ) : SKp σ many υ := by
  refine SKp_same h (MR_KM h.1 k) (KM_r k 48 (by decide) 0) (fun s _ => ?_) (fun s _ => ?_)
  · rw [KM_r k 50 (by decide) 0]
  · rw [KM_r k 51 (by decide) 0]
/-- what seeks answers -/
def FIN (σ : Sto) (n : Int) (υ : Sto) : Prop := MR σ υ ∧ (n < 0 ∨ ∃ g m : Nat, n = (m : Int) ∧ m ≤ 300 ∧ υ 30 0 34 = (g : Int) ∧ chn (υ 50 0) m g ∧ ∀ s : Nat, 1 ≤ s → s ≤ g → (υ 51 0 s < 3 ∨ σ 2 1 1 ≠ 0))
section ROUTE
variable {N : Nat} {σ τ : Sto} {B : Int}
theorem m_isThere (hc : OKC (τ 40 0)) (v : Int) : ∃ u, inv N mX9_isThere [vR 30 0, vI v] (P τ) = some (some (vI u), P τ) := by
  have e78 : (78 : Int).toNat = 78 := rfl
  have vs := fun (s : Nat) (hs : s < 4) => s9_versionOf (N := N) (σ := τ) s hs hc.1
  have rest : ∀ s : Nat, s < 4 → τ 40 0 78 = (s : Int) → ∃ u, ev N mX9_isThere 2 [vR 30 0, vI v] [vI 1] (P τ) = some (some (vI u), P τ) := by
    intro s hs es
    rw [eX9_isThere_2, if_neg (by decide), e78, es]
    by_cases q : τ 40 0 ((79 : Int).toNat) = 1
    · rw [if_pos q, vs s hs, bnd_s, push_s, eX9_isThere_15]
      by_cases w : τ 40 0 (14 * s) - 1 = v
      · rw [if_pos w]; exact ⟨_, rfl⟩
      · rw [if_neg w]; exact ⟨_, rfl⟩
    · rw [if_neg q]; exact ⟨_, rfl⟩
  rw [iX9_isThere, eX9_isThere_0, iX9_isSlotRunning, eX9_isSlotRunning_0, e78]
  by_cases q0 : τ 40 0 78 = 0
  · rw [if_pos q0, bnd_s, push_s]
    exact rest 0 (by decide) q0
  by_cases q1 : τ 40 0 78 = 1
  · rw [if_neg q0, if_pos q1, bnd_s, push_s]
    exact rest 1 (by decide) q1
  rw [if_neg q0, if_neg q1, bnd_s, push_s, eX9_isThere_2, if_pos rfl]
  exact ⟨_, rfl⟩
theorem m_try57 (hg : OKG σ 1) (he : EnvM σ τ) (h : GC B (τ 40 0)) (hB : B < 2147483000) (k d a b : Int) : ∃ u υ, bnd (inv N mX9_canDo [vR 30 0, vI d, vI a, vI b] (P τ)) (fun r S2 => ev N mX9_tries 57 [vR 30 0, vI k, vI d, vI a, vI b] (push r []) S2) = some (some (vI u), P υ) ∧ KM τ υ ∧ GC (B + 1) (υ 40 0) := by
  have okm := GC_ok h
  have h' := h
  obtain ⟨c, r1, r2, r3, r4⟩ := h
  have can := s9_canDo (N := N) (σ := τ) he.1 okm d a b
  have ea : ableF (τ 30 0 6) (τ 36 0) (τ 40 0) d a b = ableF (σ 2 1 1) (σ 5 1) c d a b := by
    rw [he.2.2.2.1]
    exact ableF_eq r1.2 r1.1.1 he.2.2.2.2.2.2.2.1 d a b
  rw [ea] at can
  rw [can, bnd_s, push_s, eX9_tries_57]
  rcases ableF_b (σ 2 1 1) (σ 5 1) c d a b with z | z
  · rw [if_pos z]
    exact ⟨_, _, rfl, KM_refl τ, GC_le h' (by omega)⟩
  obtain ⟨υ, u1, u2, u3, u4⟩ := m_does (N := N) (σ0 := σ) (σ := τ) (x := (c, σ 6 4)) hg r1 r2 he (Int.lt_trans r4 hB) d a b (-1) z (by decide) (by decide)
  have ok := performC_ok (σ := σ) (x := (c, σ 6 4)) hg r2 d a b (-1) z
  generalize performC σ d a b (-1) (c, σ 6 4) = p at u1 u3 u4 ok
  obtain ⟨o1, o2, o3⟩ := ok
  change c 82 ≤ p.2.1 82 at o2
  change p.2.1 82 ≤ c 82 + 1 at o3
  rw [if_neg (show ¬ ableF (σ 2 1 1) (σ 5 1) c d a b = 0 by rw [z]; decide), u1, bnd_s, push_s, eX9_tries_66]
  exact ⟨_, _, rfl, u2, p.2.1, u3, o1.1, Int.le_trans r3 o2, by omega⟩
theorem m_tries (hg : OKG σ 1) (he : EnvM σ τ) (h : GC B (τ 40 0)) (hB : B < 2147483000) (k : Int) (k0 : 0 ≤ k) (hk : k < 3 ∨ τ 30 0 6 ≠ 0) : ∃ u υ, inv N mX9_tries [vR 30 0, vI k] (P τ) = some (some (vI u), P υ) ∧ KM τ υ ∧ GC (B + 1) (υ 40 0) := by
  have go := fun d a b => m_try57 (N := N) hg he h hB k d a b
  have e78 : (78 : Int).toNat = 78 := rfl
  rw [iX9_tries, eX9_tries_0]
  by_cases q0 : k = 0
  · rw [if_pos q0, s9_isOff, bnd_s, push_s, eX9_tries_4, e78, sup_row]
    have km : KM τ (row τ 40 0 (set (τ 40 0) 78 (-1))) := KM_row τ 40 _ (Or.inl rfl)
    have gc : GC (B + 1) (row τ 40 0 (set (τ 40 0) 78 (-1)) 40 0) := by
      rw [row_same]
      exact GC_le (GC_off h) (by omega)
    by_cases w : (if τ 40 0 78 = -1 then (1 : Int) else 0) = 0
    · rw [if_pos w]; exact ⟨_, _, rfl, km, gc⟩
    · rw [if_neg w]; exact ⟨_, _, rfl, km, gc⟩
  by_cases q1 : k = 1
  · have n2 : ¬ 2 < k := by omega
    rw [if_neg q0, if_pos q1, if_neg n2, if_neg n2]
    exact go _ _ _
  by_cases q2 : k = 2
  · have n2 : ¬ 2 < k := by omega
    rw [if_neg q0, if_neg q1, if_pos q2, if_neg n2, if_neg n2]
    exact go _ _ _
  have n2 : 2 < k := by omega
  have n3 : ¬ τ 30 0 6 = 0 := hk.resolve_left (by omega)
  rw [if_neg q0, if_neg q1, if_neg q2, if_pos n2, if_neg n3, if_pos n2, if_neg n3]
  exact go _ _ _
theorem sg_num {a j : Nat} (ha : a ≤ 300) (hj : j < 68) : w32 (68 * (a : Int)) = ((68 * a : Nat) : Int) ∧ w32 (((68 * a : Nat) : Int) + (j : Int)) = ((68 * a + j : Nat) : Int) ∧ ¬ ((68 * a + j : Nat) : Int) < 0 ∧ ((68 * a + j : Nat) : Int) < 20468 ∧ w32 ((j : Int) + 1) = ((j + 1 : Nat) : Int) := by
  refine ⟨?_, ?_, by omega, by omega, ?_⟩
  · rw [w32i (by omega) (by omega)]; omega
  · rw [w32i (by omega) (by omega)]; omega
  · rw [w32i (by omega) (by omega)]; omega
theorem m_sg8 (a : Nat) (ha : a ≤ 300) : ∀ (m k : Nat) (τ : Sto), k + m = 56 → ∃ g, ev N mX9_signs 8 [vR 30 0, vI (a : Int), vI ((68 * a : Nat) : Int), vI (k : Int)] [] (P τ) = ev N mX9_signs 26 [vR 30 0, vI (a : Int), vI (w32 (((68 * a : Nat) : Int) + 56)), vI 0] [] (P (row τ 49 0 g)) := by
  intro m
  induction m with
  | zero =>
    intro k τ hk
    rw [eX9_signs_8, if_neg (show ¬ (k : Int) < 56 by omega)]
    exact ⟨τ 49 0, by rw [row_id]⟩
  | succ m ih =>
    intro k τ hk
    have n := sg_num ha (show k < 68 by omega)
    rw [eX9_signs_8, if_pos (show (k : Int) < 56 by omega), if_neg (show ¬ (k : Int) < 0 by omega), if_pos (show (k : Int) < 107 by omega), n.2.1, if_neg n.2.2.1, if_pos n.2.2.2.1, n.2.2.2.2, sup_row]
    obtain ⟨g, e⟩ := ih (k + 1) (row τ 49 0 (set (τ 49 0) ((68 * a + k : Nat) : Int).toNat (τ 40 0 (k : Int).toNat))) (by omega)
    rw [row_row] at e
    exact ⟨g, e⟩
theorem sg_num2 {a j : Nat} (ha : a ≤ 300) (hj : j < 12) : w32 (((68 * a : Nat) : Int) + 56) = ((68 * a + 56 : Nat) : Int) ∧ w32 (((68 * a + 56 : Nat) : Int) + (j : Int)) = ((68 * a + 56 + j : Nat) : Int) ∧ ¬ ((68 * a + 56 + j : Nat) : Int) < 0 ∧ ((68 * a + 56 + j : Nat) : Int) < 20468 ∧ w32 ((j : Int) + 1) = ((j + 1 : Nat) : Int) := by
  refine ⟨?_, ?_, by omega, by omega, ?_⟩
  · rw [w32i (by omega) (by omega)]; omega
  · rw [w32i (by omega) (by omega)]; omega
  · rw [w32i (by omega) (by omega)]; omega
theorem sg_num3 {a : Nat} (ha : a ≤ 300) : w32 (((68 * a + 56 : Nat) : Int) + 8) = ((68 * a + 64 : Nat) : Int) ∧ w32 (((68 * a + 64 : Nat) : Int) + 1) = ((68 * a + 65 : Nat) : Int) ∧ w32 (((68 * a + 64 : Nat) : Int) + 2) = ((68 * a + 66 : Nat) : Int) ∧ w32 (((68 * a + 64 : Nat) : Int) + 3) = ((68 * a + 67 : Nat) : Int) ∧ (¬ ((68 * a + 64 : Nat) : Int) < 0 ∧ ((68 * a + 64 : Nat) : Int) < 20468) ∧ (¬ ((68 * a + 65 : Nat) : Int) < 0 ∧ ((68 * a + 65 : Nat) : Int) < 20468) ∧ (¬ ((68 * a + 66 : Nat) : Int) < 0 ∧ ((68 * a + 66 : Nat) : Int) < 20468) ∧ (¬ ((68 * a + 67 : Nat) : Int) < 0 ∧ ((68 * a + 67 : Nat) : Int) < 20468) := by
  refine ⟨?_, ?_, ?_, ?_, by omega, by omega, by omega, by omega⟩
  · rw [w32i (by omega) (by omega)]; omega
  · rw [w32i (by omega) (by omega)]; omega
  · rw [w32i (by omega) (by omega)]; omega
  · rw [w32i (by omega) (by omega)]; omega
theorem m_sg26 (a : Nat) (ha : a ≤ 300) : ∀ (m k : Nat) (τ : Sto), k + m = 8 → ∃ g, ev N mX9_signs 26 [vR 30 0, vI (a : Int), vI ((68 * a + 56 : Nat) : Int), vI (k : Int)] [] (P τ) = some (none, P (row τ 49 0 g)) := by
  intro m
  induction m with
  | zero =>
    intro k τ hk
    obtain ⟨n1, n2, n3, n4, p1, p2, p3, p4⟩ := sg_num3 ha
    rw [eX9_signs_26, if_neg (show ¬ (k : Int) < 8 by omega), n1, n2, n3, n4, if_neg p1.1, if_pos p1.2, if_neg p2.1, if_pos p2.2, if_neg p3.1, if_pos p3.2, s9_isOff, bnd_s, push_s, eX9_signs_77]
    simp only [sup_row, row_same, row_row]
    generalize (if _ = (-1 : Int) then (1 : Int) else 0) = y0
    by_cases w : y0 = 0
    · rw [if_pos w, if_neg p4.1, if_pos p4.2]
      exact ⟨_, rfl⟩
    · rw [if_neg w, if_neg p4.1, if_pos p4.2]
      exact ⟨_, rfl⟩
  | succ m ih =>
    intro k τ hk
    have n := sg_num2 ha (show k < 12 by omega)
    rw [eX9_signs_26, if_pos (show (k : Int) < 8 by omega), if_neg (show ¬ (k : Int) < 0 by omega), if_pos (show (k : Int) < 8 by omega), n.2.1, if_neg n.2.2.1, if_pos n.2.2.2.1, n.2.2.2.2, sup_row]
    obtain ⟨g, e⟩ := ih (k + 1) (row τ 49 0 (set (τ 49 0) ((68 * a + 56 + k : Nat) : Int).toNat (τ 43 0 (k : Int).toNat))) (by omega)
    rw [row_row] at e
    exact ⟨g, e⟩
theorem m_signs (hc : OKC (τ 40 0)) (a : Nat) (ha : a ≤ 300) : ∃ g, inv N mX9_signs [vR 30 0, vI (a : Int)] (P τ) = some (none, P (row (rfM τ) 49 0 g)) := by
  obtain ⟨g1, e1⟩ := m_sg8 (N := N) a ha 56 0 (rfM τ) rfl
  obtain ⟨g2, e2⟩ := m_sg26 (N := N) a ha 8 0 (row (rfM τ) 49 0 g1) rfl
  have e0 : ((0 : Nat) : Int) = 0 := rfl
  rw [e0] at e1 e2
  rw [(sg_num2 ha (show 0 < 12 by decide)).1] at e1
  rw [iX9_signs, eX9_signs_0, s9_readsFlags hc.2.1, bnd_s, push_n, eX9_signs_2, (sg_num ha (show 0 < 68 by decide)).1, e1, e2, row_row]
  exact ⟨g2, rfl⟩
theorem m_alike (τ : Sto) (a b : Nat) (ha : a ≤ 300) (hb : b ≤ 300) : ∃ u, inv N mX9_areAlike [vR 30 0, vI (a : Int), vI (b : Int)] (P τ) = some (some (vI u), P τ) := by
  have lp : ∀ (m k : Nat), k + m = 68 → ∃ u, ev N mX9_areAlike 2 [vR 30 0, vI (a : Int), vI (b : Int), vI (k : Int)] [] (P τ) = some (some (vI u), P τ) := by
    intro m
    induction m with
    | zero =>
      intro k hk
      rw [eX9_areAlike_2, if_neg (show ¬ (k : Int) < 68 by omega)]
      exact ⟨_, rfl⟩
    | succ m ih =>
      intro k hk
      have n := sg_num ha (show k < 68 by omega)
      have n' := sg_num hb (show k < 68 by omega)
      rw [eX9_areAlike_2, if_pos (show (k : Int) < 68 by omega), n.1, n'.1, n.2.1, n'.2.1, if_neg n.2.2.1, if_pos n.2.2.2.1, if_neg n'.2.2.1, if_pos n'.2.2.2.1, n.2.2.2.2]
      by_cases q : τ 49 0 ((68 * a + k : Nat) : Int).toNat = τ 49 0 ((68 * b + k : Nat) : Int).toNat
      · rw [if_pos q]
        exact ih (k + 1) (by omega)
      · rw [if_neg q]
        exact ⟨_, rfl⟩
  rw [iX9_areAlike, eX9_areAlike_0]
  exact lp 68 0 rfl
theorem m_len (τ : Sto) (x1 : Int) : ∀ (n s : Nat) (x2 : Int), 0 ≤ x2 → x2 + n < 2147483648 → chn (τ 50 0) n s → ev N mX9_lengthOf 4 [vR 30 0, vI x1, vI x2, vI (s : Int)] [] (P τ) = some (some (vI (x2 + n)), P τ) := by
  intro n
  induction n with
  | zero =>
    intro s x2 h0 h1 h
    have e : s = 0 := h
    subst e
    rw [eX9_lengthOf_4, if_pos (by decide)]
    rw [show x2 + ((0 : Nat) : Int) = x2 by omega]
  | succ n ih =>
    intro s x2 h0 h1 h
    obtain ⟨c1, c2, p, c3, c4, c5⟩ := h
    have e1 : w32 (x2 + 1) = x2 + 1 := w32i (by omega) (by omega)
    rw [eX9_lengthOf_4, if_neg (show ¬ (s : Int) = 0 by omega), if_neg (show ¬ (s : Int) < 0 by omega), if_pos (show (s : Int) < 301 by omega), e1, Int.toNat_natCast, c4, ih p (x2 + 1) (by omega) (by omega) c5]
    rw [show x2 + 1 + (n : Int) = x2 + ((n + 1 : Nat) : Int) by omega]
theorem m_old (τ : Sto) (v at' k : Int) (many : Nat) (hm : many ≤ 300) : ∀ (m j : Nat) (x5 : Int), j + m = many → ∃ y5 y6 : Int, ev N mX9_seeks 79 [vR 30 0, vI v, vI (many : Int), vI at', vI k, vI x5, vI (j : Int)] [] (P τ) = ev N mX9_seeks 31 [vR 30 0, vI v, vI (many : Int), vI at', vI (w32 (k + 1)), vI y5, vI y6] [] (P τ) ∨ ev N mX9_seeks 79 [vR 30 0, vI v, vI (many : Int), vI at', vI k, vI x5, vI (j : Int)] [] (P τ) = (if (many : Int) = 300 then some (some (vI (-3)), P τ) else bnd (inv N mX9_keepsIn [vR 30 0, vR 48 0, vI (w32 (107 * (many : Int)))] (P τ)) (fun r S2 => ev N mX9_seeks 105 [vR 30 0, vI v, vI (many : Int), vI at', vI k, vI y5, vI y6] (push r []) S2)) := by
  intro m
  induction m with
  | zero =>
    intro j x5 hj
    refine ⟨x5, (j : Int), ?_⟩
    rw [eX9_seeks_79, if_neg (show ¬ (j : Int) < (many : Int) by omega)]
    by_cases q : x5 = 0
    · rw [if_pos q]; exact Or.inr rfl
    · rw [if_neg q]; exact Or.inl rfl
  | succ m ih =>
    intro j x5 hj
    have e1 : w32 ((j : Int) + 1) = ((j + 1 : Nat) : Int) := by rw [w32i (by omega) (by omega)]; omega
    rw [eX9_seeks_79, if_pos (show (j : Int) < (many : Int) by omega)]
    by_cases q : x5 = 0
    · obtain ⟨u, eu⟩ := m_alike (N := N) τ j many (by omega) hm
      rw [if_pos q, eu, bnd_s, push_s, eX9_seeks_88, e1]
      exact ih (j + 1) u (by omega)
    · rw [if_neg q, if_neg q]
      exact ⟨x5, (j : Int), Or.inl rfl⟩
theorem GC_seg {f g : Vec} {a : Nat} (h : GC B (seg f a)) : GC B (cpyV f g a 0 107) := GC_107 h (fun j hj => by
  have t := cpyV_in f g a 0 107 j hj
  rw [Nat.zero_add] at t
  exact t)
/-- a try, what is behind it -/
theorem m_after (hg : OKG σ 1) (he : EnvM σ σ) (v : Int) (at' many : Nat) (k : Int) (x5 x6 : MV) (h : SKp σ many τ) (hm : many ≤ 300) (ha : at' < many) (hgc : GC (2147482000 + at' + 1) (τ 40 0)) (hk : k < 3 ∨ σ 2 1 1 ≠ 0) : (∃ n υ, bnd (inv N mX9_isThere [vR 30 0, vI v] (P (sup (sup τ 50 0 (many : Int).toNat (at' : Int)) 51 0 (many : Int).toNat k))) (fun r S2 => ev N mX9_seeks 64 [vR 30 0, vI v, vI (many : Int), vI (at' : Int), vI k, x5, x6] (push r []) S2) = some (some (vI n), P υ) ∧ FIN σ n υ) ∨ (∃ (many' : Nat) (υ : Sto) (y5 y6 : Int), bnd (inv N mX9_isThere [vR 30 0, vI v] (P (sup (sup τ 50 0 (many : Int).toNat (at' : Int)) 51 0 (many : Int).toNat k))) (fun r S2 => ev N mX9_seeks 64 [vR 30 0, vI v, vI (many : Int), vI (at' : Int), vI k, x5, x6] (push r []) S2) = ev N mX9_seeks 31 [vR 30 0, vI v, vI (many' : Int), vI (at' : Int), vI (w32 (k + 1)), vI y5, vI y6] [] (P υ) ∧ SKp σ many' υ ∧ at' < many' ∧ many' ≤ 300) := by
  rw [Int.toNat_natCast, sup_row, sup_row]
  have m2 : MR σ (row (row τ 50 0 (set (τ 50 0) many (at' : Int))) 51 0 (set (row τ 50 0 (set (τ 50 0) many (at' : Int)) 51 0) many k)) := MR_row (MR_row h.1 50 (by decide) _) 51 (by decide) _
  have e48 : row (row τ 50 0 (set (τ 50 0) many (at' : Int))) 51 0 (set (row τ 50 0 (set (τ 50 0) many (at' : Int)) 51 0) many k) 48 0 = τ 48 0 := by rw [row_at, if_neg (by decide), row_at, if_neg (by decide)]
  have e40 : row (row τ 50 0 (set (τ 50 0) many (at' : Int))) 51 0 (set (row τ 50 0 (set (τ 50 0) many (at' : Int)) 51 0) many k) 40 0 = τ 40 0 := by rw [row_at, if_neg (by decide), row_at, if_neg (by decide)]
  have e50 : row (row τ 50 0 (set (τ 50 0) many (at' : Int))) 51 0 (set (row τ 50 0 (set (τ 50 0) many (at' : Int)) 51 0) many k) 50 0 = set (τ 50 0) many (at' : Int) := by rw [row_at, if_neg (by decide), row_same]
  have e51 : row (row τ 50 0 (set (τ 50 0) many (at' : Int))) 51 0 (set (row τ 50 0 (set (τ 50 0) many (at' : Int)) 51 0) many k) 51 0 = set (τ 51 0) many k := by rw [row_same, row_at, if_neg (by decide)]
  generalize row (row τ 50 0 (set (τ 50 0) many (at' : Int))) 51 0 (set (row τ 50 0 (set (τ 50 0) many (at' : Int)) 51 0) many k) = τ2 at m2 e48 e40 e50 e51
  have gc2 : GC (2147482000 + at' + 1) (τ2 40 0) := by rw [e40]; exact hgc
  have sk2 : SKp σ many τ2 := SKp_same h m2 e48 (fun s hs => by rw [e50, set_ne _ _ (by omega)]) (fun s hs => by rw [e51, set_ne _ _ (by omega)])
  have lk : (∃ p : Nat, p < many ∧ τ2 50 0 many = (p : Int)) ∧ (τ2 51 0 many < 3 ∨ σ 2 1 1 ≠ 0) := by
    refine ⟨⟨at', ha, by rw [e50, set_same]⟩, ?_⟩
    rw [e51, set_same]
    exact hk
  have lks : ∀ s : Nat, 1 ≤ s → s ≤ many → (∃ p : Nat, p < s ∧ τ2 50 0 s = (p : Int)) ∧ (τ2 51 0 s < 3 ∨ σ 2 1 1 ≠ 0) := by
    intro s s1 s2
    by_cases q : s = many
    · rw [q]; exact lk
    · exact sk2.2.2 s s1 (by omega)
  obtain ⟨u, eu⟩ := m_isThere (N := N) (GC_ok gc2) v
  rw [eu, bnd_s, push_s, eX9_seeks_64]
  by_cases q : u = 0
  case neg =>
    -- there
    rw [if_neg q]
    have m3 := MR_34 m2 (many : Int)
    have f34 : sup τ2 30 0 34 (many : Int) 30 0 34 = (many : Int) := by rw [sup_row, row_same, set_same]
    have f50 : sup τ2 30 0 34 (many : Int) 50 0 = τ2 50 0 := by rw [sup_row, row_at, if_neg (by decide)]
    have f51 : sup τ2 30 0 34 (many : Int) 51 0 = τ2 51 0 := by rw [sup_row, row_at, if_neg (by decide)]
    generalize sup τ2 30 0 34 (many : Int) = τ3 at m3 f34 f50 f51
    obtain ⟨n, n1, n2⟩ := chn_of (τ3 50 0) many (by omega) (fun s s1 s2 => by rw [f50]; exact (lks s s1 s2).1) many many (Nat.le_refl _) (Nat.le_refl _)
    have ln := m_len (N := N) τ3 (many : Int) n many 0 (by decide) (by omega) n2
    rw [iX9_lengthOf, eX9_lengthOf_0, ln, bnd_s, push_s, eX9_seeks_71]
    refine Or.inl ⟨_, _, rfl, m3, Or.inr ⟨many, n, by omega, by omega, f34, n2, fun s s1 s2 => ?_⟩⟩
    rw [f51]
    exact (lks s s1 s2).2
  obtain ⟨g, eg⟩ := m_signs (N := N) (GC_ok gc2) many hm
  rw [if_pos q, eg, bnd_s, push_n, eX9_seeks_75]
  have m3 : MR σ (row (rfM τ2) 49 0 g) := MR_row (MR_KM m2 (KM_rf τ2)) 49 (by decide) g
  have r3 : ∀ j, j ≠ 43 → j ≠ 49 → row (rfM τ2) 49 0 g j 0 = τ2 j 0 := fun j j1 j2 => by
    unfold rfM
    rw [row_at, if_neg (fun z => j2 z.1), row_at, if_neg (fun z => j1 z.1)]
  generalize row (rfM τ2) 49 0 g = τ3 at m3 r3
  have sk3 : SKp σ many τ3 := SKp_same sk2 m3 (r3 48 (by decide) (by decide)) (fun s _ => by rw [r3 50 (by decide) (by decide)]) (fun s _ => by rw [r3 51 (by decide) (by decide)])
  have gc3 : GC (2147482000 + at' + 1) (τ3 40 0) := by rw [r3 40 (by decide) (by decide)]; exact gc2
  have e0 : ((0 : Nat) : Int) = 0 := rfl
  obtain ⟨y5, y6, old⟩ := m_old (N := N) τ3 v (at' : Int) k many hm many 0 0 (by omega)
  rw [e0] at old
  rcases old with old | old
  · rw [old]
    exact Or.inr ⟨many, τ3, y5, y6, rfl, sk3, ha, hm⟩
  rw [old]
  by_cases z : (many : Int) = 300
  · rw [if_pos z]
    exact Or.inl ⟨_, _, rfl, m3, Or.inl (by decide)⟩
  have e107 : w32 (107 * (many : Int)) = ((107 * many : Nat) : Int) := by rw [w32i (by omega) (by omega)]; omega
  have em : w32 ((many : Int) + 1) = ((many + 1 : Nat) : Int) := by rw [w32i (by omega) (by omega)]; omega
  rw [if_neg z, e107, s9_keep48 (107 * many) (by omega), bnd_s, push_n, eX9_seeks_105, em]
  refine Or.inr ⟨many + 1, _, y5, y6, rfl, ⟨MR_row m3 48 (by decide) _, fun s hs => ?_, fun s s1 hs => ?_⟩, by omega, by omega⟩
  · rw [row_same]
    by_cases w : s = many
    · rw [w]
      refine GC_le (GC_107 gc3 (fun j hj => ?_)) (by omega)
      have t := cpyV_in (τ3 40 0) (τ3 48 0) 0 (107 * many) 107 j hj
      rw [Nat.zero_add] at t
      exact t
    · refine GC_107 (sk3.2.1 s (by omega)) (fun j hj => ?_)
      exact cpyV_out (τ3 40 0) (τ3 48 0) 0 (107 * many) 107 (107 * s + j) (by omega)
  · rw [row_at, if_neg (by decide), row_at, if_neg (by decide), r3 50 (by decide) (by decide), r3 51 (by decide) (by decide)]
    exact lks s s1 (by omega)
theorem m_inner (hg : OKG σ 1) (he : EnvM σ σ) (v : Int) (at' : Nat) : ∀ (m k : Nat) (τ : Sto) (many : Nat) (x5 x6 : MV), k + m = 15 → SKp σ many τ → many ≤ 300 → at' < many → (∃ n υ, ev N mX9_seeks 31 [vR 30 0, vI v, vI (many : Int), vI (at' : Int), vI (k : Int), x5, x6] [] (P τ) = some (some (vI n), P υ) ∧ FIN σ n υ) ∨ (∃ (many' : Nat) (υ : Sto) (y4 y5 y6 : MV), ev N mX9_seeks 31 [vR 30 0, vI v, vI (many : Int), vI (at' : Int), vI (k : Int), x5, x6] [] (P τ) = ev N mX9_seeks 26 [vR 30 0, vI v, vI (many' : Int), vI ((at' + 1 : Nat) : Int), y4, y5, y6] [] (P υ) ∧ SKp σ many' υ ∧ at' < many' ∧ many' ≤ 300) := by
  have i0 := hg.2.2.1
  have i1 := hg.2.2.2.1
  intro m
  induction m with
  | zero =>
    intro k τ many x5 x6 hk h hm ha
    have e6 : τ 30 0 6 = σ 2 1 1 := (MR_env h.1 he).2.2.2.1
    have w2 : w32 (3 + (w32 (2 * σ 2 1 1))) = 3 + 2 * σ 2 1 1 := by rw [w32i (x := 2 * σ 2 1 1) (by omega) (by omega), w32i (by omega) (by omega)]
    have ea : w32 ((at' : Int) + 1) = ((at' + 1 : Nat) : Int) := by rw [w32i (by omega) (by omega)]; omega
    rw [eX9_seeks_31, e6, w2, if_neg (show ¬ (k : Int) < 3 + 2 * σ 2 1 1 by omega), ea]
    exact Or.inr ⟨many, τ, _, _, _, rfl, h, ha, hm⟩
  | succ m ih =>
    intro k τ many x5 x6 hk h hm ha
    have e6 : τ 30 0 6 = σ 2 1 1 := (MR_env h.1 he).2.2.2.1
    have w2 : w32 (3 + (w32 (2 * σ 2 1 1))) = 3 + 2 * σ 2 1 1 := by rw [w32i (x := 2 * σ 2 1 1) (by omega) (by omega), w32i (by omega) (by omega)]
    have ea : w32 ((at' : Int) + 1) = ((at' + 1 : Nat) : Int) := by rw [w32i (by omega) (by omega)]; omega
    have ek : w32 ((k : Int) + 1) = ((k + 1 : Nat) : Int) := by rw [w32i (by omega) (by omega)]; omega
    have e107 : w32 (107 * (at' : Int)) = ((107 * at' : Nat) : Int) := by rw [w32i (by omega) (by omega)]; omega
    rw [eX9_seeks_31, e6, w2]
    by_cases q : (k : Int) < 3 + 2 * σ 2 1 1
    case neg =>
      rw [if_neg q, ea]
      exact Or.inr ⟨many, τ, _, _, _, rfl, h, ha, hm⟩
    have hk3 : (k : Int) < 3 ∨ σ 2 1 1 ≠ 0 := by omega
    rw [if_pos q, e107, s9_lays48 (107 * at') (by omega), bnd_s, push_n, eX9_seeks_46]
    have km1 : KM τ (row τ 40 0 (cpyV (τ 48 0) (τ 40 0) (107 * at') 0 107)) := KM_row τ 40 _ (Or.inl rfl)
    have gc1 : GC (2147482000 + at') (row τ 40 0 (cpyV (τ 48 0) (τ 40 0) (107 * at') 0 107) 40 0) := by
      rw [row_same]
      exact GC_seg (h.2.1 at' ha)
    have h1 := SKp_KM h km1
    generalize row τ 40 0 (cpyV (τ 48 0) (τ 40 0) (107 * at') 0 107) = τ1 at km1 gc1 h1
    have e61 : τ1 30 0 6 = σ 2 1 1 := (MR_env h1.1 he).2.2.2.1
    obtain ⟨u, υ, u1, u2, u3⟩ := m_tries (N := N) hg (MR_env h1.1 he) gc1 (by omega) (k : Int) (by omega) (by rw [e61]; exact hk3)
    have h2 := SKp_KM h1 u2
    rw [u1, bnd_s, push_s, eX9_seeks_49]
    by_cases z : u = 0
    · rw [if_pos z, ek]
      exact ih (k + 1) υ many x5 x6 (by omega) h2 hm ha
    have n0 : ¬ (many : Int) < 0 := by omega
    have n1 : (many : Int) < 301 := by omega
    rw [if_neg z, if_neg n0, if_pos n1, if_neg n0, if_pos n1]
    rcases m_after (N := N) hg he v at' many (k : Int) x5 x6 h2 hm ha u3 hk3 with ⟨n, ρ, r1, r2⟩ | ⟨many', ρ, y5, y6, r1, r2, r3, r4⟩
    · exact Or.inl ⟨n, ρ, r1, r2⟩
    · rw [r1, ek]
      exact ih (k + 1) ρ many' (vI y5) (vI y6) (by omega) r2 r4 r3
theorem m_outer (hg : OKG σ 1) (he : EnvM σ σ) (v : Int) : ∀ (m k : Nat) (τ : Sto) (many : Nat) (x4 x5 x6 : MV), k + m = 300 → SKp σ many τ → many ≤ 300 → ∃ n υ, ev N mX9_seeks 26 [vR 30 0, vI v, vI (many : Int), vI (k : Int), x4, x5, x6] [] (P τ) = some (some (vI n), P υ) ∧ FIN σ n υ := by
  intro m
  induction m with
  | zero =>
    intro k τ many x4 x5 x6 hk h hm
    rw [eX9_seeks_26, if_neg (show ¬ (k : Int) < (many : Int) by omega)]
    exact ⟨_, _, rfl, h.1, Or.inl (by decide)⟩
  | succ m ih =>
    intro k τ many x4 x5 x6 hk h hm
    rw [eX9_seeks_26]
    by_cases q : (k : Int) < (many : Int)
    · have e0 : ((0 : Nat) : Int) = 0 := rfl
      rw [if_pos q]
      have go := m_inner (N := N) hg he v k 15 0 τ many x5 x6 rfl h hm (by omega)
      rw [e0] at go
      rcases go with ⟨n, ρ, r1, r2⟩ | ⟨many', ρ, y4, y5, y6, r1, r2, r3, r4⟩
      · exact ⟨n, ρ, r1, r2⟩
      · rw [r1]
        exact ih (k + 1) ρ many' y4 y5 y6 (by omega) r2 r4
    · rw [if_neg q]
      exact ⟨_, _, rfl, h.1, Or.inl (by decide)⟩
theorem m_seeks (hg : OKG σ 1) (he : EnvM σ σ) (hgc : GC 2147482000 (σ 40 0)) (v : Int) : ∃ n υ, inv N mX9_seeks [vR 30 0, vI v] (P σ) = some (some (vI n), P υ) ∧ FIN σ n υ := by
  obtain ⟨u, eu⟩ := m_isThere (N := N) (GC_ok hgc) v
  rw [iX9_seeks, eX9_seeks_0, eu, bnd_s, push_s, eX9_seeks_3]
  by_cases q : u = 0
  case neg =>
    rw [if_neg q]
    refine ⟨_, _, rfl, MR_34 (MR_refl σ) 0, Or.inr ⟨0, 0, rfl, by decide, ?_, rfl, fun s s1 s2 => absurd s1 (by omega)⟩⟩
    rw [sup_row, row_same, set_same]
    rfl
  obtain ⟨g, eg⟩ := m_signs (N := N) (GC_ok hgc) 0 (by decide)
  have e0 : ((0 : Nat) : Int) = 0 := rfl
  rw [e0] at eg
  have m1 : MR σ (row (rfM σ) 49 0 g) := MR_row (MR_KM (MR_refl σ) (KM_rf σ)) 49 (by decide) g
  have r1 : row (rfM σ) 49 0 g 40 0 = σ 40 0 := by
    unfold rfM
    rw [row_at, if_neg (by decide), row_at, if_neg (by decide)]
  rw [if_pos q, eg, bnd_s, push_n, eX9_seeks_12]
  generalize row (rfM σ) 49 0 g = τ at m1 r1
  have kp := s9_keep48 (N := N) (σ := τ) 0 (by decide)
  rw [e0] at kp
  rw [kp, bnd_s, push_n, eX9_seeks_17, sup_row]
  refine m_outer hg he v 300 0 _ 1 vX vX vX rfl ⟨MR_row (MR_row m1 48 (by decide) _) 50 (by decide) _, fun s hs => ?_, fun s s1 s2 => absurd s2 (by omega)⟩ (by decide)
  have s0 : s = 0 := by omega
  rw [s0, row_at, if_neg (by decide), row_same, r1]
  refine GC_le (GC_107 hgc (fun j hj => ?_)) (by omega)
  have t := cpyV_in (σ 40 0) (τ 48 0) 0 0 107 j hj
  rw [Nat.zero_add] at t
  show cpyV (σ 40 0) (τ 48 0) 0 0 107 (107 * 0 + j) = σ 40 0 j
  rw [Nat.mul_zero, Nat.zero_add]
  exact t
theorem m_walk (τ : Sto) (im v k n : Int) (k0 : 0 ≤ k) (hi : τ 30 0 6 = im) : ∀ (d : Nat) (at' m : Nat), m ≤ 300 → chn (τ 50 0) (m + 1) at' → (m : Int) = k + d → (∀ s : Nat, 1 ≤ s → s ≤ at' → (τ 51 0 s < 3 ∨ im ≠ 0)) → ∃ ans, ev N mX9_route 40 [vR 30 0, vI v, vI k, vI n, vI (at' : Int), vI (m : Int)] [] (P τ) = some (some (vI ans), P τ) := by
  intro d
  induction d with
  | zero =>
    intro at' m hm h e hb
    obtain ⟨c1, c2, p, c3, c4, c5⟩ := h
    have n0 : ¬ (at' : Int) < 0 := by omega
    have n1 : (at' : Int) < 301 := by omega
    have b := hb at' (by omega) (Nat.le_refl _)
    rw [eX9_route_40, if_neg (show ¬ k < (m : Int) by omega), if_neg n0, if_pos n1, Int.toNat_natCast, hi]
    by_cases q : τ 51 0 at' < 3
    · rw [if_pos q]; exact ⟨_, rfl⟩
    · have i0 := b.resolve_left q
      rw [if_neg q, if_neg i0, if_neg i0]; exact ⟨_, rfl⟩
  | succ d ih =>
    intro at' m hm h e hb
    obtain ⟨c1, c2, p, c3, c4, c5⟩ := h
    have n0 : ¬ (at' : Int) < 0 := by omega
    have n1 : (at' : Int) < 301 := by omega
    cases m with
    | zero => exact absurd e (by omega)
    | succ m =>
      have e1 : w32 (((m + 1 : Nat) : Int) + (-1)) = (m : Int) := by rw [w32i (by omega) (by omega)]; omega
      rw [eX9_route_40, if_pos (show k < ((m + 1 : Nat) : Int) by omega), if_neg n0, if_pos n1, Int.toNat_natCast, c4, e1]
      exact ih p m (by omega) c5 (by omega) (fun s s1 s2 => hb s s1 (by omega))
theorem m_route {L : Int} (h : INV L σ) (hL : L < 2147480000) (a b : Int) : ∃ ans σ1, inv N mX9_route [vR 30 0, vI a, vI b] (P σ) = some (some (vI ans), P σ1) ∧ QX σ σ1 := by
  have oi := fun τ v lo hi => s9_in (N := N) (σ := τ) v lo hi
  rw [iX9_route, eX9_route_0, oi, bnd_s, push_s, eX9_route_5]
  by_cases a1 : 0 ≤ a ∧ a ≤ 30
  case neg =>
    rw [if_neg a1, if_pos rfl]
    exact ⟨_, _, rfl, QX_refl σ⟩
  rw [if_pos a1, if_neg (by decide)]
  by_cases b1 : b < -1
  · rw [if_pos b1]
    exact ⟨_, _, rfl, QX_refl σ⟩
  rw [if_neg b1, m_think0, bnd_s, push_n, eX9_route_14]
  have q1 : QX σ (row σ 42 0 (cpyV (σ 40 0) (σ 42 0) 0 (107 * 0) 107)) := QX_row σ 42 0 _ (by decide) (by decide) (by decide)
  have e42 : ∀ j, j < 107 → row σ 42 0 (cpyV (σ 40 0) (σ 42 0) 0 (107 * 0) 107) 42 0 j = σ 40 0 j := fun j hj => by
    rw [row_same, Nat.mul_zero]
    exact cpy_all _ _ hj
  generalize row σ 42 0 (cpyV (σ 40 0) (σ 42 0) 0 (107 * 0) 107) = τ at q1 e42
  have hτ := INV_QX q1 h
  have c82 := CELL_82 hτ.2.1 hL
  obtain ⟨n, υ, u1, u2, u3⟩ := m_seeks (N := N) (σ := τ) hτ.1.1 hτ.1.2.1 ⟨τ 7 0, hτ.2.1.2.1, hτ.2.1.1, c82.1, c82.2⟩ a
  rw [u1, bnd_s, push_s, eX9_route_17, m_back0, bnd_s, push_n]
  have fin : QX τ (row υ 40 0 (cpyV (υ 42 0) (υ 40 0) (107 * 0) 0 107)) := by
    have o : ∀ k k', ¬ (k' = 0 ∧ (k = 30 ∨ k = 40 ∨ k = 43 ∨ k = 44 ∨ k = 45 ∨ k = 48 ∨ k = 49 ∨ k = 50 ∨ k = 51)) → row υ 40 0 (cpyV (υ 42 0) (υ 40 0) (107 * 0) 0 107) k k' = τ k k' := fun k k' q => by
      rw [row_at, if_neg (fun z => q ⟨z.2, Or.inr (Or.inl z.1)⟩)]
      exact u2.1 k k' q
    have o30 : ∀ j, j ≠ 22 → j ≠ 23 → j ≠ 24 → j ≠ 34 → row υ 40 0 (cpyV (υ 42 0) (υ 40 0) (107 * 0) 0 107) 30 0 j = τ 30 0 j := fun j j1 j2 j3 j4 => by
      rw [row_at, if_neg (by decide)]
      exact u2.2 j j1 j2 j3 j4
    have o40 : ∀ j, j < 107 → row υ 40 0 (cpyV (υ 42 0) (υ 40 0) (107 * 0) 0 107) 40 0 j = τ 40 0 j := fun j hj => by
      rw [row_same, Nat.mul_zero, cpy_all _ _ hj, u2.1 42 0 (by decide), e42 j hj, q1.2.2.1 j hj]
    generalize row υ 40 0 (cpyV (υ 42 0) (υ 40 0) (107 * 0) 0 107) = ρ at o o30 o40
    exact ⟨⟨fun k k' q => o k k' (by omega), o30 1 (by decide) (by decide) (by decide) (by decide), o30 5 (by decide) (by decide) (by decide) (by decide), o30 6 (by decide) (by decide) (by decide) (by decide), o30 35 (by decide) (by decide) (by decide) (by decide)⟩, o 7 0 (by decide), o40, o 9 0 (by decide), o 10 0 (by decide), o 41 0 (by decide), o30 21 (by decide) (by decide) (by decide) (by decide)⟩
  have f30 : row υ 40 0 (cpyV (υ 42 0) (υ 40 0) (107 * 0) 0 107) 30 0 = υ 30 0 := by rw [row_at, if_neg (by decide)]
  have f50 : row υ 40 0 (cpyV (υ 42 0) (υ 40 0) (107 * 0) 0 107) 50 0 = υ 50 0 := by rw [row_at, if_neg (by decide)]
  have f51 : row υ 40 0 (cpyV (υ 42 0) (υ 40 0) (107 * 0) 0 107) 51 0 = υ 51 0 := by rw [row_at, if_neg (by decide)]
  have q2 := QX_trans q1 fin
  have i6 : υ 30 0 6 = τ 2 1 1 := (MR_env u2 hτ.1.2.1).2.2.2.1
  generalize row υ 40 0 (cpyV (υ 42 0) (υ 40 0) (107 * 0) 0 107) = ρ at q2 f30 f50 f51
  rw [eX9_route_21]
  by_cases n0 : n < 0
  · rw [if_pos n0]; exact ⟨_, _, rfl, q2⟩
  by_cases bn : b = -1
  · rw [if_neg n0, if_pos bn]; exact ⟨_, _, rfl, q2⟩
  by_cases bl : b < n
  case neg =>
    rw [if_neg n0, if_neg bn, if_neg bl]; exact ⟨_, _, rfl, q2⟩
  obtain ⟨g, m, g1, g2, g3, g4, g5⟩ := u3.resolve_left n0
  cases m with
  | zero => exact absurd bl (by omega)
  | succ m =>
    have e1 : w32 (n - 1) = (m : Int) := by rw [w32i (by omega) (by omega)]; omega
    rw [if_neg n0, if_neg bn, if_pos bl, e1, f30, g3]
    obtain ⟨ans, w⟩ := m_walk (N := N) ρ (τ 2 1 1) a b n (by omega) (by rw [f30]; exact i6) ((m : Int) - b).toNat g m (by omega) (by rw [f50]; exact g4) (by omega) (fun s s1 s2 => by rw [f51]; exact g5 s s1 s2)
    exact ⟨ans, ρ, w, q2⟩
theorem safe_route (a b L : Int) (σ : Sto) (h : INV L σ) (hL : L < 2147480000) : ∃ ans ans2 σ1 σ2, inv N mX8_route [vR 0 0, vI a, vI b] (P σ) = some (some (vI ans), P σ1) ∧ inv N mX9_route [vR 30 0, vI a, vI b] (P σ1) = some (some (vI ans2), P σ2) ∧ INV (L + 300) σ2 := by
  obtain ⟨ans, σ1, e1, q1⟩ := c_route (N := N) h hL a b
  obtain ⟨ans2, σ2, e2, q2⟩ := m_route (N := N) (INV_QX q1 h) hL a b
  exact ⟨ans, ans2, σ1, σ2, e1, e2, up300 (INV_QX q2 (INV_QX q1 h)) (by omega)⟩
end ROUTE
