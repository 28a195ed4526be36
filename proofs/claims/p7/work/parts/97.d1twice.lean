/-! TWICE: behind each cut of a deed, each cut of a boot -/
section TRY
variable {N : Nat} {σ b : Sto} {L : Int}
theorem w32_w (x y : Int) : w32 (w32 x + y) = w32 (x + y) := by unfold w32; omega
theorem w32_w2 (x y : Int) : w32 (x + w32 y) = w32 (x + y) := by unfold w32; omega
theorem w32_ww (x : Int) : w32 (w32 x) = w32 x := by unfold w32; omega
/-- between the trials of a boot: cells n1 stand now and are put by in the second place, the real ones in the first -/
def QW (σ τ : Sto) : Prop := FX σ τ ∧ τ 7 0 = σ 7 0 ∧ τ 9 0 = σ 9 0 ∧ τ 10 0 = σ 10 0 ∧ τ 41 0 = σ 41 0 ∧ τ 30 0 21 = σ 30 0 21
theorem QW_QX {σ τ : Sto} (h : QX σ τ) : QW σ τ := ⟨h.1, h.2.1, h.2.2.2⟩
theorem QX_QW {σ τ : Sto} (h : QW σ τ) (e : ∀ j, j < 107 → τ 40 0 j = σ 40 0 j) : QX σ τ := ⟨h.1, h.2.1, e, h.2.2⟩
theorem FX_OM {σ τ : Sto} (o : OM σ τ) : FX σ τ := ⟨fun k k' q => o.1 k k' (by omega), o.2 1 (by decide) (by decide) (by decide), o.2 5 (by decide) (by decide) (by decide), o.2 6 (by decide) (by decide) (by decide), o.2 35 (by decide) (by decide) (by decide)⟩
theorem QW_OM {σ τ υ : Sto} (h : QW σ τ) (o : OM τ υ) : QW σ υ := ⟨FX_trans h.1 (FX_OM o), (o.1 7 0 (by decide)).trans h.2.1, (o.1 9 0 (by decide)).trans h.2.2.1, (o.1 10 0 (by decide)).trans h.2.2.2.1, (o.1 41 0 (by decide)).trans h.2.2.2.2.1, (o.2 21 (by decide) (by decide) (by decide)).trans h.2.2.2.2.2⟩
def MD (σ : Sto) (n1 : Vec) (τ : Sto) : Prop := QW σ τ ∧ (∀ j, j < 107 → τ 40 0 j = n1 j) ∧ (∀ j, j < 107 → τ 42 0 j = σ 40 0 j) ∧ (∀ j, j < 107 → τ 42 0 (107 + j) = n1 j)
theorem MD_back {n1 : Vec} {τ υ : Sto} (h : MD σ n1 τ) (o : OM τ υ) (e : ∀ j, j < 214 → υ 42 0 j = τ 42 0 j) : MD σ n1 (row υ 40 0 (cpyV (υ 42 0) (υ 40 0) (107 * 1) 0 107)) := by
  obtain ⟨q, w, w0, w1⟩ := h
  have o2 := OM_trans o (OM_row υ 40 (cpyV (υ 42 0) (υ 40 0) (107 * 1) 0 107) (Or.inl rfl))
  refine ⟨QW_OM q o2, fun j hj => ?_, fun j hj => ?_, fun j hj => ?_⟩
  · have c := cpyV_in (υ 42 0) (υ 40 0) (107 * 1) 0 107 j hj
    rw [Nat.zero_add, Nat.mul_one] at c
    rw [row_same, Nat.mul_one, c, e (107 + j) (by omega), w1 j hj]
  · rw [row_at, if_neg (by decide), e j (by omega), w0 j hj]
  · rw [row_at, if_neg (by decide), e (107 + j) (by omega), w1 j hj]
theorem CELL_cpy {L : Int} {c n g : Vec} (h : CELL L c n) : CELL L (cpyV c g 0 0 107) n := CELL_107 h (fun j hj => cpy_all _ _ hj) (fun _ _ => rfl)
theorem CELL_n {L : Int} {c n n2 : Vec} (h : CELL L c n) (e : ∀ j, j < 107 → n2 j = n j) : CELL L c n2 := CELL_107 h (fun _ _ => rfl) e
theorem tw_inner (hg0 : OKG σ 1) (he0 : EnvM σ σ) (fb : FX σ b) {c1 : Vec} (hb7 : b 7 1 = c1) (hc : OKC c1) (b82 : 0 ≤ c1 82) (t82 : c1 82 ≤ 2147482000) (d a1 a2 n x6 n2 : Int) (hn : n2 < 2147483648) (t : Int) : ∀ (m k : Nat) (v : Int) (x : XP), n2 ≤ (k : Int) + (m : Int) → w32 v = v → ∃ (r k2 : Int) (y : XP), ev N mX7_countDeadBoots 22 [vR 11 0, vI n2, vI v, vI (k : Int)] [] (P (putC b 2 x)) = some (some (vI r), P (putC b 2 y)) ∧ w32 r = r ∧ ∀ n1 τ, RZ c1 n1 → MD σ n1 τ → ∃ υ, ev N mX9_twice 55 [vR 30 0, vI d, vI a1, vI a2, vI n, vI (w32 (t + v)), vI x6, vI n2, vI (k : Int)] [] (P τ) = bnd (inv N mX9_putsBack [vR 30 0, vI 0] (P υ)) (fun r2 S2 => ev N mX9_twice 85 [vR 30 0, vI d, vI a1, vI a2, vI n, vI (w32 (t + r)), vI x6, vI n2, vI k2] (push r2 []) S2) ∧ MD σ n1 υ := by
  intro m
  induction m with
  | zero =>
    intro k v x hk hv
    have q : ¬ (k : Int) < n2 := by omega
    refine ⟨v, (k : Int), x, ?_, hv, fun n1 τ _ ht => ⟨τ, ?_, ht⟩⟩
    · rw [eX7_countDeadBoots_22, if_neg q]
    · rw [eX9_twice_55, if_neg q]
  | succ m ih =>
    intro k v x hk hv
    by_cases q : (k : Int) < n2
    case neg =>
      refine ⟨v, (k : Int), x, ?_, hv, fun n1 τ _ ht => ⟨τ, ?_, ht⟩⟩
      · rw [eX7_countDeadBoots_22, if_neg q]
      · rw [eX9_twice_55, if_neg q]
    obtain ⟨nk, c0, c1'⟩ := ct_num hn q
    have hkm : n2 ≤ ((k + 1 : Nat) : Int) + (m : Int) := by omega
    have hg := OKG_FX fb hg0
    have ce := fun j (hj : j < 107) => cpy_all c1 x.1 hj
    have hcx : OKC (cpyV c1 x.1 0 0 107) := OKC_107 hc ce
    have ct := p2_take (N := N) (i := 2) (b := b) (x := x) 1 (by decide)
    rw [hb7] at ct
    generalize cpyV c1 x.1 0 0 107 = c at hcx ce ct
    have r0 : 0 ≤ c 82 := by rw [ce 82 (by decide)]; exact b82
    have r1 : c 82 ≤ 2147482000 := by rw [ce 82 (by decide)]; exact t82
    have pf := p2_boot (N := N) (i := 2) (σ := b) (x := (c, x.2)) hg hcx r0 (Int.lt_of_le_of_lt r1 (by decide)) 0 0 (k : Int)
    have ok := bootC_ok (σ := b) (x := (c, x.2)) hcx 0 (k : Int)
    have md := fun n1 τ (hz : RZ c1 n1) (o : QW σ τ) (e : ∀ j, j < 107 → τ 40 0 j = n1 j) => m_doesBoot (N := N) (σ := τ) (x := (c, x.2)) hg (RZ_107 hz ce e) hcx (EnvM_FX o.1 fb he0) (Int.lt_of_le_of_lt r1 (by decide)) 0 0 (k : Int) c0 c1'
    generalize bootC b 0 (k : Int) (c, x.2) = p at pf ok md
    have l1 : c 82 ≤ p.2.1 82 := ok.2.1
    have l2 : p.2.1 82 ≤ c 82 + 1 := ok.2.2
    have p82 : 0 ≤ p.2.1 82 ∧ p.2.1 82 < 2147483000 := ⟨Int.le_trans r0 l1, by omega⟩
    have pb := p2_boot (N := N) (i := 2) (σ := b) (x := p.2) hg ok.1.1 p82.1 (Int.lt_trans p82.2 (by decide)) 0 0 (-1)
    rw [eX7_countDeadBoots_22, if_pos q, ct, bnd_s, push_n, eX7_countDeadBoots_30, pf, bnd_s, push_s, eX7_countDeadBoots_37, pb, bnd_s, push_s, eX7_countDeadBoots_45, nk]
    have ms : ∀ n1 τ, RZ c1 n1 → MD σ n1 τ → ∃ υ, ev N mX9_twice 55 [vR 30 0, vI d, vI a1, vI a2, vI n, vI (w32 (t + v)), vI x6, vI n2, vI (k : Int)] [] (P τ) = ev N mX9_twice 55 [vR 30 0, vI d, vI a1, vI a2, vI n, vI (w32 (t + w32 (v + if (bootC b 0 (-1) p.2).1 = 3 then 1 else 0))), vI x6, vI n2, vI ((k + 1 : Nat) : Int)] [] (P υ) ∧ MD σ n1 υ := by
      intro n1 τ hz ht
      obtain ⟨υ, u1, u2, u3, -⟩ := md n1 τ hz ht.1 ht.2.1
      obtain ⟨ρ, w1, w2⟩ := m_would (N := N) (σ0 := b) (σ := υ) (c := p.2.1) (g := p.2.2) hg u3 ok.1.1 (EnvM_KM (EnvM_FX ht.1.1 fb he0) u2) p82.2 0 (Or.inl rfl)
      rw [performC_0, boot_78 b p.2] at w1
      have e42 : ∀ j, j < 214 → ρ 42 0 j = τ 42 0 j := fun j hj => by rw [w2.2.2.2 j hj, KM_r u2 42 (by decide) 0]
      refine ⟨_, ?_, MD_back ht (OM_trans (OM_KM u2) (OM_WM w2)) e42⟩
      rw [eX9_twice_55, if_pos q, u1, bnd_s, push_s, eX9_twice_64, w1, bnd_s, push_s, eX9_twice_69]
      by_cases z : (bootC b 0 (-1) p.2).1 = 3
      · rw [if_pos z, if_pos z, s9_truth, if_neg (by decide), bnd_s, push_s, eX9_twice_75, m_back1, bnd_s, push_n, eX9_twice_80, nk, w32_w, w32_w2, Int.add_assoc]
      · rw [if_neg z, if_neg z, s9_truth, if_pos rfl, bnd_s, push_s, eX9_twice_75, m_back1, bnd_s, push_n, eX9_twice_80, nk, w32_w, w32_w2, Int.add_assoc]
    by_cases z : (bootC b 0 (-1) p.2).1 = 3
    · rw [if_pos z]
      rw [if_pos z] at ms
      obtain ⟨r, k2, y, s1, s2, s3⟩ := ih (k + 1) (w32 (v + 1)) (bootC b 0 (-1) p.2).2 hkm (w32_ww _)
      refine ⟨r, k2, y, s1, s2, fun n1 τ hz ht => ?_⟩
      obtain ⟨υ, u1, u2⟩ := ms n1 τ hz ht
      obtain ⟨ρ, t1, t2⟩ := s3 n1 υ hz u2
      exact ⟨ρ, u1.trans t1, t2⟩
    · rw [if_neg z]
      rw [if_neg z, Int.add_zero, hv] at ms
      obtain ⟨r, k2, y, s1, s2, s3⟩ := ih (k + 1) v (bootC b 0 (-1) p.2).2 hkm hv
      refine ⟨r, k2, y, s1, s2, fun n1 τ hz ht => ?_⟩
      obtain ⟨υ, u1, u2⟩ := ms n1 τ hz ht
      obtain ⟨ρ, t1, t2⟩ := s3 n1 υ hz u2
      exact ⟨ρ, u1.trans t1, t2⟩
/-- the class's count of dead boots, behind its head -/
theorem p2_dead0 (hg : OKG b 1) {c1 : Vec} (hb7 : b 7 1 = c1) (hc : OKC c1) (c0 : 0 ≤ c1 82) (c2 : c1 82 < 2147483000) (x : XP) : inv N mX7_countDeadBoots [vR 11 0] (P (putC b 2 x)) = ev N mX7_countDeadBoots 22 [vR 11 0, vI ((bootC b 0 (-1) (cpyV c1 x.1 0 0 107, x.2)).2.1 81), vI 0, vI 0] [] (P (putC b 2 (bootC b 0 (-1) (cpyV c1 x.1 0 0 107, x.2)).2)) := by
  have ct := p2_take (N := N) (i := 2) (b := b) (x := x) 1 (by decide)
  rw [hb7] at ct
  have e := fun j (hj : j < 107) => cpy_all c1 x.1 hj
  have hcc : OKC (cpyV c1 x.1 0 0 107) := OKC_107 hc e
  have e82 := e 82 (by decide)
  generalize cpyV c1 x.1 0 0 107 = c at ct hcc e82 ⊢
  have pf := p2_boot (N := N) (i := 2) (σ := b) (x := (c, x.2)) hg hcc (show 0 ≤ c 82 by rw [e82]; exact c0) (show c 82 < 2147483647 by rw [e82]; exact Int.lt_trans c2 (by decide)) 0 0 (-1)
  rw [iX7_countDeadBoots, eX7_countDeadBoots_0, ct, bnd_s, push_n, eX7_countDeadBoots_5, pf, bnd_s, push_s, eX7_countDeadBoots_12, p2_cell _ (by decide) (by decide), bnd_s, push_s, eX7_countDeadBoots_17]
  rfl
end TRY
