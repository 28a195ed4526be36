/-! THE SCRIPT stays -/
def N9 (S0 : MS) (f : ∀ (β : Type), KT β → β → β) : Prop := (∃ (pc' : Nat) (L' st' : List MV) (S' : MS), S'.2.2 999 = S0.2.2 999 ∧ ∀ (β : Type) (K : KT β) (z : β), f β K z = K pc' L' st' S') ∨ (∀ (β : Type) (K : KT β) (z : β), f β K z = z)
theorem N9.k {S0 : MS} (pc : Nat) (L st : List MV) (S : MS) (h : S.2.2 999 = S0.2.2 999 := by exact rfl) : N9 S0 (fun _ K _ => K pc L st S) := Or.inl ⟨pc, L, st, S, h, fun _ _ _ => rfl⟩
theorem N9.z {S0 : MS} : N9 S0 (fun _ _ z => z) := Or.inr fun _ _ _ => rfl
theorem N9.ite {S0 : MS} {p : Prop} [d : Decidable p] {f g : ∀ (β : Type), KT β → β → β} (hf : N9 S0 f) (hg : N9 S0 g) : N9 S0 (fun β K z => if p then f β K z else g β K z) := by
  by_cases h : p
  · simp only [h, if_true]; exact hf
  · simp only [h, if_false]; exact hg
theorem N9.cond {S0 : MS} {b : Bool} {f g : ∀ (β : Type), KT β → β → β} (hf : N9 S0 f) (hg : N9 S0 g) : N9 S0 (fun β K z => cond b (f β K z) (g β K z)) := by
  cases b
  · exact hg
  · exact hf
theorem N9.sw (L st : List MV) (S : MS) (d : Nat) (a : Int) : ∀ (ts : List Int) (lo : Int), N9 S (fun _ K _ => x_sw L st S K d a lo ts)
  | [], lo => N9.k d L st S
  | t :: ts, lo => N9.ite (N9.k t.toNat L st S) (N9.sw L st S d a ts (lo + 1))
theorem sup_999 {σ : Sto} {k i j : Nat} {v : Int} (h : k ≠ 999) : sup σ k i j v 999 = σ 999 := by
  funext i' j'
  unfold sup
  rw [if_neg (fun z => h z.1.symm)]
theorem zro_999 {σ : Sto} {k i : Nat} (h : k ≠ 999) : zro σ k i 999 = σ 999 := by
  funext i' j'
  unfold zro
  rw [if_neg (fun z => h z.1.symm)]
theorem cpy_999 {σ : Sto} {k i sp k2 i2 dp n : Nat} (h : k2 ≠ 999) : cpy σ k i sp k2 i2 dp n 999 = σ 999 := by
  funext i' j'
  unfold cpy
  rw [if_neg (fun z => h z.1.symm)]
theorem tag_999 {k : Nat} (h : kTag k ≠ 4) : k ≠ 999 := fun e => h (by rw [e]; rfl)
theorem ords_all : ∀ q ∈ ords, q.1 ≠ 999 := by decide
theorem ords_999 {i k j : Nat} (h : nth ords i = some (k, j)) : k ≠ 999 := ords_all _ (nth_mem _ _ _ h)
section N9S
variable {N i pc n : Nat} {L st : List MV} {S : MS}
theorem n9_iload : N9 S (fun _ K z => x_iload i pc L st S K z) := by
  unfold x_iload; rcases nth L i with _ | (x | (x | (x | x))) <;> first | exact N9.z | exact N9.k _ _ _ _
theorem n9_lload : N9 S (fun _ K z => x_lload i pc L st S K z) := by
  unfold x_lload; rcases nth L i with _ | (x | (x | (x | x))) <;> first | exact N9.z | exact N9.k _ _ _ _
theorem n9_aload : N9 S (fun _ K z => x_aload i pc L st S K z) := by
  unfold x_aload; rcases nth L i with _ | (x | (x | (x | x))) <;> first | exact N9.z | exact N9.k _ _ _ _
theorem n9_istore : N9 S (fun _ K z => x_istore i pc L st S K z) := by
  unfold x_istore; rcases st with _ | ⟨(x | (x | (x | x))), st⟩ <;> first | exact N9.z | exact N9.k _ _ _ _
theorem n9_astore : N9 S (fun _ K z => x_astore i pc L st S K z) := by
  unfold x_astore; rcases st with _ | ⟨(x | (x | (x | x))), st⟩ <;> first | exact N9.z | exact N9.k _ _ _ _
theorem n9_lstore : N9 S (fun _ K z => x_lstore i pc L st S K z) := by
  unfold x_lstore; rcases st with _ | ⟨(x | (x | (x | x))), st⟩ <;> first | exact N9.z | exact N9.k _ _ _ _
theorem n9_iinc {c : Int} : N9 S (fun _ K z => x_iinc i c pc L st S K z) := by
  unfold x_iinc; rcases nth L i with _ | (x | (x | (x | x))) <;> first | exact N9.z | exact N9.k _ _ _ _
theorem n9_iop {f : Int → Int → Int} : N9 S (fun _ K z => x_iop f pc L st S K z) := by
  unfold x_iop; rcases st with _ | ⟨(x | (x | (x | x))), _ | ⟨(y | (y | (y | y))), st⟩⟩ <;> first | exact N9.z | exact N9.k _ _ _ _
theorem n9_iopc {f : Int → Int → Int} : N9 S (fun _ K z => x_iopc f pc L st S K z) := by
  unfold x_iopc; rcases st with _ | ⟨(x | (x | (x | x))), _ | ⟨(y | (y | (y | y))), st⟩⟩ <;> first | exact N9.z | exact N9.cond (N9.k _ _ _ _) N9.z
theorem n9_idv {f : Int → Int → Int} : N9 S (fun _ K z => x_idv f pc L st S K z) := by
  unfold x_idv; rcases st with _ | ⟨(x | (x | (x | x))), _ | ⟨(y | (y | (y | y))), st⟩⟩ <;> first | exact N9.z | exact N9.k _ _ _ _ | exact N9.ite N9.z (N9.k _ _ _ _)
theorem n9_lop {f : Int → Int → Int} : N9 S (fun _ K z => x_lop f pc L st S K z) := by
  unfold x_lop; rcases st with _ | ⟨(x | (x | (x | x))), _ | ⟨(y | (y | (y | y))), st⟩⟩ <;> first | exact N9.z | exact N9.k _ _ _ _
theorem n9_ldv {f : Int → Int → Int} : N9 S (fun _ K z => x_ldv f pc L st S K z) := by
  unfold x_ldv; rcases st with _ | ⟨(x | (x | (x | x))), _ | ⟨(y | (y | (y | y))), st⟩⟩ <;> first | exact N9.z | exact N9.k _ _ _ _ | exact N9.ite N9.z (N9.k _ _ _ _)
theorem n9_lsh {f : Int → Int → Int} : N9 S (fun _ K z => x_lsh f pc L st S K z) := by
  unfold x_lsh; rcases st with _ | ⟨(x | (x | (x | x))), _ | ⟨(y | (y | (y | y))), st⟩⟩ <;> first | exact N9.z | exact N9.k _ _ _ _
theorem n9_lcmp : N9 S (fun _ K z => x_lcmp pc L st S K z) := by
  unfold x_lcmp; rcases st with _ | ⟨(x | (x | (x | x))), _ | ⟨(y | (y | (y | y))), st⟩⟩ <;> first | exact N9.z | exact N9.ite (N9.k _ _ _ _) (N9.ite (N9.k _ _ _ _) (N9.k _ _ _ _))
theorem n9_i2l : N9 S (fun _ K z => x_i2l pc L st S K z) := by
  unfold x_i2l; rcases st with _ | ⟨(x | (x | (x | x))), st⟩ <;> first | exact N9.z | exact N9.k _ _ _ _
theorem n9_l2i : N9 S (fun _ K z => x_l2i pc L st S K z) := by
  unfold x_l2i; rcases st with _ | ⟨(x | (x | (x | x))), st⟩ <;> first | exact N9.z | exact N9.k _ _ _ _
theorem n9_i2b : N9 S (fun _ K z => x_i2b pc L st S K z) := by
  unfold x_i2b; rcases st with _ | ⟨(x | (x | (x | x))), st⟩ <;> first | exact N9.z | exact N9.k _ _ _ _
theorem n9_dup : N9 S (fun _ K z => x_dup pc L st S K z) := by
  unfold x_dup; rcases st with _ | ⟨v, st⟩
  · exact N9.z
  · exact N9.cond N9.z (N9.k _ _ _ _)
theorem n9_dup2 : N9 S (fun _ K z => x_dup2 pc L st S K z) := by
  unfold x_dup2; rcases st with _ | ⟨v, _ | ⟨u, st⟩⟩
  · exact N9.z
  · exact N9.z
  · exact N9.cond N9.z (N9.cond N9.z (N9.k _ _ _ _))
theorem n9_pop : N9 S (fun _ K z => x_pop pc L st S K z) := by
  unfold x_pop; rcases st with _ | ⟨v, st⟩
  · exact N9.z
  · exact N9.cond N9.z (N9.k _ _ _ _)
theorem n9_icmp {c : Jvm.ClassFile.Cond} : N9 S (fun _ K z => x_icmp c n pc L st S K z) := by
  unfold x_icmp; rcases st with _ | ⟨(x | (x | (x | x))), _ | ⟨(y | (y | (y | y))), st⟩⟩ <;> first | exact N9.z | (cases c <;> exact N9.ite (N9.k _ _ _ _) (N9.k _ _ _ _))
theorem n9_if {c : Jvm.ClassFile.Cond} : N9 S (fun _ K z => x_if c n pc L st S K z) := by
  unfold x_if; rcases st with _ | ⟨(x | (x | (x | x))), st⟩ <;> first | exact N9.z | (cases c <;> exact N9.ite (N9.k _ _ _ _) (N9.k _ _ _ _))
theorem n9_ifnull : N9 S (fun _ K z => x_ifnull pc L st S K z) := by
  unfold x_ifnull; rcases st with _ | ⟨(x | (x | (x | x))), st⟩ <;> first | exact N9.z | exact N9.k _ _ _ _
theorem n9_switch {lo : Int} {ts : List Int} : N9 S (fun _ K z => x_switch n lo ts L st S K z) := by
  unfold x_switch; rcases st with _ | ⟨(x | (x | (x | x))), st⟩ <;> first | exact N9.z | exact N9.sw _ _ _ _ _ _ _
theorem n9_get : N9 S (fun _ K z => x_get n pc L st S K z) := by
  unfold x_get; rcases st with _ | ⟨(x | (x | (x | x))), st⟩ <;> first | exact N9.z | skip
  refine N9.cond ?_ N9.z
  rcases fTy (n / 100) (n % 100) with _ | _ | _ | _ | _ <;> first | exact N9.z | exact N9.k _ _ _ _ | exact N9.cond N9.z (N9.k _ _ _ _)
--put
theorem n9_alen : N9 S (fun _ K z => x_alen N pc L st S K z) := by
  unfold x_alen; rcases st with _ | ⟨(x | (x | (⟨k, j⟩ | x))), st⟩ <;> first | exact N9.z | skip
  dsimp only
  rcases kTag k with _ | _ | _ | _ | _ | _ <;> first | exact N9.z | exact N9.k _ _ _ _
theorem n9_iald : N9 S (fun _ K z => x_iald N pc L st S K z) := by
  unfold x_iald; rcases st with _ | ⟨(x | (x | (x | x))), _ | ⟨(y | (y | (⟨k, j⟩ | y))), st⟩⟩ <;> first | exact N9.z | skip
  dsimp only
  rcases kTag k with _ | _ | _ | _ | _ | _ <;> first | exact N9.z | exact N9.ite N9.z (N9.ite (N9.k _ _ _ _) N9.z)
theorem n9_bald : N9 S (fun _ K z => x_bald N pc L st S K z) := by
  unfold x_bald; rcases st with _ | ⟨(x | (x | (x | x))), _ | ⟨(y | (y | (⟨k, j⟩ | y))), st⟩⟩ <;> first | exact N9.z | skip
  dsimp only
  rcases kTag k with _ | _ | _ | _ | _ | _ <;> first | exact N9.z | exact N9.ite N9.z (N9.ite (N9.k _ _ _ _) N9.z)
theorem n9_lald : N9 S (fun _ K z => x_lald N pc L st S K z) := by
  unfold x_lald; rcases st with _ | ⟨(x | (x | (x | x))), _ | ⟨(y | (y | (⟨k, j⟩ | y))), st⟩⟩ <;> first | exact N9.z | skip
  dsimp only
  rcases kTag k with _ | _ | _ | _ | _ | _ <;> first | exact N9.z | exact N9.ite N9.z (N9.ite (N9.k _ _ _ _) N9.z)
--iast
--bast
--last
--new
--newa
theorem n9_slen : N9 S (fun _ K z => x_slen pc L st S K z) := by
  unfold x_slen; rcases st with _ | ⟨(x | (x | (x | x))), st⟩ <;> first | exact N9.z | exact N9.cond (N9.cond (N9.k _ _ _ _) N9.z) N9.z
theorem n9_schr : N9 S (fun _ K z => x_schr pc L st S K z) := by
  unfold x_schr; rcases st with _ | ⟨(x | (x | (x | x))), _ | ⟨(y | (y | (⟨k, j⟩ | y))), st⟩⟩ <;> first | exact N9.z | exact N9.cond (N9.ite N9.z (N9.ite (N9.cond (N9.k _ _ _ _) N9.z) N9.z)) N9.z
theorem n9_obj : N9 S (fun _ K z => x_obj pc L st S K z) := by
  unfold x_obj; rcases st with _ | ⟨(x | (x | (x | x))), st⟩ <;> first | exact N9.z | exact N9.cond (N9.k _ _ _ _) N9.z
--copy
theorem n9_put : N9 S (fun _ K z => x_put n pc L st S K z) := by
  unfold x_put; rcases st with _ | ⟨v, _ | ⟨(y | (y | (⟨k, j⟩ | y))), st⟩⟩ <;> first | exact N9.z | skip
  dsimp only
  by_cases hk : k = 999
  · subst hk
    rcases hb : Nat.beq (kCls 999) (n / 100) with _ | _
    · exact N9.z
    · have e : n / 100 = 99 := (Nat.eq_of_beq_eq_true hb).symm
      rw [e]
      exact N9.z
  · refine N9.cond ?_ N9.z
    rcases fTy (n / 100) (n % 100) with _ | _ | _ | _ | _ <;> rcases v with (x | (x | (x | x))) <;> first | exact N9.z | exact N9.k _ _ _ _ (sup_999 hk) | exact N9.cond (N9.cond (N9.k _ _ _ _) N9.z) N9.z | exact N9.ite (N9.k _ _ _ _ (sup_999 hk)) (N9.ite (N9.k _ _ _ _ (sup_999 hk)) N9.z)
theorem n9_iast : N9 S (fun _ K z => x_iast N pc L st S K z) := by
  unfold x_iast; rcases st with _ | ⟨(v | (v | (v | v))), _ | ⟨(x | (x | (x | x))), _ | ⟨(y | (y | (⟨k, j⟩ | y))), st⟩⟩⟩ <;> first | exact N9.z | skip
  dsimp only
  rcases hk : kTag k with _ | _ | _ | _ | _ | _ <;> first | exact N9.z | exact N9.ite N9.z (N9.ite (N9.k _ _ _ _ (sup_999 (tag_999 (by rw [hk]; decide)))) N9.z)
theorem n9_bast : N9 S (fun _ K z => x_bast N pc L st S K z) := by
  unfold x_bast; rcases st with _ | ⟨(v | (v | (v | v))), _ | ⟨(x | (x | (x | x))), _ | ⟨(y | (y | (⟨k, j⟩ | y))), st⟩⟩⟩ <;> first | exact N9.z | skip
  dsimp only
  rcases hk : kTag k with _ | _ | _ | _ | _ | _ <;> first | exact N9.z | exact N9.ite N9.z (N9.ite (N9.k _ _ _ _ (sup_999 (tag_999 (by rw [hk]; decide)))) N9.z)
theorem n9_last : N9 S (fun _ K z => x_last N pc L st S K z) := by
  unfold x_last; rcases st with _ | ⟨(v | (v | (v | v))), _ | ⟨(x | (x | (x | x))), _ | ⟨(y | (y | (⟨k, j⟩ | y))), st⟩⟩⟩ <;> first | exact N9.z | skip
  dsimp only
  rcases hk : kTag k with _ | _ | _ | _ | _ | _ <;> first | exact N9.z | exact N9.ite N9.z (N9.ite (N9.k _ _ _ _ (sup_999 (tag_999 (by rw [hk]; decide)))) N9.z)
theorem n9_new : N9 S (fun _ K z => x_new n pc L st S K z) := by
  unfold x_new; rcases h : nth ords S.1 with _ | ⟨k, j⟩
  · exact N9.z
  · exact N9.cond (N9.cond (N9.k _ _ _ _ (zro_999 (ords_999 h))) N9.z) N9.z
theorem n9_newa : N9 S (fun _ K z => x_newa n pc L st S K z) := by
  unfold x_newa; rcases st with _ | ⟨(x | (x | (x | x))), st⟩ <;> first | exact N9.z | skip
  dsimp only
  rcases h : nth ords S.1 with _ | ⟨k, j⟩
  · exact N9.z
  · exact N9.cond (N9.cond N9.z (N9.ite (N9.k _ _ _ _ (zro_999 (ords_999 h))) N9.z)) N9.z
theorem n9_copy : N9 S (fun _ K z => x_copy N pc L st S K z) := by
  unfold x_copy
  rcases st with _ | ⟨(a1 | (a1 | (a1 | a1))), _ | ⟨(a2 | (a2 | (a2 | a2))), st⟩⟩ <;> first | exact N9.z | skip
  rcases st with _ | ⟨(a3 | (a3 | (⟨k, j⟩ | a3))), _ | ⟨(a4 | (a4 | (a4 | a4))), st⟩⟩ <;> first | exact N9.z | skip
  rcases st with _ | ⟨(a5 | (a5 | (⟨k2, j2⟩ | a5))), st⟩ <;> first | exact N9.z | skip
  dsimp only
  rcases h1 : Nat.beq (kTag k2) 1 with _ | _
  · exact N9.z
  rcases h2 : Nat.beq (kTag k) 1 with _ | _
  · exact N9.z
  have hk : k ≠ 999 := tag_999 (by rw [Nat.eq_of_beq_eq_true h2]; decide)
  exact N9.ite N9.z (N9.ite N9.z (N9.ite N9.z (N9.ite N9.z (N9.ite N9.z (N9.cond (N9.k _ _ _ _ (cpy_999 hk)) N9.z)))))
theorem stp_n9 (ins : Instr) : N9 S (fun _ K z => stp N ins pc L st S K z) := by
  cases ins <;> first | exact N9.z | exact N9.k _ _ _ _ | exact n9_iload | exact n9_lload | exact n9_aload | exact n9_istore | exact n9_astore | exact n9_lstore | exact n9_iinc | exact n9_iop | exact n9_iopc | exact n9_idv | exact n9_lop | exact n9_ldv | exact n9_lsh | exact n9_lcmp | exact n9_i2l | exact n9_l2i | exact n9_i2b | exact n9_dup | exact n9_dup2 | exact n9_pop | exact n9_icmp | exact n9_if | exact n9_ifnull | exact n9_switch | exact n9_get | exact n9_put | exact n9_alen | exact n9_iald | exact n9_bald | exact n9_lald | exact n9_iast | exact n9_bast | exact n9_last | exact n9_new | exact n9_newa | exact n9_slen | exact n9_schr | exact n9_obj | exact n9_copy
end N9S
section N9E
variable {N : Nat}
def One9 (N m : Nat) (ins : Instr) (pc : Nat) (L st : List MV) (S : MS) : Prop :=
    (∃ (k : Nat) (as rest : List MV), ∀ inv K, one N m inv ins pc L st S K = bnd (inv k as S) (fun r S' => K (pc + 1) L (push r rest) S')) ∨
    (∃ (pc' : Nat) (L' st' : List MV) (S' : MS), S'.2.2 999 = S.2.2 999 ∧ ∀ inv K, one N m inv ins pc L st S K = K pc' L' st' S') ∨ (∃ o : Option Out, (∀ x, o = some x → x.2.2.2 999 = S.2.2 999) ∧ ∀ inv K, one N m inv ins pc L st S K = o)
theorem one9_s {m : Nat} {ins : Instr} {pc : Nat} {L st : List MV} {S : MS} (h : ∀ inv K, one N m inv ins pc L st S K = stp N ins pc L st S K none) : One9 N m ins pc L st S := by
  rcases stp_n9 (N := N) (pc := pc) (L := L) (st := st) (S := S) ins with ⟨a, b, c, d, hl, e⟩ | e
  · exact Or.inr (Or.inl ⟨a, b, c, d, hl, fun inv K => (h inv K).trans (e _ K none)⟩)
  · exact Or.inr (Or.inr ⟨none, (fun _ h => by cases h), fun inv K => (h inv K).trans (e _ K none)⟩)
theorem one9_c {m : Nat} {ins : Instr} {pc : Nat} {L st : List MV} {S : MS} (k : Nat) (h : ∀ inv K, one N m inv ins pc L st S K = xcall inv k pc L st S K) : One9 N m ins pc L st S := by
  rcases e : takeR (mArg k) st [] with _ | ⟨as, rest⟩
  · exact Or.inr (Or.inr ⟨none, (fun _ h => by cases h), fun inv K => (h inv K).trans (by simp only [xcall, e])⟩)
  · rcases e2 : recvOk k as with _ | _
    · exact Or.inr (Or.inr ⟨none, (fun _ h => by cases h), fun inv K => (h inv K).trans (by simp only [xcall, e, e2, cond_false])⟩)
    · rcases e3 : Nat.ble (wordsOf rest) 8 with _ | _
      · exact Or.inr (Or.inr ⟨none, (fun _ h => by cases h), fun inv K => (h inv K).trans (by simp only [xcall, e, e2, e3, cond_true, cond_false])⟩)
      · exact Or.inl ⟨k, as, rest, fun inv K => (h inv K).trans (by simp only [xcall, e, e2, e3, cond_true])⟩
theorem xret_9 {m : Nat} {st : List MV} {S : MS} {x : Out} (h : xret m st S = some x) : x.2.2.2 999 = S.2.2 999 := by
  unfold xret at h
  split at h <;> (try split at h) <;> (try split at h) <;> (try split at h) <;> first | (cases h; rfl) | cases h
theorem one9 (m : Nat) (ins : Instr) (pc : Nat) (L st : List MV) (S : MS) : One9 N m ins pc L st S := by
  cases ins <;> first | exact one9_s (fun _ _ => rfl) | exact one9_c _ (fun _ _ => rfl) | exact Or.inr (Or.inr ⟨_, fun _ h => xret_9 h, fun _ _ => rfl⟩)
theorem exec_999 : ∀ (F : Nat) (m pc : Nat) (L st : List MV) (S : MS) (o : Out), exec N F m pc L st S = some o → o.2.2.2 999 = S.2.2 999 := by
  intro F
  induction F with
  | zero => intro m pc L st S o h; exact absurd h (by simp [exec])
  | succ F ih =>
    intro m pc L st S o h
    rw [exec] at h
    rcases e : nth (cod m) pc with _ | ins
    · rw [e] at h; exact absurd h (by simp)
    rw [e] at h
    dsimp only at h
    rcases one9 (N := N) m ins pc L st S with ⟨k, as, rest, hc⟩ | ⟨a, b, c, d, hl, hc⟩ | ⟨o', hl, hc⟩
    · rw [hc] at h
      obtain ⟨y, h1, h2⟩ := bnd_some h
      exact (ih _ _ _ _ _ _ h2).trans (ih _ _ _ _ _ _ h1)
    · rw [hc] at h
      exact (ih _ _ _ _ _ _ h).trans hl
    · rw [hc] at h
      exact hl o h
theorem inv_999 {k : Nat} {as : List MV} {S : MS} {o : Out} (h : inv N k as S = some o) : o.2.2.2 999 = S.2.2 999 := by
  obtain ⟨F, hF⟩ := ev_to h
  exact exec_999 F _ _ _ _ _ _ hF
end N9E
