/-! WHAT A METHOD COMES TO, without fuel -/
def NF (n0 : Nat) (f : ∀ (β : Type), KT β → β → β) : Prop := (∃ (pc' : Nat) (L' st' : List MV) (S' : MS), n0 ≤ S'.1 ∧ ∀ (β : Type) (K : KT β) (z : β), f β K z = K pc' L' st' S') ∨ (∀ (β : Type) (K : KT β) (z : β), f β K z = z)
theorem NF.k {n0 : Nat} (pc : Nat) (L st : List MV) (S : MS) (h : n0 ≤ S.1 := by first | exact Nat.le_refl _ | exact Nat.le_succ _) : NF n0 (fun _ K _ => K pc L st S) := Or.inl ⟨pc, L, st, S, h, fun _ _ _ => rfl⟩
theorem NF.z {n0 : Nat} : NF n0 (fun _ _ z => z) := Or.inr fun _ _ _ => rfl
theorem NF.ite {n0 : Nat} {p : Prop} [d : Decidable p] {f g : ∀ (β : Type), KT β → β → β} (hf : NF n0 f) (hg : NF n0 g) : NF n0 (fun β K z => if p then f β K z else g β K z) := by
  by_cases h : p
  · simp only [h, if_true]; exact hf
  · simp only [h, if_false]; exact hg
theorem NF.cond {n0 : Nat} {b : Bool} {f g : ∀ (β : Type), KT β → β → β} (hf : NF n0 f) (hg : NF n0 g) : NF n0 (fun β K z => cond b (f β K z) (g β K z)) := by
  cases b
  · exact hg
  · exact hf
theorem NF.sw (L st : List MV) (S : MS) (d : Nat) (a : Int) : ∀ (ts : List Int) (lo : Int), NF S.1 (fun _ K _ => x_sw L st S K d a lo ts)
  | [], lo => NF.k d L st S
  | t :: ts, lo => NF.ite (NF.k t.toNat L st S) (NF.sw L st S d a ts (lo + 1))
section NFS
variable {N i pc n : Nat} {L st : List MV} {S : MS}
theorem nf_iload : NF S.1 (fun _ K z => x_iload i pc L st S K z) := by
  unfold x_iload; rcases nth L i with _ | (x | (x | (x | x))) <;> first | exact NF.z | exact NF.k _ _ _ _
theorem nf_lload : NF S.1 (fun _ K z => x_lload i pc L st S K z) := by
  unfold x_lload; rcases nth L i with _ | (x | (x | (x | x))) <;> first | exact NF.z | exact NF.k _ _ _ _
theorem nf_aload : NF S.1 (fun _ K z => x_aload i pc L st S K z) := by
  unfold x_aload; rcases nth L i with _ | (x | (x | (x | x))) <;> first | exact NF.z | exact NF.k _ _ _ _
theorem nf_istore : NF S.1 (fun _ K z => x_istore i pc L st S K z) := by
  unfold x_istore; rcases st with _ | ⟨(x | (x | (x | x))), st⟩ <;> first | exact NF.z | exact NF.k _ _ _ _
theorem nf_astore : NF S.1 (fun _ K z => x_astore i pc L st S K z) := by
  unfold x_astore; rcases st with _ | ⟨(x | (x | (x | x))), st⟩ <;> first | exact NF.z | exact NF.k _ _ _ _
theorem nf_lstore : NF S.1 (fun _ K z => x_lstore i pc L st S K z) := by
  unfold x_lstore; rcases st with _ | ⟨(x | (x | (x | x))), st⟩ <;> first | exact NF.z | exact NF.k _ _ _ _
theorem nf_iinc {c : Int} : NF S.1 (fun _ K z => x_iinc i c pc L st S K z) := by
  unfold x_iinc; rcases nth L i with _ | (x | (x | (x | x))) <;> first | exact NF.z | exact NF.k _ _ _ _
theorem nf_iop {f : Int → Int → Int} : NF S.1 (fun _ K z => x_iop f pc L st S K z) := by
  unfold x_iop; rcases st with _ | ⟨(x | (x | (x | x))), _ | ⟨(y | (y | (y | y))), st⟩⟩ <;> first | exact NF.z | exact NF.k _ _ _ _
theorem nf_iopc {f : Int → Int → Int} : NF S.1 (fun _ K z => x_iopc f pc L st S K z) := by
  unfold x_iopc; rcases st with _ | ⟨(x | (x | (x | x))), _ | ⟨(y | (y | (y | y))), st⟩⟩ <;> first | exact NF.z | exact NF.cond (NF.k _ _ _ _) NF.z
theorem nf_idv {f : Int → Int → Int} : NF S.1 (fun _ K z => x_idv f pc L st S K z) := by
  unfold x_idv; rcases st with _ | ⟨(x | (x | (x | x))), _ | ⟨(y | (y | (y | y))), st⟩⟩ <;> first | exact NF.z | exact NF.k _ _ _ _ | exact NF.ite NF.z (NF.k _ _ _ _)
theorem nf_lop {f : Int → Int → Int} : NF S.1 (fun _ K z => x_lop f pc L st S K z) := by
  unfold x_lop; rcases st with _ | ⟨(x | (x | (x | x))), _ | ⟨(y | (y | (y | y))), st⟩⟩ <;> first | exact NF.z | exact NF.k _ _ _ _
theorem nf_ldv {f : Int → Int → Int} : NF S.1 (fun _ K z => x_ldv f pc L st S K z) := by
  unfold x_ldv; rcases st with _ | ⟨(x | (x | (x | x))), _ | ⟨(y | (y | (y | y))), st⟩⟩ <;> first | exact NF.z | exact NF.k _ _ _ _ | exact NF.ite NF.z (NF.k _ _ _ _)
theorem nf_lsh {f : Int → Int → Int} : NF S.1 (fun _ K z => x_lsh f pc L st S K z) := by
  unfold x_lsh; rcases st with _ | ⟨(x | (x | (x | x))), _ | ⟨(y | (y | (y | y))), st⟩⟩ <;> first | exact NF.z | exact NF.k _ _ _ _
theorem nf_lcmp : NF S.1 (fun _ K z => x_lcmp pc L st S K z) := by
  unfold x_lcmp; rcases st with _ | ⟨(x | (x | (x | x))), _ | ⟨(y | (y | (y | y))), st⟩⟩ <;> first | exact NF.z | exact NF.ite (NF.k _ _ _ _) (NF.ite (NF.k _ _ _ _) (NF.k _ _ _ _))
theorem nf_i2l : NF S.1 (fun _ K z => x_i2l pc L st S K z) := by
  unfold x_i2l; rcases st with _ | ⟨(x | (x | (x | x))), st⟩ <;> first | exact NF.z | exact NF.k _ _ _ _
theorem nf_l2i : NF S.1 (fun _ K z => x_l2i pc L st S K z) := by
  unfold x_l2i; rcases st with _ | ⟨(x | (x | (x | x))), st⟩ <;> first | exact NF.z | exact NF.k _ _ _ _
theorem nf_i2b : NF S.1 (fun _ K z => x_i2b pc L st S K z) := by
  unfold x_i2b; rcases st with _ | ⟨(x | (x | (x | x))), st⟩ <;> first | exact NF.z | exact NF.k _ _ _ _
theorem nf_dup : NF S.1 (fun _ K z => x_dup pc L st S K z) := by
  unfold x_dup; rcases st with _ | ⟨v, st⟩
  · exact NF.z
  · exact NF.cond NF.z (NF.k _ _ _ _)
theorem nf_dup2 : NF S.1 (fun _ K z => x_dup2 pc L st S K z) := by
  unfold x_dup2; rcases st with _ | ⟨v, _ | ⟨u, st⟩⟩
  · exact NF.z
  · exact NF.z
  · exact NF.cond NF.z (NF.cond NF.z (NF.k _ _ _ _))
theorem nf_pop : NF S.1 (fun _ K z => x_pop pc L st S K z) := by
  unfold x_pop; rcases st with _ | ⟨v, st⟩
  · exact NF.z
  · exact NF.cond NF.z (NF.k _ _ _ _)
theorem nf_icmp {c : Jvm.ClassFile.Cond} : NF S.1 (fun _ K z => x_icmp c n pc L st S K z) := by
  unfold x_icmp; rcases st with _ | ⟨(x | (x | (x | x))), _ | ⟨(y | (y | (y | y))), st⟩⟩ <;> first | exact NF.z | (cases c <;> exact NF.ite (NF.k _ _ _ _) (NF.k _ _ _ _))
theorem nf_if {c : Jvm.ClassFile.Cond} : NF S.1 (fun _ K z => x_if c n pc L st S K z) := by
  unfold x_if; rcases st with _ | ⟨(x | (x | (x | x))), st⟩ <;> first | exact NF.z | (cases c <;> exact NF.ite (NF.k _ _ _ _) (NF.k _ _ _ _))
theorem nf_ifnull : NF S.1 (fun _ K z => x_ifnull pc L st S K z) := by
  unfold x_ifnull; rcases st with _ | ⟨(x | (x | (x | x))), st⟩ <;> first | exact NF.z | exact NF.k _ _ _ _
theorem nf_switch {lo : Int} {ts : List Int} : NF S.1 (fun _ K z => x_switch n lo ts L st S K z) := by
  unfold x_switch; rcases st with _ | ⟨(x | (x | (x | x))), st⟩ <;> first | exact NF.z | exact NF.sw _ _ _ _ _ _ _
theorem nf_get : NF S.1 (fun _ K z => x_get n pc L st S K z) := by
  unfold x_get; rcases st with _ | ⟨(x | (x | (x | x))), st⟩ <;> first | exact NF.z | skip
  refine NF.cond ?_ NF.z
  rcases fTy (n / 100) (n % 100) with _ | _ | _ | _ | _ <;> first | exact NF.z | exact NF.k _ _ _ _ | exact NF.cond NF.z (NF.k _ _ _ _)
theorem nf_put : NF S.1 (fun _ K z => x_put n pc L st S K z) := by
  unfold x_put; rcases st with _ | ⟨v, _ | ⟨(y | (y | (y | y))), st⟩⟩ <;> first | exact NF.z | skip
  refine NF.cond ?_ NF.z
  rcases fTy (n / 100) (n % 100) with _ | _ | _ | _ | _ <;> rcases v with (x | (x | (x | x))) <;> first | exact NF.z | exact NF.k _ _ _ _ | exact NF.cond (NF.cond (NF.k _ _ _ _) NF.z) NF.z | exact NF.ite (NF.k _ _ _ _) (NF.ite (NF.k _ _ _ _) NF.z)
theorem nf_alen : NF S.1 (fun _ K z => x_alen N pc L st S K z) := by
  unfold x_alen; rcases st with _ | ⟨(x | (x | (⟨k, j⟩ | x))), st⟩ <;> first | exact NF.z | skip
  dsimp only
  rcases kTag k with _ | _ | _ | _ | _ | _ <;> first | exact NF.z | exact NF.k _ _ _ _
theorem nf_iald : NF S.1 (fun _ K z => x_iald N pc L st S K z) := by
  unfold x_iald; rcases st with _ | ⟨(x | (x | (x | x))), _ | ⟨(y | (y | (⟨k, j⟩ | y))), st⟩⟩ <;> first | exact NF.z | skip
  dsimp only
  rcases kTag k with _ | _ | _ | _ | _ | _ <;> first | exact NF.z | exact NF.ite NF.z (NF.ite (NF.k _ _ _ _) NF.z)
theorem nf_bald : NF S.1 (fun _ K z => x_bald N pc L st S K z) := by
  unfold x_bald; rcases st with _ | ⟨(x | (x | (x | x))), _ | ⟨(y | (y | (⟨k, j⟩ | y))), st⟩⟩ <;> first | exact NF.z | skip
  dsimp only
  rcases kTag k with _ | _ | _ | _ | _ | _ <;> first | exact NF.z | exact NF.ite NF.z (NF.ite (NF.k _ _ _ _) NF.z)
theorem nf_lald : NF S.1 (fun _ K z => x_lald N pc L st S K z) := by
  unfold x_lald; rcases st with _ | ⟨(x | (x | (x | x))), _ | ⟨(y | (y | (⟨k, j⟩ | y))), st⟩⟩ <;> first | exact NF.z | skip
  dsimp only
  rcases kTag k with _ | _ | _ | _ | _ | _ <;> first | exact NF.z | exact NF.ite NF.z (NF.ite (NF.k _ _ _ _) NF.z)
theorem nf_iast : NF S.1 (fun _ K z => x_iast N pc L st S K z) := by
  unfold x_iast; rcases st with _ | ⟨(v | (v | (v | v))), _ | ⟨(x | (x | (x | x))), _ | ⟨(y | (y | (⟨k, j⟩ | y))), st⟩⟩⟩ <;> first | exact NF.z | skip
  dsimp only
  rcases kTag k with _ | _ | _ | _ | _ | _ <;> first | exact NF.z | exact NF.ite NF.z (NF.ite (NF.k _ _ _ _) NF.z)
theorem nf_bast : NF S.1 (fun _ K z => x_bast N pc L st S K z) := by
  unfold x_bast; rcases st with _ | ⟨(v | (v | (v | v))), _ | ⟨(x | (x | (x | x))), _ | ⟨(y | (y | (⟨k, j⟩ | y))), st⟩⟩⟩ <;> first | exact NF.z | skip
  dsimp only
  rcases kTag k with _ | _ | _ | _ | _ | _ <;> first | exact NF.z | exact NF.ite NF.z (NF.ite (NF.k _ _ _ _) NF.z)
theorem nf_last : NF S.1 (fun _ K z => x_last N pc L st S K z) := by
  unfold x_last; rcases st with _ | ⟨(v | (v | (v | v))), _ | ⟨(x | (x | (x | x))), _ | ⟨(y | (y | (⟨k, j⟩ | y))), st⟩⟩⟩ <;> first | exact NF.z | skip
  dsimp only
  rcases kTag k with _ | _ | _ | _ | _ | _ <;> first | exact NF.z | exact NF.ite NF.z (NF.ite (NF.k _ _ _ _) NF.z)
theorem nf_new : NF S.1 (fun _ K z => x_new n pc L st S K z) := by
  unfold x_new; rcases nth ords S.1 with _ | ⟨k, j⟩
  · exact NF.z
  · exact NF.cond (NF.cond (NF.k _ _ _ _) NF.z) NF.z
theorem nf_newa : NF S.1 (fun _ K z => x_newa n pc L st S K z) := by
  unfold x_newa; rcases st with _ | ⟨(x | (x | (x | x))), st⟩ <;> first | exact NF.z | skip
  dsimp only
  rcases nth ords S.1 with _ | ⟨k, j⟩
  · exact NF.z
  · exact NF.cond (NF.cond NF.z (NF.ite (NF.k _ _ _ _) NF.z)) NF.z
theorem nf_slen : NF S.1 (fun _ K z => x_slen pc L st S K z) := by
  unfold x_slen; rcases st with _ | ⟨(x | (x | (x | x))), st⟩ <;> first | exact NF.z | exact NF.cond (NF.cond (NF.k _ _ _ _) NF.z) NF.z
theorem nf_schr : NF S.1 (fun _ K z => x_schr pc L st S K z) := by
  unfold x_schr; rcases st with _ | ⟨(x | (x | (x | x))), _ | ⟨(y | (y | (⟨k, j⟩ | y))), st⟩⟩ <;> first | exact NF.z | exact NF.cond (NF.ite NF.z (NF.ite (NF.cond (NF.k _ _ _ _) NF.z) NF.z)) NF.z
theorem nf_obj : NF S.1 (fun _ K z => x_obj pc L st S K z) := by
  unfold x_obj; rcases st with _ | ⟨(x | (x | (x | x))), st⟩ <;> first | exact NF.z | exact NF.cond (NF.k _ _ _ _) NF.z
theorem nf_copy : NF S.1 (fun _ K z => x_copy N pc L st S K z) := by
  unfold x_copy
  rcases st with _ | ⟨(a1 | (a1 | (a1 | a1))), _ | ⟨(a2 | (a2 | (a2 | a2))), st⟩⟩ <;> first | exact NF.z | skip
  rcases st with _ | ⟨(a3 | (a3 | (⟨k, j⟩ | a3))), _ | ⟨(a4 | (a4 | (a4 | a4))), st⟩⟩ <;> first | exact NF.z | skip
  rcases st with _ | ⟨(a5 | (a5 | (⟨k2, j2⟩ | a5))), st⟩ <;> first | exact NF.z | skip
  exact NF.cond (NF.cond (NF.ite NF.z (NF.ite NF.z (NF.ite NF.z (NF.ite NF.z (NF.ite NF.z (NF.cond (NF.k _ _ _ _) NF.z)))))) NF.z) NF.z
theorem stp_nf (ins : Instr) : NF S.1 (fun _ K z => stp N ins pc L st S K z) := by
  cases ins <;> first | exact NF.z | exact NF.k _ _ _ _ | exact nf_iload | exact nf_lload | exact nf_aload | exact nf_istore | exact nf_astore | exact nf_lstore | exact nf_iinc | exact nf_iop | exact nf_iopc | exact nf_idv | exact nf_lop | exact nf_ldv | exact nf_lsh | exact nf_lcmp | exact nf_i2l | exact nf_l2i | exact nf_i2b | exact nf_dup | exact nf_dup2 | exact nf_pop | exact nf_icmp | exact nf_if | exact nf_ifnull | exact nf_switch | exact nf_get | exact nf_put | exact nf_alen | exact nf_iald | exact nf_bald | exact nf_lald | exact nf_iast | exact nf_bast | exact nf_last | exact nf_new | exact nf_newa | exact nf_slen | exact nf_schr | exact nf_obj | exact nf_copy
end NFS
section EV
variable {N : Nat}
theorem bnd_some {o : Option Out} {f : Option MV → MS → Option Out} {x : Out} (h : bnd o f = some x) : ∃ y : Out, o = some y ∧ f y.1 y.2 = some x := by
  rcases o with _ | ⟨r, S⟩
  · exact absurd h (by simp [bnd])
  · exact ⟨(r, S), rfl, h⟩
/-- what a step that is a call, or an end, or neither, comes to, over what goes on -/
def OneOr (N m : Nat) (ins : Instr) (pc : Nat) (L st : List MV) (S : MS) : Prop :=
    (∃ (k : Nat) (as rest : List MV), ∀ inv K, one N m inv ins pc L st S K = bnd (inv k as S) (fun r S' => K (pc + 1) L (push r rest) S')) ∨
    (∃ (pc' : Nat) (L' st' : List MV) (S' : MS), S.1 ≤ S'.1 ∧ ∀ inv K, one N m inv ins pc L st S K = K pc' L' st' S') ∨ (∃ o : Option Out, (∀ x, o = some x → S.1 ≤ x.2.1) ∧ ∀ inv K, one N m inv ins pc L st S K = o)
theorem one_s {m : Nat} {ins : Instr} {pc : Nat} {L st : List MV} {S : MS} (h : ∀ inv K, one N m inv ins pc L st S K = stp N ins pc L st S K none) : OneOr N m ins pc L st S := by
  rcases stp_nf (N := N) (pc := pc) (L := L) (st := st) (S := S) ins with ⟨a, b, c, d, hl, e⟩ | e
  · exact Or.inr (Or.inl ⟨a, b, c, d, hl, fun inv K => (h inv K).trans (e _ K none)⟩)
  · exact Or.inr (Or.inr ⟨none, (fun _ h => by cases h), fun inv K => (h inv K).trans (e _ K none)⟩)
theorem one_c {m : Nat} {ins : Instr} {pc : Nat} {L st : List MV} {S : MS} (k : Nat) (h : ∀ inv K, one N m inv ins pc L st S K = xcall inv k pc L st S K) : OneOr N m ins pc L st S := by
  rcases e : takeR (mArg k) st [] with _ | ⟨as, rest⟩
  · exact Or.inr (Or.inr ⟨none, (fun _ h => by cases h), fun inv K => (h inv K).trans (by simp only [xcall, e])⟩)
  · rcases e2 : recvOk k as with _ | _
    · exact Or.inr (Or.inr ⟨none, (fun _ h => by cases h), fun inv K => (h inv K).trans (by simp only [xcall, e, e2, cond_false])⟩)
    · rcases e3 : Nat.ble (wordsOf rest) 8 with _ | _
      · exact Or.inr (Or.inr ⟨none, (fun _ h => by cases h), fun inv K => (h inv K).trans (by simp only [xcall, e, e2, e3, cond_true, cond_false])⟩)
      · exact Or.inl ⟨k, as, rest, fun inv K => (h inv K).trans (by simp only [xcall, e, e2, e3, cond_true])⟩
theorem xret_n {m : Nat} {st : List MV} {S : MS} {x : Out} (h : xret m st S = some x) : S.1 ≤ x.2.1 := by
  unfold xret at h
  split at h <;> (try split at h) <;> (try split at h) <;> (try split at h) <;> first | (cases h; exact Nat.le_refl _) | cases h
theorem one_or (m : Nat) (ins : Instr) (pc : Nat) (L st : List MV) (S : MS) : OneOr N m ins pc L st S := by
  cases ins <;> first | exact one_s (fun _ _ => rfl) | exact one_c _ (fun _ _ => rfl) | exact Or.inr (Or.inr ⟨_, fun _ h => xret_n h, fun _ _ => rfl⟩)
theorem exec_mono : ∀ (F : Nat) (m pc : Nat) (L st : List MV) (S : MS) (o : Out), exec N F m pc L st S = some o → exec N (F + 1) m pc L st S = some o := by
  intro F
  induction F with
  | zero => intro m pc L st S o h; exact absurd h (by simp [exec])
  | succ F ih =>
    intro m pc L st S o h
    rw [exec] at h ⊢
    rcases e : nth (cod m) pc with _ | ins
    · rw [e] at h; exact absurd h (by simp)
    rw [e] at h
    dsimp only at h ⊢
    rcases one_or (N := N) m ins pc L st S with ⟨k, as, rest, hc⟩ | ⟨a, b, c, d, -, hc⟩ | ⟨o', -, hc⟩
    · rw [hc] at h ⊢
      obtain ⟨y, h1, h2⟩ := bnd_some h
      rw [ih _ _ _ _ _ _ h1]
      exact ih _ _ _ _ _ _ h2
    · rw [hc] at h ⊢
      exact ih _ _ _ _ _ _ h
    · rw [hc] at h ⊢
      exact h
theorem exec_le {F G m pc : Nat} {L st : List MV} {S : MS} {o : Out} (hFG : F ≤ G) (h : exec N F m pc L st S = some o) : exec N G m pc L st S = some o := by
  induction hFG with
  | refl => exact h
  | step _ ih => exact exec_mono _ _ _ _ _ _ _ ih
/-- cells are only ever made -/
theorem exec_n : ∀ (F : Nat) (m pc : Nat) (L st : List MV) (S : MS) (o : Out), exec N F m pc L st S = some o → S.1 ≤ o.2.1 := by
  intro F
  induction F with
  | zero => intro m pc L st S o h; exact absurd h (by simp [exec])
  | succ F ih =>
    intro m pc L st S o h
    rw [exec] at h
    rcases e : nth (cod m) pc with _ | ins
    · rw [e] at h; exact absurd h (by simp)
    rw [e] at h
    dsimp only at h
    rcases one_or (N := N) m ins pc L st S with ⟨k, as, rest, hc⟩ | ⟨a, b, c, d, hl, hc⟩ | ⟨o', hl, hc⟩
    · rw [hc] at h
      obtain ⟨y, h1, h2⟩ := bnd_some h
      exact Nat.le_trans (ih _ _ _ _ _ _ h1) (ih _ _ _ _ _ _ h2)
    · rw [hc] at h
      exact Nat.le_trans hl (ih _ _ _ _ _ _ h)
    · rw [hc] at h
      exact hl o h
noncomputable def ev (N m pc : Nat) (L st : List MV) (S : MS) : Option Out :=
  @dite _ (∃ o : Out, ∃ F, exec N F m pc L st S = some o) (Classical.propDecidable _) (fun h => some (Classical.choose h)) (fun _ => none)
theorem ev_of {F m pc : Nat} {L st : List MV} {S : MS} {o : Out} (h : exec N F m pc L st S = some o) : ev N m pc L st S = some o := by
  have hx : ∃ o : Out, ∃ F, exec N F m pc L st S = some o := ⟨o, F, h⟩
  unfold ev
  rw [dif_pos hx]
  obtain ⟨G, hG⟩ := Classical.choose_spec hx
  have a := exec_le (Nat.le_max_left F G) h
  have b := exec_le (Nat.le_max_right F G) hG
  rw [a] at b
  exact b.symm
theorem ev_to {m pc : Nat} {L st : List MV} {S : MS} {o : Out} (h : ev N m pc L st S = some o) : ∃ F, exec N F m pc L st S = some o := by
  unfold ev at h
  split at h
  · rename_i hx
    obtain ⟨F, hF⟩ := Classical.choose_spec hx
    exact ⟨F, by rw [hF, h]⟩
  · cases h
theorem ev_ext {m pc : Nat} {L st : List MV} {S : MS} {x : Option Out} (h1 : ∀ o, ev N m pc L st S = some o → x = some o) (h2 : ∀ o, x = some o → ev N m pc L st S = some o) : ev N m pc L st S = x := by
  rcases e : ev N m pc L st S with _ | o
  · rcases x with _ | o
    · rfl
    · rw [h2 o rfl] at e; cases e
  · exact (h1 o e).symm
noncomputable def inv (N k : Nat) (as : List MV) (S : MS) : Option Out := ev N k 0 (mkL k as) [] S
theorem ev_step {m pc : Nat} {ins : Instr} (L st : List MV) (S : MS) (e : nth (cod m) pc = some ins) : ev N m pc L st S = one N m (inv N) ins pc L st S (ev N m) := by
  refine ev_ext (fun o h => ?_) (fun o h => ?_)
  · obtain ⟨F, hF⟩ := ev_to h
    rcases F with _ | F
    · exact absurd hF (by simp [exec])
    rw [exec, e] at hF
    dsimp only at hF
    rcases one_or (N := N) m ins pc L st S with ⟨k, as, rest, hc⟩ | ⟨a, b, c, d, -, hc⟩ | ⟨o', -, hc⟩
    · rw [hc] at hF ⊢
      obtain ⟨y, h1, h2⟩ := bnd_some hF
      rw [show inv N k as S = some y from ev_of h1]
      exact ev_of h2
    · rw [hc] at hF ⊢
      exact ev_of hF
    · rw [hc] at hF ⊢
      exact hF
  · rcases one_or (N := N) m ins pc L st S with ⟨k, as, rest, hc⟩ | ⟨a, b, c, d, -, hc⟩ | ⟨o', -, hc⟩
    · rw [hc] at h
      obtain ⟨y, h1, h2⟩ := bnd_some h
      obtain ⟨F, hF⟩ := ev_to h1
      obtain ⟨G, hG⟩ := ev_to h2
      refine ev_of (F := max F G + 1) ?_
      rw [exec, e]
      dsimp only
      rw [hc]
      rw [exec_le (Nat.le_max_left F G) hF]
      exact exec_le (Nat.le_max_right F G) hG
    · rw [hc] at h
      obtain ⟨G, hG⟩ := ev_to h
      refine ev_of (F := G + 1) ?_
      rw [exec, e]
      dsimp only
      rw [hc]
      exact hG
    · rw [hc] at h
      refine ev_of (F := 1) ?_
      rw [exec, e]
      dsimp only
      rw [hc]
      exact h
theorem ev_no {m pc : Nat} (L st : List MV) (S : MS) (e : nth (cod m) pc = none) : ev N m pc L st S = none := by
  refine ev_ext (fun o h => ?_) (fun o h => by cases h)
  obtain ⟨F, hF⟩ := ev_to h
  rcases F with _ | F
  · exact absurd hF (by simp [exec])
  · rw [exec, e] at hF
    cases hF
/-- a walk of at most so many steps, that ends at the places told -/
noncomputable def runK (N m : Nat) (stops : List Nat) : Nat → Nat → List MV → List MV → MS → Option Out
  | 0, pc, L, st, S => ev N m pc L st S
  | k + 1, pc, L, st, S => match nth (cod m) pc with
    | none => none
    | some ins => one N m (inv N) ins pc L st S (fun pc' L' st' S' => cond (elemN pc' stops) (ev N m pc' L' st' S') (runK N m stops k pc' L' st' S'))
theorem run_eq (m : Nat) (stops : List Nat) : ∀ (k pc : Nat) (L st : List MV) (S : MS), ev N m pc L st S = runK N m stops k pc L st S := by
  intro k
  induction k with
  | zero => intro pc L st S; rfl
  | succ k ih =>
    intro pc L st S
    rw [runK]
    rcases e : nth (cod m) pc with _ | ins
    · exact ev_no L st S e
    · rw [ev_step L st S e]
      dsimp only
      congr 1
      funext pc' L' st' S'
      rcases elemN pc' stops with _ | _
      · exact ih _ _ _ _
      · rfl
end EV
/-- all is made: 55 cells, every reference put -/
abbrev P (σ : Sto) : MS := (55, [], σ)
theorem bnd_s (r : Option MV) (S : MS) (f : Option MV → MS → Option Out) : bnd (some (r, S)) f = f r S := rfl
theorem bnd_n (f : Option MV → MS → Option Out) : bnd none f = none := rfl
theorem push_s (v : MV) (st : List MV) : push (some v) st = v :: st := rfl
theorem push_n (st : List MV) : push none st = st := rfl
