/-! BUNDLE, whole -/
section BU
variable {N n : Nat} {T : Vec} {σ : Sto} {L : Int}
def tk2 (g f : Vec) : Vec := set (set (set (set (set f 0 (g 0)) 1 (g 1)) 2 (g 2)) 3 (g 3)) 4 (g 4)
def tkQ (σ : Sto) : Sto := row (row (row (row σ 2 1 (tk2 (σ 2 0) (σ 2 1))) 3 1 (cpyV (σ 3 0) (σ 3 1) 0 0 6)) 4 1 (cpyV (σ 4 0) (σ 4 1) 0 0 6)) 5 1 (cpyV (σ 5 0) (σ 5 1) 0 0 84)
theorem c_take21 : inv N mX0_take [vR 2 1, vR 2 0] (P σ) = some (none, P (tkQ σ)) := by
  have w0 : w32 (6 - 6) = 0 := rfl
  have w84 : w32 (84 - 84) = 0 := rfl
  have e20 : ∀ f, row σ 2 1 f 2 0 = σ 2 0 := fun _ => rfl
  rw [iX0_take, eX0_take_0]
  simp only [sup_row, row_same, row_row, e20]
  rw [iX6_copy_k3_k3, eX6_copy_0_k3_k3, w0, if_neg (by decide), if_neg (by decide), if_neg (by decide), if_neg (by decide), if_neg (by decide), if_neg (by decide), if_neg (by decide), if_neg (by decide), if_neg (by decide), if_neg (by decide), bnd_s, push_n, eX0_take_28, iX6_copy_k4_k4, eX6_copy_0_k4_k4, w0, if_neg (by decide), if_neg (by decide), if_neg (by decide), if_neg (by decide), if_neg (by decide), if_neg (by decide), if_neg (by decide), if_neg (by decide), if_neg (by decide), if_neg (by decide), bnd_s, push_n, eX0_take_36, iX6_copy_k5_k5, eX6_copy_0_k5_k5, w84, if_neg (by decide), if_neg (by decide), if_neg (by decide), if_neg (by decide), if_neg (by decide), if_neg (by decide), if_neg (by decide), if_neg (by decide), if_neg (by decide), if_neg (by decide), bnd_s, push_n, eX0_take_44, cpy_row, cpy_row, cpy_row]
  rfl
/-- the model's copies -/
def cpQ (τ : Sto) (K J : Nat) : Sto := row (row (row (row (row τ 30 0 (set (set (set (τ 30 0) 5 (τ 30 0 7)) 6 (τ 30 0 8)) 21 0)) 32 0 (cpyV (τ 34 0) (τ 32 0) 0 0 K)) 33 0 (cpyV (τ 35 0) (τ 33 0) 0 0 K)) 36 0 (cpyV (τ 37 0) (τ 36 0) 0 0 J)) 38 0 (set (set (set (τ 38 0) 2 (τ 39 0 2)) 3 (τ 39 0 3)) 4 (τ 39 0 4))
theorem cpy_s0 (f g : Vec) (k : Nat) : set (cpyV f g 0 0 k) k (f k) = cpyV f g 0 0 (k + 1) := by
  have := cpyV_s f g 0 0 k
  rw [Nat.zero_add] at this
  exact this
theorem m_cp1 (K : Nat) (hK : K ≤ 6) : ∀ (m k : Nat) (τ : Sto), k + m = K → τ 30 0 5 = (K : Int) → ev N mX9_copiesBundle 10 [vR 30 0, vI (k : Int)] [] (P (row (row τ 32 0 (cpyV (τ 34 0) (τ 32 0) 0 0 k)) 33 0 (cpyV (τ 35 0) (τ 33 0) 0 0 k))) = ev N mX9_copiesBundle 34 [vR 30 0, vI 0] [] (P (row (row τ 32 0 (cpyV (τ 34 0) (τ 32 0) 0 0 K)) 33 0 (cpyV (τ 35 0) (τ 33 0) 0 0 K))) := by
  intro m
  induction m with
  | zero =>
    intro k τ hk h5
    have e : k = K := by omega
    subst e
    have r5 : ∀ f g, row (row τ 32 0 f) 33 0 g 30 0 5 = (k : Int) := fun _ _ => h5
    rw [eX9_copiesBundle_10, r5, if_neg (Int.lt_irrefl _)]
  | succ m ih =>
    intro k τ hk h5
    have r5 : ∀ f g, row (row τ 32 0 f) 33 0 g 30 0 5 = (K : Int) := fun _ _ => h5
    have l : (k : Int) < (K : Int) ∧ ¬ (k : Int) < 0 ∧ (k : Int) < 7 ∧ (k : Int) < 6 ∧ k + 1 + m = K := by omega
    have e1 : w32 ((k : Int) + 1) = ((k + 1 : Nat) : Int) := by rw [w32i (by omega) (by omega)]; omega
    have z := ih (k + 1) τ l.2.2.2.2 h5
    have r34 : ∀ f g, row (row τ 32 0 f) 33 0 g 34 0 = τ 34 0 := fun _ _ => rfl
    have r35 : ∀ f g h, row (row (row τ 32 0 f) 33 0 g) 32 0 h 35 0 = τ 35 0 := fun _ _ _ => rfl
    have r32 : ∀ f g, row (row τ 32 0 f) 33 0 g 32 0 = f := fun _ _ => rfl
    have r33 : ∀ f g h, row (row (row τ 32 0 f) 33 0 g) 32 0 h 33 0 = g := fun _ _ _ => rfl
    rw [eX9_copiesBundle_10, r5, if_pos l.1, if_neg l.2.1, if_pos l.2.2.1, if_neg l.2.1, if_pos l.2.2.2.1, if_neg l.2.1, if_pos l.2.2.1, if_neg l.2.1, if_pos l.2.2.2.1, e1, Int.toNat_natCast, sup_row, sup_row, r34, r32, r35, r33, cpy_s0, cpy_s0, row_comm (row τ 32 0 _) 33 0 32 0 _ _ (by decide), row_row, row_row]
    exact z
theorem m_cp2 (I : Nat) (hI : I ≤ 6) : ∀ (m k : Nat) (τ : Sto), k + m = 14 * I → τ 30 0 6 = (I : Int) → ev N mX9_copiesBundle 34 [vR 30 0, vI (k : Int)] [] (P (row τ 36 0 (cpyV (τ 37 0) (τ 36 0) 0 0 k))) = ev N mX9_copiesBundle 52 [vR 30 0, vI 2] [] (P (row τ 36 0 (cpyV (τ 37 0) (τ 36 0) 0 0 (14 * I)))) := by
  have e14 : w32 (14 * (I : Int)) = ((14 * I : Nat) : Int) := by rw [w32i (by omega) (by omega)]; omega
  intro m
  induction m with
  | zero =>
    intro k τ hk h6
    have e : k = 14 * I := by omega
    have r6 : ∀ f, row τ 36 0 f 30 0 6 = (I : Int) := fun _ => h6
    rw [eX9_copiesBundle_34, r6, e14, if_neg (by rw [e]; exact Int.lt_irrefl _), e]
  | succ m ih =>
    intro k τ hk h6
    have r6 : ∀ f, row τ 36 0 f 30 0 6 = (I : Int) := fun _ => h6
    have l : (k : Int) < ((14 * I : Nat) : Int) ∧ ¬ (k : Int) < 0 ∧ (k : Int) < 98 ∧ (k : Int) < 84 ∧ k + 1 + m = 14 * I := by omega
    have e1 : w32 ((k : Int) + 1) = ((k + 1 : Nat) : Int) := by rw [w32i (by omega) (by omega)]; omega
    have r37 : ∀ f, row τ 36 0 f 37 0 = τ 37 0 := fun _ => rfl
    rw [eX9_copiesBundle_34, r6, e14, if_pos l.1, if_neg l.2.1, if_pos l.2.2.1, if_neg l.2.1, if_pos l.2.2.2.1, e1, Int.toNat_natCast, sup_row, r37, row_same, cpy_s0, row_row]
    exact ih (k + 1) τ l.2.2.2.2 h6
theorem m_cp3 (τ : Sto) : ev N mX9_copiesBundle 52 [vR 30 0, vI 2] [] (P τ) = some (none, P (row (row τ 38 0 (set (set (set (τ 38 0) 2 (τ 39 0 2)) 3 (τ 39 0 3)) 4 (τ 39 0 4))) 30 0 (set (τ 30 0) 21 0))) := by
  have t2 : (2 : Int).toNat = 2 := rfl
  have t3 : (3 : Int).toNat = 3 := rfl
  have t4 : (4 : Int).toNat = 4 := rfl
  have a3 : w32 (2 + 1) = 3 := rfl
  have a4 : w32 (3 + 1) = 4 := rfl
  have a5 : w32 (4 + 1) = 5 := rfl
  have e39 : ∀ f, row τ 38 0 f 39 0 = τ 39 0 := fun _ => rfl
  have e30 : ∀ f, row τ 38 0 f 30 0 = τ 30 0 := fun _ => rfl
  rw [eX9_copiesBundle_52, if_neg (by decide), if_neg (by decide), if_pos (by decide), if_neg (by decide), if_pos (by decide), t2, a3, sup_row, eX9_copiesBundle_52, if_neg (by decide), if_neg (by decide), if_pos (by decide), if_neg (by decide), if_pos (by decide), t3, a4, sup_row, row_same, row_row, e39, eX9_copiesBundle_52, if_neg (by decide), if_neg (by decide), if_pos (by decide), if_neg (by decide), if_pos (by decide), t4, a5, sup_row, row_same, row_row, e39, eX9_copiesBundle_52, if_pos (by decide), sup_row, e30]
theorem m_copies {τ : Sto} {K I : Nat} (hK : K ≤ 6) (hI : I ≤ 6) (h7 : τ 30 0 7 = (K : Int)) (h8 : τ 30 0 8 = (I : Int)) : inv N mX9_copiesBundle [vR 30 0] (P τ) = some (none, P (cpQ τ K (14 * I))) := by
  have r8 : ∀ f, row τ 30 0 f 30 0 = f := fun _ => row_same _ _ _ _
  have c1 := m_cp1 (N := N) K hK K 0 (row τ 30 0 (set (set (τ 30 0) 5 (K : Int)) 6 (I : Int))) (Nat.zero_add K) (by rw [row_same, set_ne _ _ (by decide), set_same])
  have e : ∀ f k', (k' = 32 ∨ k' = 33 ∨ k' = 34 ∨ k' = 35) → row τ 30 0 f k' 0 = τ k' 0 := fun f k' hk => by rw [row_at, if_neg (by omega)]
  rw [e _ 34 (by decide), e _ 32 (by decide), e _ 35 (by decide), e _ 33 (by decide), cpyV_0, cpyV_0] at c1
  have id1 : row (row (row τ 30 0 (set (set (τ 30 0) 5 (K : Int)) 6 (I : Int))) 32 0 (τ 32 0)) 33 0 (τ 33 0) = row τ 30 0 (set (set (τ 30 0) 5 (K : Int)) 6 (I : Int)) := by
    rw [row_comm τ 30 0 32 0 _ _ (by decide), row_comm (row τ 32 0 (τ 32 0)) 30 0 33 0 _ _ (by decide), row_id, row_id]
  rw [id1] at c1
  have c2 := m_cp2 (N := N) I hI (14 * I) 0 (row (row (row τ 30 0 (set (set (τ 30 0) 5 (K : Int)) 6 (I : Int))) 32 0 (cpyV (τ 34 0) (τ 32 0) 0 0 K)) 33 0 (cpyV (τ 35 0) (τ 33 0) 0 0 K)) (Nat.zero_add _) rfl
  rw [cpyV_0, row_id] at c2
  rw [iX9_copiesBundle, eX9_copiesBundle_0]
  simp only [sup_row, row_same, row_row]
  rw [set_ne _ _ (show 8 ≠ 5 by decide), h7, h8]
  refine Eq.trans c1 (Eq.trans c2 ?_)
  rw [m_cp3]
  show some (none, P _) = some (none, P _)
  unfold cpQ
  rw [h7, h8]
  have cm := fun (a b c d : Vec) (x y z w v : Vec) => (rfl : row (row (row (row (row (row τ 30 0 a) 32 0 x) 33 0 y) 36 0 z) 38 0 w) 30 0 v = row (row (row (row (row (row τ 30 0 a) 32 0 x) 33 0 y) 36 0 z) 38 0 w) 30 0 v)
  congr 2
  rw [row_comm _ 38 0 30 0 _ _ (by decide), row_comm _ 36 0 30 0 _ _ (by decide), row_comm _ 33 0 30 0 _ _ (by decide), row_comm _ 32 0 30 0 _ _ (by decide), row_row]
  rfl
end BU
