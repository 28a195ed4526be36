/-! THE PAST -/
/-- cells of both, alike and good -/
def CELL (L : Int) (c n : Vec) : Prop := OKC c ∧ RZ c n ∧ c 82 ≤ L
theorem OKC_107 {c c2 : Vec} (h : OKC c) (h1 : ∀ j, j < 107 → c2 j = c j) : OKC c2 := by
  obtain ⟨a, b, d, e, f⟩ := h
  refine ⟨fun j hj => ?_, fun j hj hj2 => ?_, ?_, ?_, ?_⟩
  · rw [h1 j (by omega)]
    exact a j hj
  · rw [h1 j (by omega)]
    exact b j hj hj2
  · rw [h1 76 (by omega)]
    exact d
  · rw [h1 77 (by omega)]
    exact e
  · rw [h1 78 (by omega)]
    exact f
theorem RS_107 {c n c2 n2 : Vec} (h : RS c n) (h1 : ∀ j, j < 107 → c2 j = c j) (h2 : ∀ j, j < 107 → n2 j = n j) : RS c2 n2 := by
  obtain ⟨a, b, d⟩ := h
  unfold RS
  rw [h1 82 (by omega), h2 82 (by omega)]
  refine ⟨a, b, fun k hk hk2 => ?_⟩
  rw [h2 _ (by omega), h2 _ (by omega), h1 _ (by omega), h1 _ (by omega)]
  exact d k hk hk2
theorem RZ_107 {c n c2 n2 : Vec} (h : RZ c n) (h1 : ∀ j, j < 107 → c2 j = c j) (h2 : ∀ j, j < 107 → n2 j = n j) : RZ c2 n2 := by
  obtain ⟨⟨a, b, d, e, f⟩, g⟩ := h
  refine ⟨⟨fun j hj => ?_, ?_, ?_, ?_, RS_107 f h1 h2⟩, ?_⟩
  · rw [h1 j (by omega), h2 j (by omega), a j hj]
  · rw [h1 79 (by omega), h2 80 (by omega), b]
  · rw [h1 80 (by omega), h2 79 (by omega), d]
  · rw [h1 81 (by omega), h2 81 (by omega), e]
  · rw [h1 78 (by omega), h2 78 (by omega), g]
theorem CELL_107 {L : Int} {c n c2 n2 : Vec} (h : CELL L c n) (h1 : ∀ j, j < 107 → c2 j = c j) (h2 : ∀ j, j < 107 → n2 j = n j) : CELL L c2 n2 :=
  ⟨OKC_107 h.1 h1, RZ_107 h.2.1 h1 h2, by rw [h1 82 (by omega)]; exact h.2.2⟩
theorem CELL_le {L M : Int} {c n : Vec} (h : CELL L c n) (hl : L ≤ M) : CELL M c n := ⟨h.1, h.2.1, Int.le_trans h.2.2 hl⟩
def PAST (L : Int) (r : Vec) (t d : Int) (m : Vec) (p : Int) : Prop := (0 ≤ t ∧ t < 12) ∧ (0 ≤ d ∧ d ≤ 12) ∧ p = d ∧ ∀ k : Nat, (k : Int) < d → CELL L (seg r (107 * ((t + 11 - k) % 12).toNat)) (seg m (107 * (d - 1 - k).toNat))
theorem PAST_le {L M : Int} {r m : Vec} {t d p : Int} (h : PAST L r t d m p) (hl : L ≤ M) : PAST M r t d m p := ⟨h.1, h.2.1, h.2.2.1, fun k hk => CELL_le (h.2.2.2 k hk) hl⟩
theorem PAST_0 (L : Int) (r m : Vec) (t : Int) (ht : 0 ≤ t ∧ t < 12) : PAST L r t 0 m 0 := ⟨ht, by omega, rfl, fun k hk => absurd hk (by omega)⟩
/-- the model's row and its number behind REMEMBERS -/
def remV (n m : Vec) (p : Int) : Vec := if p = 12 then cpyV n (cpyV m m 107 0 1177) 0 1177 107 else cpyV n m 0 (107 * p.toNat) 107
def remP (p : Int) : Int := if p = 12 then 12 else p + 1
theorem PAST_keep {L : Int} {r m c n : Vec} {t d p : Int} (h : PAST L r t d m p) (hc : CELL L c n) : PAST L (cpyV c r 0 (107 * t.toNat) 107) ((t + 1) % 12) (min (d + 1) 12) (remV n m p) (remP p) := by
  obtain ⟨ht, hd, hp, hk⟩ := h
  subst hp
  unfold remP
  refine ⟨by omega, by omega, by split <;> omega, fun k hk2 => ?_⟩
  by_cases k0 : k = 0
  · subst k0
    have i1 : (((t + 1) % 12 + 11 - ((0 : Nat) : Int)) % 12).toNat = t.toNat := by omega
    rw [i1]
    refine CELL_107 hc (fun j hj => ?_) (fun j hj => ?_)
    · unfold seg
      rw [cpyV_in _ _ _ _ _ _ hj, Nat.zero_add]
    · unfold seg remV
      by_cases q : p = 12
      · rw [if_pos q, show 107 * (min (p + 1) 12 - 1 - ((0 : Nat) : Int)).toNat = 1177 by omega, cpyV_in _ _ _ _ _ _ hj, Nat.zero_add]
      · rw [if_neg q, show (min (p + 1) 12 - 1 - ((0 : Nat) : Int)).toNat = p.toNat by omega, cpyV_in _ _ _ _ _ _ hj, Nat.zero_add]
  · have old := hk (k - 1) (by omega)
    have i1 : (((t + 1) % 12 + 11 - (k : Int)) % 12).toNat = ((t + 11 - ((k - 1 : Nat) : Int)) % 12).toNat := by omega
    have i2 : ((t + 11 - ((k - 1 : Nat) : Int)) % 12).toNat ≠ t.toNat := by omega
    rw [i1]
    generalize ((t + 11 - ((k - 1 : Nat) : Int)) % 12).toNat = i at i2 old ⊢
    refine CELL_107 old (fun j hj => ?_) (fun j hj => ?_)
    · unfold seg
      exact cpyV_out _ _ _ _ _ _ (by omega)
    · unfold seg remV
      by_cases q : p = 12
      · rw [if_pos q, cpyV_out _ _ _ _ _ _ (by omega)]
        have e1 : 107 * (min (p + 1) 12 - 1 - (k : Int)).toNat + j = 0 + (107 * (min (p + 1) 12 - 1 - (k : Int)).toNat + j) := by omega
        rw [e1, cpyV_in _ _ _ _ _ _ (by omega), show 107 + (107 * (min (p + 1) 12 - 1 - (k : Int)).toNat + j) = 107 * (p - 1 - ((k - 1 : Nat) : Int)).toNat + j by omega]
      · rw [if_neg q, cpyV_out _ _ _ _ _ _ (by omega), show (min (p + 1) 12 - 1 - (k : Int)).toNat = (p - 1 - ((k - 1 : Nat) : Int)).toNat by omega]
theorem PAST_back {L : Int} {r m : Vec} {t d p : Int} (h : PAST L r t d m p) (hd0 : ¬ d = 0) (c n : Vec) : PAST L r ((t + 11) % 12) (d - 1) m (p - 1) ∧ CELL L (cpyV r c (107 * ((t + 11) % 12).toNat) 0 107) (cpyV m n (107 * (p - 1).toNat) 0 107) := by
  obtain ⟨ht, hd, hp, hk⟩ := h
  subst hp
  refine ⟨⟨by omega, by omega, rfl, fun k hk2 => ?_⟩, ?_⟩
  · have old := hk (k + 1) (by omega)
    rw [show (((t + 11) % 12 + 11 - (k : Int)) % 12).toNat = ((t + 11 - ((k + 1 : Nat) : Int)) % 12).toNat by omega, show (p - 1 - 1 - (k : Int)).toNat = (p - 1 - ((k + 1 : Nat) : Int)).toNat by omega]
    exact old
  · have old := hk 0 (by omega)
    rw [show ((t + 11 - ((0 : Nat) : Int)) % 12).toNat = ((t + 11) % 12).toNat by omega, show (p - 1 - ((0 : Nat) : Int)).toNat = (p - 1).toNat by omega] at old
    refine CELL_107 old (fun j hj => ?_) (fun j hj => ?_)
    · have := cpyV_in r c (107 * ((t + 11) % 12).toNat) 0 107 j hj
      rw [Nat.zero_add] at this
      exact this
    · have := cpyV_in m n (107 * (p - 1).toNat) 0 107 j hj
      rw [Nat.zero_add] at this
      exact this
section CLS
variable {N : Nat} {σ : Sto}
theorem tmod12 {x : Int} (h0 : 0 ≤ x) : Int.tmod x 12 = x % 12 := Int.tmod_eq_emod_of_nonneg h0
theorem c_keep (t0 : 0 ≤ σ 9 0 2) (t1 : σ 9 0 2 < 12) (d0 : 0 ≤ σ 9 0 3) (d1 : σ 9 0 3 ≤ 12) : inv N mX3_keep [vR 9 0] (P σ) = some (none, P (row (row σ 10 0 (cpyV (σ 7 0) (σ 10 0) 0 (107 * (σ 9 0 2).toNat) 107)) 9 0 (set (set (σ 9 0) 2 ((σ 9 0 2 + 1) % 12)) 3 (min (σ 9 0 3 + 1) 12)))) := by
  have e1 : w32 (σ 9 0 2 * 107) = ((107 * (σ 9 0 2).toNat : Nat) : Int) := by rw [w32i (by omega) (by omega)]; omega
  have e2 : w32 (σ 9 0 2 + 1) = σ 9 0 2 + 1 := w32i (by omega) (by omega)
  have e3 : w32 (σ 9 0 3 + 1) = σ 9 0 3 + 1 := w32i (by omega) (by omega)
  have e4 : Int.tmod (σ 9 0 2 + 1) 12 = (σ 9 0 2 + 1) % 12 := tmod12 (by omega)
  have w1 : w32 (107 - 107) = 0 := rfl
  have w2 : w32 (1284 - 107) = 1177 := rfl
  have b : 107 * (σ 9 0 2).toNat ≤ 1177 := by omega
  generalize 107 * (σ 9 0 2).toNat = a at e1 b ⊢
  have r9 : ∀ g, row σ 10 0 g 9 0 = σ 9 0 := fun g => by rw [row_at, if_neg (by omega)]
  clear t0 t1 d0 d1
  rw [iX3_keep, eX3_keep_0, e1]
  generalize hs : σ 9 0 2 = t at e1 e2 e4
  rw [iX2_saveTo, eX2_saveTo_0, iX6_copy_k7_k10, eX6_copy_0_k7_k10, w1, w2]
  rw [if_neg (by omega), if_neg (by omega), if_neg (by omega), if_neg (by omega), if_neg (by omega), if_neg (by omega), if_neg (by omega), if_neg (by omega), if_neg (by omega), if_neg (by omega), bnd_s, push_n, eX2_saveTo_7, bnd_s, push_n, eX3_keep_9]
  simp only [Int.reduceToNat, Int.toNat_natCast, cpy_row, sup_row, row_same, row_row, r9, hs, e2, e4]
  rw [set_ne _ _ (show 3 ≠ 2 by decide), e3]
theorem c_back (t0 : 0 ≤ σ 9 0 2) (t1 : σ 9 0 2 < 12) (d0 : 0 < σ 9 0 3) (d1 : σ 9 0 3 ≤ 12) : inv N mX3_bringBack [vR 9 0] (P σ) = some (some (vI (σ 9 0 3 - 1)), P (row (row σ 9 0 (set (set (σ 9 0) 2 ((σ 9 0 2 + 11) % 12)) 3 (σ 9 0 3 - 1))) 7 0 (cpyV (σ 10 0) (σ 7 0) (107 * ((σ 9 0 2 + 11) % 12).toNat) 0 107))) := by
  have e2 : w32 (w32 (σ 9 0 2 + 12) - 1) = σ 9 0 2 + 11 := by rw [w32i (x := σ 9 0 2 + 12) (by omega) (by omega), w32i (by omega) (by omega)]; omega
  have e3 : w32 (σ 9 0 3 - 1) = σ 9 0 3 - 1 := w32i (by omega) (by omega)
  have e4 : Int.tmod (σ 9 0 2 + 11) 12 = (σ 9 0 2 + 11) % 12 := tmod12 (by omega)
  have e1 : w32 ((σ 9 0 2 + 11) % 12 * 107) = ((107 * ((σ 9 0 2 + 11) % 12).toNat : Nat) : Int) := by rw [w32i (by omega) (by omega)]; omega
  have w1 : w32 (107 - 107) = 0 := rfl
  have w2 : w32 (1284 - 107) = 1177 := rfl
  have b : 107 * ((σ 9 0 2 + 11) % 12).toNat ≤ 1177 := by omega
  have n0 : ¬ σ 9 0 3 = 0 := by omega
  clear t0 t1 d0 d1
  have r10 : ∀ g, row σ 9 0 g 10 0 = σ 10 0 := fun g => by rw [row_at, if_neg (by omega)]
  have r7 : ∀ g, row σ 9 0 g 7 0 = σ 7 0 := fun g => by rw [row_at, if_neg (by omega)]
  have r9 : ∀ (g h : Vec), row (row σ 9 0 g) 7 0 h 9 0 = g := fun g h => by rw [row_at, if_neg (by omega), row_same]
  rw [iX3_bringBack, eX3_bringBack_0, if_neg n0]
  simp only [sup_row, row_same, row_row, e2, e4]
  rw [set_ne _ _ (show 2 ≠ 3 by decide), set_same, set_ne _ _ (show 3 ≠ 2 by decide), e3, e1]
  generalize 107 * ((σ 9 0 2 + 11) % 12).toNat = a at b ⊢
  rw [iX2_loadFrom, eX2_loadFrom_0, iX6_copy_k10_k7, eX6_copy_0_k10_k7, w1, w2]
  rw [if_neg (by omega), if_neg (by omega), if_neg (by omega), if_neg (by omega), if_neg (by omega), if_neg (by omega), if_neg (by omega), if_neg (by omega), if_neg (by omega), if_neg (by omega), bnd_s, push_n, eX2_loadFrom_7, bnd_s, push_n, eX3_bringBack_30]
  simp only [Int.reduceToNat, Int.toNat_natCast, cpy_row, r10, r7, r9]
  rw [set_same]
theorem c_back0 (d0 : σ 9 0 3 = 0) : inv N mX3_bringBack [vR 9 0] (P σ) = some (some (vI (-1)), P σ) := by
  rw [iX3_bringBack, eX3_bringBack_0, if_pos d0]
theorem m_remembers (p0 : 0 ≤ σ 30 0 21) (p1 : σ 30 0 21 ≤ 12) : inv N mX9_remembers [vR 30 0] (P σ) = some (none, P (row (row σ 41 0 (remV (σ 40 0) (σ 41 0) (σ 30 0 21))) 30 0 (set (σ 30 0) 21 (remP (σ 30 0 21))))) := by
  have r30 : ∀ g, row σ 41 0 g 30 0 = σ 30 0 := fun g => by rw [row_at, if_neg (by omega)]
  have r40 : ∀ g, row σ 41 0 g 40 0 = σ 40 0 := fun g => by rw [row_at, if_neg (by omega)]
  rw [iX9_remembers, eX9_remembers_0]
  unfold remV remP
  by_cases q : σ 30 0 21 = 12
  · have lp := s9_shift_loop (N := N) (σ := σ) 1177 107 rfl (by omega)
    rw [show 107 - 107 = 0 from rfl, cpyV_0, row_id, Int.cast_ofNat_Int] at lp
    rw [if_pos q, if_pos q, if_pos q, lp, eX9_remembers_6, if_neg (by omega), sup_row, r30, row_same, set_same, q]
    have e : w32 (107 * w32 (12 - 1)) = ((1177 : Nat) : Int) := rfl
    have k := s9_keep41 (N := N) (σ := row (row σ 41 0 (cpyV (σ 41 0) (σ 41 0) 107 0 1177)) 30 0 (set (σ 30 0) 21 (w32 (12 - 1)))) 1177 (by omega)
    rw [e, k, bnd_s, push_n, eX9_remembers_35]
    have c1 : ∀ g h : Vec, row (row σ 41 0 g) 30 0 h 40 0 = σ 40 0 := fun g h => by rw [row_at, if_neg (by omega), row_at, if_neg (by omega)]
    have c2 : ∀ g h : Vec, row (row σ 41 0 g) 30 0 h 41 0 = g := fun g h => by rw [row_at, if_neg (by omega), row_same]
    have c3 : ∀ g h f : Vec, row (row (row σ 41 0 g) 30 0 h) 41 0 f 30 0 = h := fun g h f => by rw [row_at, if_neg (by omega), row_same]
    simp only [c1, c2, sup_row, c3, set_same, set_set]
    rw [row_comm (row σ 41 0 _) 30 0 41 0 _ _ (by omega), row_row, row_row]
    rfl
  · have e : w32 (107 * σ 30 0 21) = ((107 * (σ 30 0 21).toNat : Nat) : Int) := by rw [w32i (by omega) (by omega)]; omega
    have b : 107 * (σ 30 0 21).toNat + 107 ≤ 1284 := by omega
    have e2 : w32 (σ 30 0 21 + 1) = σ 30 0 21 + 1 := w32i (by omega) (by omega)
    rw [if_neg q, if_neg q, if_neg q, e, s9_keep41 _ b, bnd_s, push_n, eX9_remembers_35, sup_row, r30, e2]
theorem m_undo (p0 : 0 < σ 30 0 21) (p1 : σ 30 0 21 ≤ 12) : inv N mX9_undo [vR 30 0] (P σ) = some (some (vI (σ 30 0 21 - 1)), P (row (row σ 30 0 (set (σ 30 0) 21 (σ 30 0 21 - 1))) 40 0 (cpyV (σ 41 0) (σ 40 0) (107 * (σ 30 0 21 - 1).toNat) 0 107))) := by
  have e1 : w32 (σ 30 0 21 - 1) = σ 30 0 21 - 1 := w32i (by omega) (by omega)
  have e : w32 (107 * (σ 30 0 21 - 1)) = ((107 * (σ 30 0 21 - 1).toNat : Nat) : Int) := by rw [w32i (by omega) (by omega)]; omega
  have b : 107 * (σ 30 0 21 - 1).toNat + 107 ≤ 1284 := by omega
  have n0 : ¬ σ 30 0 21 = 0 := by omega
  have c1 : ∀ g : Vec, row σ 30 0 g 40 0 = σ 40 0 := fun g => by rw [row_at, if_neg (by omega)]
  have c2 : ∀ g : Vec, row σ 30 0 g 41 0 = σ 41 0 := fun g => by rw [row_at, if_neg (by omega)]
  have c3 : ∀ g h : Vec, row (row σ 30 0 g) 40 0 h 30 0 = g := fun g h => by rw [row_at, if_neg (by omega), row_same]
  rw [iX9_undo, eX9_undo_0, if_neg n0, e1, sup_row, row_same, set_same, e, s9_lays41 _ b, bnd_s, push_n, eX9_undo_19, c1, c2, c3, set_same]
theorem m_undo0 (p0 : σ 30 0 21 = 0) : inv N mX9_undo [vR 30 0] (P σ) = some (some (vI (-1)), P σ) := by
  rw [iX9_undo, eX9_undo_0, if_pos p0]
end CLS
