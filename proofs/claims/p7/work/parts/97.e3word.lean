/-! WORDS of the text -/
def LT1 (b : Int) : Prop := 97 ≤ b ∧ b ≤ 122
def WD (n : Nat) (T : Vec) (w p : Nat) : Prop := (∀ i : Nat, (i : Int) < sLen w → byI n T (p + i) = sChr w i) ∧ ¬ (97 ≤ byI n T (p + (sLen w).toNat) ∧ byI n T (p + (sLen w).toNat) ≤ 122)
theorem words_all : ∀ w, w < 16 → (0 ≤ sLen w ∧ sLen w ≤ 7) ∧ ∀ i : Nat, i < 7 → (i : Int) < sLen w → 97 ≤ sChr w i ∧ sChr w i ≤ 122 := by decide +kernel
theorem words_l {w : Nat} (hw : w < 16) {i : Nat} (h : (i : Int) < sLen w) : 97 ≤ sChr w i ∧ sChr w i ≤ 122 := (words_all w hw).2 i (by have := (words_all w hw).1; omega) h
/-- the class's word, and the model's -/
def cw : Nat → Nat
  | 0 => 0
  | 1 => 2
  | 2 => 5
  | 3 => 6
  | 4 => 7
  | 5 => 1
  | 6 => 3
  | _ => 4
theorem cw_len : ∀ k, k < 8 → sLen (cw k) = sLen (8 + k) := by decide +kernel
theorem cw_chr {k : Nat} (hk : k < 8) (i : Nat) : sChr (cw k) i = sChr (8 + k) i := by
  rcases (show k = 0 ∨ k = 1 ∨ k = 2 ∨ k = 3 ∨ k = 4 ∨ k = 5 ∨ k = 6 ∨ k = 7 by omega) with rfl | rfl | rfl | rfl | rfl | rfl | rfl | rfl <;> rfl
theorem WD_cw {n : Nat} {T : Vec} {k p : Nat} (hk : k < 8) : WD n T (cw k) p ↔ WD n T (8 + k) p := by
  unfold WD
  rw [cw_len k hk]
  constructor
  · exact fun h => ⟨fun i hi => (h.1 i hi).trans (cw_chr hk i), h.2⟩
  · exact fun h => ⟨fun i hi => (h.1 i hi).trans (cw_chr hk i).symm, h.2⟩
section TOK
variable {N n : Nat} {T : Vec} {σ : Sto}
theorem WD_le {w p : Nat} (hw : w < 16) (hp : p ≤ n) (h : WD n T w p) : p + (sLen w).toNat ≤ n := by
  have r := (words_all w hw).1
  by_cases z : sLen w = 0
  · rw [z]
    simpa using hp
  · have l := h.1 ((sLen w).toNat - 1) (by omega)
    have c := words_l hw (i := (sLen w).toNat - 1) (by omega)
    have := byI_lt (n := n) (T := T) (i := p + ((sLen w).toNat - 1)) (by rw [l]; omega)
    omega
theorem pl_n {q i : Nat} (hq : q ≤ n) (h3 : n ≤ 300) (hi : i ≤ 10) : w32 ((q : Int) + (i : Int)) = ((q + i : Nat) : Int) := by rw [w32i (by omega) (by omega)]; omega
theorem c_word (h : CT n T σ) {p : Nat} (hp : p ≤ n) (h3 : σ 8 0 3 = (p : Int)) (w : Nat) (hw : w < 16) : ∃ a : Int, (a = 0 ∨ a = 1) ∧ (a = 1 ↔ WD n T w (SK n T p)) ∧ inv N mX4_takeWord [vR 8 0, vR 1000 w] (P σ) = some (some (vI a), P (row σ 8 0 (set (σ 8 0) 3 (if a = 1 then ((SK n T p + (sLen w).toNat : Nat) : Int) else (SK n T p : Int))))) := by
  have sk := SK_le (T := T) hp
  have cs := c_skip (N := N) h hp h3
  have r := (words_all w hw).1
  generalize hq : SK n T p = q at sk cs
  have h2 := CT_row h (f := set (σ 8 0) 3 (q : Int)) (set_ne _ _ (by decide))
  have e3 : row σ 8 0 (set (σ 8 0) 3 (q : Int)) 8 0 3 = (q : Int) := by rw [row_same, set_same]
  have fin : ∀ v : Int, row (row σ 8 0 (set (σ 8 0) 3 (q : Int))) 8 0 (set (row σ 8 0 (set (σ 8 0) 3 (q : Int)) 8 0) 3 v) = row σ 8 0 (set (σ 8 0) 3 v) := fun v => by rw [row_row, row_same, set_set]
  generalize row σ 8 0 (set (σ 8 0) 3 (q : Int)) = ρ at cs h2 e3 fin
  have lp : ∀ (m i : Nat), (i : Int) + (m : Int) = sLen w → (∀ j : Nat, j < i → byI n T (q + j) = sChr w j) → ∃ a : Int, (a = 0 ∨ a = 1) ∧ (a = 1 ↔ WD n T w q) ∧ ev N mX4_takeWord 4 [vR 8 0, vR 1000 w, vI (i : Int)] [] (P ρ) = some (some (vI a), P (row ρ 8 0 (set (ρ 8 0) 3 (if a = 1 then ((q + (sLen w).toNat : Nat) : Int) else (q : Int))))) := by
    intro m
    induction m with
    | zero =>
      intro i hi hj
      have e : w32 ((q : Int) + sLen w) = ((q + (sLen w).toNat : Nat) : Int) := by
        rw [w32i (by have := h.2.1; omega) (by have := h.2.1; omega)]
        omega
      have il : i = (sLen w).toNat := by omega
      rw [eX4_takeWord_4, if_neg (by omega), e3, e, c_byteAt h2, bnd_s, push_s, eX4_takeWord_29, c_letter, bnd_s, push_s, eX4_takeWord_30]
      by_cases q1 : 97 ≤ byI n T (q + (sLen w).toNat) ∧ byI n T (q + (sLen w).toNat) ≤ 122
      · refine ⟨0, Or.inl rfl, ⟨fun z => absurd z (by decide), fun z => absurd q1 z.2⟩, ?_⟩
        rw [if_pos q1, if_neg (by decide), if_neg (by decide), ← e3, set_id, row_id]
      · refine ⟨1, Or.inr rfl, ⟨fun _ => ⟨fun j hj2 => hj j (by omega), q1⟩, fun _ => rfl⟩, ?_⟩
        rw [if_neg q1, if_pos rfl, if_pos rfl, sup_row, e3, e]
    | succ m ih =>
      intro i hi hj
      have hl : (i : Int) < sLen w := by omega
      rw [eX4_takeWord_4, if_pos hl, e3, pl_n sk.2 h.2.1 (by omega), c_byteAt h2, bnd_s, push_s, eX4_takeWord_14, if_neg (by omega), if_pos hl, Int.toNat_natCast]
      by_cases q1 : byI n T (q + i) = sChr w i
      · have e1 : w32 ((i : Int) + 1) = ((i + 1 : Nat) : Int) := by rw [w32i (by omega) (by omega)]; omega
        rw [if_pos q1, e1]
        refine ih (i + 1) (by omega) (fun j hj2 => ?_)
        rcases Nat.lt_succ_iff_lt_or_eq.mp hj2 with z | z
        · exact hj j z
        · rw [z]; exact q1
      · refine ⟨0, Or.inl rfl, ⟨fun z => absurd z (by decide), fun z => absurd (z.1 i hl) q1⟩, ?_⟩
        rw [if_neg q1, if_neg (by decide), ← e3, set_id, row_id]
  obtain ⟨a, a1, a2, a3⟩ := lp (sLen w).toNat 0 (by omega) (fun j hj => absurd hj (Nat.not_lt_zero j))
  refine ⟨a, a1, a2, ?_⟩
  rw [fin] at a3
  rw [iX4_takeWord, eX4_takeWord_0, cs, bnd_s, push_n, eX4_takeWord_2]
  exact a3
theorem m_wl (h : MX n T σ) {q : Nat} (hq : q ≤ n) (h2 : σ 30 0 2 = (q : Int)) : ∃ k : Nat, inv N mX9_wordLength [vR 30 0] (P σ) = some (some (vI (k : Int)), P σ) ∧ (∀ j, j < k → 97 ≤ byI n T (q + j) ∧ byI n T (q + j) ≤ 122) ∧ ¬ (97 ≤ byI n T (q + k) ∧ byI n T (q + k) ≤ 122) ∧ q + k ≤ n := by
  obtain ⟨h1, h300, h3, -⟩ := h
  have lp : ∀ (m i : Nat), q + i + m = n → (∀ j, j < i → 97 ≤ byI n T (q + j) ∧ byI n T (q + j) ≤ 122) → ∃ k : Nat, ev N mX9_wordLength 2 [vR 30 0, vI (i : Int)] [] (P σ) = some (some (vI (k : Int)), P σ) ∧ (∀ j, j < k → 97 ≤ byI n T (q + j) ∧ byI n T (q + j) ≤ 122) ∧ ¬ (97 ≤ byI n T (q + k) ∧ byI n T (q + k) ≤ 122) ∧ q + k ≤ n := by
    intro m
    induction m with
    | zero =>
      intro i hi hj
      have e : w32 ((q : Int) + (i : Int)) = ((q + i : Nat) : Int) := by rw [w32i (by omega) (by omega)]; omega
      refine ⟨i, ?_, hj, ?_, by omega⟩
      · rw [eX9_wordLength_2, h2, h1, e, if_neg (by omega)]
      · unfold byI
        rw [if_neg (by omega)]
        omega
    | succ m ih =>
      intro i hi hj
      have e : w32 ((q : Int) + (i : Int)) = ((q + i : Nat) : Int) := by rw [w32i (by omega) (by omega)]; omega
      have t := h3 (q + i) (by omega)
      have eb : byI n T (q + i) = T (q + i) := by
        unfold byI
        rw [if_pos (by omega)]
      have lt : (97 ≤ σ 31 0 (q + i) ∧ σ 31 0 (q + i) ≤ 122) ↔ (97 ≤ byI n T (q + i) ∧ byI n T (q + i) ≤ 122) := by
        rw [eb, ← t.2]
        have := t.1
        generalize σ 31 0 (q + i) = s at this
        omega
      rw [eX9_wordLength_2, h2, h1, e, if_pos (by omega), if_neg (by omega), if_pos (by omega), Int.toNat_natCast, s9_in, bnd_s, push_s, eX9_wordLength_20]
      by_cases c : 97 ≤ σ 31 0 (q + i) ∧ σ 31 0 (q + i) ≤ 122
      · have e1 : w32 ((i : Int) + 1) = ((i + 1 : Nat) : Int) := by rw [w32i (by omega) (by omega)]; omega
        rw [if_pos c, if_neg (by decide), e1]
        refine ih (i + 1) (by omega) (fun j hj2 => ?_)
        rcases Nat.lt_succ_iff_lt_or_eq.mp hj2 with z | z
        · exact hj j z
        · rw [z]; exact lt.mp c
      · rw [if_neg c, if_pos rfl]
        exact ⟨i, rfl, hj, fun z => c (lt.mpr z), by omega⟩
  obtain ⟨k, k1, k2⟩ := lp (n - q) 0 (by omega) (fun j hj => absurd hj (Nat.not_lt_zero j))
  refine ⟨k, ?_, k2⟩
  rw [iX9_wordLength, eX9_wordLength_0]
  exact k1
theorem m_wordOf (k : Nat) (hk : k < 8) : inv N mX9_wordOf [vI (k : Int)] (P σ) = some (some (vR 1000 (8 + k)), P σ) := by
  rw [iX9_wordOf, eX9_wordOf_0]
  rcases (show k = 0 ∨ k = 1 ∨ k = 2 ∨ k = 3 ∨ k = 4 ∨ k = 5 ∨ k = 6 ∨ k = 7 by omega) with rfl | rfl | rfl | rfl | rfl | rfl | rfl | rfl <;> rfl
theorem m_isWord (h : MX n T σ) {p : Nat} (hp : p ≤ n) (h2 : σ 30 0 2 = (p : Int)) (k : Nat) (hk : k < 8) : ∃ a : Int, (a = 0 ∨ a = 1) ∧ (a = 1 ↔ WD n T (8 + k) (SK n T p)) ∧ inv N mX9_isWord [vR 30 0, vI (k : Int)] (P σ) = some (some (vI a), P (row σ 30 0 (set (σ 30 0) 2 (SK n T p : Int)))) := by
  have sk := SK_le (T := T) hp
  have mn := m_next (N := N) h hp h2
  have h300 := h.2.1
  generalize hq : SK n T p = q at sk mn
  have hx := MX_30 h (f := set (σ 30 0) 2 (q : Int)) (set_ne _ _ (by decide))
  have e2 : row σ 30 0 (set (σ 30 0) 2 (q : Int)) 30 0 2 = (q : Int) := by rw [row_same, set_same]
  generalize row σ 30 0 (set (σ 30 0) 2 (q : Int)) = τ at mn hx e2
  obtain ⟨l, l1, l2, l3, l4⟩ := m_wl (N := N) hx sk.2 e2
  have wo := m_wordOf (N := N) (σ := τ) k hk
  have ww : 8 + k < 16 := by omega
  generalize 8 + k = w at wo ww
  have r := (words_all w ww).1
  rw [iX9_isWord, eX9_isWord_0, mn, bnd_s, push_s, eX9_isWord_2, l1, bnd_s, push_s, eX9_isWord_5, wo, bnd_s, push_s, eX9_isWord_7]
  by_cases c : (l : Int) = sLen w
  · rw [if_pos c]
    have lp : ∀ (m i : Nat), i + m = l → (∀ j : Nat, j < i → byI n T (q + j) = sChr w j) → ∃ a : Int, (a = 0 ∨ a = 1) ∧ (a = 1 ↔ WD n T w q) ∧ ev N mX9_isWord 15 [vR 30 0, vI (k : Int), vI 1, vI (i : Int)] [] (P τ) = some (some (vI a), P τ) := by
      intro m
      induction m with
      | zero =>
        intro i hi hj
        refine ⟨1, Or.inr rfl, ⟨fun _ => ⟨fun j hj2 => hj j (by omega), ?_⟩, fun _ => rfl⟩, ?_⟩
        · rw [show (sLen w).toNat = l by omega]
          exact l3
        · rw [eX9_isWord_15, wo, bnd_s, push_s, eX9_isWord_18, if_neg (by omega), if_neg (by decide), if_pos rfl]
      | succ m ih =>
        intro i hi hj
        have hl : (i : Int) < sLen w := by omega
        have t := hx.2.2.1 (q + i) (by omega)
        have eb : byI n T (q + i) = T (q + i) := by
          unfold byI
          rw [if_pos (by omega)]
        have ch := words_l ww hl
        have lt : τ 31 0 (q + i) = sChr w i ↔ byI n T (q + i) = sChr w i := by
          rw [eb, ← t.2]
          have := t.1
          generalize τ 31 0 (q + i) = s at this
          omega
        rw [eX9_isWord_15, wo, bnd_s, push_s, eX9_isWord_18, if_pos hl, if_neg (by decide), e2, pl_n sk.2 h300 (by omega), if_neg (by omega), if_pos (by omega), Int.toNat_natCast, wo, bnd_s, push_s, eX9_isWord_31, if_neg (by omega), if_pos hl, Int.toNat_natCast]
        have e1 : w32 ((i : Int) + 1) = ((i + 1 : Nat) : Int) := by rw [w32i (by omega) (by omega)]; omega
        rw [e1]
        by_cases c2 : τ 31 0 (q + i) = sChr w i
        · rw [if_pos c2]
          refine ih (i + 1) (by omega) (fun j hj2 => ?_)
          rcases Nat.lt_succ_iff_lt_or_eq.mp hj2 with z | z
          · exact hj j z
          · rw [z]; exact lt.mp c2
        · refine ⟨0, Or.inl rfl, ⟨fun z => absurd z (by decide), fun z => absurd (lt.mpr (z.1 i hl)) c2⟩, ?_⟩
          rw [if_neg c2, eX9_isWord_15, wo, bnd_s, push_s, eX9_isWord_18]
          split
          · rw [if_pos rfl, if_pos rfl]
          · rw [if_pos rfl]
    exact lp l 0 (by omega) (fun j hj => absurd hj (Nat.not_lt_zero j))
  · refine ⟨0, Or.inl rfl, ⟨fun z => absurd z (by decide), fun z => ?_⟩, ?_⟩
    · exfalso
      rcases Int.lt_trichotomy (l : Int) (sLen w) with y | y | y
      · refine l3 ?_
        rw [z.1 l y]
        exact words_l ww y
      · exact c y
      · exact z.2 (l2 (sLen w).toNat (by omega))
    · rw [if_neg c, eX9_isWord_15, wo, bnd_s, push_s, eX9_isWord_18]
      split
      · rw [if_pos rfl, if_pos rfl]
      · rw [if_pos rfl]
theorem m_takes (h : MX n T σ) {p : Nat} (hp : p ≤ n) (h2 : σ 30 0 2 = (p : Int)) (h3 : σ 30 0 3 = -1) (k : Nat) (hk : k < 8) : ∃ a : Int, (a = 0 ∨ a = 1) ∧ (a = 1 ↔ WD n T (8 + k) (SK n T p)) ∧ inv N mX9_takes [vR 30 0, vI (k : Int)] (P σ) = some (some (vI a), P (row σ 30 0 (set (σ 30 0) 2 (if a = 1 then ((SK n T p + (sLen (8 + k)).toNat : Nat) : Int) else (SK n T p : Int))))) := by
  have sk := SK_le (T := T) hp
  have h300 := h.2.1
  obtain ⟨a, a1, a2, a3⟩ := m_isWord (N := N) h hp h2 k hk
  have wo := m_wordOf (N := N) (σ := row σ 30 0 (set (σ 30 0) 2 (SK n T p : Int))) k hk
  have r := (words_all (8 + k) (by omega)).1
  refine ⟨a, a1, a2, ?_⟩
  rw [iX9_takes, eX9_takes_0, m_right, if_pos h3, bnd_s, push_s, eX9_takes_2, if_neg (by decide), a3, bnd_s, push_s, eX9_takes_6]
  rcases a1 with rfl | rfl
  · have e : w32 ((SK n T p : Int) + 0) = (SK n T p : Int) := by rw [w32i (by omega) (by omega)]; omega
    rw [if_pos rfl, if_neg (by decide), sup_row, row_same, row_row, set_same, e, set_set]
  · have e : w32 ((SK n T p : Int) + sLen (8 + k)) = ((SK n T p + (sLen (8 + k)).toNat : Nat) : Int) := by rw [w32i (by omega) (by omega)]; omega
    rw [if_neg (by decide), if_pos rfl, wo, bnd_s, push_s, eX9_takes_18, if_neg (by decide), if_pos rfl, sup_row, row_same, row_row, set_same, e, set_set]
theorem m_takes_bad (h : MX n T σ) {p : Nat} (hp : p ≤ n) (h2 : σ 30 0 2 = (p : Int)) (h3 : ¬ σ 30 0 3 = -1) (k : Int) : inv N mX9_takes [vR 30 0, vI k] (P σ) = some (some (vI 0), P σ) := by
  have h300 := h.2.1
  have e : w32 ((p : Int) + 0) = (p : Int) := by rw [w32i (by omega) (by omega)]; omega
  rw [iX9_takes, eX9_takes_0, m_right, if_neg h3, bnd_s, push_s, eX9_takes_2, if_pos rfl, sup_row, h2, e, ← h2, set_id, row_id]
end TOK
