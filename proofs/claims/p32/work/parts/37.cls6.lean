/-! THE CLASS: the other deeds -/
theorem bit_zero {a : Int} (h0 : 0 ≤ a) (h1 : a < 2147483648) (k : Nat) (hk : k < 31) : bAnd a (shl32 1 (k : Int)) = 0 ↔ a / ((2 ^ k : Nat) : Int) % 2 = 0 := by
  obtain ⟨n, rfl⟩ := Int.eq_ofNat_of_zero_le h0
  have hp0 : 0 < 2 ^ k := Nat.pow_pos (by omega)
  rw [shl1 k hk, bAnd_bit (by omega) hk]
  generalize 2 ^ k = p at hp0
  have e : (n : Int) / (p : Int) % 2 = ((n / p % 2 : Nat) : Int) := by
    rw [Int.natCast_emod, Int.natCast_ediv]
    rfl
  rw [e]
  constructor
  · intro h
    have h2 : n / p % 2 * p = 0 := by omega
    rcases Nat.mul_eq_zero.mp h2 with h3 | h3 <;> omega
  · intro h
    have h2 : n / p % 2 = 0 := by omega
    rw [h2, Nat.zero_mul]
    rfl
theorem bit_01 (a : Int) (k : Nat) : a / ((2 ^ k : Nat) : Int) % 2 = 0 ∨ a / ((2 ^ k : Nat) : Int) % 2 = 1 := by
  generalize a / ((2 ^ k : Nat) : Int) = q
  omega
theorem bOr_lt {a : Int} (h0 : 0 ≤ a) (h1 : a < 64) (k : Nat) (hk : k < 6) : 0 ≤ bOr a (shl32 1 (k : Int)) ∧ bOr a (shl32 1 (k : Int)) < 64 := by
  obtain ⟨n, rfl⟩ := Int.eq_ofNat_of_zero_le h0
  have hp : 2 ^ k < 2 ^ 6 := Nat.pow_lt_pow_right (a := 2) (by omega) hk
  have hn : n < 2 ^ 6 := by omega
  have := Nat.or_lt_two_pow hn hp
  rw [shl1 k (by omega), bOr_nat (by omega) (by omega)]
  omega
def blowVC : Nat → Int → XP → XP
  | 0, _, x => x
  | m + 1, b, x => blowVC m (b + 1) (wrC 76 1 (b + 1) x)
def blowKC1 (rv : Int) (k : Nat) (x : XP) : XP := if rv / ((2 ^ k : Nat) : Int) % 2 = 1 ∧ x.1 77 / ((2 ^ k : Nat) : Int) % 2 = 0 then wrC 77 1 (bOr (x.1 77) (shl32 1 (k : Int))) x else x
def blowKC (rv : Int) : Nat → Nat → XP → XP
  | 0, _, x => x
  | m + 1, k, x => blowKC rv m (k + 1) (blowKC1 rv k x)
theorem blowVC_ok : ∀ (m : Nat) (b : Int) (x : XP), 0 ≤ b → b + m ≤ 31 → OKX x → OKX (blowVC m b x)
  | 0, b, x, _, _, h => h
  | m + 1, b, x, h0, h1, h => blowVC_ok m (b + 1) _ (by omega) (by omega) ⟨wrC_76 h.1 (by omega), wrC_F h.2⟩
theorem blowKC1_ok (rv : Int) (k : Nat) (hk : k < 6) {x : XP} (h : OKX x) : OKX (blowKC1 rv k x) := by
  unfold blowKC1
  split
  · exact ⟨wrC_77 h.1 (bOr_lt h.1.2.2.2.1.1 h.1.2.2.2.1.2 k hk), wrC_F h.2⟩
  · exact h
theorem blowKC_ok (rv : Int) : ∀ (m k : Nat) (x : XP), m + k ≤ 6 → OKX x → OKX (blowKC rv m k x)
  | 0, k, x, _, h => h
  | m + 1, k, x, hk, h => blowKC_ok rv m (k + 1) _ (by omega) (blowKC1_ok rv k (by omega) h)
theorem blowVC_at : ∀ (m : Nat) (b : Int) (x : XP) {j : Nat}, j ≠ 76 → (blowVC m b x).1 j = x.1 j
  | 0, b, x, j, _ => rfl
  | m + 1, b, x, j, h => (blowVC_at m (b + 1) _ h).trans (wrC_at _ _ _ _ (by omega))
theorem blowKC1_at (rv : Int) (k : Nat) (x : XP) {j : Nat} (h : j ≠ 77) : (blowKC1 rv k x).1 j = x.1 j := by
  unfold blowKC1
  split
  · exact wrC_at _ _ _ _ (by omega)
  · rfl
theorem blowKC_at (rv : Int) : ∀ (m k : Nat) (x : XP) {j : Nat}, j ≠ 77 → (blowKC rv m k x).1 j = x.1 j
  | 0, k, x, j, _ => rfl
  | m + 1, k, x, j, h => (blowKC_at rv m (k + 1) _ h).trans (blowKC1_at rv k x h)
section CLS
variable {N i j : Nat} {σ : Sto} {x : XP}
theorem s2_blowV_loop (v due : Int) (hd : due ≤ 31) : ∀ (m : Nat) (b : Int) (x : XP), 0 ≤ b → m = (due - b).toNat → ev N mX2_blowVersionFuses 8 [vR 6 i, vI v, vI due, vI b] [] (P (putC σ i x)) = some (none, P (putC σ i (blowVC m b x))) := by
  intro m
  induction m with
  | zero =>
    intro b x h0 hm
    rw [eX2_blowVersionFuses_8, if_neg (by omega)]
    rfl
  | succ m ih =>
    intro b x h0 hm
    rw [eX2_blowVersionFuses_8, if_pos (by omega), w32i (by omega) (by omega), show (76 : Int) = ((76 : Nat) : Int) from rfl, s2_write1 76 (by omega), bnd_s, push_n, eX2_blowVersionFuses_18, w32i (by omega) (by omega)]
    exact ih (b + 1) _ (by omega) (by omega)
theorem p2_blowV (v : Int) (h0 : 0 ≤ x.1 76) : inv N mX2_blowVersionFuses [vR 6 i, vI v] (P (putC σ i x)) = some (none, P (putC σ i (blowVC (min v 31 - x.1 76).toNat (x.1 76) x))) := by
  rw [iX2_blowVersionFuses, eX2_blowVersionFuses_0, p2_cell _ (by omega) (by omega), bnd_s, push_s, eX2_blowVersionFuses_7]
  exact s2_blowV_loop v (min v 31) (by omega) _ _ _ h0 rfl
theorem s2_blowK_loop (rv : Int) (r0 : 0 ≤ rv) (r1 : rv < 2147483648) : ∀ (m k : Nat) (x : XP) (x3 x4 : MV), m + k = 6 → OKX x → ev N mX2_blowKeyFuses 2 [vR 6 i, vI rv, vI (k : Int), x3, x4] [] (P (putC σ i x)) = some (none, P (putC σ i (blowKC rv m k x))) := by
  intro m
  induction m with
  | zero =>
    intro k x x3 x4 hk hx
    rw [eX2_blowKeyFuses_2, if_neg (by omega)]
    rfl
  | succ m ih =>
    intro k x x3 x4 hk hx
    have hx1 := blowKC1_ok rv k (by omega) hx
    have c77 := hx.1.2.2.2.1
    have z1 := bit_zero r0 r1 k (by omega)
    have z2 := bit_zero c77.1 (by omega) k (by omega)
    have o1 := bit_01 rv k
    have o2 := bit_01 (x.1 77) k
    have e : w32 ((k : Int) + 1) = ((k + 1 : Nat) : Int) := by rw [w32i (by omega) (by omega)]; omega
    have ih1 := fun x3 x4 => ih (k + 1) (blowKC1 rv k x) x3 x4 (by omega) hx1
    rw [eX2_blowKeyFuses_2, if_pos (by omega), p2_cell _ (by omega) (by omega), bnd_s, push_s, eX2_blowKeyFuses_12, show (77 : Int).toNat = 77 from rfl]
    show _ = some (none, P (putC σ i (blowKC rv m (k + 1) (blowKC1 rv k x))))
    unfold blowKC1 at ih1 ⊢
    rcases o1 with o1 | o1
    · rw [if_neg (show ¬ (rv / ((2 ^ k : Nat) : Int) % 2 = 1 ∧ x.1 77 / ((2 ^ k : Nat) : Int) % 2 = 0) from fun z => by omega)] at ih1 ⊢
      rw [if_pos (z1.mpr o1), eX2_blowKeyFuses_28, e]
      exact ih1 _ _
    · rw [if_neg (fun z => by have := z1.mp z; omega)]
      rcases o2 with o2 | o2
      · rw [if_pos (show rv / ((2 ^ k : Nat) : Int) % 2 = 1 ∧ x.1 77 / ((2 ^ k : Nat) : Int) % 2 = 0 from ⟨o1, o2⟩)] at ih1 ⊢
        rw [if_pos (z2.mpr o2), show (77 : Int) = ((77 : Nat) : Int) from rfl, s2_write1 77 (by omega), bnd_s, push_n, eX2_blowKeyFuses_28, e]
        exact ih1 _ _
      · rw [if_neg (show ¬ (rv / ((2 ^ k : Nat) : Int) % 2 = 1 ∧ x.1 77 / ((2 ^ k : Nat) : Int) % 2 = 0) from fun z => by omega)] at ih1 ⊢
        rw [if_neg (fun z => by have := z2.mp z; omega), eX2_blowKeyFuses_28, e]
        exact ih1 _ _
theorem p2_blowK (rv : Int) (r0 : 0 ≤ rv) (r1 : rv < 2147483648) (hx : OKX x) : inv N mX2_blowKeyFuses [vR 6 i, vI rv] (P (putC σ i x)) = some (none, P (putC σ i (blowKC rv 6 0 x))) := by
  rw [iX2_blowKeyFuses, eX2_blowKeyFuses_0]
  exact s2_blowK_loop rv r0 r1 6 0 x _ _ rfl hx
/-- the flags that HEALTH writes -/
def healthFlC (tr : Int) (x : XP) : XP := (x.1, if x.1 78 = 0 ∨ x.1 78 = 1 then set (set x.2 4 0) (2 + (x.1 78).toNat) (x.2 (2 + (x.1 78).toNat) - x.2 (2 + (x.1 78).toNat) % 16 + 2 * tr + 1) else set x.2 4 0)
def healthFuC (r : Int) (y : XP) : XP := if r = 0 ∨ r = 1 then blowKC (y.1 (14 * r.toNat + 2)) 6 0 (blowVC (min (y.1 (14 * r.toNat) - 1) 31 - y.1 76).toNat (y.1 76) y) else y
def toldC (y : XP) : XP := if y.2 9 = 0 then (set y.1 80 1, y.2) else y
def healthC (tr : Int) (x : XP) : XP := toldC (healthFuC (x.1 78) (writeFlagsC (healthFlC tr x)))
theorem healthFlC_ok {tr : Int} (h1 : 1 ≤ tr) (h7 : tr ≤ 7) (hx : OKX x) : OKX (healthFlC tr x) := by
  have hf := hx.2
  obtain ⟨f2, f3, f4, f5, f6⟩ := hf
  unfold healthFlC
  refine ⟨hx.1, ?_⟩
  split
  · rename_i h
    rcases h with h | h <;> rw [h]
    · exact okf_set (okf_set hx.2 (fun _ => by omega) (by omega)) (fun _ => by
        show 0 ≤ x.2 2 - x.2 2 % 16 + 2 * tr + 1 ∧ x.2 2 - x.2 2 % 16 + 2 * tr + 1 < 256
        omega) (by decide)
    · exact okf_set (okf_set hx.2 (fun _ => by omega) (by omega)) (fun _ => by
        show 0 ≤ x.2 3 - x.2 3 % 16 + 2 * tr + 1 ∧ x.2 3 - x.2 3 % 16 + 2 * tr + 1 < 256
        omega) (by decide)
  · exact okf_set hx.2 (fun _ => by omega) (by omega)
theorem healthFuC_ok {r : Int} (hx : OKX x) : OKX (healthFuC r x) := by
  unfold healthFuC
  split
  · rename_i h
    have w := hx.1.1 (14 * r.toNat) (by omega)
    have c := hx.1.2.2.1
    exact blowKC_ok _ 6 0 _ (by omega) (blowVC_ok _ _ _ c.1 (by omega) hx)
  · exact hx
theorem healthFuC_at {r : Int} {k : Nat} (h6 : k ≠ 76) (h7 : k ≠ 77) : (healthFuC r x).1 k = x.1 k := by
  unfold healthFuC
  split
  · rw [blowKC_at _ _ _ _ h7, blowVC_at _ _ _ h6]
  · rfl
theorem toldC_ok (hx : OKX x) : OKX (toldC x) := by
  unfold toldC
  split
  · exact ⟨okc_hi hx.1 (by omega), hx.2⟩
  · exact hx
theorem toldC_at {k : Nat} (h : k ≠ 80) : (toldC x).1 k = x.1 k := by
  unfold toldC
  split
  · exact set_ne _ _ h
  · rfl
theorem healthC_ok {tr : Int} (h1 : 1 ≤ tr) (h7 : tr ≤ 7) (hx : OKX x) : OKX (healthC tr x) ∧ (healthC tr x).1 82 = x.1 82 := by
  refine ⟨toldC_ok (healthFuC_ok (writeFlagsC_ok (healthFlC_ok h1 h7 hx))), ?_⟩
  unfold healthC
  rw [toldC_at (by omega), healthFuC_at (by omega) (by omega), writeFlagsC_at _ (by omega)]
  rfl
theorem p2_told (x1 : Int) (hx : OKX x) : ev N mX2_tellHealth 45 [vR 6 i, vI x1] [] (P (putC σ i x)) = some (some (vI ((toldC x).1 76)), P (putC σ i (toldC x))) := by
  rw [eX2_tellHealth_45, putC_6]
  unfold toldC
  by_cases h : x.2 9 = 0
  · rw [if_pos h, if_pos h, p2_setCell _ _ (by omega) (by omega), bnd_s, push_n, eX2_tellHealth_52, p2_cell _ (by omega) (by omega), bnd_s, push_s, eX2_tellHealth_55]
    rfl
  · rw [if_neg h, if_neg h, eX2_tellHealth_52, p2_cell _ (by omega) (by omega), bnd_s, push_s, eX2_tellHealth_55]
    rfl
theorem p2_tellHealth (hg : OKG σ 1) (hx : OKX x) : inv N mX2_tellHealth [vR 6 i] (P (putC σ i x)) = some (some (vI ((healthC (σ 2 1 3) x).1 76)), P (putC σ i (healthC (σ 2 1 3) x))) := by
  have g7 := hg.2.2.2.2.2.2.1
  have g8 := hg.2.2.2.2.2.2.2.1
  have hy := healthFlC_ok g7 g8 hx
  have hy2 := writeFlagsC_ok hy
  have hf := hx.2
  obtain ⟨f2, f3, f4, f5, f6⟩ := hf
  rw [iX2_tellHealth, eX2_tellHealth_0, p2_cell _ (by omega) (by omega), bnd_s, push_s, eX2_tellHealth_3, show (78 : Int).toNat = 78 from rfl, sup_row, row_putC6, putC_6, s8_isSlot, bnd_s, push_s, eX2_tellHealth_9]
  have tail : ∀ (z : XP), OKX z → z.1 = x.1 → ev N mX2_tellHealth 26 [vR 6 i, vI (x.1 78)] [] (P (putC σ i z)) = some (some (vI ((toldC (healthFuC (x.1 78) (writeFlagsC z))).1 76)), P (putC σ i (toldC (healthFuC (x.1 78) (writeFlagsC z))))) := by
    intro z hz ez
    have hz2 := writeFlagsC_ok hz
    rw [eX2_tellHealth_26, p2_writeFlags hz, bnd_s, push_n, eX2_tellHealth_28, s8_isSlot, bnd_s, push_s, eX2_tellHealth_30]
    have hfu := healthFuC_ok (r := x.1 78) hz2
    unfold healthFuC at hfu ⊢
    by_cases h : x.1 78 = 0 ∨ x.1 78 = 1
    · rw [if_pos h] at hfu
      rw [if_pos h, if_neg (show ¬ (1 : Int) = 0 by omega), if_pos h]
      obtain ⟨s, hs, es⟩ : ∃ s : Nat, s < 2 ∧ x.1 78 = (s : Int) := by
        rcases h with h | h
        · exact ⟨0, by omega, h⟩
        · exact ⟨1, by omega, h⟩
      rw [es, Int.toNat_natCast] at hfu ⊢
      have w0 := hz2.1.1 (14 * s) (by omega)
      have w2 := hz2.1.1 (14 * s + 2) (by omega)
      have c76 := hz2.1.2.2.1
      have hb := blowVC_ok (min ((writeFlagsC z).1 (14 * s) - 1) 31 - (writeFlagsC z).1 76).toNat ((writeFlagsC z).1 76) (writeFlagsC z) c76.1 (by omega) hz2
      have e2 : ((s : Int) * 14 + 2).toNat = 14 * s + 2 := by omega
      rw [p2_version s (by omega) hz2.1, bnd_s, push_s, eX2_tellHealth_35, p2_blowV _ c76.1, bnd_s, push_n, eX2_tellHealth_36, w32i (x := (s : Int) * 14) (by omega) (by omega), w32i (by omega) (by omega), p2_cell _ (by omega) (by omega), bnd_s, push_s, e2, eX2_tellHealth_44,
        blowVC_at _ _ _ (by omega), p2_blowK _ w2.1 w2.2 hb, bnd_s, push_n]
      exact p2_told _ hfu
    · rw [if_neg h] at hfu
      rw [if_neg h, if_pos rfl, if_neg h]
      exact p2_told _ hfu
  by_cases h : x.1 78 = 0 ∨ x.1 78 = 1
  · rw [if_pos h, if_neg (show ¬ (1 : Int) = 0 by omega), p2_slotFlags, bnd_s, push_s, eX2_tellHealth_15, put2, p2_setSlotFlags, bnd_s, push_n]
    have ez : (x.1, set (set x.2 4 0) (if x.1 78 = 0 then 2 else 3) (w32 (w32 (bAnd (if x.1 78 = 0 then (set x.2 4 0) 2 else (set x.2 4 0) 3) 240 + w32 (2 * σ 2 1 3)) + 1))) = healthFlC (σ 2 1 3) x := by
      unfold healthFlC
      rw [if_pos h]
      have e2 : (set x.2 4 0) 2 = x.2 2 := set_ne _ _ (by omega)
      have e3 : (set x.2 4 0) 3 = x.2 3 := set_ne _ _ (by omega)
      rw [e2, e3, w32i (x := 2 * σ 2 1 3) (by omega) (by omega)]
      rcases h with h | h
      · simp only [h, ↓reduceIte, Int.reduceToNat, Nat.add_zero]
        rw [bAnd_240 f2.1 f2.2, w32i (x := x.2 2 - x.2 2 % 16 + 2 * σ 2 1 3) (by omega) (by omega), w32i (by omega) (by omega)]
      · simp only [h, ↓reduceIte, Int.reduceToNat, Int.reduceEq, Nat.reduceAdd]
        rw [bAnd_240 f3.1 f3.2, w32i (x := x.2 3 - x.2 3 % 16 + 2 * σ 2 1 3) (by omega) (by omega), w32i (by omega) (by omega)]
    rw [ez]
    exact tail _ hy rfl
  · rw [if_neg h, if_pos rfl]
    have ez : (x.1, set x.2 4 0) = healthFlC (σ 2 1 3) x := by
      unfold healthFlC
      rw [if_neg h]
    rw [ez]
    exact tail _ hy rfl
def perfHealthC (σ : Sto) (cut : Int) (x : XP) : Int × XP := endC ((healthC (σ 2 1 3) (beginC cut x)).1 76) (healthC (σ 2 1 3) (beginC cut x))
theorem p2_health (hg : OKG σ 1) (hc : OKC x.1) (a b cut : Int) : inv N mX2_perform [vR 6 i, vI 1, vI a, vI b, vI cut] (P (putC σ i x)) = some (some (vI (perfHealthC σ cut x).1), P (putC σ i (perfHealthC σ cut x).2)) := by
  have hx := beginC_ok cut hc
  rw [p2_begin _ _ _ _ hc, eX2_perform_11, if_neg (by omega), if_pos rfl, p2_tellHealth hg hx, bnd_s, push_s, eX2_perform_35, putC_6, p2_setCell _ _ (by omega) (by omega), bnd_s, push_n]
  exact s2_end _ _ _ _ _
end CLS
