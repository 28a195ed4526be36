/-! ROUTE on the object as it was made: the class (p1 alone) -/
theorem cpyV_self (f : Vec) (n : Nat) : cpyV f f 0 0 n = f := by
  funext j
  by_cases h : j < n
  · have t := cpyV_in f f 0 0 n j h
    rw [Nat.zero_add] at t
    exact t
  · exact cpyV_out f f 0 0 n j (Or.inr (by omega))
/-- flags as none stand, and off -/
def FL0 (c : Vec) : Prop := flagF c 0 = 0 ∧ flagF c 1 = 0 ∧ flagF c 2 = 0 ∧ flagF c 3 = 3 ∧ c 76 = 0 ∧ c 77 = 0 ∧ c 78 = -1
theorem FL0_C0 : FL0 C0 := ⟨by decide +kernel, by decide +kernel, by decide +kernel, by decide +kernel, by decide +kernel, by decide +kernel, by decide +kernel⟩
def HH : Int := w32 (ushr64 (w64 (3221225472 * (-7046029254386353131))) 54)
theorem HH_r : 0 ≤ HH ∧ HH < 1024 := ⟨by decide +kernel, by decide +kernel⟩
theorem K49 : bAnd (w32 (shr64 3221225472 49)) 3 = 0 := by decide +kernel
theorem rd4 (g : Vec) (n a b c d : Int) : set (set (set (set (set g 6 n) 2 a) 3 b) 4 c) 5 d 2 = a ∧ set (set (set (set (set g 6 n) 2 a) 3 b) 4 c) 5 d 3 = b ∧ set (set (set (set (set g 6 n) 2 a) 3 b) 4 c) 5 d 4 = c ∧ set (set (set (set (set g 6 n) 2 a) 3 b) 4 c) 5 d 5 = d := by
  refine ⟨?_, ?_, ?_, ?_⟩
  · rw [set_ne _ _ (by decide), set_ne _ _ (by decide), set_ne _ _ (by decide), set_same]
  · rw [set_ne _ _ (by decide), set_ne _ _ (by decide), set_same]
  · rw [set_ne _ _ (by decide), set_same]
  · rw [set_same]
theorem rd_fl (c g : Vec) : (readFlC (c, g)).2 2 = flagF c 0 ∧ (readFlC (c, g)).2 3 = flagF c 1 ∧ (readFlC (c, g)).2 4 = flagF c 2 ∧ (readFlC (c, g)).2 5 = flagF c 3 := rd4 g (newestF c) (flagF c 0) (flagF c 1) (flagF c 2) (flagF c 3)
theorem whyF_0 (sec und c : Vec) (s : Nat) : whyF 0 sec und c s = 1 := by
  unfold whyF
  rw [if_pos (Or.inr (Or.inr (Or.inl (by omega))))]
theorem copyF_0 (sec und c : Vec) : copyF 0 sec und c = -1 := by
  unfold copyF
  rw [whyF_0, whyF_0, if_neg (by decide), if_neg (by decide)]
theorem boot_none {σ : Sto} {x : XP} (hk : σ 2 1 0 = 0) (f0 : flagF x.1 0 = 0) (f1 : flagF x.1 1 = 0) : bootC σ 0 (-1) x = (3, (set x.1 81 0, (beginC (-1) x).2)) := by
  have b2 : (beginC (-1) x).2 2 = 0 := (rd_fl x.1 _).1.trans f0
  have b3 : (beginC (-1) x).2 3 = 0 := (rd_fl x.1 _).2.1.trans f1
  have b8 : (beginC (-1) x).2 8 = 0 := rfl
  have b9 : (beginC (-1) x).2 9 = 0 := rfl
  have b1 : (beginC (-1) x).1 = x.1 := rfl
  have st : ∀ lim, startSlotC (whyS σ) lim (if (0 : Int) = 1 then 1 else 0) (beginC (-1) x) = (-1, beginC (-1) x) := by
    intro lim
    have ch : chosenC (beginC (-1) x).2 = -1 := by
      unfold chosenC
      rw [b2, b3]
      rfl
    unfold startSlotC
    by_cases q : (if (0 : Int) = 1 then (1 : Int) else 0) = 0 ∧ (beginC (-1) x).2 4 < lim
    · rw [if_pos q]
      unfold startL
      rw [if_pos ch]
    · rw [if_neg q]
  unfold bootC
  rw [st, if_pos rfl, hk, copyF_0]
  show endC (startRecoveryC (-1) (beginC (-1) x)).1 (startRecoveryC (-1) (beginC (-1) x)).2 = _
  have sr : startRecoveryC (-1) (beginC (-1) x) = (3, beginC (-1) x) := if_pos rfl
  rw [sr]
  show endC 3 (beginC (-1) x) = _
  unfold endC
  rw [if_pos b9, b8, b1]
def PA : XP := readFlC (C0, Z)
def PB : XP := (fill C0 56 16 255, set (set (set (set (set (set PA.2 2 0) 3 0) 4 0) 5 3) 6 (-1)) 7 (-1))
def PC0 : XP := (set (set (set (set (writeFlagsC PB).1 76 0) 77 0) 78 (-1)) 80 0, (writeFlagsC PB).2)
theorem FL0_PC : FL0 PC0.1 := ⟨by decide +kernel, by decide +kernel, by decide +kernel, by decide +kernel, by decide +kernel, by decide +kernel, by decide +kernel⟩
theorem FL0_PD : FL0 (set PC0.1 81 0) := ⟨by decide +kernel, by decide +kernel, by decide +kernel, by decide +kernel, by decide +kernel, by decide +kernel, by decide +kernel⟩
theorem PB_ok : OKX PB := by
  have h1 : OKC (fill C0 56 16 255) := okc_page C0_ok (by decide) (by decide) (by decide)
  refine ⟨h1, ⟨by decide +kernel, by decide +kernel⟩, ⟨by decide +kernel, by decide +kernel⟩, ⟨by decide +kernel, by decide +kernel⟩, ⟨by decide +kernel, by decide +kernel⟩, Or.inl (by decide +kernel)⟩
theorem PC_ok : OKC PC0.1 := okc_set (okc_set (okc_set (okc_set (writeFlagsC_ok PB_ok).1 (by decide) (fun _ => by decide) (fun z => absurd z (by decide)) (fun z => absurd z (by decide))) (by decide) (fun z => absurd z (by decide)) (fun _ => by decide) (fun z => absurd z (by decide))) (by decide) (fun z => absurd z (by decide)) (fun z => absurd z (by decide)) (fun _ => by decide)) (by decide) (fun z => absurd z (by decide)) (fun z => absurd z (by decide)) (fun z => absurd z (by decide))
theorem PC_82 : PC0.1 82 = 0 := by decide +kernel
section FRESH
variable {N : Nat} {σ τ : Sto}
theorem f_pack (hc : OKC (τ 7 4)) (h : FL0 (τ 7 4)) : inv N mX5_pack [vR 14 0, vI 0, vI 0] (P τ) = some (some (vJ 3221225472), P (putC τ 4 (readFlC (τ 7 4, τ 6 4)))) := by
  have rf := p2_readFlags (N := N) (i := 4) (σ := τ) (x := (τ 7 4, τ 6 4)) hc
  rw [putC_id] at rf
  have c7 : putC τ 4 (readFlC (τ 7 4, τ 6 4)) 7 4 = τ 7 4 := by rw [putC_7]; rfl
  have g6 : putC τ 4 (readFlC (τ 7 4, τ 6 4)) 6 4 = (readFlC (τ 7 4, τ 6 4)).2 := by rw [putC_6]
  generalize putC τ 4 (readFlC (τ 7 4, τ 6 4)) = υ at rf c7 g6 ⊢
  obtain ⟨d2, d3, d4, d5⟩ := rd_fl (τ 7 4) (τ 6 4)
  obtain ⟨h0, h1, h2, h3, h76, h77, h78⟩ := h
  rw [← g6] at d2 d3 d4 d5
  have e78 := s2_cell (N := N) (i := 4) (σ := υ) 78 (by decide) (by decide)
  have e76 := s2_cell (N := N) (i := 4) (σ := υ) 76 (by decide) (by decide)
  have e77 := s2_cell (N := N) (i := 4) (σ := υ) 77 (by decide) (by decide)
  rw [show (78 : Int).toNat = 78 from rfl, c7, h78] at e78
  rw [show (76 : Int).toNat = 76 from rfl, c7, h76] at e76
  rw [show (77 : Int).toNat = 77 from rfl, c7, h77] at e77
  have s0 := s2_slotFlags (N := N) (i := 4) (σ := υ) 0
  have s1 := s2_slotFlags (N := N) (i := 4) (σ := υ) 1
  rw [if_pos rfl, d2, h0] at s0
  rw [if_neg (by decide), d3, h1] at s1
  rw [iX5_pack, eX5_pack_0, rf, bnd_s, push_n, eX5_pack_3, e78, bnd_s, push_s, eX5_pack_7, if_pos rfl, s0, bnd_s, push_s, eX5_pack_28, s1, bnd_s, push_s, eX5_pack_35, d4, d5, h2, h3, e76, bnd_s, push_s, eX5_pack_57, e77, bnd_s, push_s, eX5_pack_65]
  exact congrArg (fun z => some (some (vJ z), P υ)) (show jOr (jOr (jOr (jOr (jOr (jOr (jOr (bOr (bOr (bOr 0 (shl32 0 3)) (shl32 0 6)) (shl32 0 14)) (shl64 0 22)) (shl64 3 30)) (shl64 0 38)) (shl64 0 43)) (shl64 (w64 (-1 + 1)) 49)) (shl64 0 51)) 0 = 3221225472 from by decide +kernel)
theorem f_add1 (h15 : τ 15 0 0 = 3221225472) (h19 : τ 19 0 HH.toNat = 1) (p m : Int) : inv N mX5_add [vR 14 0, vJ 3221225472, vI p, vI m] (P τ) = some (some (vI 0), P τ) := by
  have a := s6_at19 (N := N) (σ := τ) HH HH_r.1 HH_r.2
  rw [h19] at a
  rw [iX5_add, eX5_add_0]
  show ev N mX5_add 9 [vR 14 0, vJ 3221225472, vX, vI p, vI m, vI HH, vI 0, vX] [] (P τ) = _
  rw [eX5_add_9, if_pos (by decide), a, bnd_s, push_s, eX5_add_16, show w32 (1 - 1) = 0 from rfl, if_neg (by decide), if_pos (by decide), if_neg (by decide), if_pos (by decide), show (0 : Int).toNat = 0 from rfl, h15, if_neg (by decide), if_pos rfl]
theorem f_add0 (h9 : τ 14 0 9 = 0) (h19 : ∀ j, j < 1024 → τ 19 0 j = 0) : ∃ τ', inv N mX5_add [vR 14 0, vJ 3221225472, vI 0, vI 0] (P τ) = some (some (vI 0), P τ') ∧ (∀ k k', ¬ (k' = 0 ∧ 14 ≤ k ∧ k ≤ 20) → τ' k k' = τ k k') ∧ τ' 14 0 9 = 1 ∧ τ' 15 0 0 = 3221225472 ∧ τ' 19 0 HH.toNat = 1 := by
  have hr := HH_r
  have a := s6_at19 (N := N) (σ := τ) HH hr.1 hr.2
  rw [h19 HH.toNat (by omega)] at a
  rw [iX5_add, eX5_add_0]
  show ∃ τ', ev N mX5_add 9 [vR 14 0, vJ 3221225472, vX, vI 0, vI 0, vI HH, vI 0, vX] [] (P τ) = some (some (vI 0), P τ') ∧ _
  have z0 : (0 : Int).toNat = 0 := rfl
  rw [eX5_add_9, if_pos (by decide), a, bnd_s, push_s, eX5_add_16, show w32 (0 - 1) = -1 from rfl, if_pos (by decide), h9, if_neg (by decide), if_pos (by decide), if_neg (by decide), if_pos (by decide), z0, sup_row]
  have f1 : ∀ k k', ¬ (k' = 0 ∧ 14 ≤ k ∧ k ≤ 20) → row τ 15 0 (set (τ 15 0) 0 3221225472) k k' = τ k k' := fun k k' q => by rw [row_at, if_neg (fun z => q ⟨z.2, by omega⟩)]
  have n1 : row τ 15 0 (set (τ 15 0) 0 3221225472) 14 0 = τ 14 0 := by rw [row_at, if_neg (by decide)]
  have s1 : row τ 15 0 (set (τ 15 0) 0 3221225472) 15 0 0 = 3221225472 := by rw [row_same, set_same]
  generalize row τ 15 0 (set (τ 15 0) 0 3221225472) = υ at f1 n1 s1
  have p16 := s6_put16 (N := N) (σ := υ) 0 0 (by decide) (by decide)
  rw [n1, h9, p16, bnd_s, push_n, eX5_add_67]
  have f2 : ∀ k k', ¬ (k' = 0 ∧ 14 ≤ k ∧ k ≤ 20) → row υ 16 0 (set (υ 16 0) (0 : Int).toNat 0) k k' = τ k k' := fun k k' q => by rw [row_at, if_neg (fun z => q ⟨z.2, by omega⟩)]; exact f1 k k' q
  have n2 : row υ 16 0 (set (υ 16 0) (0 : Int).toNat 0) 14 0 = τ 14 0 := by rw [row_at, if_neg (by decide)]; exact n1
  have s2 : row υ 16 0 (set (υ 16 0) (0 : Int).toNat 0) 15 0 0 = 3221225472 := by rw [row_at, if_neg (by decide)]; exact s1
  generalize row υ 16 0 (set (υ 16 0) (0 : Int).toNat 0) = υ2 at f2 n2 s2
  have p17 := s6_put17 (N := N) (σ := υ2) 0 0 (by decide) (by decide)
  rw [n2, h9, p17, bnd_s, push_n, eX5_add_73]
  have f3 : ∀ k k', ¬ (k' = 0 ∧ 14 ≤ k ∧ k ≤ 20) → row υ2 17 0 (set (υ2 17 0) (0 : Int).toNat 0) k k' = τ k k' := fun k k' q => by rw [row_at, if_neg (fun z => q ⟨z.2, by omega⟩)]; exact f2 k k' q
  have n3 : row υ2 17 0 (set (υ2 17 0) (0 : Int).toNat 0) 14 0 = τ 14 0 := by rw [row_at, if_neg (by decide)]; exact n2
  have s3 : row υ2 17 0 (set (υ2 17 0) (0 : Int).toNat 0) 15 0 0 = 3221225472 := by rw [row_at, if_neg (by decide)]; exact s2
  generalize row υ2 17 0 (set (υ2 17 0) (0 : Int).toNat 0) = υ3 at f3 n3 s3
  have p18 := s6_put18 (N := N) (σ := υ3) 0 0 (by decide) (by decide)
  rw [n3, h9, if_pos rfl, p18, bnd_s, push_n, eX5_add_89, sup_row]
  have f4 : ∀ k k', ¬ (k' = 0 ∧ 14 ≤ k ∧ k ≤ 20) → row υ3 18 0 (set (υ3 18 0) (0 : Int).toNat 0) k k' = τ k k' := fun k k' q => by rw [row_at, if_neg (fun z => q ⟨z.2, by omega⟩)]; exact f3 k k' q
  have n4 : row υ3 18 0 (set (υ3 18 0) (0 : Int).toNat 0) 14 0 = τ 14 0 := by rw [row_at, if_neg (by decide)]; exact n3
  have s4 : row υ3 18 0 (set (υ3 18 0) (0 : Int).toNat 0) 15 0 0 = 3221225472 := by rw [row_at, if_neg (by decide)]; exact s3
  generalize row υ3 18 0 (set (υ3 18 0) (0 : Int).toNat 0) = υ4 at f4 n4 s4
  rw [n4, h9, show w32 (0 + 1) = 1 from rfl, row_same, set_same]
  have f5 : ∀ k k', ¬ (k' = 0 ∧ 14 ≤ k ∧ k ≤ 20) → row υ4 14 0 (set (τ 14 0) 9 1) k k' = τ k k' := fun k k' q => by rw [row_at, if_neg (fun z => q ⟨z.2, by omega⟩)]; exact f4 k k' q
  have n5 : row υ4 14 0 (set (τ 14 0) 9 1) 14 0 9 = 1 := by rw [row_same, set_same]
  have s5 : row υ4 14 0 (set (τ 14 0) 9 1) 15 0 0 = 3221225472 := by rw [row_at, if_neg (by decide)]; exact s4
  generalize row υ4 14 0 (set (τ 14 0) 9 1) = υ5 at f5 n5 s5
  have p19 := s6_put19 (N := N) (σ := υ5) HH 1 hr.1 hr.2
  rw [p19, bnd_s, push_n, eX5_add_101]
  refine ⟨_, rfl, fun k k' q => ?_, ?_, ?_, ?_⟩
  · rw [row_at, if_neg (fun z => q ⟨z.2, by omega⟩)]; exact f5 k k' q
  · rw [row_at, if_neg (by decide)]; exact n5
  · rw [row_at, if_neg (by decide)]; exact s5
  · rw [row_same, set_same]
theorem f_clear (a b c d : Int) : ∀ (m k : Nat) (x : XP), k + m = 72 → ev N mX2_putFlags 8 [vR 6 4, vI a, vI b, vI c, vI d, vI (k : Int)] [] (P (putC τ 4 x)) = ev N mX2_putFlags 8 [vR 6 4, vI a, vI b, vI c, vI d, vI 72] [] (P (putC τ 4 (fill x.1 k m 255, x.2))) := by
  intro m
  induction m with
  | zero =>
    intro k x hk
    have e : k = 72 := by omega
    subst e
    rw [fill_0]
    rfl
  | succ m ih =>
    intro k x hk
    have e1 : w32 ((k : Int) + 1) = ((k + 1 : Nat) : Int) := by rw [w32i (by omega) (by omega)]; omega
    have sc := p2_setCell (N := N) (i := 4) (σ := τ) (x := x) (k : Int) 255 (by omega) (by omega)
    rw [Int.toNat_natCast] at sc
    have t := ih (k + 1) (set x.1 k 255, x.2) (by omega)
    rw [eX2_putFlags_8, if_pos (show (k : Int) < 72 by omega), sc, bnd_s, push_n, eX2_putFlags_15, e1, t, fill_s]
theorem f_putFlags : inv N mX2_putFlags [vR 6 4, vI 0, vI 0, vI 0, vI 3] (P (putC τ 4 (C0, PA.2))) = some (none, P (putC τ 4 (writeFlagsC PB))) := by
  have tf : inv N mX2_takeFlags [vR 6 4, vI 0, vI 0, vI 0, vI 3] (P (putC τ 4 (C0, PA.2))) = some (none, P (putC τ 4 (C0, set (set (set (set PA.2 2 0) 3 0) 4 0) 5 3))) := by
    rw [iX2_takeFlags, eX2_takeFlags_0]
    simp only [sup_row, putC_6, row_putC6]
  have cl := f_clear (N := N) (τ := τ) 0 0 0 3 16 56 (C0, set (set (set (set PA.2 2 0) 3 0) 4 0) 5 3) rfl
  have s1 : sup (sup (putC τ 4 (fill C0 56 16 255, set (set (set (set PA.2 2 0) 3 0) 4 0) 5 3)) 6 4 6 (-1)) 6 4 7 (-1) = putC τ 4 PB := by
    simp only [sup_row, putC_6, row_putC6]
    rfl
  have wf := p2_writeFlags (N := N) (i := 4) (σ := τ) (x := PB) PB_ok
  have e56 : ((56 : Nat) : Int) = 56 := rfl
  rw [e56] at cl
  rw [iX2_putFlags, eX2_putFlags_0, tf, bnd_s, push_n, eX2_putFlags_6, cl, eX2_putFlags_8, if_neg (by decide), s1, wf, bnd_s, push_n, eX2_putFlags_25]
theorem f_unpack (h7 : τ 7 0 = C0) (g4 : τ 7 4 = C0) (g6 : τ 6 4 = PA.2) : inv N mX5_unpack [vR 14 0, vJ 3221225472] (P τ) = some (none, P (putC τ 4 PC0)) := by
  have ct := p2_take (N := N) (i := 4) (b := τ) (x := (τ 7 4, τ 6 4)) 0 (by decide)
  rw [putC_id, h7, g4, g6] at ct
  change inv N mX2_takeFrom [vR 6 4, vR 6 0] (P τ) = some (none, P (putC τ 4 (cpyV C0 C0 0 0 107, PA.2))) at ct
  rw [cpyV_self] at ct
  have s76 := p2_setCell (N := N) (i := 4) (σ := τ) (x := writeFlagsC PB) 76 0 (by decide) (by decide)
  have s77 := p2_setCell (N := N) (i := 4) (σ := τ) (x := (set (writeFlagsC PB).1 76 0, (writeFlagsC PB).2)) 77 0 (by decide) (by decide)
  have s78 := p2_setCell (N := N) (i := 4) (σ := τ) (x := (set (set (writeFlagsC PB).1 76 0) 77 0, (writeFlagsC PB).2)) 78 (-1) (by decide) (by decide)
  have s80 := p2_setCell (N := N) (i := 4) (σ := τ) (x := (set (set (set (writeFlagsC PB).1 76 0) 77 0) 78 (-1), (writeFlagsC PB).2)) 80 0 (by decide) (by decide)
  rw [iX5_unpack, eX5_unpack_0, ct, bnd_s, push_n, eX5_unpack_5]
  rw [eX5_unpack_7, if_pos (by decide), r_part, show bAnd (w32 (shr64 3221225472 (w32 (3 * 0)))) 7 = 0 from by decide +kernel, bnd_s, push_s, eX5_unpack_16, if_neg (by decide), eX5_unpack_26, show w32 (0 + 1) = 1 from rfl]
  rw [eX5_unpack_7, if_pos (by decide), r_part, show bAnd (w32 (shr64 3221225472 (w32 (3 * 1)))) 7 = 0 from by decide +kernel, bnd_s, push_s, eX5_unpack_16, if_neg (by decide), eX5_unpack_26, show w32 (1 + 1) = 2 from rfl]
  rw [eX5_unpack_7, if_neg (by decide), r_part, show bAnd (w32 (shr64 3221225472 6)) 255 = 0 from by decide +kernel, bnd_s, push_s, eX5_unpack_34, r_part, show bAnd (w32 (shr64 3221225472 14)) 255 = 0 from by decide +kernel, bnd_s, push_s, eX5_unpack_38, r_part, show bAnd (w32 (shr64 3221225472 22)) 255 = 0 from by decide +kernel, bnd_s, push_s, eX5_unpack_42, r_part, show bAnd (w32 (shr64 3221225472 30)) 255 = 3 from by decide +kernel, bnd_s, push_s, eX5_unpack_46, f_putFlags, bnd_s, push_n]
  rw [eX5_unpack_47, r_part, show bAnd (w32 (shr64 3221225472 38)) 31 = 0 from by decide +kernel, bnd_s, push_s, eX5_unpack_54, s76, show (76 : Int).toNat = 76 from rfl, bnd_s, push_n, eX5_unpack_55, r_part, show bAnd (w32 (shr64 3221225472 43)) 63 = 0 from by decide +kernel, bnd_s, push_s, eX5_unpack_62, s77, show (77 : Int).toNat = 77 from rfl, bnd_s, push_n, eX5_unpack_63, r_part, K49, bnd_s, push_s, eX5_unpack_70, show w32 (0 - 1) = -1 from rfl, s78, show (78 : Int).toNat = 78 from rfl, bnd_s, push_n, eX5_unpack_73, r_part, show bAnd (w32 (shr64 3221225472 51)) 1 = 0 from by decide +kernel, bnd_s, push_s, eX5_unpack_80, s80, bnd_s, push_n, eX5_unpack_81]
  rfl
theorem f_there (h : τ 7 4 78 = -1) (v : Int) : inv N mX5_isThere [vR 14 0, vI v] (P τ) = some (some (vI 0), P τ) := by
  have e78 := s2_cell (N := N) (i := 4) (σ := τ) 78 (by decide) (by decide)
  rw [show (78 : Int).toNat = 78 from rfl, h] at e78
  rw [iX5_isThere, eX5_isThere_0, e78, bnd_s, push_s, eX5_isThere_4, s8_isSlot, if_neg (by decide), bnd_s, push_s, eX5_isThere_7, if_pos rfl]
theorem f_stepN (h15 : τ 15 0 0 = 3221225472) (k v : Int) (hk : k = 0 ∨ k = 2) : inv N mX5_step [vR 14 0, vI 0, vI k, vI v] (P τ) = some (some (vI 0), P τ) := by
  rw [iX5_step, eX5_step_0, if_neg (by decide), if_pos (by decide), if_neg (by decide), if_pos (by decide), show (0 : Int).toNat = 0 from rfl, h15, r_part, K49, bnd_s, push_s, eX5_step_18, if_pos (show k < 100 by omega), show w32 (0 - 1) = -1 from rfl, if_pos rfl, if_neg (show ¬ k = 1 by omega)]
theorem f_step1g {x : XP} (hu : inv N mX5_unpack [vR 14 0, vJ 3221225472] (P τ) = some (none, P (putC τ 4 x))) (okx : OKC x.1) (x82 : x.1 82 = 0) (fl : FL0 x.1) (fd : FL0 (set x.1 81 0)) (hg : OKG τ 1) (hk : τ 2 1 0 = 0) (h15 : τ 15 0 0 = 3221225472) (h19 : τ 19 0 HH.toNat = 1) (v : Int) : ∃ y, inv N mX5_step [vR 14 0, vI 0, vI 1, vI v] (P τ) = some (some (vI 0), P (putC τ 4 y)) ∧ OKC y.1 ∧ 0 ≤ y.1 82 ∧ y.1 82 < 2147483000 := by
  have b := p2_boot (N := N) (i := 4) (σ := τ) (x := x) hg okx (by rw [x82]; decide) (by rw [x82]; decide) 0 0 (-1)
  have ok := bootC_ok (σ := τ) (x := x) okx 0 (-1)
  rw [boot_none hk fl.1 fl.2.1] at b ok
  obtain ⟨ok1, ok2, ok3⟩ := ok
  have okc := ok1.1
  change OKC (set x.1 81 0) at okc
  have d82 : set x.1 81 0 82 = 0 := by rw [set_ne _ _ (by decide), x82]
  generalize (beginC (-1) x).2 = g at b
  generalize set x.1 81 0 = c at b okc d82 fd
  have c7 : putC τ 4 (c, g) 7 4 = c := putC_7 _ _ _
  have pk := f_pack (N := N) (τ := putC τ 4 (c, g)) (by rw [c7]; exact okc) (by rw [c7]; exact fd)
  rw [putC_put, c7] at pk
  have th := f_there (N := N) (τ := putC τ 4 (c, g)) (by rw [c7]; exact fd.2.2.2.2.2.2) v
  have ad := fun y => f_add1 (N := N) (τ := putC τ 4 y) (by rw [putC_o _ _ _ _ (by decide) (by decide)]; exact h15) (by rw [putC_o _ _ _ _ (by decide) (by decide)]; exact h19) 0 1
  refine ⟨readFlC (c, putC τ 4 (c, g) 6 4), ?_, okc, ?_, ?_⟩
  · rw [iX5_step, eX5_step_0, if_neg (by decide), if_pos (by decide), if_neg (by decide), if_pos (by decide), show (0 : Int).toNat = 0 from rfl, h15, r_part, K49, bnd_s, push_s, eX5_step_18, if_pos (by decide), show w32 (0 - 1) = -1 from rfl, if_pos rfl, if_pos rfl, if_pos rfl, if_pos rfl, hu, bnd_s, push_n]
    rw [eX5_step_56, r_part, show bAnd (w32 (shr64 3221225472 0)) 7 = 0 from by decide +kernel, bnd_s, push_s, eX5_step_60, r_part, show bAnd (w32 (shr64 3221225472 3)) 7 = 0 from by decide +kernel, bnd_s, push_s, eX5_step_65, if_neg (by decide), if_pos rfl, b, bnd_s, push_s, eX5_step_82, th, bnd_s, push_s, eX5_step_134, if_pos rfl, pk, bnd_s, push_s, eX5_step_156, ad, bnd_s, push_s, eX5_step_159]
  · have e : (readFlC (c, putC τ 4 (c, g) 6 4)).1 = c := rfl
    rw [e, d82]
    decide
  · have e : (readFlC (c, putC τ 4 (c, g) 6 4)).1 = c := rfl
    rw [e, d82]
    decide
theorem f_step1 (hg : OKG τ 1) (hk : τ 2 1 0 = 0) (h7 : τ 7 0 = C0) (g4 : τ 7 4 = C0) (g6 : τ 6 4 = PA.2) (h15 : τ 15 0 0 = 3221225472) (h19 : τ 19 0 HH.toNat = 1) (v : Int) : ∃ y, inv N mX5_step [vR 14 0, vI 0, vI 1, vI v] (P τ) = some (some (vI 0), P (putC τ 4 y)) ∧ OKC y.1 ∧ 0 ≤ y.1 82 ∧ y.1 82 < 2147483000 := f_step1g (f_unpack h7 g4 g6) PC_ok PC_82 FL0_PC FL0_PD hg hk h15 h19 v
theorem f_findAlike (h : τ 2 1 1 = 0) : inv N mX5_findAlike [vR 14 0] (P τ) = some (none, P τ) := by
  rw [iX5_findAlike, eX5_findAlike_0, eX5_findAlike_2, if_pos (by decide), eX5_findAlike_7, h, if_neg (by decide), show w32 (0 + 1) = 1 from rfl, eX5_findAlike_2, if_pos (by decide), eX5_findAlike_7, h, if_neg (by decide), show w32 (1 + 1) = 2 from rfl, eX5_findAlike_2, if_neg (by decide)]
end FRESH
