section
/-! THE LAW'S LOOP (made by wip/gen/lawregs.py) -/
set_option maxRecDepth 10000 in
theorem eL_10 (N : Nat) (x3 : Int) (σ : Sto) : ev N mL_law 10 [vR 999 0, vR 0 0, vR 30 0, vI x3] [] (P σ) = (if w32 ((N : Int) - 6) < x3 then ev N mL_law 872 [vR 999 0, vR 0 0, vR 30 0, vI x3] [] (P (σ)) else if x3 < 0 then none else if x3 < (N : Int) then if bAnd ((σ) 999 0 x3.toNat) 63 = 0 then ev N mL_law 22 [vR 999 0, vR 0 0, vR 30 0, vI x3] [] (P (σ)) else if bAnd ((σ) 999 0 x3.toNat) 63 = 1 then ev N mL_law 79 [vR 999 0, vR 0 0, vR 30 0, vI x3] [] (P (σ)) else if bAnd ((σ) 999 0 x3.toNat) 63 = 2 then ev N mL_law 96 [vR 999 0, vR 0 0, vR 30 0, vI x3] [] (P (σ)) else if bAnd ((σ) 999 0 x3.toNat) 63 = 3 then ev N mL_law 103 [vR 999 0, vR 0 0, vR 30 0, vI x3] [] (P (σ)) else if bAnd ((σ) 999 0 x3.toNat) 63 = 4 then ev N mL_law 130 [vR 999 0, vR 0 0, vR 30 0, vI x3] [] (P (σ)) else if bAnd ((σ) 999 0 x3.toNat) 63 = 5 then ev N mL_law 147 [vR 999 0, vR 0 0, vR 30 0, vI x3] [] (P (σ)) else if bAnd ((σ) 999 0 x3.toNat) 63 = 6 then ev N mL_law 182 [vR 999 0, vR 0 0, vR 30 0, vI x3] [] (P (σ)) else if bAnd ((σ) 999 0 x3.toNat) 63 = 7 then ev N mL_law 199 [vR 999 0, vR 0 0, vR 30 0, vI x3] [] (P (σ)) else if bAnd ((σ) 999 0 x3.toNat) 63 = 8 then ev N mL_law 236 [vR 999 0, vR 0 0, vR 30 0, vI x3] [] (P (σ)) else if bAnd ((σ) 999 0 x3.toNat) 63 = 9 then ev N mL_law 263 [vR 999 0, vR 0 0, vR 30 0, vI x3] [] (P (σ)) else if bAnd ((σ) 999 0 x3.toNat) 63 = 10 then ev N mL_law 290 [vR 999 0, vR 0 0, vR 30 0, vI x3] [] (P (σ)) else if bAnd ((σ) 999 0 x3.toNat) 63 = 11 then ev N mL_law 307 [vR 999 0, vR 0 0, vR 30 0, vI x3] [] (P (σ)) else if bAnd ((σ) 999 0 x3.toNat) 63 = 12 then ev N mL_law 324 [vR 999 0, vR 0 0, vR 30 0, vI x3] [] (P (σ)) else if bAnd ((σ) 999 0 x3.toNat) 63 = 13 then ev N mL_law 341 [vR 999 0, vR 0 0, vR 30 0, vI x3] [] (P (σ)) else if bAnd ((σ) 999 0 x3.toNat) 63 = 14 then ev N mL_law 348 [vR 999 0, vR 0 0, vR 30 0, vI x3] [] (P (σ)) else if bAnd ((σ) 999 0 x3.toNat) 63 = 15 then ev N mL_law 385 [vR 999 0, vR 0 0, vR 30 0, vI x3] [] (P (σ)) else if bAnd ((σ) 999 0 x3.toNat) 63 = 16 then ev N mL_law 422 [vR 999 0, vR 0 0, vR 30 0, vI x3] [] (P (σ)) else if bAnd ((σ) 999 0 x3.toNat) 63 = 17 then ev N mL_law 429 [vR 999 0, vR 0 0, vR 30 0, vI x3] [] (P (σ)) else if bAnd ((σ) 999 0 x3.toNat) 63 = 18 then ev N mL_law 456 [vR 999 0, vR 0 0, vR 30 0, vI x3] [] (P (σ)) else if bAnd ((σ) 999 0 x3.toNat) 63 = 19 then ev N mL_law 483 [vR 999 0, vR 0 0, vR 30 0, vI x3] [] (P (σ)) else if bAnd ((σ) 999 0 x3.toNat) 63 = 20 then ev N mL_law 500 [vR 999 0, vR 0 0, vR 30 0, vI x3] [] (P (σ)) else if bAnd ((σ) 999 0 x3.toNat) 63 = 21 then ev N mL_law 517 [vR 999 0, vR 0 0, vR 30 0, vI x3] [] (P (σ)) else if bAnd ((σ) 999 0 x3.toNat) 63 = 22 then ev N mL_law 534 [vR 999 0, vR 0 0, vR 30 0, vI x3] [] (P (σ)) else if bAnd ((σ) 999 0 x3.toNat) 63 = 23 then ev N mL_law 561 [vR 999 0, vR 0 0, vR 30 0, vI x3] [] (P (σ)) else if bAnd ((σ) 999 0 x3.toNat) 63 = 24 then ev N mL_law 578 [vR 999 0, vR 0 0, vR 30 0, vI x3] [] (P (σ)) else if bAnd ((σ) 999 0 x3.toNat) 63 = 25 then ev N mL_law 603 [vR 999 0, vR 0 0, vR 30 0, vI x3] [] (P (σ)) else if bAnd ((σ) 999 0 x3.toNat) 63 = 26 then ev N mL_law 650 [vR 999 0, vR 0 0, vR 30 0, vI x3] [] (P (σ)) else if bAnd ((σ) 999 0 x3.toNat) 63 = 27 then ev N mL_law 687 [vR 999 0, vR 0 0, vR 30 0, vI x3] [] (P (σ)) else if bAnd ((σ) 999 0 x3.toNat) 63 = 28 then ev N mL_law 704 [vR 999 0, vR 0 0, vR 30 0, vI x3] [] (P (σ)) else if bAnd ((σ) 999 0 x3.toNat) 63 = 29 then ev N mL_law 721 [vR 999 0, vR 0 0, vR 30 0, vI x3] [] (P (σ)) else if bAnd ((σ) 999 0 x3.toNat) 63 = 30 then ev N mL_law 738 [vR 999 0, vR 0 0, vR 30 0, vI x3] [] (P (σ)) else if bAnd ((σ) 999 0 x3.toNat) 63 = 31 then ev N mL_law 765 [vR 999 0, vR 0 0, vR 30 0, vI x3] [] (P (σ)) else if bAnd ((σ) 999 0 x3.toNat) 63 = 32 then ev N mL_law 782 [vR 999 0, vR 0 0, vR 30 0, vI x3] [] (P (σ)) else if bAnd ((σ) 999 0 x3.toNat) 63 = 33 then ev N mL_law 809 [vR 999 0, vR 0 0, vR 30 0, vI x3] [] (P (σ)) else if bAnd ((σ) 999 0 x3.toNat) 63 = 34 then ev N mL_law 836 [vR 999 0, vR 0 0, vR 30 0, vI x3] [] (P (σ)) else if bAnd ((σ) 999 0 x3.toNat) 63 = 35 then ev N mL_law 853 [vR 999 0, vR 0 0, vR 30 0, vI x3] [] (P (σ)) else ev N mL_law 870 [vR 999 0, vR 0 0, vR 30 0, vI x3] [] (P (σ)) else none) := run_eq _ [22, 79, 96, 103, 130, 147, 182, 199, 236, 263, 290, 307, 324, 341, 348, 385, 422, 429, 456, 483, 500, 517, 534, 561, 578, 603, 650, 687, 704, 721, 738, 765, 782, 809, 836, 853, 870, 872] 12 _ _ _ _
set_option maxRecDepth 10000 in
theorem eL_22 (N : Nat) (x3 : Int) (σ : Sto) : ev N mL_law 22 [vR 999 0, vR 0 0, vR 30 0, vI x3] [] (P σ) = (if w32 (x3 + 1) < 0 then none else if w32 (x3 + 1) < (N : Int) then if w32 (x3 + 2) < 0 then none else if w32 (x3 + 2) < (N : Int) then if w32 (x3 + 3) < 0 then none else if w32 (x3 + 3) < (N : Int) then if w32 (x3 + 4) < 0 then none else if w32 (x3 + 4) < (N : Int) then if w32 (x3 + 5) < 0 then none else if w32 (x3 + 5) < (N : Int) then bnd (inv N mX8_feed [vR 0 0, vI ((σ) 999 0 (w32 (x3 + 1)).toNat), vI ((σ) 999 0 (w32 (x3 + 2)).toNat), vI ((σ) 999 0 (w32 (x3 + 3)).toNat), vI ((σ) 999 0 (w32 (x3 + 4)).toNat), vI ((σ) 999 0 (w32 (x3 + 5)).toNat)] (P (σ))) (fun r S2 => ev N mL_law 49 [vR 999 0, vR 0 0, vR 30 0, vI x3] (push r []) S2) else none else none else none else none else none) := run_eq _ [49] 27 _ _ _ _
set_option maxRecDepth 10000 in
theorem eL_49 (N : Nat) (x3 : Int) (y0 : Int) (σ : Sto) : ev N mL_law 49 [vR 999 0, vR 0 0, vR 30 0, vI x3] [vI y0] (P σ) = (if w32 (x3 + 1) < 0 then none else if w32 (x3 + 1) < (N : Int) then if w32 (x3 + 2) < 0 then none else if w32 (x3 + 2) < (N : Int) then if w32 (x3 + 3) < 0 then none else if w32 (x3 + 3) < (N : Int) then if w32 (x3 + 4) < 0 then none else if w32 (x3 + 4) < (N : Int) then if w32 (x3 + 5) < 0 then none else if w32 (x3 + 5) < (N : Int) then bnd (inv N mX9_feed [vR 30 0, vI ((σ) 999 0 (w32 (x3 + 1)).toNat), vI ((σ) 999 0 (w32 (x3 + 2)).toNat), vI ((σ) 999 0 (w32 (x3 + 3)).toNat), vI ((σ) 999 0 (w32 (x3 + 4)).toNat), vI ((σ) 999 0 (w32 (x3 + 5)).toNat)] (P (σ))) (fun r S2 => ev N mL_law 77 [vR 999 0, vR 0 0, vR 30 0, vI x3] (push r []) S2) else none else none else none else none else none) := run_eq _ [77] 28 _ _ _ _
set_option maxRecDepth 10000 in
theorem eL_77 (N : Nat) (x3 : Int) (y0 : Int) (σ : Sto) : ev N mL_law 77 [vR 999 0, vR 0 0, vR 30 0, vI x3] [vI y0] (P σ) = (ev N mL_law 870 [vR 999 0, vR 0 0, vR 30 0, vI x3] [] (P (σ))) := run_eq _ [870] 2 _ _ _ _
set_option maxRecDepth 10000 in
theorem eL_79 (N : Nat) (x3 : Int) (σ : Sto) : ev N mL_law 79 [vR 999 0, vR 0 0, vR 30 0, vI x3] [] (P σ) = (if w32 (x3 + 1) < 0 then none else if w32 (x3 + 1) < (N : Int) then bnd (inv N mX8_end [vR 0 0, vI ((σ) 999 0 (w32 (x3 + 1)).toNat)] (P (σ))) (fun r S2 => ev N mL_law 86 [vR 999 0, vR 0 0, vR 30 0, vI x3] (push r []) S2) else none) := run_eq _ [86] 7 _ _ _ _
set_option maxRecDepth 10000 in
theorem eL_86 (N : Nat) (x3 : Int) (y0 : Int) (σ : Sto) : ev N mL_law 86 [vR 999 0, vR 0 0, vR 30 0, vI x3] [vI y0] (P σ) = (if w32 (x3 + 1) < 0 then none else if w32 (x3 + 1) < (N : Int) then bnd (inv N mX9_end [vR 30 0, vI ((σ) 999 0 (w32 (x3 + 1)).toNat)] (P (σ))) (fun r S2 => ev N mL_law 94 [vR 999 0, vR 0 0, vR 30 0, vI x3] (push r []) S2) else none) := run_eq _ [94] 8 _ _ _ _
set_option maxRecDepth 10000 in
theorem eL_94 (N : Nat) (x3 : Int) (y0 : Int) (σ : Sto) : ev N mL_law 94 [vR 999 0, vR 0 0, vR 30 0, vI x3] [vI y0] (P σ) = (ev N mL_law 870 [vR 999 0, vR 0 0, vR 30 0, vI x3] [] (P (σ))) := run_eq _ [870] 2 _ _ _ _
set_option maxRecDepth 10000 in
theorem eL_96 (N : Nat) (x3 : Int) (σ : Sto) : ev N mL_law 96 [vR 999 0, vR 0 0, vR 30 0, vI x3] [] (P σ) = (bnd (inv N mX8_bundle [vR 0 0] (P (σ))) (fun r S2 => ev N mL_law 98 [vR 999 0, vR 0 0, vR 30 0, vI x3] (push r []) S2)) := run_eq _ [98] 2 _ _ _ _
set_option maxRecDepth 10000 in
theorem eL_98 (N : Nat) (x3 : Int) (y0 : Int) (σ : Sto) : ev N mL_law 98 [vR 999 0, vR 0 0, vR 30 0, vI x3] [vI y0] (P σ) = (bnd (inv N mX9_bundle [vR 30 0] (P (σ))) (fun r S2 => ev N mL_law 101 [vR 999 0, vR 0 0, vR 30 0, vI x3] (push r []) S2)) := run_eq _ [101] 3 _ _ _ _
set_option maxRecDepth 10000 in
theorem eL_101 (N : Nat) (x3 : Int) (y0 : Int) (σ : Sto) : ev N mL_law 101 [vR 999 0, vR 0 0, vR 30 0, vI x3] [vI y0] (P σ) = (ev N mL_law 870 [vR 999 0, vR 0 0, vR 30 0, vI x3] [] (P (σ))) := run_eq _ [870] 2 _ _ _ _
set_option maxRecDepth 10000 in
theorem eL_103 (N : Nat) (x3 : Int) (σ : Sto) : ev N mL_law 103 [vR 999 0, vR 0 0, vR 30 0, vI x3] [] (P σ) = (if w32 (x3 + 1) < 0 then none else if w32 (x3 + 1) < (N : Int) then if w32 (x3 + 2) < 0 then none else if w32 (x3 + 2) < (N : Int) then bnd (inv N mX8_image [vR 0 0, vI ((σ) 999 0 (w32 (x3 + 1)).toNat), vI ((σ) 999 0 (w32 (x3 + 2)).toNat)] (P (σ))) (fun r S2 => ev N mL_law 115 [vR 999 0, vR 0 0, vR 30 0, vI x3] (push r []) S2) else none else none) := run_eq _ [115] 12 _ _ _ _
set_option maxRecDepth 10000 in
theorem eL_115 (N : Nat) (x3 : Int) (y0 : Int) (σ : Sto) : ev N mL_law 115 [vR 999 0, vR 0 0, vR 30 0, vI x3] [vI y0] (P σ) = (if w32 (x3 + 1) < 0 then none else if w32 (x3 + 1) < (N : Int) then if w32 (x3 + 2) < 0 then none else if w32 (x3 + 2) < (N : Int) then bnd (inv N mX9_image [vR 30 0, vI ((σ) 999 0 (w32 (x3 + 1)).toNat), vI ((σ) 999 0 (w32 (x3 + 2)).toNat)] (P (σ))) (fun r S2 => ev N mL_law 128 [vR 999 0, vR 0 0, vR 30 0, vI x3] (push r []) S2) else none else none) := run_eq _ [128] 13 _ _ _ _
set_option maxRecDepth 10000 in
theorem eL_128 (N : Nat) (x3 : Int) (y0 : Int) (σ : Sto) : ev N mL_law 128 [vR 999 0, vR 0 0, vR 30 0, vI x3] [vI y0] (P σ) = (ev N mL_law 870 [vR 999 0, vR 0 0, vR 30 0, vI x3] [] (P (σ))) := run_eq _ [870] 2 _ _ _ _
set_option maxRecDepth 10000 in
theorem eL_130 (N : Nat) (x3 : Int) (σ : Sto) : ev N mL_law 130 [vR 999 0, vR 0 0, vR 30 0, vI x3] [] (P σ) = (if w32 (x3 + 1) < 0 then none else if w32 (x3 + 1) < (N : Int) then bnd (inv N mX8_factory [vR 0 0, vI ((σ) 999 0 (w32 (x3 + 1)).toNat)] (P (σ))) (fun r S2 => ev N mL_law 137 [vR 999 0, vR 0 0, vR 30 0, vI x3] (push r []) S2) else none) := run_eq _ [137] 7 _ _ _ _
set_option maxRecDepth 10000 in
theorem eL_137 (N : Nat) (x3 : Int) (y0 : Int) (σ : Sto) : ev N mL_law 137 [vR 999 0, vR 0 0, vR 30 0, vI x3] [vI y0] (P σ) = (if w32 (x3 + 1) < 0 then none else if w32 (x3 + 1) < (N : Int) then bnd (inv N mX9_factory [vR 30 0, vI ((σ) 999 0 (w32 (x3 + 1)).toNat)] (P (σ))) (fun r S2 => ev N mL_law 145 [vR 999 0, vR 0 0, vR 30 0, vI x3] (push r []) S2) else none) := run_eq _ [145] 8 _ _ _ _
set_option maxRecDepth 10000 in
theorem eL_145 (N : Nat) (x3 : Int) (y0 : Int) (σ : Sto) : ev N mL_law 145 [vR 999 0, vR 0 0, vR 30 0, vI x3] [vI y0] (P σ) = (ev N mL_law 870 [vR 999 0, vR 0 0, vR 30 0, vI x3] [] (P (σ))) := run_eq _ [870] 2 _ _ _ _
set_option maxRecDepth 10000 in
theorem eL_147 (N : Nat) (x3 : Int) (σ : Sto) : ev N mL_law 147 [vR 999 0, vR 0 0, vR 30 0, vI x3] [] (P σ) = (if w32 (x3 + 1) < 0 then none else if w32 (x3 + 1) < (N : Int) then if (σ) 999 0 (w32 (x3 + 1)).toNat = 0 then if w32 (x3 + 2) < 0 then none else if w32 (x3 + 2) < (N : Int) then bnd (inv N mX8_boot [vR 0 0, vI 0, vI ((σ) 999 0 (w32 (x3 + 2)).toNat)] (P (σ))) (fun r S2 => ev N mL_law 163 [vR 999 0, vR 0 0, vR 30 0, vI x3] (push r []) S2) else none else if w32 (x3 + 2) < 0 then none else if w32 (x3 + 2) < (N : Int) then bnd (inv N mX8_boot [vR 0 0, vI 1, vI ((σ) 999 0 (w32 (x3 + 2)).toNat)] (P (σ))) (fun r S2 => ev N mL_law 163 [vR 999 0, vR 0 0, vR 30 0, vI x3] (push r []) S2) else none else none) := run_eq _ [163] 15 _ _ _ _
set_option maxRecDepth 10000 in
theorem eL_163 (N : Nat) (x3 : Int) (y0 : Int) (σ : Sto) : ev N mL_law 163 [vR 999 0, vR 0 0, vR 30 0, vI x3] [vI y0] (P σ) = (if w32 (x3 + 1) < 0 then none else if w32 (x3 + 1) < (N : Int) then if (σ) 999 0 (w32 (x3 + 1)).toNat = 0 then if w32 (x3 + 2) < 0 then none else if w32 (x3 + 2) < (N : Int) then bnd (inv N mX9_boot [vR 30 0, vI 0, vI ((σ) 999 0 (w32 (x3 + 2)).toNat)] (P (σ))) (fun r S2 => ev N mL_law 180 [vR 999 0, vR 0 0, vR 30 0, vI x3] (push r []) S2) else none else if w32 (x3 + 2) < 0 then none else if w32 (x3 + 2) < (N : Int) then bnd (inv N mX9_boot [vR 30 0, vI 1, vI ((σ) 999 0 (w32 (x3 + 2)).toNat)] (P (σ))) (fun r S2 => ev N mL_law 180 [vR 999 0, vR 0 0, vR 30 0, vI x3] (push r []) S2) else none else none) := run_eq _ [180] 16 _ _ _ _
set_option maxRecDepth 10000 in
theorem eL_180 (N : Nat) (x3 : Int) (y0 : Int) (σ : Sto) : ev N mL_law 180 [vR 999 0, vR 0 0, vR 30 0, vI x3] [vI y0] (P σ) = (ev N mL_law 870 [vR 999 0, vR 0 0, vR 30 0, vI x3] [] (P (σ))) := run_eq _ [870] 2 _ _ _ _
set_option maxRecDepth 10000 in
theorem eL_182 (N : Nat) (x3 : Int) (σ : Sto) : ev N mL_law 182 [vR 999 0, vR 0 0, vR 30 0, vI x3] [] (P σ) = (if w32 (x3 + 1) < 0 then none else if w32 (x3 + 1) < (N : Int) then bnd (inv N mX8_health [vR 0 0, vI ((σ) 999 0 (w32 (x3 + 1)).toNat)] (P (σ))) (fun r S2 => ev N mL_law 189 [vR 999 0, vR 0 0, vR 30 0, vI x3] (push r []) S2) else none) := run_eq _ [189] 7 _ _ _ _
set_option maxRecDepth 10000 in
theorem eL_189 (N : Nat) (x3 : Int) (y0 : Int) (σ : Sto) : ev N mL_law 189 [vR 999 0, vR 0 0, vR 30 0, vI x3] [vI y0] (P σ) = (if w32 (x3 + 1) < 0 then none else if w32 (x3 + 1) < (N : Int) then bnd (inv N mX9_health [vR 30 0, vI ((σ) 999 0 (w32 (x3 + 1)).toNat)] (P (σ))) (fun r S2 => ev N mL_law 197 [vR 999 0, vR 0 0, vR 30 0, vI x3] (push r []) S2) else none) := run_eq _ [197] 8 _ _ _ _
set_option maxRecDepth 10000 in
theorem eL_197 (N : Nat) (x3 : Int) (y0 : Int) (σ : Sto) : ev N mL_law 197 [vR 999 0, vR 0 0, vR 30 0, vI x3] [vI y0] (P σ) = (ev N mL_law 870 [vR 999 0, vR 0 0, vR 30 0, vI x3] [] (P (σ))) := run_eq _ [870] 2 _ _ _ _
set_option maxRecDepth 10000 in
theorem eL_199 (N : Nat) (x3 : Int) (σ : Sto) : ev N mL_law 199 [vR 999 0, vR 0 0, vR 30 0, vI x3] [] (P σ) = (if w32 (x3 + 1) < 0 then none else if w32 (x3 + 1) < (N : Int) then if w32 (x3 + 2) < 0 then none else if w32 (x3 + 2) < (N : Int) then if w32 (x3 + 3) < 0 then none else if w32 (x3 + 3) < (N : Int) then bnd (inv N mX8_install [vR 0 0, vI ((σ) 999 0 (w32 (x3 + 1)).toNat), vI ((σ) 999 0 (w32 (x3 + 2)).toNat), vI ((σ) 999 0 (w32 (x3 + 3)).toNat)] (P (σ))) (fun r S2 => ev N mL_law 216 [vR 999 0, vR 0 0, vR 30 0, vI x3] (push r []) S2) else none else none else none) := run_eq _ [216] 17 _ _ _ _
set_option maxRecDepth 10000 in
theorem eL_216 (N : Nat) (x3 : Int) (y0 : Int) (σ : Sto) : ev N mL_law 216 [vR 999 0, vR 0 0, vR 30 0, vI x3] [vI y0] (P σ) = (if w32 (x3 + 1) < 0 then none else if w32 (x3 + 1) < (N : Int) then if w32 (x3 + 2) < 0 then none else if w32 (x3 + 2) < (N : Int) then if w32 (x3 + 3) < 0 then none else if w32 (x3 + 3) < (N : Int) then bnd (inv N mX9_install [vR 30 0, vI ((σ) 999 0 (w32 (x3 + 1)).toNat), vI ((σ) 999 0 (w32 (x3 + 2)).toNat), vI ((σ) 999 0 (w32 (x3 + 3)).toNat)] (P (σ))) (fun r S2 => ev N mL_law 234 [vR 999 0, vR 0 0, vR 30 0, vI x3] (push r []) S2) else none else none else none) := run_eq _ [234] 18 _ _ _ _
set_option maxRecDepth 10000 in
theorem eL_234 (N : Nat) (x3 : Int) (y0 : Int) (σ : Sto) : ev N mL_law 234 [vR 999 0, vR 0 0, vR 30 0, vI x3] [vI y0] (P σ) = (ev N mL_law 870 [vR 999 0, vR 0 0, vR 30 0, vI x3] [] (P (σ))) := run_eq _ [870] 2 _ _ _ _
set_option maxRecDepth 10000 in
theorem eL_236 (N : Nat) (x3 : Int) (σ : Sto) : ev N mL_law 236 [vR 999 0, vR 0 0, vR 30 0, vI x3] [] (P σ) = (if w32 (x3 + 1) < 0 then none else if w32 (x3 + 1) < (N : Int) then if w32 (x3 + 2) < 0 then none else if w32 (x3 + 2) < (N : Int) then bnd (inv N mX8_refresh [vR 0 0, vI ((σ) 999 0 (w32 (x3 + 1)).toNat), vI ((σ) 999 0 (w32 (x3 + 2)).toNat)] (P (σ))) (fun r S2 => ev N mL_law 248 [vR 999 0, vR 0 0, vR 30 0, vI x3] (push r []) S2) else none else none) := run_eq _ [248] 12 _ _ _ _
set_option maxRecDepth 10000 in
theorem eL_248 (N : Nat) (x3 : Int) (y0 : Int) (σ : Sto) : ev N mL_law 248 [vR 999 0, vR 0 0, vR 30 0, vI x3] [vI y0] (P σ) = (if w32 (x3 + 1) < 0 then none else if w32 (x3 + 1) < (N : Int) then if w32 (x3 + 2) < 0 then none else if w32 (x3 + 2) < (N : Int) then bnd (inv N mX9_refresh [vR 30 0, vI ((σ) 999 0 (w32 (x3 + 1)).toNat), vI ((σ) 999 0 (w32 (x3 + 2)).toNat)] (P (σ))) (fun r S2 => ev N mL_law 261 [vR 999 0, vR 0 0, vR 30 0, vI x3] (push r []) S2) else none else none) := run_eq _ [261] 13 _ _ _ _
set_option maxRecDepth 10000 in
theorem eL_261 (N : Nat) (x3 : Int) (y0 : Int) (σ : Sto) : ev N mL_law 261 [vR 999 0, vR 0 0, vR 30 0, vI x3] [vI y0] (P σ) = (ev N mL_law 870 [vR 999 0, vR 0 0, vR 30 0, vI x3] [] (P (σ))) := run_eq _ [870] 2 _ _ _ _
set_option maxRecDepth 10000 in
theorem eL_263 (N : Nat) (x3 : Int) (σ : Sto) : ev N mL_law 263 [vR 999 0, vR 0 0, vR 30 0, vI x3] [] (P σ) = (if w32 (x3 + 1) < 0 then none else if w32 (x3 + 1) < (N : Int) then if w32 (x3 + 2) < 0 then none else if w32 (x3 + 2) < (N : Int) then bnd (inv N mX8_prefer [vR 0 0, vI ((σ) 999 0 (w32 (x3 + 1)).toNat), vI ((σ) 999 0 (w32 (x3 + 2)).toNat)] (P (σ))) (fun r S2 => ev N mL_law 275 [vR 999 0, vR 0 0, vR 30 0, vI x3] (push r []) S2) else none else none) := run_eq _ [275] 12 _ _ _ _
set_option maxRecDepth 10000 in
theorem eL_275 (N : Nat) (x3 : Int) (y0 : Int) (σ : Sto) : ev N mL_law 275 [vR 999 0, vR 0 0, vR 30 0, vI x3] [vI y0] (P σ) = (if w32 (x3 + 1) < 0 then none else if w32 (x3 + 1) < (N : Int) then if w32 (x3 + 2) < 0 then none else if w32 (x3 + 2) < (N : Int) then bnd (inv N mX9_prefer [vR 30 0, vI ((σ) 999 0 (w32 (x3 + 1)).toNat), vI ((σ) 999 0 (w32 (x3 + 2)).toNat)] (P (σ))) (fun r S2 => ev N mL_law 288 [vR 999 0, vR 0 0, vR 30 0, vI x3] (push r []) S2) else none else none) := run_eq _ [288] 13 _ _ _ _
set_option maxRecDepth 10000 in
theorem eL_288 (N : Nat) (x3 : Int) (y0 : Int) (σ : Sto) : ev N mL_law 288 [vR 999 0, vR 0 0, vR 30 0, vI x3] [vI y0] (P σ) = (ev N mL_law 870 [vR 999 0, vR 0 0, vR 30 0, vI x3] [] (P (σ))) := run_eq _ [870] 2 _ _ _ _
set_option maxRecDepth 10000 in
theorem eL_290 (N : Nat) (x3 : Int) (σ : Sto) : ev N mL_law 290 [vR 999 0, vR 0 0, vR 30 0, vI x3] [] (P σ) = (if w32 (x3 + 1) < 0 then none else if w32 (x3 + 1) < (N : Int) then bnd (inv N mX8_mend [vR 0 0, vI ((σ) 999 0 (w32 (x3 + 1)).toNat)] (P (σ))) (fun r S2 => ev N mL_law 297 [vR 999 0, vR 0 0, vR 30 0, vI x3] (push r []) S2) else none) := run_eq _ [297] 7 _ _ _ _
set_option maxRecDepth 10000 in
theorem eL_297 (N : Nat) (x3 : Int) (y0 : Int) (σ : Sto) : ev N mL_law 297 [vR 999 0, vR 0 0, vR 30 0, vI x3] [vI y0] (P σ) = (if w32 (x3 + 1) < 0 then none else if w32 (x3 + 1) < (N : Int) then bnd (inv N mX9_mend [vR 30 0, vI ((σ) 999 0 (w32 (x3 + 1)).toNat)] (P (σ))) (fun r S2 => ev N mL_law 305 [vR 999 0, vR 0 0, vR 30 0, vI x3] (push r []) S2) else none) := run_eq _ [305] 8 _ _ _ _
set_option maxRecDepth 10000 in
theorem eL_305 (N : Nat) (x3 : Int) (y0 : Int) (σ : Sto) : ev N mL_law 305 [vR 999 0, vR 0 0, vR 30 0, vI x3] [vI y0] (P σ) = (ev N mL_law 870 [vR 999 0, vR 0 0, vR 30 0, vI x3] [] (P (σ))) := run_eq _ [870] 2 _ _ _ _
set_option maxRecDepth 10000 in
theorem eL_307 (N : Nat) (x3 : Int) (σ : Sto) : ev N mL_law 307 [vR 999 0, vR 0 0, vR 30 0, vI x3] [] (P σ) = (if w32 (x3 + 1) < 0 then none else if w32 (x3 + 1) < (N : Int) then bnd (inv N mX8_resume [vR 0 0, vI ((σ) 999 0 (w32 (x3 + 1)).toNat)] (P (σ))) (fun r S2 => ev N mL_law 314 [vR 999 0, vR 0 0, vR 30 0, vI x3] (push r []) S2) else none) := run_eq _ [314] 7 _ _ _ _
set_option maxRecDepth 10000 in
theorem eL_314 (N : Nat) (x3 : Int) (y0 : Int) (σ : Sto) : ev N mL_law 314 [vR 999 0, vR 0 0, vR 30 0, vI x3] [vI y0] (P σ) = (if w32 (x3 + 1) < 0 then none else if w32 (x3 + 1) < (N : Int) then bnd (inv N mX9_resume [vR 30 0, vI ((σ) 999 0 (w32 (x3 + 1)).toNat)] (P (σ))) (fun r S2 => ev N mL_law 322 [vR 999 0, vR 0 0, vR 30 0, vI x3] (push r []) S2) else none) := run_eq _ [322] 8 _ _ _ _
set_option maxRecDepth 10000 in
theorem eL_322 (N : Nat) (x3 : Int) (y0 : Int) (σ : Sto) : ev N mL_law 322 [vR 999 0, vR 0 0, vR 30 0, vI x3] [vI y0] (P σ) = (ev N mL_law 870 [vR 999 0, vR 0 0, vR 30 0, vI x3] [] (P (σ))) := run_eq _ [870] 2 _ _ _ _
set_option maxRecDepth 10000 in
theorem eL_324 (N : Nat) (x3 : Int) (σ : Sto) : ev N mL_law 324 [vR 999 0, vR 0 0, vR 30 0, vI x3] [] (P σ) = (if w32 (x3 + 1) < 0 then none else if w32 (x3 + 1) < (N : Int) then bnd (inv N mX8_waits [vR 0 0, vI ((σ) 999 0 (w32 (x3 + 1)).toNat)] (P (σ))) (fun r S2 => ev N mL_law 331 [vR 999 0, vR 0 0, vR 30 0, vI x3] (push r []) S2) else none) := run_eq _ [331] 7 _ _ _ _
set_option maxRecDepth 10000 in
theorem eL_331 (N : Nat) (x3 : Int) (y0 : Int) (σ : Sto) : ev N mL_law 331 [vR 999 0, vR 0 0, vR 30 0, vI x3] [vI y0] (P σ) = (if w32 (x3 + 1) < 0 then none else if w32 (x3 + 1) < (N : Int) then bnd (inv N mX9_waits [vR 30 0, vI ((σ) 999 0 (w32 (x3 + 1)).toNat)] (P (σ))) (fun r S2 => ev N mL_law 339 [vR 999 0, vR 0 0, vR 30 0, vI x3] (push r []) S2) else none) := run_eq _ [339] 8 _ _ _ _
set_option maxRecDepth 10000 in
theorem eL_339 (N : Nat) (x3 : Int) (y0 : Int) (σ : Sto) : ev N mL_law 339 [vR 999 0, vR 0 0, vR 30 0, vI x3] [vI y0] (P σ) = (ev N mL_law 870 [vR 999 0, vR 0 0, vR 30 0, vI x3] [] (P (σ))) := run_eq _ [870] 2 _ _ _ _
set_option maxRecDepth 10000 in
theorem eL_341 (N : Nat) (x3 : Int) (σ : Sto) : ev N mL_law 341 [vR 999 0, vR 0 0, vR 30 0, vI x3] [] (P σ) = (bnd (inv N mX8_off [vR 0 0] (P (σ))) (fun r S2 => ev N mL_law 343 [vR 999 0, vR 0 0, vR 30 0, vI x3] (push r []) S2)) := run_eq _ [343] 2 _ _ _ _
set_option maxRecDepth 10000 in
theorem eL_343 (N : Nat) (x3 : Int) (y0 : Int) (σ : Sto) : ev N mL_law 343 [vR 999 0, vR 0 0, vR 30 0, vI x3] [vI y0] (P σ) = (bnd (inv N mX9_off [vR 30 0] (P (σ))) (fun r S2 => ev N mL_law 346 [vR 999 0, vR 0 0, vR 30 0, vI x3] (push r []) S2)) := run_eq _ [346] 3 _ _ _ _
set_option maxRecDepth 10000 in
theorem eL_346 (N : Nat) (x3 : Int) (y0 : Int) (σ : Sto) : ev N mL_law 346 [vR 999 0, vR 0 0, vR 30 0, vI x3] [vI y0] (P σ) = (ev N mL_law 870 [vR 999 0, vR 0 0, vR 30 0, vI x3] [] (P (σ))) := run_eq _ [870] 2 _ _ _ _
set_option maxRecDepth 10000 in
theorem eL_348 (N : Nat) (x3 : Int) (σ : Sto) : ev N mL_law 348 [vR 999 0, vR 0 0, vR 30 0, vI x3] [] (P σ) = (if w32 (x3 + 1) < 0 then none else if w32 (x3 + 1) < (N : Int) then if w32 (x3 + 2) < 0 then none else if w32 (x3 + 2) < (N : Int) then if w32 (x3 + 3) < 0 then none else if w32 (x3 + 3) < (N : Int) then bnd (inv N mX8_flip [vR 0 0, vI ((σ) 999 0 (w32 (x3 + 1)).toNat), vI ((σ) 999 0 (w32 (x3 + 2)).toNat), vI ((σ) 999 0 (w32 (x3 + 3)).toNat)] (P (σ))) (fun r S2 => ev N mL_law 365 [vR 999 0, vR 0 0, vR 30 0, vI x3] (push r []) S2) else none else none else none) := run_eq _ [365] 17 _ _ _ _
set_option maxRecDepth 10000 in
theorem eL_365 (N : Nat) (x3 : Int) (y0 : Int) (σ : Sto) : ev N mL_law 365 [vR 999 0, vR 0 0, vR 30 0, vI x3] [vI y0] (P σ) = (if w32 (x3 + 1) < 0 then none else if w32 (x3 + 1) < (N : Int) then if w32 (x3 + 2) < 0 then none else if w32 (x3 + 2) < (N : Int) then if w32 (x3 + 3) < 0 then none else if w32 (x3 + 3) < (N : Int) then bnd (inv N mX9_flip [vR 30 0, vI ((σ) 999 0 (w32 (x3 + 1)).toNat), vI ((σ) 999 0 (w32 (x3 + 2)).toNat), vI ((σ) 999 0 (w32 (x3 + 3)).toNat)] (P (σ))) (fun r S2 => ev N mL_law 383 [vR 999 0, vR 0 0, vR 30 0, vI x3] (push r []) S2) else none else none else none) := run_eq _ [383] 18 _ _ _ _
set_option maxRecDepth 10000 in
theorem eL_383 (N : Nat) (x3 : Int) (y0 : Int) (σ : Sto) : ev N mL_law 383 [vR 999 0, vR 0 0, vR 30 0, vI x3] [vI y0] (P σ) = (ev N mL_law 870 [vR 999 0, vR 0 0, vR 30 0, vI x3] [] (P (σ))) := run_eq _ [870] 2 _ _ _ _
set_option maxRecDepth 10000 in
theorem eL_385 (N : Nat) (x3 : Int) (σ : Sto) : ev N mL_law 385 [vR 999 0, vR 0 0, vR 30 0, vI x3] [] (P σ) = (if w32 (x3 + 1) < 0 then none else if w32 (x3 + 1) < (N : Int) then if w32 (x3 + 2) < 0 then none else if w32 (x3 + 2) < (N : Int) then if w32 (x3 + 3) < 0 then none else if w32 (x3 + 3) < (N : Int) then bnd (inv N mX8_blot [vR 0 0, vI ((σ) 999 0 (w32 (x3 + 1)).toNat), vI ((σ) 999 0 (w32 (x3 + 2)).toNat), vI ((σ) 999 0 (w32 (x3 + 3)).toNat)] (P (σ))) (fun r S2 => ev N mL_law 402 [vR 999 0, vR 0 0, vR 30 0, vI x3] (push r []) S2) else none else none else none) := run_eq _ [402] 17 _ _ _ _
set_option maxRecDepth 10000 in
theorem eL_402 (N : Nat) (x3 : Int) (y0 : Int) (σ : Sto) : ev N mL_law 402 [vR 999 0, vR 0 0, vR 30 0, vI x3] [vI y0] (P σ) = (if w32 (x3 + 1) < 0 then none else if w32 (x3 + 1) < (N : Int) then if w32 (x3 + 2) < 0 then none else if w32 (x3 + 2) < (N : Int) then if w32 (x3 + 3) < 0 then none else if w32 (x3 + 3) < (N : Int) then bnd (inv N mX9_blot [vR 30 0, vI ((σ) 999 0 (w32 (x3 + 1)).toNat), vI ((σ) 999 0 (w32 (x3 + 2)).toNat), vI ((σ) 999 0 (w32 (x3 + 3)).toNat)] (P (σ))) (fun r S2 => ev N mL_law 420 [vR 999 0, vR 0 0, vR 30 0, vI x3] (push r []) S2) else none else none else none) := run_eq _ [420] 18 _ _ _ _
set_option maxRecDepth 10000 in
theorem eL_420 (N : Nat) (x3 : Int) (y0 : Int) (σ : Sto) : ev N mL_law 420 [vR 999 0, vR 0 0, vR 30 0, vI x3] [vI y0] (P σ) = (ev N mL_law 870 [vR 999 0, vR 0 0, vR 30 0, vI x3] [] (P (σ))) := run_eq _ [870] 2 _ _ _ _
set_option maxRecDepth 10000 in
theorem eL_422 (N : Nat) (x3 : Int) (σ : Sto) : ev N mL_law 422 [vR 999 0, vR 0 0, vR 30 0, vI x3] [] (P σ) = (bnd (inv N mX8_undo [vR 0 0] (P (σ))) (fun r S2 => ev N mL_law 424 [vR 999 0, vR 0 0, vR 30 0, vI x3] (push r []) S2)) := run_eq _ [424] 2 _ _ _ _
set_option maxRecDepth 10000 in
theorem eL_424 (N : Nat) (x3 : Int) (y0 : Int) (σ : Sto) : ev N mL_law 424 [vR 999 0, vR 0 0, vR 30 0, vI x3] [vI y0] (P σ) = (bnd (inv N mX9_undo [vR 30 0] (P (σ))) (fun r S2 => ev N mL_law 427 [vR 999 0, vR 0 0, vR 30 0, vI x3] (push r []) S2)) := run_eq _ [427] 3 _ _ _ _
set_option maxRecDepth 10000 in
theorem eL_427 (N : Nat) (x3 : Int) (y0 : Int) (σ : Sto) : ev N mL_law 427 [vR 999 0, vR 0 0, vR 30 0, vI x3] [vI y0] (P σ) = (ev N mL_law 870 [vR 999 0, vR 0 0, vR 30 0, vI x3] [] (P (σ))) := run_eq _ [870] 2 _ _ _ _
set_option maxRecDepth 10000 in
theorem eL_429 (N : Nat) (x3 : Int) (σ : Sto) : ev N mL_law 429 [vR 999 0, vR 0 0, vR 30 0, vI x3] [] (P σ) = (if w32 (x3 + 1) < 0 then none else if w32 (x3 + 1) < (N : Int) then if w32 (x3 + 2) < 0 then none else if w32 (x3 + 2) < (N : Int) then bnd (inv N mX8_word [vR 0 0, vI ((σ) 999 0 (w32 (x3 + 1)).toNat), vI ((σ) 999 0 (w32 (x3 + 2)).toNat)] (P (σ))) (fun r S2 => ev N mL_law 441 [vR 999 0, vR 0 0, vR 30 0, vI x3] (push r []) S2) else none else none) := run_eq _ [441] 12 _ _ _ _
set_option maxRecDepth 10000 in
theorem eL_441 (N : Nat) (x3 : Int) (y0 : Int) (σ : Sto) : ev N mL_law 441 [vR 999 0, vR 0 0, vR 30 0, vI x3] [vI y0] (P σ) = (if w32 (x3 + 1) < 0 then none else if w32 (x3 + 1) < (N : Int) then if w32 (x3 + 2) < 0 then none else if w32 (x3 + 2) < (N : Int) then bnd (inv N mX9_word [vR 30 0, vI ((σ) 999 0 (w32 (x3 + 1)).toNat), vI ((σ) 999 0 (w32 (x3 + 2)).toNat)] (P (σ))) (fun r S2 => ev N mL_law 454 [vR 999 0, vR 0 0, vR 30 0, vI x3] (push r []) S2) else none else none) := run_eq _ [454] 13 _ _ _ _
set_option maxRecDepth 10000 in
theorem eL_454 (N : Nat) (x3 : Int) (y0 : Int) (σ : Sto) : ev N mL_law 454 [vR 999 0, vR 0 0, vR 30 0, vI x3] [vI y0] (P σ) = (ev N mL_law 870 [vR 999 0, vR 0 0, vR 30 0, vI x3] [] (P (σ))) := run_eq _ [870] 2 _ _ _ _
set_option maxRecDepth 10000 in
theorem eL_456 (N : Nat) (x3 : Int) (σ : Sto) : ev N mL_law 456 [vR 999 0, vR 0 0, vR 30 0, vI x3] [] (P σ) = (if w32 (x3 + 1) < 0 then none else if w32 (x3 + 1) < (N : Int) then if w32 (x3 + 2) < 0 then none else if w32 (x3 + 2) < (N : Int) then bnd (inv N mX8_octet [vR 0 0, vI ((σ) 999 0 (w32 (x3 + 1)).toNat), vI ((σ) 999 0 (w32 (x3 + 2)).toNat)] (P (σ))) (fun r S2 => ev N mL_law 468 [vR 999 0, vR 0 0, vR 30 0, vI x3] (push r []) S2) else none else none) := run_eq _ [468] 12 _ _ _ _
set_option maxRecDepth 10000 in
theorem eL_468 (N : Nat) (x3 : Int) (y0 : Int) (σ : Sto) : ev N mL_law 468 [vR 999 0, vR 0 0, vR 30 0, vI x3] [vI y0] (P σ) = (if w32 (x3 + 1) < 0 then none else if w32 (x3 + 1) < (N : Int) then if w32 (x3 + 2) < 0 then none else if w32 (x3 + 2) < (N : Int) then bnd (inv N mX9_octet [vR 30 0, vI ((σ) 999 0 (w32 (x3 + 1)).toNat), vI ((σ) 999 0 (w32 (x3 + 2)).toNat)] (P (σ))) (fun r S2 => ev N mL_law 481 [vR 999 0, vR 0 0, vR 30 0, vI x3] (push r []) S2) else none else none) := run_eq _ [481] 13 _ _ _ _
set_option maxRecDepth 10000 in
theorem eL_481 (N : Nat) (x3 : Int) (y0 : Int) (σ : Sto) : ev N mL_law 481 [vR 999 0, vR 0 0, vR 30 0, vI x3] [vI y0] (P σ) = (ev N mL_law 870 [vR 999 0, vR 0 0, vR 30 0, vI x3] [] (P (σ))) := run_eq _ [870] 2 _ _ _ _
set_option maxRecDepth 10000 in
theorem eL_483 (N : Nat) (x3 : Int) (σ : Sto) : ev N mL_law 483 [vR 999 0, vR 0 0, vR 30 0, vI x3] [] (P σ) = (if w32 (x3 + 1) < 0 then none else if w32 (x3 + 1) < (N : Int) then bnd (inv N mX8_journal [vR 0 0, vI ((σ) 999 0 (w32 (x3 + 1)).toNat)] (P (σ))) (fun r S2 => ev N mL_law 490 [vR 999 0, vR 0 0, vR 30 0, vI x3] (push r []) S2) else none) := run_eq _ [490] 7 _ _ _ _
set_option maxRecDepth 10000 in
theorem eL_490 (N : Nat) (x3 : Int) (y0 : Int) (σ : Sto) : ev N mL_law 490 [vR 999 0, vR 0 0, vR 30 0, vI x3] [vI y0] (P σ) = (if w32 (x3 + 1) < 0 then none else if w32 (x3 + 1) < (N : Int) then bnd (inv N mX9_journal [vR 30 0, vI ((σ) 999 0 (w32 (x3 + 1)).toNat)] (P (σ))) (fun r S2 => ev N mL_law 498 [vR 999 0, vR 0 0, vR 30 0, vI x3] (push r []) S2) else none) := run_eq _ [498] 8 _ _ _ _
set_option maxRecDepth 10000 in
theorem eL_498 (N : Nat) (x3 : Int) (y0 : Int) (σ : Sto) : ev N mL_law 498 [vR 999 0, vR 0 0, vR 30 0, vI x3] [vI y0] (P σ) = (ev N mL_law 870 [vR 999 0, vR 0 0, vR 30 0, vI x3] [] (P (σ))) := run_eq _ [870] 2 _ _ _ _
set_option maxRecDepth 10000 in
theorem eL_500 (N : Nat) (x3 : Int) (σ : Sto) : ev N mL_law 500 [vR 999 0, vR 0 0, vR 30 0, vI x3] [] (P σ) = (if w32 (x3 + 1) < 0 then none else if w32 (x3 + 1) < (N : Int) then bnd (inv N mX8_revoked [vR 0 0, vI ((σ) 999 0 (w32 (x3 + 1)).toNat)] (P (σ))) (fun r S2 => ev N mL_law 507 [vR 999 0, vR 0 0, vR 30 0, vI x3] (push r []) S2) else none) := run_eq _ [507] 7 _ _ _ _
set_option maxRecDepth 10000 in
theorem eL_507 (N : Nat) (x3 : Int) (y0 : Int) (σ : Sto) : ev N mL_law 507 [vR 999 0, vR 0 0, vR 30 0, vI x3] [vI y0] (P σ) = (if w32 (x3 + 1) < 0 then none else if w32 (x3 + 1) < (N : Int) then bnd (inv N mX9_revoked [vR 30 0, vI ((σ) 999 0 (w32 (x3 + 1)).toNat)] (P (σ))) (fun r S2 => ev N mL_law 515 [vR 999 0, vR 0 0, vR 30 0, vI x3] (push r []) S2) else none) := run_eq _ [515] 8 _ _ _ _
set_option maxRecDepth 10000 in
theorem eL_515 (N : Nat) (x3 : Int) (y0 : Int) (σ : Sto) : ev N mL_law 515 [vR 999 0, vR 0 0, vR 30 0, vI x3] [vI y0] (P σ) = (ev N mL_law 870 [vR 999 0, vR 0 0, vR 30 0, vI x3] [] (P (σ))) := run_eq _ [870] 2 _ _ _ _
set_option maxRecDepth 10000 in
theorem eL_517 (N : Nat) (x3 : Int) (σ : Sto) : ev N mL_law 517 [vR 999 0, vR 0 0, vR 30 0, vI x3] [] (P σ) = (if w32 (x3 + 1) < 0 then none else if w32 (x3 + 1) < (N : Int) then bnd (inv N mX8_whole [vR 0 0, vI ((σ) 999 0 (w32 (x3 + 1)).toNat)] (P (σ))) (fun r S2 => ev N mL_law 524 [vR 999 0, vR 0 0, vR 30 0, vI x3] (push r []) S2) else none) := run_eq _ [524] 7 _ _ _ _
set_option maxRecDepth 10000 in
theorem eL_524 (N : Nat) (x3 : Int) (y0 : Int) (σ : Sto) : ev N mL_law 524 [vR 999 0, vR 0 0, vR 30 0, vI x3] [vI y0] (P σ) = (if w32 (x3 + 1) < 0 then none else if w32 (x3 + 1) < (N : Int) then bnd (inv N mX9_whole [vR 30 0, vI ((σ) 999 0 (w32 (x3 + 1)).toNat)] (P (σ))) (fun r S2 => ev N mL_law 532 [vR 999 0, vR 0 0, vR 30 0, vI x3] (push r []) S2) else none) := run_eq _ [532] 8 _ _ _ _
set_option maxRecDepth 10000 in
theorem eL_532 (N : Nat) (x3 : Int) (y0 : Int) (σ : Sto) : ev N mL_law 532 [vR 999 0, vR 0 0, vR 30 0, vI x3] [vI y0] (P σ) = (ev N mL_law 870 [vR 999 0, vR 0 0, vR 30 0, vI x3] [] (P (σ))) := run_eq _ [870] 2 _ _ _ _
set_option maxRecDepth 10000 in
theorem eL_534 (N : Nat) (x3 : Int) (σ : Sto) : ev N mL_law 534 [vR 999 0, vR 0 0, vR 30 0, vI x3] [] (P σ) = (if w32 (x3 + 1) < 0 then none else if w32 (x3 + 1) < (N : Int) then if w32 (x3 + 2) < 0 then none else if w32 (x3 + 2) < (N : Int) then bnd (inv N mX8_flag [vR 0 0, vI ((σ) 999 0 (w32 (x3 + 1)).toNat), vI ((σ) 999 0 (w32 (x3 + 2)).toNat)] (P (σ))) (fun r S2 => ev N mL_law 546 [vR 999 0, vR 0 0, vR 30 0, vI x3] (push r []) S2) else none else none) := run_eq _ [546] 12 _ _ _ _
set_option maxRecDepth 10000 in
theorem eL_546 (N : Nat) (x3 : Int) (y0 : Int) (σ : Sto) : ev N mL_law 546 [vR 999 0, vR 0 0, vR 30 0, vI x3] [vI y0] (P σ) = (if w32 (x3 + 1) < 0 then none else if w32 (x3 + 1) < (N : Int) then if w32 (x3 + 2) < 0 then none else if w32 (x3 + 2) < (N : Int) then bnd (inv N mX9_flag [vR 30 0, vI ((σ) 999 0 (w32 (x3 + 1)).toNat), vI ((σ) 999 0 (w32 (x3 + 2)).toNat)] (P (σ))) (fun r S2 => ev N mL_law 559 [vR 999 0, vR 0 0, vR 30 0, vI x3] (push r []) S2) else none else none) := run_eq _ [559] 13 _ _ _ _
set_option maxRecDepth 10000 in
theorem eL_559 (N : Nat) (x3 : Int) (y0 : Int) (σ : Sto) : ev N mL_law 559 [vR 999 0, vR 0 0, vR 30 0, vI x3] [vI y0] (P σ) = (ev N mL_law 870 [vR 999 0, vR 0 0, vR 30 0, vI x3] [] (P (σ))) := run_eq _ [870] 2 _ _ _ _
set_option maxRecDepth 10000 in
theorem eL_561 (N : Nat) (x3 : Int) (σ : Sto) : ev N mL_law 561 [vR 999 0, vR 0 0, vR 30 0, vI x3] [] (P σ) = (if w32 (x3 + 1) < 0 then none else if w32 (x3 + 1) < (N : Int) then bnd (inv N mX8_why [vR 0 0, vI ((σ) 999 0 (w32 (x3 + 1)).toNat)] (P (σ))) (fun r S2 => ev N mL_law 568 [vR 999 0, vR 0 0, vR 30 0, vI x3] (push r []) S2) else none) := run_eq _ [568] 7 _ _ _ _
set_option maxRecDepth 10000 in
theorem eL_568 (N : Nat) (x3 : Int) (y0 : Int) (σ : Sto) : ev N mL_law 568 [vR 999 0, vR 0 0, vR 30 0, vI x3] [vI y0] (P σ) = (if w32 (x3 + 1) < 0 then none else if w32 (x3 + 1) < (N : Int) then bnd (inv N mX9_why [vR 30 0, vI ((σ) 999 0 (w32 (x3 + 1)).toNat)] (P (σ))) (fun r S2 => ev N mL_law 576 [vR 999 0, vR 0 0, vR 30 0, vI x3] (push r []) S2) else none) := run_eq _ [576] 8 _ _ _ _
set_option maxRecDepth 10000 in
theorem eL_576 (N : Nat) (x3 : Int) (y0 : Int) (σ : Sto) : ev N mL_law 576 [vR 999 0, vR 0 0, vR 30 0, vI x3] [vI y0] (P σ) = (ev N mL_law 870 [vR 999 0, vR 0 0, vR 30 0, vI x3] [] (P (σ))) := run_eq _ [870] 2 _ _ _ _
set_option maxRecDepth 10000 in
theorem eL_578 (N : Nat) (x3 : Int) (σ : Sto) : ev N mL_law 578 [vR 999 0, vR 0 0, vR 30 0, vI x3] [] (P σ) = (if w32 (x3 + 1) < 0 then none else if w32 (x3 + 1) < (N : Int) then if (σ) 999 0 (w32 (x3 + 1)).toNat = 0 then bnd (inv N mX8_next [vR 0 0, vI 0] (P (σ))) (fun r S2 => ev N mL_law 589 [vR 999 0, vR 0 0, vR 30 0, vI x3] (push r []) S2) else bnd (inv N mX8_next [vR 0 0, vI 1] (P (σ))) (fun r S2 => ev N mL_law 589 [vR 999 0, vR 0 0, vR 30 0, vI x3] (push r []) S2) else none) := run_eq _ [589] 10 _ _ _ _
set_option maxRecDepth 10000 in
theorem eL_589 (N : Nat) (x3 : Int) (y0 : Int) (σ : Sto) : ev N mL_law 589 [vR 999 0, vR 0 0, vR 30 0, vI x3] [vI y0] (P σ) = (if w32 (x3 + 1) < 0 then none else if w32 (x3 + 1) < (N : Int) then if (σ) 999 0 (w32 (x3 + 1)).toNat = 0 then bnd (inv N mX9_next [vR 30 0, vI 0] (P (σ))) (fun r S2 => ev N mL_law 601 [vR 999 0, vR 0 0, vR 30 0, vI x3] (push r []) S2) else bnd (inv N mX9_next [vR 30 0, vI 1] (P (σ))) (fun r S2 => ev N mL_law 601 [vR 999 0, vR 0 0, vR 30 0, vI x3] (push r []) S2) else none) := run_eq _ [601] 11 _ _ _ _
set_option maxRecDepth 10000 in
theorem eL_601 (N : Nat) (x3 : Int) (y0 : Int) (σ : Sto) : ev N mL_law 601 [vR 999 0, vR 0 0, vR 30 0, vI x3] [vI y0] (P σ) = (ev N mL_law 870 [vR 999 0, vR 0 0, vR 30 0, vI x3] [] (P (σ))) := run_eq _ [870] 2 _ _ _ _
set_option maxRecDepth 10000 in
theorem eL_603 (N : Nat) (x3 : Int) (σ : Sto) : ev N mL_law 603 [vR 999 0, vR 0 0, vR 30 0, vI x3] [] (P σ) = (if w32 (x3 + 1) < 0 then none else if w32 (x3 + 1) < (N : Int) then if w32 (x3 + 2) < 0 then none else if w32 (x3 + 2) < (N : Int) then if w32 (x3 + 3) < 0 then none else if w32 (x3 + 3) < (N : Int) then if w32 (x3 + 4) < 0 then none else if w32 (x3 + 4) < (N : Int) then bnd (inv N mX8_cuts [vR 0 0, vI ((σ) 999 0 (w32 (x3 + 1)).toNat), vI ((σ) 999 0 (w32 (x3 + 2)).toNat), vI ((σ) 999 0 (w32 (x3 + 3)).toNat), vI ((σ) 999 0 (w32 (x3 + 4)).toNat)] (P (σ))) (fun r S2 => ev N mL_law 625 [vR 999 0, vR 0 0, vR 30 0, vI x3] (push r []) S2) else none else none else none else none) := run_eq _ [625] 22 _ _ _ _
set_option maxRecDepth 10000 in
theorem eL_625 (N : Nat) (x3 : Int) (y0 : Int) (σ : Sto) : ev N mL_law 625 [vR 999 0, vR 0 0, vR 30 0, vI x3] [vI y0] (P σ) = (if w32 (x3 + 1) < 0 then none else if w32 (x3 + 1) < (N : Int) then if w32 (x3 + 2) < 0 then none else if w32 (x3 + 2) < (N : Int) then if w32 (x3 + 3) < 0 then none else if w32 (x3 + 3) < (N : Int) then if w32 (x3 + 4) < 0 then none else if w32 (x3 + 4) < (N : Int) then bnd (inv N mX9_cuts [vR 30 0, vI ((σ) 999 0 (w32 (x3 + 1)).toNat), vI ((σ) 999 0 (w32 (x3 + 2)).toNat), vI ((σ) 999 0 (w32 (x3 + 3)).toNat), vI ((σ) 999 0 (w32 (x3 + 4)).toNat)] (P (σ))) (fun r S2 => ev N mL_law 648 [vR 999 0, vR 0 0, vR 30 0, vI x3] (push r []) S2) else none else none else none else none) := run_eq _ [648] 23 _ _ _ _
set_option maxRecDepth 10000 in
theorem eL_648 (N : Nat) (x3 : Int) (y0 : Int) (σ : Sto) : ev N mL_law 648 [vR 999 0, vR 0 0, vR 30 0, vI x3] [vI y0] (P σ) = (ev N mL_law 870 [vR 999 0, vR 0 0, vR 30 0, vI x3] [] (P (σ))) := run_eq _ [870] 2 _ _ _ _
set_option maxRecDepth 10000 in
theorem eL_650 (N : Nat) (x3 : Int) (σ : Sto) : ev N mL_law 650 [vR 999 0, vR 0 0, vR 30 0, vI x3] [] (P σ) = (if w32 (x3 + 1) < 0 then none else if w32 (x3 + 1) < (N : Int) then if w32 (x3 + 2) < 0 then none else if w32 (x3 + 2) < (N : Int) then if w32 (x3 + 3) < 0 then none else if w32 (x3 + 3) < (N : Int) then bnd (inv N mX8_twice [vR 0 0, vI ((σ) 999 0 (w32 (x3 + 1)).toNat), vI ((σ) 999 0 (w32 (x3 + 2)).toNat), vI ((σ) 999 0 (w32 (x3 + 3)).toNat)] (P (σ))) (fun r S2 => ev N mL_law 667 [vR 999 0, vR 0 0, vR 30 0, vI x3] (push r []) S2) else none else none else none) := run_eq _ [667] 17 _ _ _ _
set_option maxRecDepth 10000 in
theorem eL_667 (N : Nat) (x3 : Int) (y0 : Int) (σ : Sto) : ev N mL_law 667 [vR 999 0, vR 0 0, vR 30 0, vI x3] [vI y0] (P σ) = (if w32 (x3 + 1) < 0 then none else if w32 (x3 + 1) < (N : Int) then if w32 (x3 + 2) < 0 then none else if w32 (x3 + 2) < (N : Int) then if w32 (x3 + 3) < 0 then none else if w32 (x3 + 3) < (N : Int) then bnd (inv N mX9_twice [vR 30 0, vI ((σ) 999 0 (w32 (x3 + 1)).toNat), vI ((σ) 999 0 (w32 (x3 + 2)).toNat), vI ((σ) 999 0 (w32 (x3 + 3)).toNat)] (P (σ))) (fun r S2 => ev N mL_law 685 [vR 999 0, vR 0 0, vR 30 0, vI x3] (push r []) S2) else none else none else none) := run_eq _ [685] 18 _ _ _ _
set_option maxRecDepth 10000 in
theorem eL_685 (N : Nat) (x3 : Int) (y0 : Int) (σ : Sto) : ev N mL_law 685 [vR 999 0, vR 0 0, vR 30 0, vI x3] [vI y0] (P σ) = (ev N mL_law 870 [vR 999 0, vR 0 0, vR 30 0, vI x3] [] (P (σ))) := run_eq _ [870] 2 _ _ _ _
set_option maxRecDepth 10000 in
theorem eL_687 (N : Nat) (x3 : Int) (σ : Sto) : ev N mL_law 687 [vR 999 0, vR 0 0, vR 30 0, vI x3] [] (P σ) = (if w32 (x3 + 1) < 0 then none else if w32 (x3 + 1) < (N : Int) then bnd (inv N mX8_lasts [vR 0 0, vI ((σ) 999 0 (w32 (x3 + 1)).toNat)] (P (σ))) (fun r S2 => ev N mL_law 694 [vR 999 0, vR 0 0, vR 30 0, vI x3] (push r []) S2) else none) := run_eq _ [694] 7 _ _ _ _
set_option maxRecDepth 10000 in
theorem eL_694 (N : Nat) (x3 : Int) (y0 : Int) (σ : Sto) : ev N mL_law 694 [vR 999 0, vR 0 0, vR 30 0, vI x3] [vI y0] (P σ) = (if w32 (x3 + 1) < 0 then none else if w32 (x3 + 1) < (N : Int) then bnd (inv N mX9_lasts [vR 30 0, vI ((σ) 999 0 (w32 (x3 + 1)).toNat)] (P (σ))) (fun r S2 => ev N mL_law 702 [vR 999 0, vR 0 0, vR 30 0, vI x3] (push r []) S2) else none) := run_eq _ [702] 8 _ _ _ _
set_option maxRecDepth 10000 in
theorem eL_702 (N : Nat) (x3 : Int) (y0 : Int) (σ : Sto) : ev N mL_law 702 [vR 999 0, vR 0 0, vR 30 0, vI x3] [vI y0] (P σ) = (ev N mL_law 870 [vR 999 0, vR 0 0, vR 30 0, vI x3] [] (P (σ))) := run_eq _ [870] 2 _ _ _ _
set_option maxRecDepth 10000 in
theorem eL_704 (N : Nat) (x3 : Int) (σ : Sto) : ev N mL_law 704 [vR 999 0, vR 0 0, vR 30 0, vI x3] [] (P σ) = (if w32 (x3 + 1) < 0 then none else if w32 (x3 + 1) < (N : Int) then bnd (inv N mX8_slack [vR 0 0, vI ((σ) 999 0 (w32 (x3 + 1)).toNat)] (P (σ))) (fun r S2 => ev N mL_law 711 [vR 999 0, vR 0 0, vR 30 0, vI x3] (push r []) S2) else none) := run_eq _ [711] 7 _ _ _ _
set_option maxRecDepth 10000 in
theorem eL_711 (N : Nat) (x3 : Int) (y0 : Int) (σ : Sto) : ev N mL_law 711 [vR 999 0, vR 0 0, vR 30 0, vI x3] [vI y0] (P σ) = (if w32 (x3 + 1) < 0 then none else if w32 (x3 + 1) < (N : Int) then bnd (inv N mX9_slack [vR 30 0, vI ((σ) 999 0 (w32 (x3 + 1)).toNat)] (P (σ))) (fun r S2 => ev N mL_law 719 [vR 999 0, vR 0 0, vR 30 0, vI x3] (push r []) S2) else none) := run_eq _ [719] 8 _ _ _ _
set_option maxRecDepth 10000 in
theorem eL_719 (N : Nat) (x3 : Int) (y0 : Int) (σ : Sto) : ev N mL_law 719 [vR 999 0, vR 0 0, vR 30 0, vI x3] [vI y0] (P σ) = (ev N mL_law 870 [vR 999 0, vR 0 0, vR 30 0, vI x3] [] (P (σ))) := run_eq _ [870] 2 _ _ _ _
set_option maxRecDepth 10000 in
theorem eL_721 (N : Nat) (x3 : Int) (σ : Sto) : ev N mL_law 721 [vR 999 0, vR 0 0, vR 30 0, vI x3] [] (P σ) = (if w32 (x3 + 1) < 0 then none else if w32 (x3 + 1) < (N : Int) then bnd (inv N mX8_frail [vR 0 0, vI ((σ) 999 0 (w32 (x3 + 1)).toNat)] (P (σ))) (fun r S2 => ev N mL_law 728 [vR 999 0, vR 0 0, vR 30 0, vI x3] (push r []) S2) else none) := run_eq _ [728] 7 _ _ _ _
set_option maxRecDepth 10000 in
theorem eL_728 (N : Nat) (x3 : Int) (y0 : Int) (σ : Sto) : ev N mL_law 728 [vR 999 0, vR 0 0, vR 30 0, vI x3] [vI y0] (P σ) = (if w32 (x3 + 1) < 0 then none else if w32 (x3 + 1) < (N : Int) then bnd (inv N mX9_frail [vR 30 0, vI ((σ) 999 0 (w32 (x3 + 1)).toNat)] (P (σ))) (fun r S2 => ev N mL_law 736 [vR 999 0, vR 0 0, vR 30 0, vI x3] (push r []) S2) else none) := run_eq _ [736] 8 _ _ _ _
set_option maxRecDepth 10000 in
theorem eL_736 (N : Nat) (x3 : Int) (y0 : Int) (σ : Sto) : ev N mL_law 736 [vR 999 0, vR 0 0, vR 30 0, vI x3] [vI y0] (P σ) = (ev N mL_law 870 [vR 999 0, vR 0 0, vR 30 0, vI x3] [] (P (σ))) := run_eq _ [870] 2 _ _ _ _
set_option maxRecDepth 10000 in
theorem eL_738 (N : Nat) (x3 : Int) (σ : Sto) : ev N mL_law 738 [vR 999 0, vR 0 0, vR 30 0, vI x3] [] (P σ) = (if w32 (x3 + 1) < 0 then none else if w32 (x3 + 1) < (N : Int) then if w32 (x3 + 2) < 0 then none else if w32 (x3 + 2) < (N : Int) then bnd (inv N mX8_route [vR 0 0, vI ((σ) 999 0 (w32 (x3 + 1)).toNat), vI ((σ) 999 0 (w32 (x3 + 2)).toNat)] (P (σ))) (fun r S2 => ev N mL_law 750 [vR 999 0, vR 0 0, vR 30 0, vI x3] (push r []) S2) else none else none) := run_eq _ [750] 12 _ _ _ _
set_option maxRecDepth 10000 in
theorem eL_750 (N : Nat) (x3 : Int) (y0 : Int) (σ : Sto) : ev N mL_law 750 [vR 999 0, vR 0 0, vR 30 0, vI x3] [vI y0] (P σ) = (if w32 (x3 + 1) < 0 then none else if w32 (x3 + 1) < (N : Int) then if w32 (x3 + 2) < 0 then none else if w32 (x3 + 2) < (N : Int) then bnd (inv N mX9_route [vR 30 0, vI ((σ) 999 0 (w32 (x3 + 1)).toNat), vI ((σ) 999 0 (w32 (x3 + 2)).toNat)] (P (σ))) (fun r S2 => ev N mL_law 763 [vR 999 0, vR 0 0, vR 30 0, vI x3] (push r []) S2) else none else none) := run_eq _ [763] 13 _ _ _ _
set_option maxRecDepth 10000 in
theorem eL_763 (N : Nat) (x3 : Int) (y0 : Int) (σ : Sto) : ev N mL_law 763 [vR 999 0, vR 0 0, vR 30 0, vI x3] [vI y0] (P σ) = (ev N mL_law 870 [vR 999 0, vR 0 0, vR 30 0, vI x3] [] (P (σ))) := run_eq _ [870] 2 _ _ _ _
set_option maxRecDepth 10000 in
theorem eL_765 (N : Nat) (x3 : Int) (σ : Sto) : ev N mL_law 765 [vR 999 0, vR 0 0, vR 30 0, vI x3] [] (P σ) = (if w32 (x3 + 1) < 0 then none else if w32 (x3 + 1) < (N : Int) then bnd (inv N mX8_draws [vR 0 0, vI ((σ) 999 0 (w32 (x3 + 1)).toNat)] (P (σ))) (fun r S2 => ev N mL_law 772 [vR 999 0, vR 0 0, vR 30 0, vI x3] (push r []) S2) else none) := run_eq _ [772] 7 _ _ _ _
set_option maxRecDepth 10000 in
theorem eL_772 (N : Nat) (x3 : Int) (y0 : Int) (σ : Sto) : ev N mL_law 772 [vR 999 0, vR 0 0, vR 30 0, vI x3] [vI y0] (P σ) = (if w32 (x3 + 1) < 0 then none else if w32 (x3 + 1) < (N : Int) then bnd (inv N mX9_draws [vR 30 0, vI ((σ) 999 0 (w32 (x3 + 1)).toNat)] (P (σ))) (fun r S2 => ev N mL_law 780 [vR 999 0, vR 0 0, vR 30 0, vI x3] (push r []) S2) else none) := run_eq _ [780] 8 _ _ _ _
set_option maxRecDepth 10000 in
theorem eL_780 (N : Nat) (x3 : Int) (y0 : Int) (σ : Sto) : ev N mL_law 780 [vR 999 0, vR 0 0, vR 30 0, vI x3] [vI y0] (P σ) = (ev N mL_law 870 [vR 999 0, vR 0 0, vR 30 0, vI x3] [] (P (σ))) := run_eq _ [870] 2 _ _ _ _
set_option maxRecDepth 10000 in
theorem eL_782 (N : Nat) (x3 : Int) (σ : Sto) : ev N mL_law 782 [vR 999 0, vR 0 0, vR 30 0, vI x3] [] (P σ) = (if w32 (x3 + 1) < 0 then none else if w32 (x3 + 1) < (N : Int) then if w32 (x3 + 2) < 0 then none else if w32 (x3 + 2) < (N : Int) then bnd (inv N mX8_life [vR 0 0, vI ((σ) 999 0 (w32 (x3 + 1)).toNat), vI ((σ) 999 0 (w32 (x3 + 2)).toNat)] (P (σ))) (fun r S2 => ev N mL_law 794 [vR 999 0, vR 0 0, vR 30 0, vI x3] (push r []) S2) else none else none) := run_eq _ [794] 12 _ _ _ _
set_option maxRecDepth 10000 in
theorem eL_794 (N : Nat) (x3 : Int) (y0 : Int) (σ : Sto) : ev N mL_law 794 [vR 999 0, vR 0 0, vR 30 0, vI x3] [vI y0] (P σ) = (if w32 (x3 + 1) < 0 then none else if w32 (x3 + 1) < (N : Int) then if w32 (x3 + 2) < 0 then none else if w32 (x3 + 2) < (N : Int) then bnd (inv N mX9_life [vR 30 0, vI ((σ) 999 0 (w32 (x3 + 1)).toNat), vI ((σ) 999 0 (w32 (x3 + 2)).toNat)] (P (σ))) (fun r S2 => ev N mL_law 807 [vR 999 0, vR 0 0, vR 30 0, vI x3] (push r []) S2) else none else none) := run_eq _ [807] 13 _ _ _ _
set_option maxRecDepth 10000 in
theorem eL_807 (N : Nat) (x3 : Int) (y0 : Int) (σ : Sto) : ev N mL_law 807 [vR 999 0, vR 0 0, vR 30 0, vI x3] [vI y0] (P σ) = (ev N mL_law 870 [vR 999 0, vR 0 0, vR 30 0, vI x3] [] (P (σ))) := run_eq _ [870] 2 _ _ _ _
set_option maxRecDepth 10000 in
theorem eL_809 (N : Nat) (x3 : Int) (σ : Sto) : ev N mL_law 809 [vR 999 0, vR 0 0, vR 30 0, vI x3] [] (P σ) = (if w32 (x3 + 1) < 0 then none else if w32 (x3 + 1) < (N : Int) then if w32 (x3 + 2) < 0 then none else if w32 (x3 + 2) < (N : Int) then bnd (inv N mX8_started [vR 0 0, vI ((σ) 999 0 (w32 (x3 + 1)).toNat), vI ((σ) 999 0 (w32 (x3 + 2)).toNat)] (P (σ))) (fun r S2 => ev N mL_law 821 [vR 999 0, vR 0 0, vR 30 0, vI x3] (push r []) S2) else none else none) := run_eq _ [821] 12 _ _ _ _
set_option maxRecDepth 10000 in
theorem eL_821 (N : Nat) (x3 : Int) (y0 : Int) (σ : Sto) : ev N mL_law 821 [vR 999 0, vR 0 0, vR 30 0, vI x3] [vI y0] (P σ) = (if w32 (x3 + 1) < 0 then none else if w32 (x3 + 1) < (N : Int) then if w32 (x3 + 2) < 0 then none else if w32 (x3 + 2) < (N : Int) then bnd (inv N mX9_started [vR 30 0, vI ((σ) 999 0 (w32 (x3 + 1)).toNat), vI ((σ) 999 0 (w32 (x3 + 2)).toNat)] (P (σ))) (fun r S2 => ev N mL_law 834 [vR 999 0, vR 0 0, vR 30 0, vI x3] (push r []) S2) else none else none) := run_eq _ [834] 13 _ _ _ _
set_option maxRecDepth 10000 in
theorem eL_834 (N : Nat) (x3 : Int) (y0 : Int) (σ : Sto) : ev N mL_law 834 [vR 999 0, vR 0 0, vR 30 0, vI x3] [vI y0] (P σ) = (ev N mL_law 870 [vR 999 0, vR 0 0, vR 30 0, vI x3] [] (P (σ))) := run_eq _ [870] 2 _ _ _ _
set_option maxRecDepth 10000 in
theorem eL_836 (N : Nat) (x3 : Int) (σ : Sto) : ev N mL_law 836 [vR 999 0, vR 0 0, vR 30 0, vI x3] [] (P σ) = (if w32 (x3 + 1) < 0 then none else if w32 (x3 + 1) < (N : Int) then bnd (inv N mX8_least [vR 0 0, vI ((σ) 999 0 (w32 (x3 + 1)).toNat)] (P (σ))) (fun r S2 => ev N mL_law 843 [vR 999 0, vR 0 0, vR 30 0, vI x3] (push r []) S2) else none) := run_eq _ [843] 7 _ _ _ _
set_option maxRecDepth 10000 in
theorem eL_843 (N : Nat) (x3 : Int) (y0 : Int) (σ : Sto) : ev N mL_law 843 [vR 999 0, vR 0 0, vR 30 0, vI x3] [vI y0] (P σ) = (if w32 (x3 + 1) < 0 then none else if w32 (x3 + 1) < (N : Int) then bnd (inv N mX9_least [vR 30 0, vI ((σ) 999 0 (w32 (x3 + 1)).toNat)] (P (σ))) (fun r S2 => ev N mL_law 851 [vR 999 0, vR 0 0, vR 30 0, vI x3] (push r []) S2) else none) := run_eq _ [851] 8 _ _ _ _
set_option maxRecDepth 10000 in
theorem eL_851 (N : Nat) (x3 : Int) (y0 : Int) (σ : Sto) : ev N mL_law 851 [vR 999 0, vR 0 0, vR 30 0, vI x3] [vI y0] (P σ) = (ev N mL_law 870 [vR 999 0, vR 0 0, vR 30 0, vI x3] [] (P (σ))) := run_eq _ [870] 2 _ _ _ _
set_option maxRecDepth 10000 in
theorem eL_853 (N : Nat) (x3 : Int) (σ : Sto) : ev N mL_law 853 [vR 999 0, vR 0 0, vR 30 0, vI x3] [] (P σ) = (if w32 (x3 + 1) < 0 then none else if w32 (x3 + 1) < (N : Int) then bnd (inv N mX8_count [vR 0 0, vI ((σ) 999 0 (w32 (x3 + 1)).toNat)] (P (σ))) (fun r S2 => ev N mL_law 860 [vR 999 0, vR 0 0, vR 30 0, vI x3] (push r []) S2) else none) := run_eq _ [860] 7 _ _ _ _
set_option maxRecDepth 10000 in
theorem eL_860 (N : Nat) (x3 : Int) (y0 : Int) (σ : Sto) : ev N mL_law 860 [vR 999 0, vR 0 0, vR 30 0, vI x3] [vI y0] (P σ) = (if w32 (x3 + 1) < 0 then none else if w32 (x3 + 1) < (N : Int) then bnd (inv N mX9_count [vR 30 0, vI ((σ) 999 0 (w32 (x3 + 1)).toNat)] (P (σ))) (fun r S2 => ev N mL_law 867 [vR 999 0, vR 0 0, vR 30 0, vI x3] (push r [vI y0]) S2) else none) := run_eq _ [867] 7 _ _ _ _
set_option maxRecDepth 10000 in
theorem eL_867 (N : Nat) (x3 : Int) (y0 : Int) (y1 : Int) (σ : Sto) : ev N mL_law 867 [vR 999 0, vR 0 0, vR 30 0, vI x3] [vI y0, vI y1] (P σ) = (if y1 = y0 then ev N mL_law 870 [vR 999 0, vR 0 0, vR 30 0, vI x3] [] (P (σ)) else some (some (vI 0), P (σ))) := run_eq _ [870] 3 _ _ _ _
set_option maxRecDepth 10000 in
theorem eL_870 (N : Nat) (x3 : Int) (σ : Sto) : ev N mL_law 870 [vR 999 0, vR 0 0, vR 30 0, vI x3] [] (P σ) = (ev N mL_law 10 [vR 999 0, vR 0 0, vR 30 0, vI (w32 (x3 + 6))] [] (P (σ))) := run_eq _ [10] 2 _ _ _ _
set_option maxRecDepth 10000 in
theorem eL_872 (N : Nat) (x3 : Int) (σ : Sto) : ev N mL_law 872 [vR 999 0, vR 0 0, vR 30 0, vI x3] [] (P σ) = (some (some (vI 1), P (σ))) := run_eq _ [] 2 _ _ _ _
end
section
/-! THE LAW'S CASES (made by wip/gen/lawcases.py) -/
def IX (N : Nat) (x3 : Int) : Prop := (w32 (x3 + 1) = x3 + 1 ∧ ¬ x3 + 1 < 0 ∧ x3 + 1 < (N : Int)) ∧ (w32 (x3 + 2) = x3 + 2 ∧ ¬ x3 + 2 < 0 ∧ x3 + 2 < (N : Int)) ∧ (w32 (x3 + 3) = x3 + 3 ∧ ¬ x3 + 3 < 0 ∧ x3 + 3 < (N : Int)) ∧ (w32 (x3 + 4) = x3 + 4 ∧ ¬ x3 + 4 < 0 ∧ x3 + 4 < (N : Int)) ∧ (w32 (x3 + 5) = x3 + 5 ∧ ¬ x3 + 5 < 0 ∧ x3 + 5 < (N : Int))
theorem IX_of {N : Nat} {x3 : Int} (h0 : 0 ≤ x3) (h : x3 + 6 ≤ (N : Int)) (hN : (N : Int) < 100000) : IX N x3 := ⟨⟨w32i (by omega) (by omega), by omega, by omega⟩, ⟨w32i (by omega) (by omega), by omega, by omega⟩, ⟨w32i (by omega) (by omega), by omega, by omega⟩, ⟨w32i (by omega) (by omega), by omega, by omega⟩, ⟨w32i (by omega) (by omega), by omega, by omega⟩⟩
section LAW
variable {N : Nat} {σ : Sto} {L x3 : Int}
theorem law_feed (I : IX N x3) (h : INV L σ) (hL : L < 2147480000) (h9 : ∀ j, σ 999 0 j < 2147483648) : ∃ τ, ev N mL_law 22 [vR 999 0, vR 0 0, vR 30 0, vI x3] [] (P σ) = ev N mL_law 870 [vR 999 0, vR 0 0, vR 30 0, vI x3] [] (P τ) ∧ INV (L + 300) τ ∧ τ 999 = σ 999 := by
  obtain ⟨⟨w1, g1, l1⟩, ⟨w2, g2, l2⟩, ⟨w3, g3, l3⟩, ⟨w4, g4, l4⟩, ⟨w5, g5, l5⟩⟩ := I
  obtain ⟨ans, σ1, σ2, p1, p2, p3⟩ := pair_feed (N := N) (σ 999 0 (x3 + 1).toNat) (σ 999 0 (x3 + 2).toNat) (σ 999 0 (x3 + 3).toNat) (σ 999 0 (x3 + 4).toNat) (σ 999 0 (x3 + 5).toNat) L σ h hL
  have e1 : σ1 999 = σ 999 := inv_999 p1
  have e2 : σ2 999 = σ1 999 := inv_999 p2
  refine ⟨σ2, ?_, p3, e2.trans e1⟩
  rw [eL_22, w1, if_neg g1, if_pos l1, w2, if_neg g2, if_pos l2, w3, if_neg g3, if_pos l3, w4, if_neg g4, if_pos l4, w5, if_neg g5, if_pos l5, p1, bnd_s, push_s, eL_49, w1, if_neg g1, if_pos l1, w2, if_neg g2, if_pos l2, w3, if_neg g3, if_pos l3, w4, if_neg g4, if_pos l4, w5, if_neg g5, if_pos l5, e1, p2, bnd_s, push_s, eL_77]
theorem law_end (I : IX N x3) (h : INV L σ) (hL : L < 2147480000) (h9 : ∀ j, σ 999 0 j < 2147483648) : ∃ τ, ev N mL_law 79 [vR 999 0, vR 0 0, vR 30 0, vI x3] [] (P σ) = ev N mL_law 870 [vR 999 0, vR 0 0, vR 30 0, vI x3] [] (P τ) ∧ INV (L + 300) τ ∧ τ 999 = σ 999 := by
  obtain ⟨⟨w1, g1, l1⟩, ⟨w2, g2, l2⟩, ⟨w3, g3, l3⟩, ⟨w4, g4, l4⟩, ⟨w5, g5, l5⟩⟩ := I
  obtain ⟨ans, σ1, σ2, p1, p2, p3⟩ := pair_end (N := N) (σ 999 0 (x3 + 1).toNat) L σ h hL
  have e1 : σ1 999 = σ 999 := inv_999 p1
  have e2 : σ2 999 = σ1 999 := inv_999 p2
  refine ⟨σ2, ?_, p3, e2.trans e1⟩
  rw [eL_79, w1, if_neg g1, if_pos l1, p1, bnd_s, push_s, eL_86, w1, if_neg g1, if_pos l1, e1, p2, bnd_s, push_s, eL_94]
theorem law_bundle (I : IX N x3) (h : INV L σ) (hL : L < 2147480000) (h9 : ∀ j, σ 999 0 j < 2147483648) : ∃ τ, ev N mL_law 96 [vR 999 0, vR 0 0, vR 30 0, vI x3] [] (P σ) = ev N mL_law 870 [vR 999 0, vR 0 0, vR 30 0, vI x3] [] (P τ) ∧ INV (L + 300) τ ∧ τ 999 = σ 999 := by
  obtain ⟨⟨w1, g1, l1⟩, ⟨w2, g2, l2⟩, ⟨w3, g3, l3⟩, ⟨w4, g4, l4⟩, ⟨w5, g5, l5⟩⟩ := I
  obtain ⟨ans, σ1, σ2, p1, p2, p3⟩ := pair_bundle (N := N)  L σ h hL
  have e1 : σ1 999 = σ 999 := inv_999 p1
  have e2 : σ2 999 = σ1 999 := inv_999 p2
  refine ⟨σ2, ?_, p3, e2.trans e1⟩
  rw [eL_96, p1, bnd_s, push_s, eL_98, p2, bnd_s, push_s, eL_101]
theorem law_image (I : IX N x3) (h : INV L σ) (hL : L < 2147480000) (h9 : ∀ j, σ 999 0 j < 2147483648) : ∃ τ, ev N mL_law 103 [vR 999 0, vR 0 0, vR 30 0, vI x3] [] (P σ) = ev N mL_law 870 [vR 999 0, vR 0 0, vR 30 0, vI x3] [] (P τ) ∧ INV (L + 300) τ ∧ τ 999 = σ 999 := by
  obtain ⟨⟨w1, g1, l1⟩, ⟨w2, g2, l2⟩, ⟨w3, g3, l3⟩, ⟨w4, g4, l4⟩, ⟨w5, g5, l5⟩⟩ := I
  obtain ⟨ans, σ1, σ2, p1, p2, p3⟩ := pair_image (N := N) (σ 999 0 (x3 + 1).toNat) (σ 999 0 (x3 + 2).toNat) L σ h hL
  have e1 : σ1 999 = σ 999 := inv_999 p1
  have e2 : σ2 999 = σ1 999 := inv_999 p2
  refine ⟨σ2, ?_, p3, e2.trans e1⟩
  rw [eL_103, w1, if_neg g1, if_pos l1, w2, if_neg g2, if_pos l2, p1, bnd_s, push_s, eL_115, w1, if_neg g1, if_pos l1, w2, if_neg g2, if_pos l2, e1, p2, bnd_s, push_s, eL_128]
theorem law_factory (I : IX N x3) (h : INV L σ) (hL : L < 2147480000) (h9 : ∀ j, σ 999 0 j < 2147483648) : ∃ τ, ev N mL_law 130 [vR 999 0, vR 0 0, vR 30 0, vI x3] [] (P σ) = ev N mL_law 870 [vR 999 0, vR 0 0, vR 30 0, vI x3] [] (P τ) ∧ INV (L + 300) τ ∧ τ 999 = σ 999 := by
  obtain ⟨⟨w1, g1, l1⟩, ⟨w2, g2, l2⟩, ⟨w3, g3, l3⟩, ⟨w4, g4, l4⟩, ⟨w5, g5, l5⟩⟩ := I
  obtain ⟨ans, σ1, σ2, p1, p2, p3⟩ := pair_factory (N := N) (σ 999 0 (x3 + 1).toNat) L σ h hL
  have e1 : σ1 999 = σ 999 := inv_999 p1
  have e2 : σ2 999 = σ1 999 := inv_999 p2
  refine ⟨σ2, ?_, p3, e2.trans e1⟩
  rw [eL_130, w1, if_neg g1, if_pos l1, p1, bnd_s, push_s, eL_137, w1, if_neg g1, if_pos l1, e1, p2, bnd_s, push_s, eL_145]
theorem law_boot (I : IX N x3) (h : INV L σ) (hL : L < 2147480000) (h9 : ∀ j, σ 999 0 j < 2147483648) : ∃ τ, ev N mL_law 147 [vR 999 0, vR 0 0, vR 30 0, vI x3] [] (P σ) = ev N mL_law 870 [vR 999 0, vR 0 0, vR 30 0, vI x3] [] (P τ) ∧ INV (L + 300) τ ∧ τ 999 = σ 999 := by
  obtain ⟨⟨w1, g1, l1⟩, ⟨w2, g2, l2⟩, ⟨w3, g3, l3⟩, ⟨w4, g4, l4⟩, ⟨w5, g5, l5⟩⟩ := I
  obtain ⟨ans, σ1, σ2, p1, p2, p3⟩ := pair_boot (N := N) (if σ 999 0 (x3 + 1).toNat = 0 then 0 else 1) (σ 999 0 (x3 + 2).toNat) (bool_if _) (h9 _) L σ h hL
  have e1 : σ1 999 = σ 999 := inv_999 p1
  have e2 : σ2 999 = σ1 999 := inv_999 p2
  refine ⟨σ2, ?_, p3, e2.trans e1⟩
  by_cases z : σ 999 0 (x3 + 1).toNat = 0
  · rw [if_pos z] at p1 p2
    rw [eL_147, w1, if_neg g1, if_pos l1, if_pos z, w2, if_neg g2, if_pos l2, p1, bnd_s, push_s, eL_163, w1, if_neg g1, if_pos l1, e1, if_pos z, w2, if_neg g2, if_pos l2, p2, bnd_s, push_s, eL_180]
  · rw [if_neg z] at p1 p2
    rw [eL_147, w1, if_neg g1, if_pos l1, if_neg z, w2, if_neg g2, if_pos l2, p1, bnd_s, push_s, eL_163, w1, if_neg g1, if_pos l1, e1, if_neg z, w2, if_neg g2, if_pos l2, p2, bnd_s, push_s, eL_180]
theorem law_health (I : IX N x3) (h : INV L σ) (hL : L < 2147480000) (h9 : ∀ j, σ 999 0 j < 2147483648) : ∃ τ, ev N mL_law 182 [vR 999 0, vR 0 0, vR 30 0, vI x3] [] (P σ) = ev N mL_law 870 [vR 999 0, vR 0 0, vR 30 0, vI x3] [] (P τ) ∧ INV (L + 300) τ ∧ τ 999 = σ 999 := by
  obtain ⟨⟨w1, g1, l1⟩, ⟨w2, g2, l2⟩, ⟨w3, g3, l3⟩, ⟨w4, g4, l4⟩, ⟨w5, g5, l5⟩⟩ := I
  obtain ⟨ans, σ1, σ2, p1, p2, p3⟩ := pair_health (N := N) (σ 999 0 (x3 + 1).toNat) (h9 _) L σ h hL
  have e1 : σ1 999 = σ 999 := inv_999 p1
  have e2 : σ2 999 = σ1 999 := inv_999 p2
  refine ⟨σ2, ?_, p3, e2.trans e1⟩
  rw [eL_182, w1, if_neg g1, if_pos l1, p1, bnd_s, push_s, eL_189, w1, if_neg g1, if_pos l1, e1, p2, bnd_s, push_s, eL_197]
theorem law_install (I : IX N x3) (h : INV L σ) (hL : L < 2147480000) (h9 : ∀ j, σ 999 0 j < 2147483648) : ∃ τ, ev N mL_law 199 [vR 999 0, vR 0 0, vR 30 0, vI x3] [] (P σ) = ev N mL_law 870 [vR 999 0, vR 0 0, vR 30 0, vI x3] [] (P τ) ∧ INV (L + 300) τ ∧ τ 999 = σ 999 := by
  obtain ⟨⟨w1, g1, l1⟩, ⟨w2, g2, l2⟩, ⟨w3, g3, l3⟩, ⟨w4, g4, l4⟩, ⟨w5, g5, l5⟩⟩ := I
  obtain ⟨ans, σ1, σ2, p1, p2, p3⟩ := pair_install (N := N) (σ 999 0 (x3 + 1).toNat) (σ 999 0 (x3 + 2).toNat) (σ 999 0 (x3 + 3).toNat) (h9 _) L σ h hL
  have e1 : σ1 999 = σ 999 := inv_999 p1
  have e2 : σ2 999 = σ1 999 := inv_999 p2
  refine ⟨σ2, ?_, p3, e2.trans e1⟩
  rw [eL_199, w1, if_neg g1, if_pos l1, w2, if_neg g2, if_pos l2, w3, if_neg g3, if_pos l3, p1, bnd_s, push_s, eL_216, w1, if_neg g1, if_pos l1, w2, if_neg g2, if_pos l2, w3, if_neg g3, if_pos l3, e1, p2, bnd_s, push_s, eL_234]
theorem law_refresh (I : IX N x3) (h : INV L σ) (hL : L < 2147480000) (h9 : ∀ j, σ 999 0 j < 2147483648) : ∃ τ, ev N mL_law 236 [vR 999 0, vR 0 0, vR 30 0, vI x3] [] (P σ) = ev N mL_law 870 [vR 999 0, vR 0 0, vR 30 0, vI x3] [] (P τ) ∧ INV (L + 300) τ ∧ τ 999 = σ 999 := by
  obtain ⟨⟨w1, g1, l1⟩, ⟨w2, g2, l2⟩, ⟨w3, g3, l3⟩, ⟨w4, g4, l4⟩, ⟨w5, g5, l5⟩⟩ := I
  obtain ⟨ans, σ1, σ2, p1, p2, p3⟩ := pair_refresh (N := N) (σ 999 0 (x3 + 1).toNat) (σ 999 0 (x3 + 2).toNat) (h9 _) L σ h hL
  have e1 : σ1 999 = σ 999 := inv_999 p1
  have e2 : σ2 999 = σ1 999 := inv_999 p2
  refine ⟨σ2, ?_, p3, e2.trans e1⟩
  rw [eL_236, w1, if_neg g1, if_pos l1, w2, if_neg g2, if_pos l2, p1, bnd_s, push_s, eL_248, w1, if_neg g1, if_pos l1, w2, if_neg g2, if_pos l2, e1, p2, bnd_s, push_s, eL_261]
theorem law_prefer (I : IX N x3) (h : INV L σ) (hL : L < 2147480000) (h9 : ∀ j, σ 999 0 j < 2147483648) : ∃ τ, ev N mL_law 263 [vR 999 0, vR 0 0, vR 30 0, vI x3] [] (P σ) = ev N mL_law 870 [vR 999 0, vR 0 0, vR 30 0, vI x3] [] (P τ) ∧ INV (L + 300) τ ∧ τ 999 = σ 999 := by
  obtain ⟨⟨w1, g1, l1⟩, ⟨w2, g2, l2⟩, ⟨w3, g3, l3⟩, ⟨w4, g4, l4⟩, ⟨w5, g5, l5⟩⟩ := I
  obtain ⟨ans, σ1, σ2, p1, p2, p3⟩ := pair_prefer (N := N) (σ 999 0 (x3 + 1).toNat) (σ 999 0 (x3 + 2).toNat) (h9 _) L σ h hL
  have e1 : σ1 999 = σ 999 := inv_999 p1
  have e2 : σ2 999 = σ1 999 := inv_999 p2
  refine ⟨σ2, ?_, p3, e2.trans e1⟩
  rw [eL_263, w1, if_neg g1, if_pos l1, w2, if_neg g2, if_pos l2, p1, bnd_s, push_s, eL_275, w1, if_neg g1, if_pos l1, w2, if_neg g2, if_pos l2, e1, p2, bnd_s, push_s, eL_288]
theorem law_mend (I : IX N x3) (h : INV L σ) (hL : L < 2147480000) (h9 : ∀ j, σ 999 0 j < 2147483648) : ∃ τ, ev N mL_law 290 [vR 999 0, vR 0 0, vR 30 0, vI x3] [] (P σ) = ev N mL_law 870 [vR 999 0, vR 0 0, vR 30 0, vI x3] [] (P τ) ∧ INV (L + 300) τ ∧ τ 999 = σ 999 := by
  obtain ⟨⟨w1, g1, l1⟩, ⟨w2, g2, l2⟩, ⟨w3, g3, l3⟩, ⟨w4, g4, l4⟩, ⟨w5, g5, l5⟩⟩ := I
  obtain ⟨ans, σ1, σ2, p1, p2, p3⟩ := pair_mend (N := N) (σ 999 0 (x3 + 1).toNat) (h9 _) L σ h hL
  have e1 : σ1 999 = σ 999 := inv_999 p1
  have e2 : σ2 999 = σ1 999 := inv_999 p2
  refine ⟨σ2, ?_, p3, e2.trans e1⟩
  rw [eL_290, w1, if_neg g1, if_pos l1, p1, bnd_s, push_s, eL_297, w1, if_neg g1, if_pos l1, e1, p2, bnd_s, push_s, eL_305]
theorem law_resume (I : IX N x3) (h : INV L σ) (hL : L < 2147480000) (h9 : ∀ j, σ 999 0 j < 2147483648) : ∃ τ, ev N mL_law 307 [vR 999 0, vR 0 0, vR 30 0, vI x3] [] (P σ) = ev N mL_law 870 [vR 999 0, vR 0 0, vR 30 0, vI x3] [] (P τ) ∧ INV (L + 300) τ ∧ τ 999 = σ 999 := by
  obtain ⟨⟨w1, g1, l1⟩, ⟨w2, g2, l2⟩, ⟨w3, g3, l3⟩, ⟨w4, g4, l4⟩, ⟨w5, g5, l5⟩⟩ := I
  obtain ⟨ans, σ1, σ2, p1, p2, p3⟩ := pair_resume (N := N) (σ 999 0 (x3 + 1).toNat) (h9 _) L σ h hL
  have e1 : σ1 999 = σ 999 := inv_999 p1
  have e2 : σ2 999 = σ1 999 := inv_999 p2
  refine ⟨σ2, ?_, p3, e2.trans e1⟩
  rw [eL_307, w1, if_neg g1, if_pos l1, p1, bnd_s, push_s, eL_314, w1, if_neg g1, if_pos l1, e1, p2, bnd_s, push_s, eL_322]
theorem law_waits (I : IX N x3) (h : INV L σ) (hL : L < 2147480000) (h9 : ∀ j, σ 999 0 j < 2147483648) : ∃ τ, ev N mL_law 324 [vR 999 0, vR 0 0, vR 30 0, vI x3] [] (P σ) = ev N mL_law 870 [vR 999 0, vR 0 0, vR 30 0, vI x3] [] (P τ) ∧ INV (L + 300) τ ∧ τ 999 = σ 999 := by
  obtain ⟨⟨w1, g1, l1⟩, ⟨w2, g2, l2⟩, ⟨w3, g3, l3⟩, ⟨w4, g4, l4⟩, ⟨w5, g5, l5⟩⟩ := I
  obtain ⟨ans, σ1, σ2, p1, p2, p3⟩ := pair_waits (N := N) (σ 999 0 (x3 + 1).toNat) L σ h hL
  have e1 : σ1 999 = σ 999 := inv_999 p1
  have e2 : σ2 999 = σ1 999 := inv_999 p2
  refine ⟨σ2, ?_, p3, e2.trans e1⟩
  rw [eL_324, w1, if_neg g1, if_pos l1, p1, bnd_s, push_s, eL_331, w1, if_neg g1, if_pos l1, e1, p2, bnd_s, push_s, eL_339]
theorem law_off (I : IX N x3) (h : INV L σ) (hL : L < 2147480000) (h9 : ∀ j, σ 999 0 j < 2147483648) : ∃ τ, ev N mL_law 341 [vR 999 0, vR 0 0, vR 30 0, vI x3] [] (P σ) = ev N mL_law 870 [vR 999 0, vR 0 0, vR 30 0, vI x3] [] (P τ) ∧ INV (L + 300) τ ∧ τ 999 = σ 999 := by
  obtain ⟨⟨w1, g1, l1⟩, ⟨w2, g2, l2⟩, ⟨w3, g3, l3⟩, ⟨w4, g4, l4⟩, ⟨w5, g5, l5⟩⟩ := I
  obtain ⟨ans, σ1, σ2, p1, p2, p3⟩ := pair_off (N := N)  L σ h hL
  have e1 : σ1 999 = σ 999 := inv_999 p1
  have e2 : σ2 999 = σ1 999 := inv_999 p2
  refine ⟨σ2, ?_, p3, e2.trans e1⟩
  rw [eL_341, p1, bnd_s, push_s, eL_343, p2, bnd_s, push_s, eL_346]
theorem law_flip (I : IX N x3) (h : INV L σ) (hL : L < 2147480000) (h9 : ∀ j, σ 999 0 j < 2147483648) : ∃ τ, ev N mL_law 348 [vR 999 0, vR 0 0, vR 30 0, vI x3] [] (P σ) = ev N mL_law 870 [vR 999 0, vR 0 0, vR 30 0, vI x3] [] (P τ) ∧ INV (L + 300) τ ∧ τ 999 = σ 999 := by
  obtain ⟨⟨w1, g1, l1⟩, ⟨w2, g2, l2⟩, ⟨w3, g3, l3⟩, ⟨w4, g4, l4⟩, ⟨w5, g5, l5⟩⟩ := I
  obtain ⟨ans, σ1, σ2, p1, p2, p3⟩ := pair_flip (N := N) (σ 999 0 (x3 + 1).toNat) (σ 999 0 (x3 + 2).toNat) (σ 999 0 (x3 + 3).toNat) L σ h hL
  have e1 : σ1 999 = σ 999 := inv_999 p1
  have e2 : σ2 999 = σ1 999 := inv_999 p2
  refine ⟨σ2, ?_, p3, e2.trans e1⟩
  rw [eL_348, w1, if_neg g1, if_pos l1, w2, if_neg g2, if_pos l2, w3, if_neg g3, if_pos l3, p1, bnd_s, push_s, eL_365, w1, if_neg g1, if_pos l1, w2, if_neg g2, if_pos l2, w3, if_neg g3, if_pos l3, e1, p2, bnd_s, push_s, eL_383]
theorem law_blot (I : IX N x3) (h : INV L σ) (hL : L < 2147480000) (h9 : ∀ j, σ 999 0 j < 2147483648) : ∃ τ, ev N mL_law 385 [vR 999 0, vR 0 0, vR 30 0, vI x3] [] (P σ) = ev N mL_law 870 [vR 999 0, vR 0 0, vR 30 0, vI x3] [] (P τ) ∧ INV (L + 300) τ ∧ τ 999 = σ 999 := by
  obtain ⟨⟨w1, g1, l1⟩, ⟨w2, g2, l2⟩, ⟨w3, g3, l3⟩, ⟨w4, g4, l4⟩, ⟨w5, g5, l5⟩⟩ := I
  obtain ⟨ans, σ1, σ2, p1, p2, p3⟩ := pair_blot (N := N) (σ 999 0 (x3 + 1).toNat) (σ 999 0 (x3 + 2).toNat) (σ 999 0 (x3 + 3).toNat) L σ h hL
  have e1 : σ1 999 = σ 999 := inv_999 p1
  have e2 : σ2 999 = σ1 999 := inv_999 p2
  refine ⟨σ2, ?_, p3, e2.trans e1⟩
  rw [eL_385, w1, if_neg g1, if_pos l1, w2, if_neg g2, if_pos l2, w3, if_neg g3, if_pos l3, p1, bnd_s, push_s, eL_402, w1, if_neg g1, if_pos l1, w2, if_neg g2, if_pos l2, w3, if_neg g3, if_pos l3, e1, p2, bnd_s, push_s, eL_420]
theorem law_undo (I : IX N x3) (h : INV L σ) (hL : L < 2147480000) (h9 : ∀ j, σ 999 0 j < 2147483648) : ∃ τ, ev N mL_law 422 [vR 999 0, vR 0 0, vR 30 0, vI x3] [] (P σ) = ev N mL_law 870 [vR 999 0, vR 0 0, vR 30 0, vI x3] [] (P τ) ∧ INV (L + 300) τ ∧ τ 999 = σ 999 := by
  obtain ⟨⟨w1, g1, l1⟩, ⟨w2, g2, l2⟩, ⟨w3, g3, l3⟩, ⟨w4, g4, l4⟩, ⟨w5, g5, l5⟩⟩ := I
  obtain ⟨ans, σ1, σ2, p1, p2, p3⟩ := pair_undo (N := N)  L σ h hL
  have e1 : σ1 999 = σ 999 := inv_999 p1
  have e2 : σ2 999 = σ1 999 := inv_999 p2
  refine ⟨σ2, ?_, p3, e2.trans e1⟩
  rw [eL_422, p1, bnd_s, push_s, eL_424, p2, bnd_s, push_s, eL_427]
theorem law_word (I : IX N x3) (h : INV L σ) (hL : L < 2147480000) (h9 : ∀ j, σ 999 0 j < 2147483648) : ∃ τ, ev N mL_law 429 [vR 999 0, vR 0 0, vR 30 0, vI x3] [] (P σ) = ev N mL_law 870 [vR 999 0, vR 0 0, vR 30 0, vI x3] [] (P τ) ∧ INV (L + 300) τ ∧ τ 999 = σ 999 := by
  obtain ⟨⟨w1, g1, l1⟩, ⟨w2, g2, l2⟩, ⟨w3, g3, l3⟩, ⟨w4, g4, l4⟩, ⟨w5, g5, l5⟩⟩ := I
  obtain ⟨ans, σ1, σ2, p1, p2, p3⟩ := pair_word (N := N) (σ 999 0 (x3 + 1).toNat) (σ 999 0 (x3 + 2).toNat) L σ h hL
  have e1 : σ1 999 = σ 999 := inv_999 p1
  have e2 : σ2 999 = σ1 999 := inv_999 p2
  refine ⟨σ2, ?_, p3, e2.trans e1⟩
  rw [eL_429, w1, if_neg g1, if_pos l1, w2, if_neg g2, if_pos l2, p1, bnd_s, push_s, eL_441, w1, if_neg g1, if_pos l1, w2, if_neg g2, if_pos l2, e1, p2, bnd_s, push_s, eL_454]
theorem law_octet (I : IX N x3) (h : INV L σ) (hL : L < 2147480000) (h9 : ∀ j, σ 999 0 j < 2147483648) : ∃ τ, ev N mL_law 456 [vR 999 0, vR 0 0, vR 30 0, vI x3] [] (P σ) = ev N mL_law 870 [vR 999 0, vR 0 0, vR 30 0, vI x3] [] (P τ) ∧ INV (L + 300) τ ∧ τ 999 = σ 999 := by
  obtain ⟨⟨w1, g1, l1⟩, ⟨w2, g2, l2⟩, ⟨w3, g3, l3⟩, ⟨w4, g4, l4⟩, ⟨w5, g5, l5⟩⟩ := I
  obtain ⟨ans, σ1, σ2, p1, p2, p3⟩ := pair_octet (N := N) (σ 999 0 (x3 + 1).toNat) (σ 999 0 (x3 + 2).toNat) L σ h hL
  have e1 : σ1 999 = σ 999 := inv_999 p1
  have e2 : σ2 999 = σ1 999 := inv_999 p2
  refine ⟨σ2, ?_, p3, e2.trans e1⟩
  rw [eL_456, w1, if_neg g1, if_pos l1, w2, if_neg g2, if_pos l2, p1, bnd_s, push_s, eL_468, w1, if_neg g1, if_pos l1, w2, if_neg g2, if_pos l2, e1, p2, bnd_s, push_s, eL_481]
theorem law_journal (I : IX N x3) (h : INV L σ) (hL : L < 2147480000) (h9 : ∀ j, σ 999 0 j < 2147483648) : ∃ τ, ev N mL_law 483 [vR 999 0, vR 0 0, vR 30 0, vI x3] [] (P σ) = ev N mL_law 870 [vR 999 0, vR 0 0, vR 30 0, vI x3] [] (P τ) ∧ INV (L + 300) τ ∧ τ 999 = σ 999 := by
  obtain ⟨⟨w1, g1, l1⟩, ⟨w2, g2, l2⟩, ⟨w3, g3, l3⟩, ⟨w4, g4, l4⟩, ⟨w5, g5, l5⟩⟩ := I
  obtain ⟨ans, σ1, σ2, p1, p2, p3⟩ := pair_journal (N := N) (σ 999 0 (x3 + 1).toNat) L σ h hL
  have e1 : σ1 999 = σ 999 := inv_999 p1
  have e2 : σ2 999 = σ1 999 := inv_999 p2
  refine ⟨σ2, ?_, p3, e2.trans e1⟩
  rw [eL_483, w1, if_neg g1, if_pos l1, p1, bnd_s, push_s, eL_490, w1, if_neg g1, if_pos l1, e1, p2, bnd_s, push_s, eL_498]
theorem law_revoked (I : IX N x3) (h : INV L σ) (hL : L < 2147480000) (h9 : ∀ j, σ 999 0 j < 2147483648) : ∃ τ, ev N mL_law 500 [vR 999 0, vR 0 0, vR 30 0, vI x3] [] (P σ) = ev N mL_law 870 [vR 999 0, vR 0 0, vR 30 0, vI x3] [] (P τ) ∧ INV (L + 300) τ ∧ τ 999 = σ 999 := by
  obtain ⟨⟨w1, g1, l1⟩, ⟨w2, g2, l2⟩, ⟨w3, g3, l3⟩, ⟨w4, g4, l4⟩, ⟨w5, g5, l5⟩⟩ := I
  obtain ⟨ans, σ1, σ2, p1, p2, p3⟩ := pair_revoked (N := N) (σ 999 0 (x3 + 1).toNat) L σ h hL
  have e1 : σ1 999 = σ 999 := inv_999 p1
  have e2 : σ2 999 = σ1 999 := inv_999 p2
  refine ⟨σ2, ?_, p3, e2.trans e1⟩
  rw [eL_500, w1, if_neg g1, if_pos l1, p1, bnd_s, push_s, eL_507, w1, if_neg g1, if_pos l1, e1, p2, bnd_s, push_s, eL_515]
theorem law_whole (I : IX N x3) (h : INV L σ) (hL : L < 2147480000) (h9 : ∀ j, σ 999 0 j < 2147483648) : ∃ τ, ev N mL_law 517 [vR 999 0, vR 0 0, vR 30 0, vI x3] [] (P σ) = ev N mL_law 870 [vR 999 0, vR 0 0, vR 30 0, vI x3] [] (P τ) ∧ INV (L + 300) τ ∧ τ 999 = σ 999 := by
  obtain ⟨⟨w1, g1, l1⟩, ⟨w2, g2, l2⟩, ⟨w3, g3, l3⟩, ⟨w4, g4, l4⟩, ⟨w5, g5, l5⟩⟩ := I
  obtain ⟨ans, σ1, σ2, p1, p2, p3⟩ := pair_whole (N := N) (σ 999 0 (x3 + 1).toNat) L σ h hL
  have e1 : σ1 999 = σ 999 := inv_999 p1
  have e2 : σ2 999 = σ1 999 := inv_999 p2
  refine ⟨σ2, ?_, p3, e2.trans e1⟩
  rw [eL_517, w1, if_neg g1, if_pos l1, p1, bnd_s, push_s, eL_524, w1, if_neg g1, if_pos l1, e1, p2, bnd_s, push_s, eL_532]
theorem law_flag (I : IX N x3) (h : INV L σ) (hL : L < 2147480000) (h9 : ∀ j, σ 999 0 j < 2147483648) : ∃ τ, ev N mL_law 534 [vR 999 0, vR 0 0, vR 30 0, vI x3] [] (P σ) = ev N mL_law 870 [vR 999 0, vR 0 0, vR 30 0, vI x3] [] (P τ) ∧ INV (L + 300) τ ∧ τ 999 = σ 999 := by
  obtain ⟨⟨w1, g1, l1⟩, ⟨w2, g2, l2⟩, ⟨w3, g3, l3⟩, ⟨w4, g4, l4⟩, ⟨w5, g5, l5⟩⟩ := I
  obtain ⟨ans, σ1, σ2, p1, p2, p3⟩ := pair_flag (N := N) (σ 999 0 (x3 + 1).toNat) (σ 999 0 (x3 + 2).toNat) L σ h hL
  have e1 : σ1 999 = σ 999 := inv_999 p1
  have e2 : σ2 999 = σ1 999 := inv_999 p2
  refine ⟨σ2, ?_, p3, e2.trans e1⟩
  rw [eL_534, w1, if_neg g1, if_pos l1, w2, if_neg g2, if_pos l2, p1, bnd_s, push_s, eL_546, w1, if_neg g1, if_pos l1, w2, if_neg g2, if_pos l2, e1, p2, bnd_s, push_s, eL_559]
theorem law_why (I : IX N x3) (h : INV L σ) (hL : L < 2147480000) (h9 : ∀ j, σ 999 0 j < 2147483648) : ∃ τ, ev N mL_law 561 [vR 999 0, vR 0 0, vR 30 0, vI x3] [] (P σ) = ev N mL_law 870 [vR 999 0, vR 0 0, vR 30 0, vI x3] [] (P τ) ∧ INV (L + 300) τ ∧ τ 999 = σ 999 := by
  obtain ⟨⟨w1, g1, l1⟩, ⟨w2, g2, l2⟩, ⟨w3, g3, l3⟩, ⟨w4, g4, l4⟩, ⟨w5, g5, l5⟩⟩ := I
  obtain ⟨ans, σ1, σ2, p1, p2, p3⟩ := pair_why (N := N) (σ 999 0 (x3 + 1).toNat) L σ h hL
  have e1 : σ1 999 = σ 999 := inv_999 p1
  have e2 : σ2 999 = σ1 999 := inv_999 p2
  refine ⟨σ2, ?_, p3, e2.trans e1⟩
  rw [eL_561, w1, if_neg g1, if_pos l1, p1, bnd_s, push_s, eL_568, w1, if_neg g1, if_pos l1, e1, p2, bnd_s, push_s, eL_576]
theorem law_next (I : IX N x3) (h : INV L σ) (hL : L < 2147480000) (h9 : ∀ j, σ 999 0 j < 2147483648) : ∃ τ, ev N mL_law 578 [vR 999 0, vR 0 0, vR 30 0, vI x3] [] (P σ) = ev N mL_law 870 [vR 999 0, vR 0 0, vR 30 0, vI x3] [] (P τ) ∧ INV (L + 300) τ ∧ τ 999 = σ 999 := by
  obtain ⟨⟨w1, g1, l1⟩, ⟨w2, g2, l2⟩, ⟨w3, g3, l3⟩, ⟨w4, g4, l4⟩, ⟨w5, g5, l5⟩⟩ := I
  obtain ⟨ans, σ1, σ2, p1, p2, p3⟩ := pair_next (N := N) (if σ 999 0 (x3 + 1).toNat = 0 then 0 else 1) (bool_if _) L σ h hL
  have e1 : σ1 999 = σ 999 := inv_999 p1
  have e2 : σ2 999 = σ1 999 := inv_999 p2
  refine ⟨σ2, ?_, p3, e2.trans e1⟩
  by_cases z : σ 999 0 (x3 + 1).toNat = 0
  · rw [if_pos z] at p1 p2
    rw [eL_578, w1, if_neg g1, if_pos l1, if_pos z, p1, bnd_s, push_s, eL_589, w1, if_neg g1, if_pos l1, e1, if_pos z, p2, bnd_s, push_s, eL_601]
  · rw [if_neg z] at p1 p2
    rw [eL_578, w1, if_neg g1, if_pos l1, if_neg z, p1, bnd_s, push_s, eL_589, w1, if_neg g1, if_pos l1, e1, if_neg z, p2, bnd_s, push_s, eL_601]
theorem law_cuts (I : IX N x3) (h : INV L σ) (hL : L < 2147480000) (h9 : ∀ j, σ 999 0 j < 2147483648) : ∃ τ, ev N mL_law 603 [vR 999 0, vR 0 0, vR 30 0, vI x3] [] (P σ) = ev N mL_law 870 [vR 999 0, vR 0 0, vR 30 0, vI x3] [] (P τ) ∧ INV (L + 300) τ ∧ τ 999 = σ 999 := by
  obtain ⟨⟨w1, g1, l1⟩, ⟨w2, g2, l2⟩, ⟨w3, g3, l3⟩, ⟨w4, g4, l4⟩, ⟨w5, g5, l5⟩⟩ := I
  obtain ⟨ans, σ1, σ2, p1, p2, p3⟩ := pair_cuts (N := N) (σ 999 0 (x3 + 1).toNat) (σ 999 0 (x3 + 2).toNat) (σ 999 0 (x3 + 3).toNat) (σ 999 0 (x3 + 4).toNat) L σ h hL
  have e1 : σ1 999 = σ 999 := inv_999 p1
  have e2 : σ2 999 = σ1 999 := inv_999 p2
  refine ⟨σ2, ?_, p3, e2.trans e1⟩
  rw [eL_603, w1, if_neg g1, if_pos l1, w2, if_neg g2, if_pos l2, w3, if_neg g3, if_pos l3, w4, if_neg g4, if_pos l4, p1, bnd_s, push_s, eL_625, w1, if_neg g1, if_pos l1, w2, if_neg g2, if_pos l2, w3, if_neg g3, if_pos l3, w4, if_neg g4, if_pos l4, e1, p2, bnd_s, push_s, eL_648]
theorem law_twice (I : IX N x3) (h : INV L σ) (hL : L < 2147480000) (h9 : ∀ j, σ 999 0 j < 2147483648) : ∃ τ, ev N mL_law 650 [vR 999 0, vR 0 0, vR 30 0, vI x3] [] (P σ) = ev N mL_law 870 [vR 999 0, vR 0 0, vR 30 0, vI x3] [] (P τ) ∧ INV (L + 300) τ ∧ τ 999 = σ 999 := by
  obtain ⟨⟨w1, g1, l1⟩, ⟨w2, g2, l2⟩, ⟨w3, g3, l3⟩, ⟨w4, g4, l4⟩, ⟨w5, g5, l5⟩⟩ := I
  obtain ⟨ans, σ1, σ2, p1, p2, p3⟩ := pair_twice (N := N) (σ 999 0 (x3 + 1).toNat) (σ 999 0 (x3 + 2).toNat) (σ 999 0 (x3 + 3).toNat) L σ h hL
  have e1 : σ1 999 = σ 999 := inv_999 p1
  have e2 : σ2 999 = σ1 999 := inv_999 p2
  refine ⟨σ2, ?_, p3, e2.trans e1⟩
  rw [eL_650, w1, if_neg g1, if_pos l1, w2, if_neg g2, if_pos l2, w3, if_neg g3, if_pos l3, p1, bnd_s, push_s, eL_667, w1, if_neg g1, if_pos l1, w2, if_neg g2, if_pos l2, w3, if_neg g3, if_pos l3, e1, p2, bnd_s, push_s, eL_685]
theorem law_lasts (I : IX N x3) (h : INV L σ) (hL : L < 2147480000) (h9 : ∀ j, σ 999 0 j < 2147483648) : ∃ τ, ev N mL_law 687 [vR 999 0, vR 0 0, vR 30 0, vI x3] [] (P σ) = ev N mL_law 870 [vR 999 0, vR 0 0, vR 30 0, vI x3] [] (P τ) ∧ INV (L + 300) τ ∧ τ 999 = σ 999 := by
  obtain ⟨⟨w1, g1, l1⟩, ⟨w2, g2, l2⟩, ⟨w3, g3, l3⟩, ⟨w4, g4, l4⟩, ⟨w5, g5, l5⟩⟩ := I
  obtain ⟨ans, σ1, σ2, p1, p2, p3⟩ := pair_lasts (N := N) (σ 999 0 (x3 + 1).toNat) L σ h hL
  have e1 : σ1 999 = σ 999 := inv_999 p1
  have e2 : σ2 999 = σ1 999 := inv_999 p2
  refine ⟨σ2, ?_, p3, e2.trans e1⟩
  rw [eL_687, w1, if_neg g1, if_pos l1, p1, bnd_s, push_s, eL_694, w1, if_neg g1, if_pos l1, e1, p2, bnd_s, push_s, eL_702]
theorem law_slack (I : IX N x3) (h : INV L σ) (hL : L < 2147480000) (h9 : ∀ j, σ 999 0 j < 2147483648) : ∃ τ, ev N mL_law 704 [vR 999 0, vR 0 0, vR 30 0, vI x3] [] (P σ) = ev N mL_law 870 [vR 999 0, vR 0 0, vR 30 0, vI x3] [] (P τ) ∧ INV (L + 300) τ ∧ τ 999 = σ 999 := by
  obtain ⟨⟨w1, g1, l1⟩, ⟨w2, g2, l2⟩, ⟨w3, g3, l3⟩, ⟨w4, g4, l4⟩, ⟨w5, g5, l5⟩⟩ := I
  obtain ⟨ans, σ1, σ2, p1, p2, p3⟩ := pair_slack (N := N) (σ 999 0 (x3 + 1).toNat) L σ h hL
  have e1 : σ1 999 = σ 999 := inv_999 p1
  have e2 : σ2 999 = σ1 999 := inv_999 p2
  refine ⟨σ2, ?_, p3, e2.trans e1⟩
  rw [eL_704, w1, if_neg g1, if_pos l1, p1, bnd_s, push_s, eL_711, w1, if_neg g1, if_pos l1, e1, p2, bnd_s, push_s, eL_719]
theorem law_frail (I : IX N x3) (h : INV L σ) (hL : L < 2147480000) (h9 : ∀ j, σ 999 0 j < 2147483648) : ∃ τ, ev N mL_law 721 [vR 999 0, vR 0 0, vR 30 0, vI x3] [] (P σ) = ev N mL_law 870 [vR 999 0, vR 0 0, vR 30 0, vI x3] [] (P τ) ∧ INV (L + 300) τ ∧ τ 999 = σ 999 := by
  obtain ⟨⟨w1, g1, l1⟩, ⟨w2, g2, l2⟩, ⟨w3, g3, l3⟩, ⟨w4, g4, l4⟩, ⟨w5, g5, l5⟩⟩ := I
  obtain ⟨ans, σ1, σ2, p1, p2, p3⟩ := pair_frail (N := N) (σ 999 0 (x3 + 1).toNat) L σ h hL
  have e1 : σ1 999 = σ 999 := inv_999 p1
  have e2 : σ2 999 = σ1 999 := inv_999 p2
  refine ⟨σ2, ?_, p3, e2.trans e1⟩
  rw [eL_721, w1, if_neg g1, if_pos l1, p1, bnd_s, push_s, eL_728, w1, if_neg g1, if_pos l1, e1, p2, bnd_s, push_s, eL_736]
theorem law_route (I : IX N x3) (h : INV L σ) (hL : L < 2147480000) (h9 : ∀ j, σ 999 0 j < 2147483648) : ∃ τ, ev N mL_law 738 [vR 999 0, vR 0 0, vR 30 0, vI x3] [] (P σ) = ev N mL_law 870 [vR 999 0, vR 0 0, vR 30 0, vI x3] [] (P τ) ∧ INV (L + 300) τ ∧ τ 999 = σ 999 := by
  obtain ⟨⟨w1, g1, l1⟩, ⟨w2, g2, l2⟩, ⟨w3, g3, l3⟩, ⟨w4, g4, l4⟩, ⟨w5, g5, l5⟩⟩ := I
  obtain ⟨ans, ans2, σ1, σ2, p1, p2, p3⟩ := safe_route (N := N) (σ 999 0 (x3 + 1).toNat) (σ 999 0 (x3 + 2).toNat) L σ h hL
  have e1 : σ1 999 = σ 999 := inv_999 p1
  have e2 : σ2 999 = σ1 999 := inv_999 p2
  refine ⟨σ2, ?_, p3, e2.trans e1⟩
  rw [eL_738, w1, if_neg g1, if_pos l1, w2, if_neg g2, if_pos l2, p1, bnd_s, push_s, eL_750, w1, if_neg g1, if_pos l1, w2, if_neg g2, if_pos l2, e1, p2, bnd_s, push_s, eL_763]
theorem law_draws (I : IX N x3) (h : INV L σ) (hL : L < 2147480000) (h9 : ∀ j, σ 999 0 j < 2147483648) : ∃ τ, ev N mL_law 765 [vR 999 0, vR 0 0, vR 30 0, vI x3] [] (P σ) = ev N mL_law 870 [vR 999 0, vR 0 0, vR 30 0, vI x3] [] (P τ) ∧ INV (L + 300) τ ∧ τ 999 = σ 999 := by
  obtain ⟨⟨w1, g1, l1⟩, ⟨w2, g2, l2⟩, ⟨w3, g3, l3⟩, ⟨w4, g4, l4⟩, ⟨w5, g5, l5⟩⟩ := I
  obtain ⟨ans, σ1, σ2, p1, p2, p3⟩ := pair_draws (N := N) (σ 999 0 (x3 + 1).toNat) (h9 _) L σ h hL
  have e1 : σ1 999 = σ 999 := inv_999 p1
  have e2 : σ2 999 = σ1 999 := inv_999 p2
  refine ⟨σ2, ?_, p3, e2.trans e1⟩
  rw [eL_765, w1, if_neg g1, if_pos l1, p1, bnd_s, push_s, eL_772, w1, if_neg g1, if_pos l1, e1, p2, bnd_s, push_s, eL_780]
theorem law_life (I : IX N x3) (h : INV L σ) (hL : L < 2147480000) (h9 : ∀ j, σ 999 0 j < 2147483648) : ∃ τ, ev N mL_law 782 [vR 999 0, vR 0 0, vR 30 0, vI x3] [] (P σ) = ev N mL_law 870 [vR 999 0, vR 0 0, vR 30 0, vI x3] [] (P τ) ∧ INV (L + 300) τ ∧ τ 999 = σ 999 := by
  obtain ⟨⟨w1, g1, l1⟩, ⟨w2, g2, l2⟩, ⟨w3, g3, l3⟩, ⟨w4, g4, l4⟩, ⟨w5, g5, l5⟩⟩ := I
  obtain ⟨ans, ans2, σ1, σ2, p1, p2, p3⟩ := safe_life (N := N) (σ 999 0 (x3 + 1).toNat) (σ 999 0 (x3 + 2).toNat) L σ h hL
  have e1 : σ1 999 = σ 999 := inv_999 p1
  have e2 : σ2 999 = σ1 999 := inv_999 p2
  refine ⟨σ2, ?_, p3, e2.trans e1⟩
  rw [eL_782, w1, if_neg g1, if_pos l1, w2, if_neg g2, if_pos l2, p1, bnd_s, push_s, eL_794, w1, if_neg g1, if_pos l1, w2, if_neg g2, if_pos l2, e1, p2, bnd_s, push_s, eL_807]
theorem law_started (I : IX N x3) (h : INV L σ) (hL : L < 2147480000) (h9 : ∀ j, σ 999 0 j < 2147483648) : ∃ τ, ev N mL_law 809 [vR 999 0, vR 0 0, vR 30 0, vI x3] [] (P σ) = ev N mL_law 870 [vR 999 0, vR 0 0, vR 30 0, vI x3] [] (P τ) ∧ INV (L + 300) τ ∧ τ 999 = σ 999 := by
  obtain ⟨⟨w1, g1, l1⟩, ⟨w2, g2, l2⟩, ⟨w3, g3, l3⟩, ⟨w4, g4, l4⟩, ⟨w5, g5, l5⟩⟩ := I
  obtain ⟨ans, σ1, σ2, p1, p2, p3⟩ := pair_started (N := N) (σ 999 0 (x3 + 1).toNat) (σ 999 0 (x3 + 2).toNat) L σ h hL
  have e1 : σ1 999 = σ 999 := inv_999 p1
  have e2 : σ2 999 = σ1 999 := inv_999 p2
  refine ⟨σ2, ?_, p3, e2.trans e1⟩
  rw [eL_809, w1, if_neg g1, if_pos l1, w2, if_neg g2, if_pos l2, p1, bnd_s, push_s, eL_821, w1, if_neg g1, if_pos l1, w2, if_neg g2, if_pos l2, e1, p2, bnd_s, push_s, eL_834]
theorem law_least (I : IX N x3) (h : INV L σ) (hL : L < 2147480000) (h9 : ∀ j, σ 999 0 j < 2147483648) : ∃ τ, ev N mL_law 836 [vR 999 0, vR 0 0, vR 30 0, vI x3] [] (P σ) = ev N mL_law 870 [vR 999 0, vR 0 0, vR 30 0, vI x3] [] (P τ) ∧ INV (L + 300) τ ∧ τ 999 = σ 999 := by
  obtain ⟨⟨w1, g1, l1⟩, ⟨w2, g2, l2⟩, ⟨w3, g3, l3⟩, ⟨w4, g4, l4⟩, ⟨w5, g5, l5⟩⟩ := I
  obtain ⟨ans, σ1, σ2, p1, p2, p3⟩ := pair_least (N := N) (σ 999 0 (x3 + 1).toNat) L σ h hL
  have e1 : σ1 999 = σ 999 := inv_999 p1
  have e2 : σ2 999 = σ1 999 := inv_999 p2
  refine ⟨σ2, ?_, p3, e2.trans e1⟩
  rw [eL_836, w1, if_neg g1, if_pos l1, p1, bnd_s, push_s, eL_843, w1, if_neg g1, if_pos l1, e1, p2, bnd_s, push_s, eL_851]
theorem law_count (I : IX N x3) (h : INV L σ) (hL : L < 2147480000) (h9 : ∀ j, σ 999 0 j < 2147483648) : ∃ τ, ev N mL_law 853 [vR 999 0, vR 0 0, vR 30 0, vI x3] [] (P σ) = ev N mL_law 870 [vR 999 0, vR 0 0, vR 30 0, vI x3] [] (P τ) ∧ INV (L + 300) τ ∧ τ 999 = σ 999 := by
  obtain ⟨⟨w1, g1, l1⟩, ⟨w2, g2, l2⟩, ⟨w3, g3, l3⟩, ⟨w4, g4, l4⟩, ⟨w5, g5, l5⟩⟩ := I
  obtain ⟨ans, σ1, σ2, p1, p2, p3⟩ := pair_count (N := N) (σ 999 0 (x3 + 1).toNat) L σ h hL
  have e1 : σ1 999 = σ 999 := inv_999 p1
  have e2 : σ2 999 = σ1 999 := inv_999 p2
  refine ⟨σ2, ?_, p3, e2.trans e1⟩
  rw [eL_853, w1, if_neg g1, if_pos l1, p1, bnd_s, push_s, eL_860, w1, if_neg g1, if_pos l1, e1, p2, bnd_s, push_s, eL_867, if_pos rfl]
theorem law_step (I : IX N x3) (h0 : 0 ≤ x3) (hN : (N : Int) < 100000) (h6 : x3 + 6 ≤ (N : Int)) (h : INV L σ) (hL : L < 2147480000) (h9 : ∀ j, σ 999 0 j < 2147483648) : ∃ τ, ev N mL_law 10 [vR 999 0, vR 0 0, vR 30 0, vI x3] [] (P σ) = ev N mL_law 870 [vR 999 0, vR 0 0, vR 30 0, vI x3] [] (P τ) ∧ INV (L + 300) τ ∧ τ 999 = σ 999 := by
  have c1 : ¬ w32 ((N : Int) - 6) < x3 := by rw [w32i (by omega) (by omega)]; omega
  rw [eL_10, if_neg c1, if_neg (show ¬ x3 < 0 by omega), if_pos (show x3 < (N : Int) by omega)]
  generalize bAnd (σ 999 0 x3.toNat) 63 = v
  by_cases q0 : v = 0
  · rw [if_pos q0]
    exact law_feed I h hL h9
  rw [if_neg q0]
  by_cases q1 : v = 1
  · rw [if_pos q1]
    exact law_end I h hL h9
  rw [if_neg q1]
  by_cases q2 : v = 2
  · rw [if_pos q2]
    exact law_bundle I h hL h9
  rw [if_neg q2]
  by_cases q3 : v = 3
  · rw [if_pos q3]
    exact law_image I h hL h9
  rw [if_neg q3]
  by_cases q4 : v = 4
  · rw [if_pos q4]
    exact law_factory I h hL h9
  rw [if_neg q4]
  by_cases q5 : v = 5
  · rw [if_pos q5]
    exact law_boot I h hL h9
  rw [if_neg q5]
  by_cases q6 : v = 6
  · rw [if_pos q6]
    exact law_health I h hL h9
  rw [if_neg q6]
  by_cases q7 : v = 7
  · rw [if_pos q7]
    exact law_install I h hL h9
  rw [if_neg q7]
  by_cases q8 : v = 8
  · rw [if_pos q8]
    exact law_refresh I h hL h9
  rw [if_neg q8]
  by_cases q9 : v = 9
  · rw [if_pos q9]
    exact law_prefer I h hL h9
  rw [if_neg q9]
  by_cases q10 : v = 10
  · rw [if_pos q10]
    exact law_mend I h hL h9
  rw [if_neg q10]
  by_cases q11 : v = 11
  · rw [if_pos q11]
    exact law_resume I h hL h9
  rw [if_neg q11]
  by_cases q12 : v = 12
  · rw [if_pos q12]
    exact law_waits I h hL h9
  rw [if_neg q12]
  by_cases q13 : v = 13
  · rw [if_pos q13]
    exact law_off I h hL h9
  rw [if_neg q13]
  by_cases q14 : v = 14
  · rw [if_pos q14]
    exact law_flip I h hL h9
  rw [if_neg q14]
  by_cases q15 : v = 15
  · rw [if_pos q15]
    exact law_blot I h hL h9
  rw [if_neg q15]
  by_cases q16 : v = 16
  · rw [if_pos q16]
    exact law_undo I h hL h9
  rw [if_neg q16]
  by_cases q17 : v = 17
  · rw [if_pos q17]
    exact law_word I h hL h9
  rw [if_neg q17]
  by_cases q18 : v = 18
  · rw [if_pos q18]
    exact law_octet I h hL h9
  rw [if_neg q18]
  by_cases q19 : v = 19
  · rw [if_pos q19]
    exact law_journal I h hL h9
  rw [if_neg q19]
  by_cases q20 : v = 20
  · rw [if_pos q20]
    exact law_revoked I h hL h9
  rw [if_neg q20]
  by_cases q21 : v = 21
  · rw [if_pos q21]
    exact law_whole I h hL h9
  rw [if_neg q21]
  by_cases q22 : v = 22
  · rw [if_pos q22]
    exact law_flag I h hL h9
  rw [if_neg q22]
  by_cases q23 : v = 23
  · rw [if_pos q23]
    exact law_why I h hL h9
  rw [if_neg q23]
  by_cases q24 : v = 24
  · rw [if_pos q24]
    exact law_next I h hL h9
  rw [if_neg q24]
  by_cases q25 : v = 25
  · rw [if_pos q25]
    exact law_cuts I h hL h9
  rw [if_neg q25]
  by_cases q26 : v = 26
  · rw [if_pos q26]
    exact law_twice I h hL h9
  rw [if_neg q26]
  by_cases q27 : v = 27
  · rw [if_pos q27]
    exact law_lasts I h hL h9
  rw [if_neg q27]
  by_cases q28 : v = 28
  · rw [if_pos q28]
    exact law_slack I h hL h9
  rw [if_neg q28]
  by_cases q29 : v = 29
  · rw [if_pos q29]
    exact law_frail I h hL h9
  rw [if_neg q29]
  by_cases q30 : v = 30
  · rw [if_pos q30]
    exact law_route I h hL h9
  rw [if_neg q30]
  by_cases q31 : v = 31
  · rw [if_pos q31]
    exact law_draws I h hL h9
  rw [if_neg q31]
  by_cases q32 : v = 32
  · rw [if_pos q32]
    exact law_life I h hL h9
  rw [if_neg q32]
  by_cases q33 : v = 33
  · rw [if_pos q33]
    exact law_started I h hL h9
  rw [if_neg q33]
  by_cases q34 : v = 34
  · rw [if_pos q34]
    exact law_least I h hL h9
  rw [if_neg q34]
  by_cases q35 : v = 35
  · rw [if_pos q35]
    exact law_count I h hL h9
  rw [if_neg q35]
  exact ⟨σ, rfl, INV_le h (by omega), rfl⟩
end LAW
theorem law_many {N : Nat} (hN : (N : Int) < 100000) : ∀ (m k : Nat) (L : Int) (σ : Sto), N ≤ 6 * (k + m) → INV L σ → L + 300 * m < 2147480000 → (∀ j, σ 999 0 j < 2147483648) → ∃ τ, ev N mL_law 10 [vR 999 0, vR 0 0, vR 30 0, vI ((6 * k : Nat) : Int)] [] (P σ) = some (some (vI 1), P τ) := by
  intro m
  induction m with
  | zero =>
    intro k L σ hk h hL h9
    refine ⟨σ, ?_⟩
    rw [eL_10, if_pos (by rw [w32i (by omega) (by omega)]; omega), eL_872]
  | succ m ih =>
    intro k L σ hk h hL h9
    by_cases q : 6 * k + 6 ≤ N
    · have q6 : ((6 * k : Nat) : Int) + 6 ≤ (N : Int) := by omega
      obtain ⟨τ, t1, t2, t3⟩ := law_step (N := N) (σ := σ) (L := L) (x3 := ((6 * k : Nat) : Int)) (IX_of (by omega) q6 hN) (by omega) hN q6 h (by omega) h9
      obtain ⟨υ, u1⟩ := ih (k + 1) (L + 300) τ (by omega) t2 (by omega) (fun j => by rw [t3]; exact h9 j)
      have e6 : w32 (((6 * k : Nat) : Int) + 6) = ((6 * (k + 1) : Nat) : Int) := by rw [w32i (by omega) (by omega)]; omega
      refine ⟨υ, ?_⟩
      rw [t1, eL_870, e6]
      exact u1
    · refine ⟨σ, ?_⟩
      rw [eL_10, if_pos (by rw [w32i (by omega) (by omega)]; omega), eL_872]
theorem okS_lt {σ : Sto} (h : okS σ) (j : Nat) : σ 999 0 j < 2147483648 := by
  have := (h 999 0 j).2 rfl
  unfold in32 at this
  omega
theorem law_runs : LawRuns := by
  intro N σ hN hok
  obtain ⟨τ, ht⟩ := law_many (N := N) (by omega) 512 0 0 (gStart σ) (by omega) (INV_start σ) (by decide) (fun j => by rw [show gStart σ 999 = σ 999 from rfl]; exact okS_lt hok j)
  obtain ⟨F, hF⟩ := ev_to ((law_head N σ).trans ht)
  exact ⟨F, τ, hF⟩
end
